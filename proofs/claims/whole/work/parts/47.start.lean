theorem sl_8 : Cond.classLink RL 8 RX8 ∈ z_tb := z_mem 85 (by decide +kernel) (by decide +kernel)
theorem sl_24 : Cond.classLink RL 24 RX9 ∈ z_tb := z_mem 1067 (by decide +kernel) (by decide +kernel)
theorem ins_X8 : Cond.instantiable RX8 13 ∈ z_tb := z_mem 86 (by decide +kernel) (by decide +kernel)
theorem ins_X9 : Cond.instantiable RX9 41 ∈ z_tb := z_mem 1068 (by decide +kernel) (by decide +kernel)
theorem ini_X8 : Cond.initialized RX8 ∈ z_tb := z_mem 63 (by decide +kernel) (by decide +kernel)
theorem ini_X9 : Cond.initialized RX9 ∈ z_tb := z_mem 72 (by decide +kernel) (by decide +kernel)
theorem sm_23 : Cond.methodLink RL 23 yX8_init ∈ z_tb := z_mem 87 (by decide +kernel) (by decide +kernel)
theorem im_X8_init : Cond.instanceMethod yX8_init ∈ z_tb := z_mem 88 (by decide +kernel) (by decide +kernel)
theorem sm_26 : Cond.methodLink RL 26 yX9_init ∈ z_tb := z_mem 1069 (by decide +kernel) (by decide +kernel)
theorem im_X9_init : Cond.instanceMethod yX9_init ∈ z_tb := z_mem 1070 (by decide +kernel) (by decide +kernel)
def zstart (M : zM) : zM := zfr (mm_X9_init_39 (zfr (mm_X8_init_0 (zfr M 0)) 39)) 67
set_option maxRecDepth 20000 in
set_option maxHeartbeats 4000000 in
theorem law_start {Inv : Nat → zM → Prop} (hmono : ∀ c M, Inv c M → Inv (c + 1) M) (hinit : ∀ M, Inv 0 (zstart M)) (h0 : zP_sign Inv) (h1 : zP_end Inv) (h2 : zP_cloth Inv) (h3 : zP_rule Inv) (h4 : zP_cell Inv) (h5 : zP_thread Inv) (h6 : zP_sheet Inv) (h7 : zP_nights Inv) (h8 : zP_weaves Inv) (h9 : zP_draws Inv) (h10 : zP_flips Inv) (h11 : zP_mirrors Inv) (h12 : zP_work Inv) (h13 : zP_undo Inv) (h14 : zP_next Inv) (h15 : zP_later Inv) (h16 : zP_falls Inv) (h17 : zP_rags Inv) (h18 : zP_lefts Inv) (h19 : zP_outlasts Inv) (h20 : zP_words Inv) (h21 : zP_loose Inv) (h22 : zP_sheds Inv) (h23 : zP_hangs Inv) (h24 : zP_spares Inv) (h25 : zP_mends Inv) (h26 : zP_endures Inv) (h27 : zP_differs Inv) (h28 : zP_looks Inv) (h29 : zP_repeats Inv) (h30 : zP_runs Inv) (h31 : zP_twins Inv) (h32 : zP_game Inv) (h33 : zP_told Inv) (h34 : zP_forget Inv) (h35 : zP_fits Inv) (h36 : zP_asks Inv) (h37 : zP_odds Inv) (h38 : zP_law Inv) (h39 : zP_rests Inv) (h40 : zP_years Inv) (h41 : zP_keep Inv) (h42 : zP_again Inv) (h43 : zP_count Inv) (h44 : zP_row Inv) {b L : Nat} {xs : Nat → Int32} (hL : L ≤ 320) (M : zM) : zJ [] RL code 8 (zBl b L xs) 0 0 0 [(0, .ref 4000)] [] M := by
  refine zg_new (T := []) (n := 0) (T' := zq76) (lay := [2, 2, 2, 2, 2, 2, 2, 2, 2, 2, 2, 2, 0]) (st := []) (ls := [(0, .ref 4000)]) tyX8 tyX8_ok inl_X8 sl_8 ins_X8 ini_X8 rfl rfl df_X8 rfl rfl rfl rfl (zBl.grow _ _ _ _) rfl rfl (Nat.le_of_ble_eq_true rfl) (Nat.le_of_ble_eq_true rfl) dL_law_0 ?_
  refine zg_dup dL_law_3 rfl ?_
  refine zg_callC (st := [.ref 0]) (ls := [(0, .ref 4000)]) (kc_X8_init_0 _) zY_X8_init sm_23 im_X8_init rfl rfl rfl (zBl.grow _ _ _ _) rfl rfl ⟨⟨Nat.le_of_ble_eq_true rfl, Nat.le_of_ble_eq_true rfl⟩, Nat.le_of_ble_eq_true rfl, Nat.le_of_ble_eq_true rfl⟩ (Nat.le_of_ble_eq_true rfl) dL_law_4 rfl ?_
  refine zg_astore_n (ls' := [(0, .ref 4000), (1, .ref 0)]) dL_law_7 rfl (Nat.le_of_ble_eq_true rfl) rfl ?_
  refine zg_new (T := zq75) (n := 39) (T' := zq131) (lay := [0, 0, 2, 2, 2, 0, 2, 0, 0, 0, 0, 2, 2, 2, 0, 0, 2, 2, 0, 2, 2, 2, 2, 2, 0, 2, 2, 2, 2, 2, 0, 2, 0, 2, 2, 2, 2, 0, 2, 2, 2]) (st := []) (ls := [(0, .ref 4000), (1, .ref 0)]) tyX9 tyX9_ok inl_X9 sl_24 ins_X9 ini_X9 rfl rfl df_X9 rfl rfl rfl rfl (zBl.grow _ _ _ _) rfl rfl (Nat.le_of_ble_eq_true rfl) (Nat.le_of_ble_eq_true rfl) dL_law_8 ?_
  refine zg_dup dL_law_11 rfl ?_
  refine zg_callC (st := [.ref 39]) (ls := [(0, .ref 4000), (1, .ref 0)]) (kc_X9_init_39 _) zY_X9_init sm_26 im_X9_init rfl rfl rfl (zBl.grow _ _ _ _) rfl rfl ⟨⟨Nat.le_of_ble_eq_true rfl, Nat.le_of_ble_eq_true rfl⟩, Nat.le_of_ble_eq_true rfl, Nat.le_of_ble_eq_true rfl⟩ (Nat.le_of_ble_eq_true rfl) dL_law_12 rfl ?_
  refine zg_astore_n (ls' := [(0, .ref 4000), (1, .ref 0), (2, .ref 39)]) dL_law_15 rfl (Nat.le_of_ble_eq_true rfl) rfl ?_
  refine zg_iconst dL_law_16 zki_1 ?_
  refine zg_newa (T := zq130) (n := 67) (N := 1) (T' := ztops) (st := []) (ls := [(0, .ref 4000), (1, .ref 0), (2, .ref 39)]) 1 .long rfl (by decide) aw_1 (by decide) (Nat.le_of_ble_eq_true rfl) rfl rfl rfl rfl (zBl.grow _ _ _ _) rfl rfl (Nat.le_of_ble_eq_true rfl) (Nat.le_of_ble_eq_true rfl) dL_law_17 ?_
  refine zg_astore_n (ls' := [(0, .ref 4000), (1, .ref 0), (2, .ref 39), (3, .ref 67)]) dL_law_19 rfl (Nat.le_of_ble_eq_true rfl) rfl ?_
  refine zg_iconst dL_law_20 zki_0 ?_
  refine zg_istore (ls' := [(0, .ref 4000), (1, .ref 0), (2, .ref 39), (3, .ref 67), (4, .int 0)]) dL_law_21 (Nat.le_of_ble_eq_true rfl) rfl ?_
  exact law_loop hmono h0 h1 h2 h3 h4 h5 h6 h7 h8 h9 h10 h11 h12 h13 h14 h15 h16 h17 h18 h19 h20 h21 h22 h23 h24 h25 h26 h27 h28 h29 h30 h31 h32 h33 h34 h35 h36 h37 h38 h39 h40 h41 h42 h43 h44 hL (L + 6) 0 0 0 (zstart M) _ _ (by omega) rfl (Nat.zero_le _) nI_0.symm (Nat.le_of_ble_eq_true rfl) (Nat.le_of_ble_eq_true rfl) (hinit M)
def ztm (i : Nat) : Term := match zstr[i]? with
  | some q => .string q.1 q.2.1
  | none => .int 0
theorem st_ex : ∀ i, i < 12 → Cond.exactly (ztm i) "java/lang/String" ∈ flatC (Jvm.Cond.and given_1 narrow_1) := by decide +kernel
theorem st_co : ∀ i, i < 12 → Cond.eq (.field (ztm i) "java/lang/String" "coder" "B") (.int 0) ∈ flatC (Jvm.Cond.and given_1 narrow_1) := by decide +kernel
theorem st_ar : ∀ i, i < 12 → Cond.arrayOf (.field (ztm i) "java/lang/String" "value" "[B") .byte ∈ flatC (Jvm.Cond.and given_1 narrow_1) := by decide +kernel
theorem st_le : ∀ i, i < 12 → Cond.eq (.length (.field (ztm i) "java/lang/String" "value" "[B")) (.int (Int32.ofNat (zlen.getD i 0))) ∈ flatC (Jvm.Cond.and given_1 narrow_1) := by decide +kernel
theorem st_el : ∀ i, i < 12 → ∀ j, j < zlen.getD i 0 → Cond.eq (.elem (.field (ztm i) "java/lang/String" "value" "[B") (.int (Int32.ofNat j))) (.int ((zbyt.getD i []).getD j 0)) ∈ flatC (Jvm.Cond.and given_1 narrow_1) := by decide +kernel
theorem st_ne : ∀ i, i < 12 → ∀ j, j < 12 → i ≠ j → Cond.not (Cond.eq (ztm i) (ztm j)) ∈ flatC (Jvm.Cond.and given_1 narrow_1) ∨ Cond.not (Cond.eq (ztm j) (ztm i)) ∈ flatC (Jvm.Cond.and given_1 narrow_1) := by decide +kernel
theorem st_cs : Cond.eq (.static "java/lang/String" "COMPACT_STRINGS" "Z") (.int 1) ∈ flatC (Jvm.Cond.and given_1 narrow_1) := by decide +kernel
theorem st_fm : Cond.isRef (.static "jdk/internal/util/Preconditions" "SIOOBE_FORMATTER" "Ljava/util/function/BiFunction;") ∈ flatC (Jvm.Cond.and given_1 narrow_1) := by decide +kernel
theorem st_us : Cond.isRef (.static Bundle.tN "UNASSIGNED_STACK" Bundle.steD) ∈ flatC (Jvm.Cond.and given_1 narrow_1) := by decide +kernel
theorem st_ss : Cond.isRef (.static Bundle.tN "SUPPRESSED_SENTINEL" Bundle.listD) ∈ flatC (Jvm.Cond.and given_1 narrow_1) := by decide +kernel
theorem st_sr : ∀ i, i < 12 → ∀ q, zstr[i]? = some q → Cond.stringRef q.1 q.2.1 q.2.2 ∈ lw_tbl := by
  intro i hi q hq
  have h : ∀ i, i < 12 → ((zstr[i]?).map fun q => Cond.stringRef q.1 q.2.1 q.2.2).all (fun w => decide (w ∈ lw_tbl)) = true := by decide +kernel
  have := h i hi
  rw [hq] at this
  simpa using this
theorem st_nest : ∀ q ∈ zNest, Cond.methodLinkNest q.1 q.2.1 q.2.2.1 q.2.2.2 ∈ lw_tbl := by decide +kernel
theorem st_cast : Cond.castable zne zne ∈ lw_tbl := by decide +kernel
theorem st_decl : ∀ q ∈ zDecl, Cond.declares q ∈ lw_tbl := by decide +kernel
theorem st_lay : ∀ q ∈ [("java/lang/String", "COMPACT_STRINGS", "Z"), ("jdk/internal/util/Preconditions", "SIOOBE_FORMATTER", "Ljava/util/function/BiFunction;"), (Bundle.tN, "UNASSIGNED_STACK", Bundle.steD), (Bundle.tN, "SUPPRESSED_SENTINEL", Bundle.listD)], Cond.laysStatic q.1 q.2.1 q.2.2 ∈ lw_tbl ∧ Cond.initialized q.1 ∈ lw_tbl := by decide +kernel
theorem st_arr : ∀ ty, ty < 3 → Cond.arrayClass (zty ty) ∈ lw_tbl := by decide +kernel
theorem st_trace {l : Launch} (h : l.flags = flags0) : l.stackTraces = false := by
  unfold Launch.stackTraces
  rw [h]
  decide +kernel

set_option maxHeartbeats 4000000 in
theorem whole_start_of {Inv : Nat → zM → Prop} (hmono : ∀ c M, Inv c M → Inv (c + 1) M) (hinit : ∀ M, Inv 0 (zstart M)) (h0 : zP_sign Inv) (h1 : zP_end Inv) (h2 : zP_cloth Inv) (h3 : zP_rule Inv) (h4 : zP_cell Inv) (h5 : zP_thread Inv) (h6 : zP_sheet Inv) (h7 : zP_nights Inv) (h8 : zP_weaves Inv) (h9 : zP_draws Inv) (h10 : zP_flips Inv) (h11 : zP_mirrors Inv) (h12 : zP_work Inv) (h13 : zP_undo Inv) (h14 : zP_next Inv) (h15 : zP_later Inv) (h16 : zP_falls Inv) (h17 : zP_rags Inv) (h18 : zP_lefts Inv) (h19 : zP_outlasts Inv) (h20 : zP_words Inv) (h21 : zP_loose Inv) (h22 : zP_sheds Inv) (h23 : zP_hangs Inv) (h24 : zP_spares Inv) (h25 : zP_mends Inv) (h26 : zP_endures Inv) (h27 : zP_differs Inv) (h28 : zP_looks Inv) (h29 : zP_repeats Inv) (h30 : zP_runs Inv) (h31 : zP_twins Inv) (h32 : zP_game Inv) (h33 : zP_told Inv) (h34 : zP_forget Inv) (h35 : zP_fits Inv) (h36 : zP_asks Inv) (h37 : zP_odds Inv) (h38 : zP_law Inv) (h39 : zP_rests Inv) (h40 : zP_years Inv) (h41 : zP_keep Inv) (h42 : zP_again Inv) (h43 : zP_count Inv) (h44 : zP_row Inv) {p : Program} {e : Env} {s : State} {m : MethodId} {below : List Frame} {meth : Method} {c : Code} (l : Launch) (hflags : l.flags = flags0) {b L : Nat} {xs : Nat → Int32} (hL : L ≤ 320) (C0 : lw_At p s m meth c b L xs) : W p l e room_1 s m #[Value.ref b] below meth c s.heap [] 0 0 (lw_Z below #[Value.ref b] s) (entryFrame m ([Value.ref b] : List Value).toArray 8) := by
  obtain ⟨hx, hb, hr, hml, hown, hts, hX, hbl, hlocks, hgv⟩ := id C0
  have hz : ∀ w ∈ z_tb, w.before #[Value.ref b] s = true := fun w hw => hts w (List.mem_filter.mp hw).1
  have hs := flat_of_before _ hgv
  have hA : ∀ a : Nat, a < s.heap.size → ¬ (fun q : Nat => s.heap.size ≤ q) a := fun a ha => Nat.not_le.mpr ha
  have hkn : ∀ k : Nat, ∃ ci : ClassId × (Nat → Nat), ∀ q : vw_C, vwCl[k]? = some q → u_Kn s q.1 q.2.1 q.2.2 ci.1 ci.2 := by
    intro k
    by_cases hk : k < 10
    · have h1 : ∀ q : vw_C, vwCl[k]? = some q → ∃ ci : ClassId × (Nat → Nat), u_Kn s q.1 q.2.1 q.2.2 ci.1 ci.2 := by
        intro q hq
        match k, hq with
        | 0, hq => cases hq; obtain ⟨c, i, h⟩ := u_known (C := RX0) (T := TX0) (N := 6) (n := 6) hz inl_X0 (hz _ ins_X0); exact ⟨(c, i), h⟩
        | 1, hq => cases hq; obtain ⟨c, i, h⟩ := u_known (C := RX1) (T := TX1) (N := 3) (n := 3) hz inl_X1 (hz _ ins_X1); exact ⟨(c, i), h⟩
        | 2, hq => cases hq; obtain ⟨c, i, h⟩ := u_known (C := RX2) (T := TX2) (N := 3) (n := 3) hz inl_X2 (hz _ ins_X2); exact ⟨(c, i), h⟩
        | 3, hq => cases hq; obtain ⟨c, i, h⟩ := u_known (C := RX3) (T := TX3) (N := 2) (n := 2) hz inl_X3 (hz _ ins_X3); exact ⟨(c, i), h⟩
        | 4, hq => cases hq; obtain ⟨c, i, h⟩ := u_known (C := RX4) (T := TX4) (N := 9) (n := 9) hz inl_X4 (hz _ ins_X4); exact ⟨(c, i), h⟩
        | 5, hq => cases hq; obtain ⟨c, i, h⟩ := u_known (C := RX5) (T := TX5) (N := 3) (n := 3) hz inl_X5 (hz _ ins_X5); exact ⟨(c, i), h⟩
        | 6, hq => cases hq; obtain ⟨c, i, h⟩ := u_known (C := RX6) (T := TX6) (N := 2) (n := 2) hz inl_X6 (hz _ ins_X6); exact ⟨(c, i), h⟩
        | 7, hq => cases hq; obtain ⟨c, i, h⟩ := u_known (C := RX7) (T := TX7) (N := 4) (n := 4) hz inl_X7 (hz _ ins_X7); exact ⟨(c, i), h⟩
        | 8, hq => cases hq; obtain ⟨c, i, h⟩ := u_known (C := RX8) (T := TX8) (N := 13) (n := 13) hz inl_X8 (hz _ ins_X8); exact ⟨(c, i), h⟩
        | 9, hq => cases hq; obtain ⟨c, i, h⟩ := u_known (C := RX9) (T := TX9) (N := 41) (n := 41) hz inl_X9 (hz _ ins_X9); exact ⟨(c, i), h⟩
        | k + 10, hq => exact absurd hk (by omega)
      obtain ⟨q, hq⟩ : ∃ q, vwCl[k]? = some q := ⟨_, List.getElem?_eq_getElem (by simpa using hk)⟩
      obtain ⟨ci, h⟩ := h1 q hq
      exact ⟨ci, fun q' hq' => by cases hq.symm.trans hq'; exact h⟩
    · exact ⟨(0, fun _ => 0), fun q hq => by
        have := (List.getElem?_eq_some_iff.mp hq).1
        simp at this
        omega⟩
  obtain ⟨fk, hfk⟩ := Classical.axiomOfChoice hkn
  have hac : ∀ ty : Nat, ∃ cA : ClassId, ty < 3 → ArrOfT s cA (zty ty) ∧ va_RA s cA (zty ty) := by
    intro ty
    by_cases h3 : ty < 3
    · obtain ⟨cA, kA, comp, q1, q2, q3⟩ := Cond.arrayClass_spec (args := #[Value.ref b]) (first := s) (o := none) (idx := []) (hts _ (st_arr ty h3))
      refine ⟨cA, fun _ => ⟨fun n z => ⟨fun k h => (by cases h), kA, q2, comp, q3⟩, ?_⟩⟩
      rcases (show ty = 0 ∨ ty = 1 ∨ ty = 2 by omega) with rfl | rfl | rfl <;> exact q1
    · exact ⟨0, fun h => absurd h h3⟩
  obtain ⟨fc, hfc⟩ := Classical.axiomOfChoice hac
  obtain ⟨adK, adV, hS12, hev⟩ := vk_Sof (tm := ztm) (N := 12) (len := zlen) (byt := zbyt) (A := fun q : Nat => s.heap.size ≤ q) (args := #[Value.ref b]) (s := s) (by decide +kernel) (fun i hi => hs _ (st_ex i hi)) (fun i hi => hs _ (st_co i hi)) (fun i hi => hs _ (st_ar i hi)) (fun i hi => hs _ (st_le i hi)) (fun i hi j hj => hs _ (st_el i hi j hj)) (fun i j hi hj hij => (st_ne i hi j hj hij).imp (hs _) (hs _)) hA
  have hfm := va_Zqof (A := fun q : Nat => s.heap.size ≤ q) (hts _ (st_lay ("jdk/internal/util/Preconditions", "SIOOBE_FORMATTER", "Ljava/util/function/BiFunction;") (by decide)).1) (hts _ (st_lay ("jdk/internal/util/Preconditions", "SIOOBE_FORMATTER", "Ljava/util/function/BiFunction;") (by decide)).2) (hs _ st_fm) hA
  obtain ⟨fm, hfm⟩ : ∃ fm : Nat, va_Z "jdk/internal/util/Preconditions" "SIOOBE_FORMATTER" "Ljava/util/function/BiFunction;" .null (fun q : Nat => s.heap.size ≤ q) s s.heap ∨ va_Z "jdk/internal/util/Preconditions" "SIOOBE_FORMATTER" "Ljava/util/function/BiFunction;" (.ref fm) (fun q : Nat => s.heap.size ≤ q) s s.heap := by
    rcases hfm with h | ⟨t, h⟩
    · exact ⟨0, Or.inl h⟩
    · exact ⟨t, Or.inr h⟩
  have E0 : ∃ E : zE, E.1 = (fun k => (fk k).1, fun k => (fk k).2) ∧ (∀ ty, zcy E ty = fc ty) ∧ (∀ i, i < 12 → zad E (1000 + i) = adK i) ∧ (∀ i, i < 12 → zad E (2000 + i) = adV i) ∧ zad E 3000 = fm ∧ zad E 4000 = b := by
    refine ⟨((fun k => (fk k).1, fun k => (fk k).2), fun k => if k = 4000 then b else if k = 3000 then fm else if 2000 ≤ k then adV (k - 2000) else adK (k - 1000), fc), rfl, fun _ => rfl, fun i hi => ?_, fun i hi => ?_, by simp [zad], by simp [zad]⟩
    · simp only [zad]
      rw [if_neg (by omega), if_neg (by omega), if_neg (by omega), show 1000 + i - 1000 = i by omega]
    · simp only [zad]
      rw [if_neg (by omega), if_neg (by omega), if_pos (by omega), show 2000 + i - 2000 = i by omega]
  obtain ⟨E, e1, e2, e3, e4, e5, e6⟩ := E0
  have hXE : zX [] E (fun q : Nat => s.heap.size ≤ q) s := by
    refine ⟨⟨fun k q hq => ?_, fun k q hq => ?_⟩, ⟨fun i j hi => absurd hi (Nat.not_lt_zero i), fun i hi => absurd hi (Nat.not_lt_zero i)⟩, ⟨fun i hi => ?_, fun i j hi hj h => ?_⟩, fun i q hq => ?_, ?_, ?_, fun q hq => va_Nw.of rfl (hts _ (st_nest q hq))⟩
    · rw [e1]
      exact hfk k q hq
    · have h3 : k < 3 := by simpa using (List.getElem?_eq_some_iff.mp hq).1
      rcases (show k = 0 ∨ k = 1 ∨ k = 2 by omega) with rfl | rfl | rfl
      · cases hq; rw [e2]; exact hfc 0 (by omega)
      · cases hq; rw [e2]; exact hfc 1 (by omega)
      · cases hq; rw [e2]; exact hfc 2 (by omega)
    · show va_O _ (zad E (1000 + i)) _ _ _ ∧ va_OF _ _ _ _ (zad E (1000 + i)) _ _ _ ∧ va_OF _ _ _ (.ref (zad E (2000 + i))) (zad E (1000 + i)) _ _ _ ∧ va_T _ (zad E (2000 + i)) _ _ _ _ _
      rw [e3 i hi, e4 i hi]
      exact hS12.1 i hi
    · have h : zad E (1000 + i) = zad E (1000 + j) := h
      rw [e3 i hi, e3 j hj] at h
      exact hS12.2 i j hi hj h
    · have hi : i < 12 := by simpa [zstr] using (List.getElem?_eq_some_iff.mp hq).1
      rw [e3 i hi]
      refine vk_R.of (hts _ (st_sr i hi q hq)) ?_
      have h := hev i hi
      simp only [ztm, hq] at h
      exact h
    · exact va_Zof (hts _ (st_lay ("java/lang/String", "COMPACT_STRINGS", "Z") (by decide)).1) (hts _ (st_lay ("java/lang/String", "COMPACT_STRINGS", "Z") (by decide)).2) (va_eqt (hs _ st_cs)) hA
    · rw [e5]
      exact hfm
  have hTh : zTh (fun q : Nat => s.heap.size ≤ q) s := ⟨va_Nw.of rfl (hts _ st_cast), fun q hq => va_Nw.of rfl (hts _ (st_decl q hq)), vx_Zqof (hts _ (st_lay (Bundle.tN, "UNASSIGNED_STACK", Bundle.steD) (by decide)).1) (hts _ (st_lay (Bundle.tN, "UNASSIGNED_STACK", Bundle.steD) (by decide)).2) (hs _ st_us) hA, vx_Zqof (hts _ (st_lay (Bundle.tN, "SUPPRESSED_SENTINEL", Bundle.listD) (by decide)).1) (hts _ (st_lay (Bundle.tN, "SUPPRESSED_SENTINEL", Bundle.listD) (by decide)).2) (hs _ st_ss) hA⟩
  have hl := lv_entry ([.ref b]) (n := 8) (Nat.le_of_ble_eq_true rfl)
  rw [lg_entry_eq]
  exact law_start hmono hinit h0 h1 h2 h3 h4 h5 h6 h7 h8 h9 h10 h11 h12 h13 h14 h15 h16 h17 h18 h19 h20 h21 h22 h23 h24 h25 h26 h27 h28 h29 h30 h31 h32 h33 h34 h35 h36 h37 h38 h39 h40 h41 h42 h43 h44 (b := b) (xs := xs) hL (fun _ _ => 0, fun _ _ => 0) p l e s m #[Value.ref b] below meth c E s.heap [] _ ⟨hx, hb, hml, hown, hz⟩ ⟨rfl, hr, hlocks, st_trace hflags, hX, hbl, e6, hTh⟩ hXE (fun k q hq => by simp [zw] at hq) va_S.rf (by rw [show ([(0, Value.ref 4000)] : List (Nat × Value)).map (fun q => (q.1, zv E q.2)) = [(0, .ref b)] by simp [zv, e6]]; exact hl)
