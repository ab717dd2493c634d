/-! throws: NoSuchElementException leaves a method of the class, and the law's own three methods catch it -/
abbrev zne : String := "java/util/NoSuchElementException"
abbrev znames : List String := ["java/lang/RuntimeException", "java/lang/Exception"]
def zDecl : List MethodName := [⟨"java/lang/RuntimeException", "<init>", "()V"⟩, ⟨"java/lang/RuntimeException", "<init>", "(Ljava/lang/String;)V"⟩, ⟨"java/lang/Exception", "<init>", "()V"⟩, ⟨"java/lang/Exception", "<init>", "(Ljava/lang/String;)V"⟩, ⟨"java/lang/Throwable", "<init>", "()V"⟩, ⟨"java/lang/Throwable", "<init>", "(Ljava/lang/String;)V"⟩]
theorem tw_cl : Cond.classLink RX8 111 zne ∈ z_tb := z_mem 984 (by decide +kernel) (by decide +kernel)
theorem tw_ini : Cond.initialized zne ∈ z_tb := z_mem 83 (by decide +kernel) (by decide +kernel)
theorem tw_lcl : Cond.classLink RL 13 zne ∈ z_tb := z_mem 979 (by decide +kernel) (by decide +kernel)
def zTh (A : Nat → Prop) (s : State) : Prop := va_Nw (.castable zne zne) s ∧ (∀ q ∈ zDecl, va_Nw (.declares q) s) ∧ vx_Zq Bundle.tN "UNASSIGNED_STACK" Bundle.steD A s s.heap ∧ vx_Zq Bundle.tN "SUPPRESSED_SENTINEL" Bundle.listD A s s.heap
theorem zTh.to {A A' : Nat → Prop} {s U : State} (hA : ∀ q, A' q → A q) (h : zTh A s) (hq : ∀ q : Nat, q < s.heap.size → ¬ A q → U.heap[q]? = s.heap[q]?) (hW : s.WarmedH U.vm) : zTh A' U := by
  obtain ⟨h1, h2, h3, h4⟩ := h
  exact ⟨h1.warmC hW, fun q hq => (h2 q hq).warmD hW, ((h3.kept hq).narrow hA).moved hW.alike, ((h4.kept hq).narrow hA).moved hW.alike⟩
theorem zTh.blind {A : Nat → Prop} {U : State} {g : JFrame} {mk : MethodId} {a : Array Value} (h : zTh A U) : zTh A (U.calling g mk a) := by
  obtain ⟨h1, h2, h3, h4⟩ := h
  exact ⟨va_Nw.same (u := U) (U := U.calling g mk a) rfl rfl h1, fun q hq => va_Nw.same (u := U) (U := U.calling g mk a) rfl rfl (h2 q hq), vx_Zq.moved (u := U) (U := U.calling g mk a) (Vm.Alike.refl U.vm) h3, vx_Zq.moved (u := U) (U := U.calling g mk a) (Vm.Alike.refl U.vm) h4⟩
def zTw : List Cond := .castable zne zne :: zDecl.map .declares
theorem zTw_all : ∀ w ∈ (vx_at0 RX8 113 zne znames).filter (fun w => !goodWord w), w ∈ zTw := by decide +kernel
theorem zTw_g0 : ∀ w ∈ (vx_at0 RX8 113 zne znames).filter goodWord, w ∈ lw_tbl := by decide +kernel
theorem zTw_good : ∀ w ∈ (vx_at0 RX8 113 zne znames).filter goodWord, w ∈ z_tb := fun w hw => List.mem_filter.mpr ⟨zTw_g0 w hw, (List.mem_filter.mp hw).2⟩
theorem zTw_ot : ∀ w ∈ Cond.classLink RX8 111 zne :: Cond.initialized zne :: vx_at0 RX8 113 zne znames, vx_ot w = true := by decide +kernel
theorem zTw_fit : Bundle.fit zne = true := by decide +kernel
theorem zTw_fits : ∀ n ∈ znames, Bundle.fit n = true := by decide +kernel
def zXC (T : List zN) (E : zE) (M : zM) : String → State → State → Prop := fun X st t => X = zne ∧ va_P E.1 vwCl (zw T E M) t.heap ∧ va_F (zA T E) st t
def zBx (T : List zN) (d : Nat) (M : zM) : zB := (zrmc d 1 6, fun E _ => zA T E, fun l meth c E s _ => l.stackTraces = false ∧ meth.locks = false ∧ (∀ x ∈ c.exceptionTable.toList, False) ∧ zTh (zA T E) s, fun s args below E => vx_MQ below (fun _ _ _ _ => False) (zXC T E M) args s 1 6 (zA T E))
def zPcx (T : List zN) (E : zE) (as : List Value) (M : zM) : Array Value → State → Prop := va_Pc (as.map (zv E)) (fun U => zX T E (zA T E) U ∧ zTh (zA T E) U ∧ va_P E.1 vwCl (zw T E M) U.heap)
theorem zPcx.blind (T : List zN) (E : zE) (as : List Value) (M : zM) : FrameBlind (zPcx T E as M) := fun a U g mk q => ⟨q.1, q.2.1.blind, q.2.2.1.blind, q.2.2.2⟩
/-- a method that throws -/
def zKx (T : List zN) (y : MethodName) (code : ByteArray) (nL : Nat) (ret : Option FieldType) (d : Nat) (as : List Value) (M : zM) : Prop :=
  ∀ (l : Launch) (E : zE), l.stackTraces = false → vx_Met l y (zws y code nL ret) (zrmc d 1 6) (zPcx T E as M) (fun _ _ _ _ => False) (zXC T E M) 1 6 (zA T E)
theorem zKx_of {T : List zN} {y : MethodName} {code : ByteArray} {nL : Nat} {ret : Option FieldType} {d : Nat} {as : List Value} {M : zM} (hp : plainName y.cls = true) (hn : (lg_sl as).length ≤ nL)
    (h : zJ T y.cls code nL (zBx T d M) 0 0 0 (lv_args 0 as) [] M) : zKx T y code nL ret d as M := by
  intro l E hst
  refine vx_ofW (cc := code) (maxL := nL) (ret := ret) hp rfl ?_
  intro p e s m args below meth c s₁ Bd hml htab hv
  obtain ⟨rfl, hX, hTh, hP⟩ := hv
  have hown : s.vm.findClass y.cls = some m.cls := findClass_of_methodNamed Bd.named
  have hts : ∀ w ∈ zws y code nL ret, w.before ((as.map (zv E)).toArray) s = true := atoms_spec (ws := zws y code nL ret) Bd.pre
  have hl := lv_entry (as.map (zv E)) (n := nL) (by rw [lg_sl_len]; exact hn)
  rw [lg_entry_eq]
  rw [lv_args_map] at hl
  exact h p l e s m _ below meth c E s.heap [] _ ⟨Bd.exec, Bd.bytes, hml, hown, fun w hw => hts w (List.mem_cons_of_mem _ hw)⟩ ⟨hst, Bd.notSynchronized, htab, hTh⟩ hX hP va_S.rf hl
theorem zg_throw {T : List zN} {code : ByteArray} {nL d pc : Nat} {ls : List (Nat × Value)} {st : List Value} {M : zM} (hd6 : 6 ≤ d) (hst : (st.map Value.category).sum ≤ 8) (d0 : decode code pc = .ok (.new 111, 3)) (d3 : decode code (pc + 3) = .ok (.dup, 1)) (d4 : decode code (pc + 4) = .ok (.invokespecial 113, 3)) (d7 : decode code (pc + 7) = .ok (.athrow, 1)) : zJ T RX8 code nL (zBx T d M) 0 0 pc ls st M := by
  intro p l e s m args below meth c E H locs a hC hB hX hP hS hl
  obtain ⟨b1, b2, b3, b4, b5, b6, b7⟩ := hB
  have hat : ∀ w ∈ vx_at0 RX8 113 zne znames, w.before args s = true := vx_hat (fun w hw => hC.2.2.2.2 _ (zTw_good w hw)) zTw_all (fun w hw => by
    rcases List.mem_cons.mp hw with rfl | hw
    · exact va_Nw.use rfl b4
    · obtain ⟨q, hq, rfl⟩ := List.mem_map.mp hw
      exact va_Nw.use rfl (b5 q hq))
  refine vx_throw0 (own := RX8) (cls := zne) (names := znames) (ik := 111) (ic := 113) (A := zA T E) hC.1 hC.2.1 b1 hC.2.2.2.1 zTw_fit zTw_fits (hC.2.2.2.2 _ tw_cl) (hC.2.2.2.2 _ tw_ini) hat zTw_ot b6 b7 hS (hl.1.trans hC.2.2.1.symm) d0 d3 d4 d7 (fun x hx => (b3 x hx).elim) (by show 2 + 3 < d; omega) ?_ (Nat.le_refl 1) (Nat.le_refl 6) b2 ?_ hS.2.2 (Nat.le_refl 1) (Nat.le_refl 6)
  · rw [List.map_map, show ((fun v => v.category) ∘ zv E) = Value.category from funext fun v => zv_cat E v]
    show _ + (13 * (2 + 1) + 42) ≤ 64 * d
    omega
  · intro t ht hz hk
    refine ⟨rfl, va_P.kept hP (fun k x hx => hk x.1 ((hP k x hx).lt)), Nat.le_trans hS.1 hz, fun q h1 h2 => ?_⟩
    rw [hk q (Nat.lt_of_lt_of_le h1 hS.1)]
    exact hS.2.1 q h1 h2
/-! the law's own three methods -/
def zwsH (y : MethodName) (code : ByteArray) (nL : Nat) (hh : List (Nat × Nat × Nat × Nat)) : List Cond := Cond.codeWith y code nL (some .int) hh :: z_tb
def zBh (T : List zN) (d : Nat) (hh : List (Nat × Nat × Nat × Nat)) (r : Option Value) (M1 : zM) : zB := (zrmc d 1 6, fun E _ => zA T E, fun l meth c E s _ => meth.sig.returnType = some .int ∧ meth.locks = false ∧ l.stackTraces = false ∧ c.exceptionTable.toList = tableOf hh ∧ zTh (zA T E) s, fun s args below E => MQ below (zQ T E r M1) args s 1 6 (zA T E))
def zKh (T : List zN) (y : MethodName) (code : ByteArray) (nL : Nat) (hh : List (Nat × Nat × Nat × Nat)) (d : Nat) (as : List Value) (M : zM) (r : Option Value) (M1 : zM) : Prop :=
  ∀ (l : Launch) (E : zE), l.stackTraces = false → Met l y (zwsH y code nL hh) (zrmc d 1 6) (zPcx T E as M) (zQ T E r M1) 1 6 (zA T E)
theorem zKh_of {T : List zN} {y : MethodName} {code : ByteArray} {nL : Nat} {hh : List (Nat × Nat × Nat × Nat)} {d : Nat} {as : List Value} {M : zM} {r : Option Value} {M1 : zM} (hp : plainName y.cls = true) (hn : (lg_sl as).length ≤ nL)
    (h : zJ T y.cls code nL (zBh T d hh r M1) 0 0 0 (lv_args 0 as) [] M) : zKh T y code nL hh d as M r M1 := by
  intro l E hst
  refine va_MetW (cc := code) (maxL := nL) (ret := some .int) (hh := hh) hp rfl ?_
  intro p e s m args below meth c s₁ Bd hml hv
  obtain ⟨rfl, hX, hTh, hP⟩ := hv
  have hown : s.vm.findClass y.cls = some m.cls := findClass_of_methodNamed Bd.named
  have hts : ∀ w ∈ zwsH y code nL hh, w.before ((as.map (zv E)).toArray) s = true := atoms_spec (ws := zwsH y code nL hh) Bd.pre
  have hl := lv_entry (as.map (zv E)) (n := nL) (by rw [lg_sl_len]; exact hn)
  rw [lg_entry_eq]
  rw [lv_args_map] at hl
  exact h p l e s m _ below meth c E s.heap [] _ ⟨Bd.exec, Bd.bytes, hml, hown, fun w hw => hts w (List.mem_cons_of_mem _ hw)⟩ ⟨Bd.returns, Bd.notSynchronized, hst, vx_table (x := y) Bd (hts _ List.mem_cons_self), hTh⟩ hX hP va_S.rf hl
theorem zg_hret {T : List zN} {own : String} {code : ByteArray} {nL d pc : Nat} {hh : List (Nat × Nat × Nat × Nat)} {ls : List (Nat × Value)} {M : zM} {x : Int32} (hd : decode code pc = .ok (.ireturn, 1)) : zJ T own code nL (zBh T d hh (some (.int x)) M) 0 0 pc ls [.int x] M := by
  intro p l e s m args below meth c E H locs a hC hB hX hP hS hl
  refine W.widen (k := 1) (n := 6) (by omega) (by omega) ?_
  exact W.iret hC.1 hC.2.1 hB.1 (fun t ht _ => ⟨rfl, by rw [ht]; exact hP, hS.F ht⟩) hS.2.2 hd hB.2.1
/-- a call that throws, caught: the handler stores what was caught and answers 1 -/
def zHnd (code : ByteArray) (nL hp : Nat) : Prop := ∃ len, decode code (hp + len) = .ok (.iconst 1, 1) ∧ decode code (hp + len + 1) = .ok (.ireturn, 1) ∧ ((∃ i, i < nL ∧ len = 2 ∧ decode code hp = .ok (.astore i, 2)) ∨ ∃ i : Fin 4, i.val < nL ∧ len = 1 ∧ decode code hp = .ok (.astore_n i, 1))
theorem zg_callX {T : List zN} {code : ByteArray} {nL pc : Nat} {ls : List (Nat × Value)} {st stk : List Value} {M : zM} {y : MethodName} {code' : ByteArray} {nL' n d d' i : Nat} {ret' : Option FieldType} {As : List Value} {o ci : Nat} {lay : List Nat} {Tt : u_T} {N sp ep hp : Nat} (hK : zKx T y code' nL' ret' d' (.ref o :: As) M) (hY : zY y code' nL' ret' n) (hL : zLV RL i y) (hn : As.length = n) (hT : T[o]? = some (.inr (ci, lay))) (hc : vwCl[ci]? = some (y.cls, Tt, N)) (hR : d' < d ∧ nL' ≤ 45) (hst : (st.map Value.category).sum ≤ 8) (hd : decode code pc = .ok (.invokevirtual i, 3)) (hs : stk = As.reverse ++ .ref o :: st) (hcov : ∀ x ∈ tableOf [(sp, ep, hp, 13)], covers x pc = true ∧ x.handlerPc = hp ∧ x.catchType = 13) (hne : ∃ x, tableOf [(sp, ep, hp, 13)] = [x]) (hh : zHnd code nL hp) : zJ T RL code nL (zBh T d [(sp, ep, hp, 13)] (some (.int 1)) M) 0 0 pc ls stk M := by
  intro p l e s m args below meth c E H locs a hC hB hX hP hS hl
  subst hs
  obtain ⟨b1, b2, b3, b4, b5⟩ := hB
  have hrun := vx_runV (R := zrmc d 1 6) (cells := 0) (slots := 0) (locs := locs) (p := p) (l := l) (e := e) (below := below) (meth := meth) (C := y.cls) (b := zad E o) (As := As.map (zv E)) (rest := st.map (zv E)) (Ts := z_tb) (n := n) (index := i) (g := F0 m pc a ((As.reverse ++ .ref o :: st).map (zv E))) hC (hK l E b3) (cwV n hC.2.2.2.2 (z_goodV hY hL) rfl rfl rfl ⟨rfl, hY.2.2⟩ ⟨hR.1, by show 8 + (nL' + 11) + 64 * d' ≤ 64 * d; omega⟩) ⟨zPcx.blind T E _ M, va_recv hX.1 hP hc (zw_get hT), fun U hU hW => ⟨rfl, hX.to hS hU hW, b5.to (fun _ h => h) (fun q h1 h2 => by rw [hU]; exact hS.2.1 q h1 h2) hW, by rw [hU]; exact hP⟩⟩ rfl (by rw [List.length_map]; exact hn) hl.1 (by simp [zv]) (z_cats hst) hd ⟨(Nat.le_refl 1 : 0 + 1 ≤ 1), (Nat.le_refl 6 : 0 + 6 ≤ 6)⟩
  intro Ts hTs Xs
  rcases hrun Ts hTs Xs with ⟨v, st₀, t, T', L, h0, X', hL', e1, e2, hF, stp⟩ | ⟨q, st₀, t, T', L, EX, ce, h0, X', hL', e1, e2, ⟨rfl, hP1, hz, hk⟩, hce, hcv, hcls, stp⟩
  · exact hF.elim
  · rw [h0] at hz hk
    have hS1 : va_S (zA T E) s.heap T'.heap (locs ++ L) := ⟨Nat.le_trans hS.1 (by rw [e1]; exact hz), fun q h1 h2 => by rw [e1, hk q (Nat.lt_of_lt_of_le h1 hS.1) h2]; exact hS.2.1 q h1 h2, fun q hq => by
        rcases List.mem_append.mp hq with h | h
        · exact hS.2.2 q h
        · exact hL' q h⟩
    obtain ⟨x, hx⟩ := hne
    obtain ⟨c1, c2, c3⟩ := hcov x (by rw [hx]; exact List.mem_cons_self)
    have hfin : ∀ (a' : Array Slot) (len : Nat), decode code (hp + len) = .ok (.iconst 1, 1) → decode code (hp + len + 1) = .ok (.ireturn, 1) → W p l e (zrmc d 1 6) s m args below meth c T'.heap (locs ++ L) (0 + 1) (0 + 6) (MQ below (zQ T E (some (.int 1)) M) args s 1 6 (zA T E)) (F0 m (hp + len) a' []) := by
      intro a' len g1 g2
      refine lv_iconst (v := 1) hC.1 hC.2.1 g1 (by decide) ?_
      exact W.iret hC.1 hC.2.1 b1 (fun t ht _ => ⟨rfl, by rw [ht, e1]; exact hP1, hS1.F ht⟩) hS1.2.2 g2 b2
    have hW : W p l e (zrmc d 1 6) s m args below meth c T'.heap (locs ++ L) (0 + 1) (0 + 6) (MQ below (zQ T E (some (.int 1)) M) args s 1 6 (zA T E)) (F0 m x.handlerPc a [.ref q]) := by
      rw [c2]
      obtain ⟨len, g1, g2, ⟨i, hi, rfl, g3⟩ | ⟨i, hi, rfl, g3⟩⟩ := hh
      · exact lv_astore (x := q) hC.1 hC.2.1 g3 hl hi rfl (fun a' _ => hfin a' 2 g1 g2)
      · exact lv_astore_n (x := q) hC.1 hC.2.1 g3 rfl hl hi rfl (fun a' _ => hfin a' 1 g1 g2)
    have hcat := vx_catch (own := RL) (name := zne) (E := zne) (rest := st.map (zv E)) (pc := pc) hC.2.2.2.1 [] x [] (by rw [b4, hx]; rfl) (fun z hz => by cases hz) c1 (by rw [c3]; decide) (by rw [c3]; exact hC.2.2.2.2 _ tw_lcl) (va_Nw.use rfl b5.1) (by rw [e1]; exact hce) hcv hcls hW
    obtain ⟨t2, a1, d1⟩ := hcat T' rfl X'
    exact ⟨t2, stp.trans a1, d1⟩
theorem zfit_c {d d' nL mc ms : Nat} (h : d' < d) (hn : nL ≤ 45) : zfit (zrmc d mc ms) d' nL 0 0 := ⟨⟨h, by show _ ≤ 64 * d; omega⟩, Nat.zero_le _, Nat.zero_le _⟩
theorem zpJ0 (M : zM) (x : Int64) : zpJ M 1 67 0 x = some (zsj M 67 0 x) := if_neg (by decide)
