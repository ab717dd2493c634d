set_option maxRecDepth 20000 in
set_option maxHeartbeats 4000000 in
theorem g9_rests_84 {r1 : Int32} {Mr : zM} {k37 : Int32 → Int32 → Int32 → Int32 → zM → Option (Int32 × zM)} (hk37 : ∀ (v1 : Int32) (v2 : Int32) (v3 : Int32) (v4 : Int32) (M : zM), k37 v1 v2 v3 v4 M = some (r1, Mr) → zJ ztops RX9 cX9_rests 5 (zBm ztops 4 (some .int) (some (.int r1)) Mr) 0 0 37 [(0, .ref 39), (1, .int v1), (2, .int v2), (3, .int v3), (4, .int v4)] [] M) : ∀ (v1 : Int32) (v2 : Int32) (v3 : Int32) (v4 : Int32) (M : zM), f9_rests_84 k37 v1 v2 v3 v4 M = some (r1, Mr) → zJ ztops RX9 cX9_rests 5 (zBm ztops 4 (some .int) (some (.int r1)) Mr) 0 0 84 [(0, .ref 39), (1, .int v1), (2, .int v2), (3, .int v3), (4, .int v4)] [] M := by
  intro v1 v2 v3 v4 M h
  rw [f9_rests_84] at h
  refine zg_iinc (ls' := [(0, .ref 39), (1, .int v1), (2, .int v2), (3, .int v3), (4, .int (v4 + (1 : Int32)))]) 4 dX9_rests_84 rfl zki_1 (Nat.le_of_ble_eq_true rfl) rfl ?_
  refine zg_goto (tgt := 37) dX9_rests_87 (by decide) ?_
  exact hk37 _ _ _ _ _ h
set_option maxRecDepth 20000 in
set_option maxHeartbeats 4000000 in
theorem g9_rests_81 {r1 : Int32} {Mr : zM} {k37 : Int32 → Int32 → Int32 → Int32 → zM → Option (Int32 × zM)} (hk37 : ∀ (v1 : Int32) (v2 : Int32) (v3 : Int32) (v4 : Int32) (M : zM), k37 v1 v2 v3 v4 M = some (r1, Mr) → zJ ztops RX9 cX9_rests 5 (zBm ztops 4 (some .int) (some (.int r1)) Mr) 0 0 37 [(0, .ref 39), (1, .int v1), (2, .int v2), (3, .int v3), (4, .int v4)] [] M) : ∀ (v1 : Int32) (v2 : Int32) (v3 : Int32) (v4 : Int32) (M : zM), f9_rests_81 k37 v1 v2 v3 v4 M = some (r1, Mr) → zJ ztops RX9 cX9_rests 5 (zBm ztops 4 (some .int) (some (.int r1)) Mr) 0 0 81 [(0, .ref 39), (1, .int v1), (2, .int v2), (3, .int v3), (4, .int v4)] [] M := by
  intro v1 v2 v3 v4 M h
  rw [f9_rests_81] at h
  refine zg_iinc (ls' := [(0, .ref 39), (1, .int v1), (2, .int (v2 + (1 : Int32))), (3, .int v3), (4, .int v4)]) 2 dX9_rests_81 rfl zki_1 (Nat.le_of_ble_eq_true rfl) rfl ?_
  exact g9_rests_84 hk37 _ _ _ _ _ h
set_option maxRecDepth 20000 in
set_option maxHeartbeats 4000000 in
theorem g9_rests_37 {r1 : Int32} {Mr : zM} {k90 : Int32 → Int32 → Int32 → zM → Option (Int32 × zM)} (hk90 : ∀ (v1 : Int32) (v2 : Int32) (v3 : Int32) (M : zM), k90 v1 v2 v3 M = some (r1, Mr) → zJ ztops RX9 cX9_rests 5 (zBm ztops 4 (some .int) (some (.int r1)) Mr) 0 0 90 [(0, .ref 39), (1, .int v1), (2, .int v2), (3, .int v3)] [] M) : ∀ (n : Nat) (v1 : Int32) (v2 : Int32) (v3 : Int32) (v4 : Int32) (M : zM), f9_rests_37 k90 n v1 v2 v3 v4 M = some (r1, Mr) → zJ ztops RX9 cX9_rests 5 (zBm ztops 4 (some .int) (some (.int r1)) Mr) 0 0 37 [(0, .ref 39), (1, .int v1), (2, .int v2), (3, .int v3), (4, .int v4)] [] M := by
  intro n
  induction n with
  | zero => intro v1 v2 v3 v4 M h; cases h
  | succ n ih =>
    intro v1 v2 v3 v4 M h
    rw [f9_rests_37] at h
    refine zg_iload 4 dX9_rests_37 rfl ?_
    refine zg_bipush dX9_rests_39 zkb_9 ?_
    refine zg_icmp_gt (tgt := 90) dX9_rests_41 (by decide) (fun hc => ?_) (fun hc => ?_)
    · replace h := (if_pos hc).symm.trans h
      refine zo_sub (ls' := [(0, .ref 39), (1, .int v1), (2, .int v2), (3, .int v3)]) [0, 1, 2, 3] rfl ?_
      exact hk90 _ _ _ _ h
    · replace h := (if_neg hc).symm.trans h
      refine zg_iload_n 3 dX9_rests_44 rfl rfl ?_
      refine zg_iload 4 dX9_rests_45 rfl ?_
      refine zg_iload_n 1 dX9_rests_47 rfl rfl ?_
      obtain ⟨x1, hx1, h⟩ := z_bind h
      refine zg_callS (st := []) (k_X9_isRest hx1) zY_X9_isRest ls_X9_427 rfl (zfit_m (by decide) (by decide)) (Nat.le_of_ble_eq_true rfl) dX9_rests_48 rfl ?_
      refine zg_if_eq (tgt := 84) dX9_rests_51 (by decide) (fun hc => ?_) (fun hc => ?_)
      · replace h := (if_pos hc).symm.trans h
        exact g9_rests_84 (fun u0 u1 u2 u3 u4 h => ih u0 u1 u2 u3 u4 h) _ _ _ _ _ h
      · replace h := (if_neg hc).symm.trans h
        refine zg_iload 4 dX9_rests_54 rfl ?_
        refine zg_iload_n 3 dX9_rests_56 rfl rfl ?_
        refine zg_iload_n 1 dX9_rests_57 rfl rfl ?_
        obtain ⟨x2, hx2, h⟩ := z_bind h
        refine zg_callS (st := []) (k_X9_isRest hx2) zY_X9_isRest ls_X9_427 rfl (zfit_m (by decide) (by decide)) (Nat.le_of_ble_eq_true rfl) dX9_rests_58 rfl ?_
        refine zg_if_eq (tgt := 84) dX9_rests_61 (by decide) (fun hc => ?_) (fun hc => ?_)
        · replace h := (if_pos hc).symm.trans h
          exact g9_rests_84 (fun u0 u1 u2 u3 u4 h => ih u0 u1 u2 u3 u4 h) _ _ _ _ _ h
        · replace h := (if_neg hc).symm.trans h
          refine zg_iload_n 2 dX9_rests_64 rfl rfl ?_
          refine zg_if_ne (tgt := 81) dX9_rests_65 (by decide) (fun hc => ?_) (fun hc => ?_)
          · replace h := (if_neg hc).symm.trans h
            exact g9_rests_81 (fun u0 u1 u2 u3 u4 h => ih u0 u1 u2 u3 u4 h) _ _ _ _ _ h
          · replace h := (if_pos hc).symm.trans h
            refine zg_aload_n 0 dX9_rests_68 rfl rfl ?_
            refine zg_iload_n 3 dX9_rests_69 rfl rfl ?_
            refine zg_i2l dX9_rests_70 ?_
            obtain ⟨M3, hM3, h⟩ := z_bind h
            refine zg_callV (st := []) (k_X9_enters hM3) zY_X9_enters lv_X9_311 rfl zt_39 rfl (zfit_m (by decide) (by decide)) (Nat.le_of_ble_eq_true rfl) dX9_rests_71 rfl ?_
            refine zg_aload_n 0 dX9_rests_74 rfl rfl ?_
            refine zg_iload 4 dX9_rests_75 rfl ?_
            refine zg_i2l dX9_rests_77 ?_
            obtain ⟨M4, hM4, h⟩ := z_bind h
            refine zg_callV (st := []) (k_X9_enters hM4) zY_X9_enters lv_X9_311 rfl zt_39 rfl (zfit_m (by decide) (by decide)) (Nat.le_of_ble_eq_true rfl) dX9_rests_78 rfl ?_
            exact g9_rests_81 (fun u0 u1 u2 u3 u4 h => ih u0 u1 u2 u3 u4 h) _ _ _ _ _ h
set_option maxRecDepth 20000 in
set_option maxHeartbeats 4000000 in
theorem g9_rests_90 {r1 : Int32} {Mr : zM} {k28 : Int32 → Int32 → Int32 → zM → Option (Int32 × zM)} (hk28 : ∀ (v1 : Int32) (v2 : Int32) (v3 : Int32) (M : zM), k28 v1 v2 v3 M = some (r1, Mr) → zJ ztops RX9 cX9_rests 5 (zBm ztops 4 (some .int) (some (.int r1)) Mr) 0 0 28 [(0, .ref 39), (1, .int v1), (2, .int v2), (3, .int v3)] [] M) : ∀ (v1 : Int32) (v2 : Int32) (v3 : Int32) (M : zM), f9_rests_90 k28 v1 v2 v3 M = some (r1, Mr) → zJ ztops RX9 cX9_rests 5 (zBm ztops 4 (some .int) (some (.int r1)) Mr) 0 0 90 [(0, .ref 39), (1, .int v1), (2, .int v2), (3, .int v3)] [] M := by
  intro v1 v2 v3 M h
  rw [f9_rests_90] at h
  refine zg_iinc (ls' := [(0, .ref 39), (1, .int v1), (2, .int v2), (3, .int (v3 + (1 : Int32)))]) 3 dX9_rests_90 rfl zki_1 (Nat.le_of_ble_eq_true rfl) rfl ?_
  refine zg_goto (tgt := 28) dX9_rests_93 (by decide) ?_
  exact hk28 _ _ _ _ h
set_option maxRecDepth 20000 in
set_option maxHeartbeats 4000000 in
theorem g9_rests_28 {r1 : Int32} {Mr : zM} : ∀ (n : Nat) (v1 : Int32) (v2 : Int32) (v3 : Int32) (M : zM), f9_rests_28 n v1 v2 v3 M = some (r1, Mr) → zJ ztops RX9 cX9_rests 5 (zBm ztops 4 (some .int) (some (.int r1)) Mr) 0 0 28 [(0, .ref 39), (1, .int v1), (2, .int v2), (3, .int v3)] [] M := by
  intro n
  induction n with
  | zero => intro v1 v2 v3 M h; cases h
  | succ n ih =>
    intro v1 v2 v3 M h
    rw [f9_rests_28] at h
    refine zg_iload_n 3 dX9_rests_28 rfl rfl ?_
    refine zg_bipush dX9_rests_29 zkb_9 ?_
    refine zg_icmp_gt (tgt := 96) dX9_rests_31 (by decide) (fun hc => ?_) (fun hc => ?_)
    · replace h := (if_pos hc).symm.trans h
      refine zg_iload_n 2 dX9_rests_96 rfl rfl ?_
      obtain ⟨rfl, rfl⟩ := z_ret2 h
      exact zg_iret dX9_rests_97
    · replace h := (if_neg hc).symm.trans h
      refine zg_iconst dX9_rests_34 zki_0 ?_
      refine zg_istore (ls' := [(0, .ref 39), (1, .int v1), (2, .int v2), (3, .int v3), (4, .int (0 : Int32))]) dX9_rests_35 (Nat.le_of_ble_eq_true rfl) rfl ?_
      exact g9_rests_37 (fun u0 u1 u2 u3 h => g9_rests_90 (fun u0 u1 u2 u3 h => ih u0 u1 u2 u3 h) u0 u1 u2 u3 h) zfuel _ _ _ _ _ h
set_option maxRecDepth 20000 in
set_option maxHeartbeats 4000000 in
theorem k_X9_rests {v1 : Int32} {M : zM} {r1 : Int32} {Mr : zM} (h : f9_rests v1 M = some (r1, Mr)) : zK ztops yX9_rests cX9_rests 5 (some .int) 4 [.ref 39, .int v1] M (some (.int r1)) Mr := by
  refine zK_of pl_X9 (Nat.le_of_ble_eq_true rfl) ?_
  show zJ ztops RX9 cX9_rests 5 _ 0 0 0 [(0, .ref 39), (1, .int v1)] [] M
  rw [f9_rests] at h
  refine zg_aload_n 0 dX9_rests_0 rfl rfl ?_
  refine zg_iconst dX9_rests_1 zki_0 ?_
  refine zg_puti fp_X9_3 zt_39 rfl dX9_rests_2 ?_
  refine zg_iload_n 1 dX9_rests_5 rfl rfl ?_
  refine zg_i2l dX9_rests_6 ?_
  refine zg_lconst dX9_rests_7 (v := 0) rfl ?_
  refine zg_ldc2 kc_X9_425 dX9_rests_8 ?_
  obtain ⟨x1, hx1, h⟩ := z_bind h
  refine zg_callS (st := []) (k_X9_in hx1) zY_X9_in ls_X9_104 rfl (zfit_m (by decide) (by decide)) (Nat.le_of_ble_eq_true rfl) dX9_rests_11 rfl ?_
  refine zg_if_ne (tgt := 19) dX9_rests_14 (by decide) (fun hc => ?_) (fun hc => ?_)
  · replace h := (if_neg hc).symm.trans h
    refine zg_iconst dX9_rests_19 zki_0 ?_
    refine zg_istore_n (ls' := [(0, .ref 39), (1, .int v1), (2, .int (0 : Int32))]) dX9_rests_20 rfl (Nat.le_of_ble_eq_true rfl) rfl ?_
    refine zg_aload_n 0 dX9_rests_21 rfl rfl ?_
    refine zg_iconst dX9_rests_22 zki_0 ?_
    refine zg_puti fp_X9_15 zt_39 rfl dX9_rests_23 ?_
    refine zg_iconst dX9_rests_26 zki_0 ?_
    refine zg_istore_n (ls' := [(0, .ref 39), (1, .int v1), (2, .int (0 : Int32)), (3, .int (0 : Int32))]) dX9_rests_27 rfl (Nat.le_of_ble_eq_true rfl) rfl ?_
    exact g9_rests_28 zfuel _ _ _ _ h
  · replace h := (if_pos hc).symm.trans h
    refine zg_iconst dX9_rests_17 zki_m1 ?_
    obtain ⟨rfl, rfl⟩ := z_ret2 h
    exact zg_iret dX9_rests_18
set_option maxRecDepth 20000 in
set_option maxHeartbeats 4000000 in
theorem k_X9_drawn {v1 : Int32} {M : zM} {r1 : Int32} {Mr : zM} (h : f9_drawn v1 M = some (r1, Mr)) : zK ztops yX9_drawn cX9_drawn 2 (some .int) 0 [.ref 39, .int v1] M (some (.int r1)) Mr := by
  refine zK_of pl_X9 (Nat.le_of_ble_eq_true rfl) ?_
  show zJ ztops RX9 cX9_drawn 2 _ 0 0 0 [(0, .ref 39), (1, .int v1)] [] M
  rw [f9_drawn] at h
  refine zg_aload_n 0 dX9_drawn_0 rfl rfl ?_
  refine zg_aload_n 0 dX9_drawn_1 rfl rfl ?_
  refine zg_geti fl_X9_430 zt_39 rfl dX9_drawn_2 ?_
  refine zg_ldcw kc_X9_433 dX9_drawn_5 ?_
  refine zg_imul dX9_drawn_8 ?_
  refine zg_sipush dX9_drawn_9 zks_12345 ?_
  refine zg_iadd dX9_drawn_12 ?_
  refine zg_puti fp_X9_430 zt_39 rfl dX9_drawn_13 ?_
  refine zg_aload_n 0 dX9_drawn_16 rfl rfl ?_
  refine zg_geti fl_X9_430 zt_39 rfl dX9_drawn_17 ?_
  refine zg_bipush dX9_drawn_20 zkb_16 ?_
  refine zg_iushr dX9_drawn_22 ?_
  refine zg_iload_n 1 dX9_drawn_23 rfl rfl ?_
  obtain ⟨x1, hx1, h⟩ := z_bind h
  refine zo_irem hx1 dX9_drawn_24 ?_
  obtain ⟨rfl, rfl⟩ := z_ret2 h
  exact zg_iret dX9_drawn_25
set_option maxRecDepth 20000 in
set_option maxHeartbeats 4000000 in
theorem g9_years_165 {r1 : Int32} {Mr : zM} {k37 : Int32 → Int32 → zM → Option (Int32 × zM)} (hk37 : ∀ (v2 : Int32) (v3 : Int32) (M : zM), k37 v2 v3 M = some (r1, Mr) → zJ ztops RX9 cX9_years 7 (zBm ztops 8 (some .int) (some (.int r1)) Mr) 0 0 37 [(0, .ref 39), (2, .int v2), (3, .int v3)] [] M) : ∀ (v2 : Int32) (v3 : Int32) (M : zM), f9_years_165 k37 v2 v3 M = some (r1, Mr) → zJ ztops RX9 cX9_years 7 (zBm ztops 8 (some .int) (some (.int r1)) Mr) 0 0 165 [(0, .ref 39), (2, .int v2), (3, .int v3)] [] M := by
  intro v2 v3 M h
  rw [f9_years_165] at h
  refine zg_iinc (ls' := [(0, .ref 39), (2, .int v2), (3, .int (v3 + (1 : Int32)))]) 2 dX9_years_165 rfl zki_1 (Nat.le_of_ble_eq_true rfl) rfl ?_
  refine zg_goto (tgt := 37) dX9_years_168 (by decide) ?_
  exact hk37 _ _ _ h
set_option maxRecDepth 20000 in
set_option maxHeartbeats 4000000 in
theorem g9_years_37 {r1 : Int32} {Mr : zM} : ∀ (n : Nat) (v2 : Int32) (v3 : Int32) (M : zM), f9_years_37 n v2 v3 M = some (r1, Mr) → zJ ztops RX9 cX9_years 7 (zBm ztops 8 (some .int) (some (.int r1)) Mr) 0 0 37 [(0, .ref 39), (2, .int v2), (3, .int v3)] [] M := by
  intro n
  induction n with
  | zero => intro v2 v3 M h; cases h
  | succ n ih =>
    intro v2 v3 M h
    rw [f9_years_37] at h
    refine zg_iload_n 2 dX9_years_37 rfl rfl ?_
    refine zg_iload_n 1 dX9_years_38 rfl rfl ?_
    refine zg_icmp_ge (tgt := 171) dX9_years_39 (by decide) (fun hc => ?_) (fun hc => ?_)
    · replace h := (if_pos hc).symm.trans h
      refine zg_aload_n 0 dX9_years_171 rfl rfl ?_
      refine zg_iconst dX9_years_172 zki_0 ?_
      refine zg_puti fp_X9_15 zt_39 rfl dX9_years_173 ?_
      refine zg_aload_n 0 dX9_years_176 rfl rfl ?_
      refine zg_aload_n 0 dX9_years_177 rfl rfl ?_
      refine zo_getr 42 2 rfl fl_X9_28 zt_39 rfl dX9_years_178 ?_
      obtain ⟨x1, hx1, h⟩ := z_bind h
      refine zg_callS (st := [.ref 39]) (k_X9_overs zt_42 hx1) zY_X9_overs ls_X9_300 rfl (zfit_m (by decide) (by decide)) (Nat.le_of_ble_eq_true rfl) dX9_years_181 rfl ?_
      refine zg_i2l dX9_years_184 ?_
      obtain ⟨M2, hM2, h⟩ := z_bind h
      refine zg_callV (st := []) (k_X9_enters hM2) zY_X9_enters lv_X9_311 rfl zt_39 rfl (zfit_m (by decide) (by decide)) (Nat.le_of_ble_eq_true rfl) dX9_years_185 rfl ?_
      refine zg_aload_n 0 dX9_years_188 rfl rfl ?_
      refine zg_aload_n 0 dX9_years_189 rfl rfl ?_
      refine zg_aload_n 0 dX9_years_190 rfl rfl ?_
      refine zo_getr 42 2 rfl fl_X9_28 zt_39 rfl dX9_years_191 ?_
      obtain ⟨p3, hp3, h⟩ := z_bind h
      refine zg_callV (st := [.ref 39]) (k_X9_doesHang zt_42 hp3) zY_X9_doesHang lv_X9_362 rfl zt_39 rfl (zfit_m (by decide) (by decide)) (Nat.le_of_ble_eq_true rfl) dX9_years_194 rfl ?_
      obtain ⟨x4, hx4, h⟩ := z_bind h
      refine zg_callS (st := [.ref 39]) (k_X9_flag hx4) zY_X9_flag ls_X9_116 rfl (zfit_m (by decide) (by decide)) (Nat.le_of_ble_eq_true rfl) dX9_years_197 rfl ?_
      refine zg_i2l dX9_years_200 ?_
      obtain ⟨M5, hM5, h⟩ := z_bind h
      refine zg_callV (st := []) (k_X9_enters hM5) zY_X9_enters lv_X9_311 rfl zt_39 rfl (zfit_m (by decide) (by decide)) (Nat.le_of_ble_eq_true rfl) dX9_years_201 rfl ?_
      refine zg_aload_n 0 dX9_years_204 rfl rfl ?_
      refine zo_getr 42 2 rfl fl_X9_28 zt_39 rfl dX9_years_205 ?_
      obtain ⟨x6, hx6, h⟩ := z_bind h
      refine zg_callS (st := []) (k_X9_threadsOf zt_42 hx6) zY_X9_threadsOf ls_X9_315 rfl (zfit_m (by decide) (by decide)) (Nat.le_of_ble_eq_true rfl) dX9_years_208 rfl ?_
      obtain ⟨rfl, rfl⟩ := z_ret2 h
      exact zg_iret dX9_years_211
    · replace h := (if_neg hc).symm.trans h
      refine zg_aload_n 0 dX9_years_42 rfl rfl ?_
      refine zg_iconst dX9_years_43 zki_4 ?_
      obtain ⟨p1, hp1, h⟩ := z_bind h
      refine zg_callV (st := []) (k_X9_drawn hp1) zY_X9_drawn lv_X9_434 rfl zt_39 rfl (zfit_m (by decide) (by decide)) (Nat.le_of_ble_eq_true rfl) dX9_years_44 rfl ?_
      refine zg_istore (ls' := [(0, .ref 39), (2, .int v2), (3, .int v3), (4, .int p1.1)]) dX9_years_47 (Nat.le_of_ble_eq_true rfl) rfl ?_
      refine zg_iload 3 dX9_years_49 rfl ?_
      refine zg_iconst dX9_years_51 zki_2 ?_
      refine zg_icmp_ge (tgt := 67) dX9_years_52 (by decide) (fun hc => ?_) (fun hc => ?_)
      · replace h := (if_pos hc).symm.trans h
        refine zg_iload 3 dX9_years_67 rfl ?_
        refine zg_iconst dX9_years_69 zki_2 ?_
        refine zg_icmp_ne (tgt := 110) dX9_years_70 (by decide) (fun hc => ?_) (fun hc => ?_)
        · replace h := (if_neg hc).symm.trans h
          refine zg_aload_n 0 dX9_years_110 rfl rfl ?_
          refine zg_iconst dX9_years_111 zki_2 ?_
          obtain ⟨p2, hp2, h⟩ := z_bind h
          refine zg_callV (st := []) (k_X9_drawn hp2) zY_X9_drawn lv_X9_434 rfl zt_39 rfl (zfit_m (by decide) (by decide)) (Nat.le_of_ble_eq_true rfl) dX9_years_112 rfl ?_
          refine zg_istore (ls' := [(0, .ref 39), (2, .int v2), (3, .int v3), (4, .int p1.1), (5, .int p2.1)]) dX9_years_115 (Nat.le_of_ble_eq_true rfl) rfl ?_
          refine zg_aload_n 0 dX9_years_117 rfl rfl ?_
          refine zg_aload_n 0 dX9_years_118 rfl rfl ?_
          refine zo_getr 42 2 rfl fl_X9_28 zt_39 rfl dX9_years_119 ?_
          refine zg_iload 4 dX9_years_122 rfl ?_
          obtain ⟨x3, hx3, h⟩ := z_bind h
          refine zg_callS (st := [.ref 39]) (k_X9_manyOf zt_42 hx3) zY_X9_manyOf ls_X9_108 rfl (zfit_m (by decide) (by decide)) (Nat.le_of_ble_eq_true rfl) dX9_years_124 rfl ?_
          refine zg_iconst dX9_years_127 zki_1 ?_
          refine zg_iadd dX9_years_128 ?_
          obtain ⟨p4, hp4, h⟩ := z_bind h
          refine zg_callV (st := []) (k_X9_drawn hp4) zY_X9_drawn lv_X9_434 rfl zt_39 rfl (zfit_m (by decide) (by decide)) (Nat.le_of_ble_eq_true rfl) dX9_years_129 rfl ?_
          refine zg_istore (ls' := [(0, .ref 39), (2, .int v2), (3, .int v3), (4, .int p1.1), (5, .int p2.1), (6, .int p4.1)]) dX9_years_132 (Nat.le_of_ble_eq_true rfl) rfl ?_
          refine zg_aload_n 0 dX9_years_134 rfl rfl ?_
          refine zo_getr 42 2 rfl fl_X9_28 zt_39 rfl dX9_years_135 ?_
          refine zg_iload 4 dX9_years_138 rfl ?_
          refine zg_iload 5 dX9_years_140 rfl ?_
          refine zg_aload_n 0 dX9_years_142 rfl rfl ?_
          refine zg_bipush dX9_years_143 zkb_64 ?_
          obtain ⟨p5, hp5, h⟩ := z_bind h
          refine zg_callV (st := [.int p4.1, .int p2.1, .ref 42]) (k_X9_drawn hp5) zY_X9_drawn lv_X9_434 rfl zt_39 rfl (zfit_m (by decide) (by decide)) (Nat.le_of_ble_eq_true rfl) dX9_years_145 rfl ?_
          refine zg_aload_n 0 dX9_years_148 rfl rfl ?_
          refine zo_getr 42 2 rfl fl_X9_28 zt_39 rfl dX9_years_149 ?_
          refine zg_iload 4 dX9_years_152 rfl ?_
          obtain ⟨x6, hx6, h⟩ := z_bind h
          refine zg_callS (st := [.int p5.1, .int p4.1, .int p2.1, .ref 42]) (k_X9_cellsOf zt_42 hx6) zY_X9_cellsOf ls_X9_124 rfl (zfit_m (by decide) (by decide)) (Nat.le_of_ble_eq_true rfl) dX9_years_154 rfl ?_
          obtain ⟨x7, hx7, h⟩ := z_bind h
          refine zg_callS (st := [.int p5.1, .int p4.1, .int p2.1, .ref 42]) (k_X9_full hx7) zY_X9_full ls_X9_127 rfl (zfit_m (by decide) (by decide)) (Nat.le_of_ble_eq_true rfl) dX9_years_157 rfl ?_
          refine zg_iand dX9_years_160 ?_
          obtain ⟨p8, hp8, h⟩ := z_bind h
          refine zg_callS (st := []) (k_X9_weavesIn zt_42 hp8) zY_X9_weavesIn ls_X9_318 rfl (zfit_m (by decide) (by decide)) (Nat.le_of_ble_eq_true rfl) dX9_years_161 rfl ?_
          refine zg_pop dX9_years_164 rfl ?_
          refine zo_sub (ls' := [(0, .ref 39), (2, .int v2), (3, .int v3)]) [0, 1, 2] rfl ?_
          exact g9_years_165 (fun u0 u1 u2 h => ih u0 u1 u2 h) _ _ _ h
        · replace h := (if_pos hc).symm.trans h
          refine zg_aload_n 0 dX9_years_73 rfl rfl ?_
          refine zg_aload_n 0 dX9_years_74 rfl rfl ?_
          refine zo_getr 42 2 rfl fl_X9_28 zt_39 rfl dX9_years_75 ?_
          refine zg_bipush dX9_years_78 zkb_6 ?_
          refine zo_ialdc 6 zt_42 (by decide) rfl dX9_years_80 ?_
          obtain ⟨p2, hp2, h⟩ := z_bind h
          refine zg_callV (st := []) (k_X9_drawn hp2) zY_X9_drawn lv_X9_434 rfl zt_39 rfl (zfit_m (by decide) (by decide)) (Nat.le_of_ble_eq_true rfl) dX9_years_81 rfl ?_
          refine zg_istore (ls' := [(0, .ref 39), (2, .int v2), (3, .int v3), (4, .int p1.1), (5, .int p2.1)]) dX9_years_84 (Nat.le_of_ble_eq_true rfl) rfl ?_
          refine zg_aload_n 0 dX9_years_86 rfl rfl ?_
          refine zo_getr 42 2 rfl fl_X9_28 zt_39 rfl dX9_years_87 ?_
          refine zg_iload 4 dX9_years_90 rfl ?_
          refine zg_aload_n 0 dX9_years_92 rfl rfl ?_
          refine zg_aload_n 0 dX9_years_93 rfl rfl ?_
          refine zo_getr 42 2 rfl fl_X9_28 zt_39 rfl dX9_years_94 ?_
          refine zg_bipush dX9_years_97 zkb_7 ?_
          refine zo_ialdc 7 zt_42 (by decide) rfl dX9_years_99 ?_
          obtain ⟨p3, hp3, h⟩ := z_bind h
          refine zg_callV (st := [.int p2.1, .ref 42]) (k_X9_drawn hp3) zY_X9_drawn lv_X9_434 rfl zt_39 rfl (zfit_m (by decide) (by decide)) (Nat.le_of_ble_eq_true rfl) dX9_years_100 rfl ?_
          obtain ⟨p4, hp4, h⟩ := z_bind h
          refine zg_callS (st := []) (k_X9_flipsOne zt_42 hp4) zY_X9_flipsOne ls_X9_328 rfl (zfit_m (by decide) (by decide)) (Nat.le_of_ble_eq_true rfl) dX9_years_103 rfl ?_
          refine zg_pop dX9_years_106 rfl ?_
          refine zg_goto (tgt := 165) dX9_years_107 (by decide) ?_
          refine zo_sub (ls' := [(0, .ref 39), (2, .int v2), (3, .int v3)]) [0, 1, 2] rfl ?_
          exact g9_years_165 (fun u0 u1 u2 h => ih u0 u1 u2 h) _ _ _ h
      · replace h := (if_neg hc).symm.trans h
        refine zg_aload_n 0 dX9_years_55 rfl rfl ?_
        refine zg_aload_n 0 dX9_years_56 rfl rfl ?_
        refine zo_getr 42 2 rfl fl_X9_28 zt_39 rfl dX9_years_57 ?_
        obtain ⟨p2, hp2, h⟩ := z_bind h
        refine zg_callV (st := []) (k_X9_nightGoes zt_42 hp2) zY_X9_nightGoes lv_X9_293 rfl zt_39 rfl (zfit_m (by decide) (by decide)) (Nat.le_of_ble_eq_true rfl) dX9_years_60 rfl ?_
        refine zg_pop dX9_years_63 rfl ?_
        refine zg_goto (tgt := 165) dX9_years_64 (by decide) ?_
        refine zo_sub (ls' := [(0, .ref 39), (2, .int v2), (3, .int v3)]) [0, 1, 2] rfl ?_
        exact g9_years_165 (fun u0 u1 u2 h => ih u0 u1 u2 h) _ _ _ h
set_option maxRecDepth 20000 in
set_option maxHeartbeats 4000000 in
theorem k_X9_years {v1 : Int32} {v2 : Int32} {M : zM} {r1 : Int32} {Mr : zM} (h : f9_years v1 v2 M = some (r1, Mr)) : zK ztops yX9_years cX9_years 7 (some .int) 8 [.ref 39, .int v1, .int v2] M (some (.int r1)) Mr := by
  refine zK_of pl_X9 (Nat.le_of_ble_eq_true rfl) ?_
  show zJ ztops RX9 cX9_years 7 _ 0 0 0 [(0, .ref 39), (1, .int v1), (2, .int v2)] [] M
  rw [f9_years] at h
  refine zg_aload_n 0 dX9_years_0 rfl rfl ?_
  refine zg_iconst dX9_years_1 zki_0 ?_
  refine zg_puti fp_X9_3 zt_39 rfl dX9_years_2 ?_
  refine zg_iload_n 2 dX9_years_5 rfl rfl ?_
  refine zg_i2l dX9_years_6 ?_
  refine zg_lconst dX9_years_7 (v := 1) rfl ?_
  refine zg_ldc2 kc_X9_303 dX9_years_8 ?_
  obtain ⟨x1, hx1, h⟩ := z_bind h
  refine zg_callS (st := []) (k_X9_in hx1) zY_X9_in ls_X9_104 rfl (zfit_m (by decide) (by decide)) (Nat.le_of_ble_eq_true rfl) dX9_years_11 rfl ?_
  refine zg_if_ne (tgt := 19) dX9_years_14 (by decide) (fun hc => ?_) (fun hc => ?_)
  · replace h := (if_neg hc).symm.trans h
    refine zg_aload_n 0 dX9_years_19 rfl rfl ?_
    refine zg_iload_n 1 dX9_years_20 rfl rfl ?_
    refine zg_puti fp_X9_430 zt_39 rfl dX9_years_21 ?_
    refine zg_aload_n 0 dX9_years_24 rfl rfl ?_
    refine zo_getr 42 2 rfl fl_X9_28 zt_39 rfl dX9_years_25 ?_
    refine zg_aload_n 0 dX9_years_28 rfl rfl ?_
    refine zo_getr 41 1 rfl fl_X9_24 zt_39 rfl dX9_years_29 ?_
    obtain ⟨M2, hM2, h⟩ := z_bind h
    refine zg_callS (st := []) (k_X9_copies zt_42 zt_41 hM2) zY_X9_copies ls_X9_194 rfl (zfit_m (by decide) (by decide)) (Nat.le_of_ble_eq_true rfl) dX9_years_32 rfl ?_
    refine zg_iconst dX9_years_35 zki_0 ?_
    refine zg_istore_n (ls' := [(0, .ref 39), (1, .int v1), (2, .int v2), (3, .int (0 : Int32))]) dX9_years_36 rfl (Nat.le_of_ble_eq_true rfl) rfl ?_
    refine zo_sub (ls' := [(0, .ref 39), (2, .int v2), (3, .int (0 : Int32))]) [0, 2, 3] rfl ?_
    exact g9_years_37 zfuel _ _ _ h
  · replace h := (if_pos hc).symm.trans h
    refine zg_iconst dX9_years_17 zki_m1 ?_
    obtain ⟨rfl, rfl⟩ := z_ret2 h
    exact zg_iret dX9_years_18
set_option maxRecDepth 20000 in
set_option maxHeartbeats 4000000 in
theorem g9_keep_38 {r1 : Int32} {Mr : zM} : ∀ (n : Nat) (v1 : Int32) (v2 : Int32) (M : zM), f9_keep_38 n v1 v2 M = some (r1, Mr) → zJ ztops RX9 cX9_keep 3 (zBm ztops 2 (some .boolean) (some (.int r1)) Mr) 0 0 38 [(0, .ref 39), (1, .int v1), (2, .int v2)] [] M := by
  intro n
  induction n with
  | zero => intro v1 v2 M h; cases h
  | succ n ih =>
    intro v1 v2 M h
    rw [f9_keep_38] at h
    refine zg_iload_n 2 dX9_keep_38 rfl rfl ?_
    refine zg_bipush dX9_keep_39 zkb_9 ?_
    refine zg_icmp_ge (tgt := 67) dX9_keep_41 (by decide) (fun hc => ?_) (fun hc => ?_)
    · replace h := (if_pos hc).symm.trans h
      refine zg_iconst dX9_keep_67 zki_1 ?_
      obtain ⟨rfl, rfl⟩ := z_ret2 h
      exact zg_zret rfl dX9_keep_68
    · replace h := (if_neg hc).symm.trans h
      refine zg_aload_n 0 dX9_keep_44 rfl rfl ?_
      refine zo_getr 66 26 rfl fl_X9_101 zt_39 rfl dX9_keep_45 ?_
      refine zg_bipush dX9_keep_48 zkb_9 ?_
      refine zg_iload_n 1 dX9_keep_50 rfl rfl ?_
      refine zg_imul dX9_keep_51 ?_
      refine zg_iload_n 2 dX9_keep_52 rfl rfl ?_
      refine zg_iadd dX9_keep_53 ?_
      refine zg_aload_n 0 dX9_keep_54 rfl rfl ?_
      refine zo_getr 41 1 rfl fl_X9_24 zt_39 rfl dX9_keep_55 ?_
      refine zg_iload_n 2 dX9_keep_58 rfl rfl ?_
      obtain ⟨x1, hx1, h⟩ := z_bind h
      refine zo_iald zt_41 hx1 dX9_keep_59 ?_
      obtain ⟨M2, hM2, h⟩ := z_bind h
      refine zo_iast zt_66 hM2 dX9_keep_60 ?_
      refine zg_iinc (ls' := [(0, .ref 39), (1, .int v1), (2, .int (v2 + (1 : Int32)))]) 2 dX9_keep_61 rfl zki_1 (Nat.le_of_ble_eq_true rfl) rfl ?_
      refine zg_goto (tgt := 38) dX9_keep_64 (by decide) ?_
      exact ih _ _ _ h
set_option maxRecDepth 20000 in
set_option maxHeartbeats 4000000 in
theorem k_X9_keep {v1 : Int32} {M : zM} {r1 : Int32} {Mr : zM} (h : f9_keep v1 M = some (r1, Mr)) : zK ztops yX9_keep cX9_keep 3 (some .boolean) 2 [.ref 39, .int v1] M (some (.int r1)) Mr := by
  refine zK_of pl_X9 (Nat.le_of_ble_eq_true rfl) ?_
  show zJ ztops RX9 cX9_keep 3 _ 0 0 0 [(0, .ref 39), (1, .int v1)] [] M
  rw [f9_keep] at h
  refine zg_aload_n 0 dX9_keep_0 rfl rfl ?_
  refine zg_iconst dX9_keep_1 zki_0 ?_
  refine zg_puti fp_X9_3 zt_39 rfl dX9_keep_2 ?_
  refine zg_iload_n 1 dX9_keep_5 rfl rfl ?_
  refine zg_i2l dX9_keep_6 ?_
  refine zg_lconst dX9_keep_7 (v := 0) rfl ?_
  refine zg_ldc2 kc_X9_437 dX9_keep_8 ?_
  obtain ⟨x1, hx1, h⟩ := z_bind h
  refine zg_callS (st := []) (k_X9_in hx1) zY_X9_in ls_X9_104 rfl (zfit_m (by decide) (by decide)) (Nat.le_of_ble_eq_true rfl) dX9_keep_11 rfl ?_
  refine zg_if_ne (tgt := 19) dX9_keep_14 (by decide) (fun hc => ?_) (fun hc => ?_)
  · replace h := (if_neg hc).symm.trans h
    refine zg_aload_n 0 dX9_keep_19 rfl rfl ?_
    refine zo_getr 64 24 rfl fl_X9_95 zt_39 rfl dX9_keep_20 ?_
    refine zg_iload_n 1 dX9_keep_23 rfl rfl ?_
    refine zg_iconst dX9_keep_24 zki_1 ?_
    obtain ⟨M2, hM2, h⟩ := z_bind h
    refine zo_zast zt_64 hM2 dX9_keep_25 ?_
    refine zg_aload_n 0 dX9_keep_26 rfl rfl ?_
    refine zo_getr 65 25 rfl fl_X9_98 zt_39 rfl dX9_keep_27 ?_
    refine zg_iload_n 1 dX9_keep_30 rfl rfl ?_
    refine zg_aload_n 0 dX9_keep_31 rfl rfl ?_
    refine zg_geti fl_X9_201 zt_39 rfl dX9_keep_32 ?_
    obtain ⟨M3, hM3, h⟩ := z_bind h
    refine zo_iast zt_65 hM3 dX9_keep_35 ?_
    refine zg_iconst dX9_keep_36 zki_0 ?_
    refine zg_istore_n (ls' := [(0, .ref 39), (1, .int v1), (2, .int (0 : Int32))]) dX9_keep_37 rfl (Nat.le_of_ble_eq_true rfl) rfl ?_
    exact g9_keep_38 zfuel _ _ _ h
  · replace h := (if_pos hc).symm.trans h
    refine zg_iconst dX9_keep_17 zki_0 ?_
    obtain ⟨rfl, rfl⟩ := z_ret2 h
    exact zg_zret rfl dX9_keep_18
set_option maxRecDepth 20000 in
set_option maxHeartbeats 4000000 in
theorem g9_again_43 {r1 : Int32} {Mr : zM} : ∀ (n : Nat) (v1 : Int32) (v2 : Int32) (M : zM), f9_again_43 n v1 v2 M = some (r1, Mr) → zJ ztops RX9 cX9_again 3 (zBm ztops 2 (some .boolean) (some (.int r1)) Mr) 0 0 43 [(0, .ref 39), (1, .int v1), (2, .int v2)] [] M := by
  intro n
  induction n with
  | zero => intro v1 v2 M h; cases h
  | succ n ih =>
    intro v1 v2 M h
    rw [f9_again_43] at h
    refine zg_iload_n 2 dX9_again_43 rfl rfl ?_
    refine zg_bipush dX9_again_44 zkb_9 ?_
    refine zg_icmp_ge (tgt := 72) dX9_again_46 (by decide) (fun hc => ?_) (fun hc => ?_)
    · replace h := (if_pos hc).symm.trans h
      refine zg_aload_n 0 dX9_again_72 rfl rfl ?_
      refine zg_iconst dX9_again_73 zki_0 ?_
      refine zg_puti fp_X9_198 zt_39 rfl dX9_again_74 ?_
      refine zg_iconst dX9_again_77 zki_1 ?_
      obtain ⟨rfl, rfl⟩ := z_ret2 h
      exact zg_zret rfl dX9_again_78
    · replace h := (if_neg hc).symm.trans h
      refine zg_aload_n 0 dX9_again_49 rfl rfl ?_
      refine zo_getr 41 1 rfl fl_X9_24 zt_39 rfl dX9_again_50 ?_
      refine zg_iload_n 2 dX9_again_53 rfl rfl ?_
      refine zg_aload_n 0 dX9_again_54 rfl rfl ?_
      refine zo_getr 66 26 rfl fl_X9_101 zt_39 rfl dX9_again_55 ?_
      refine zg_bipush dX9_again_58 zkb_9 ?_
      refine zg_iload_n 1 dX9_again_60 rfl rfl ?_
      refine zg_imul dX9_again_61 ?_
      refine zg_iload_n 2 dX9_again_62 rfl rfl ?_
      refine zg_iadd dX9_again_63 ?_
      obtain ⟨x1, hx1, h⟩ := z_bind h
      refine zo_iald zt_66 hx1 dX9_again_64 ?_
      obtain ⟨M2, hM2, h⟩ := z_bind h
      refine zo_iast zt_41 hM2 dX9_again_65 ?_
      refine zg_iinc (ls' := [(0, .ref 39), (1, .int v1), (2, .int (v2 + (1 : Int32)))]) 2 dX9_again_66 rfl zki_1 (Nat.le_of_ble_eq_true rfl) rfl ?_
      refine zg_goto (tgt := 43) dX9_again_69 (by decide) ?_
      exact ih _ _ _ h
set_option maxRecDepth 20000 in
set_option maxHeartbeats 4000000 in
theorem k_X9_again {v1 : Int32} {M : zM} {r1 : Int32} {Mr : zM} (h : f9_again v1 M = some (r1, Mr)) : zK ztops yX9_again cX9_again 3 (some .boolean) 2 [.ref 39, .int v1] M (some (.int r1)) Mr := by
  refine zK_of pl_X9 (Nat.le_of_ble_eq_true rfl) ?_
  show zJ ztops RX9 cX9_again 3 _ 0 0 0 [(0, .ref 39), (1, .int v1)] [] M
  rw [f9_again] at h
  refine zg_aload_n 0 dX9_again_0 rfl rfl ?_
  refine zg_iconst dX9_again_1 zki_0 ?_
  refine zg_puti fp_X9_3 zt_39 rfl dX9_again_2 ?_
  refine zg_iload_n 1 dX9_again_5 rfl rfl ?_
  refine zg_i2l dX9_again_6 ?_
  refine zg_lconst dX9_again_7 (v := 0) rfl ?_
  refine zg_ldc2 kc_X9_437 dX9_again_8 ?_
  obtain ⟨x1, hx1, h⟩ := z_bind h
  refine zg_callS (st := []) (k_X9_in hx1) zY_X9_in ls_X9_104 rfl (zfit_m (by decide) (by decide)) (Nat.le_of_ble_eq_true rfl) dX9_again_11 rfl ?_
  refine zg_if_eq (tgt := 39) dX9_again_14 (by decide) (fun hc => ?_) (fun hc => ?_)
  · replace h := (if_pos hc).symm.trans h
    refine zg_iconst dX9_again_39 zki_0 ?_
    obtain ⟨rfl, rfl⟩ := z_ret2 h
    exact zg_zret rfl dX9_again_40
  · replace h := (if_neg hc).symm.trans h
    refine zg_aload_n 0 dX9_again_17 rfl rfl ?_
    refine zo_getr 64 24 rfl fl_X9_95 zt_39 rfl dX9_again_18 ?_
    refine zg_iload_n 1 dX9_again_21 rfl rfl ?_
    obtain ⟨x2, hx2, h⟩ := z_bind h
    refine zo_zald zt_64 hx2 dX9_again_22 ?_
    refine zg_if_eq (tgt := 39) dX9_again_23 (by decide) (fun hc => ?_) (fun hc => ?_)
    · replace h := (if_pos hc).symm.trans h
      refine zg_iconst dX9_again_39 zki_0 ?_
      obtain ⟨rfl, rfl⟩ := z_ret2 h
      exact zg_zret rfl dX9_again_40
    · replace h := (if_neg hc).symm.trans h
      refine zg_aload_n 0 dX9_again_26 rfl rfl ?_
      refine zo_getr 65 25 rfl fl_X9_98 zt_39 rfl dX9_again_27 ?_
      refine zg_iload_n 1 dX9_again_30 rfl rfl ?_
      obtain ⟨x3, hx3, h⟩ := z_bind h
      refine zo_iald zt_65 hx3 dX9_again_31 ?_
      refine zg_aload_n 0 dX9_again_32 rfl rfl ?_
      refine zg_geti fl_X9_201 zt_39 rfl dX9_again_33 ?_
      refine zg_icmp_eq (tgt := 41) dX9_again_36 (by decide) (fun hc => ?_) (fun hc => ?_)
      · replace h := (if_pos hc).symm.trans h
        refine zg_iconst dX9_again_41 zki_0 ?_
        refine zg_istore_n (ls' := [(0, .ref 39), (1, .int v1), (2, .int (0 : Int32))]) dX9_again_42 rfl (Nat.le_of_ble_eq_true rfl) rfl ?_
        exact g9_again_43 zfuel _ _ _ h
      · replace h := (if_neg hc).symm.trans h
        refine zg_iconst dX9_again_39 zki_0 ?_
        obtain ⟨rfl, rfl⟩ := z_ret2 h
        exact zg_zret rfl dX9_again_40
set_option maxRecDepth 20000 in
set_option maxHeartbeats 4000000 in
theorem k_X9_count {v1 : Int32} {M : zM} {r1 : Int32} {Mr : zM} (h : f9_count v1 M = some (r1, Mr)) : zK ztops yX9_count cX9_count 2 (some .int) 3 [.ref 39, .int v1] M (some (.int r1)) Mr := by
  refine zK_of pl_X9 (Nat.le_of_ble_eq_true rfl) ?_
  show zJ ztops RX9 cX9_count 2 _ 0 0 0 [(0, .ref 39), (1, .int v1)] [] M
  rw [f9_count] at h
  refine zg_aload_n 0 dX9_count_0 rfl rfl ?_
  refine zg_iconst dX9_count_1 zki_0 ?_
  refine zg_puti fp_X9_3 zt_39 rfl dX9_count_2 ?_
  refine zg_iload_n 1 dX9_count_5 rfl rfl ?_
  by_cases hc1 : v1 = (0 : Int32)
  · replace h := (if_pos hc1).symm.trans h
    refine zg_tableEq (k := 0) (off := 46) (tgt := 52) dX9_count_6 hc1 (by decide) (by decide) (by decide) (by decide) ?_
    refine zg_aload_n 0 dX9_count_52 rfl rfl ?_
    refine zo_getr 41 1 rfl fl_X9_24 zt_39 rfl dX9_count_53 ?_
    refine zg_bipush dX9_count_56 zkb_6 ?_
    refine zo_ialdc 6 zt_41 (by decide) rfl dX9_count_58 ?_
    obtain ⟨rfl, rfl⟩ := z_ret2 h
    exact zg_iret dX9_count_59
  replace h := (if_neg hc1).symm.trans h
  by_cases hc2 : v1 = (1 : Int32)
  · replace h := (if_pos hc2).symm.trans h
    refine zg_tableEq (k := 1) (off := 54) (tgt := 60) dX9_count_6 hc2 (by decide) (by decide) (by decide) (by decide) ?_
    refine zg_aload_n 0 dX9_count_60 rfl rfl ?_
    refine zo_getr 41 1 rfl fl_X9_24 zt_39 rfl dX9_count_61 ?_
    refine zg_bipush dX9_count_64 zkb_7 ?_
    refine zo_ialdc 7 zt_41 (by decide) rfl dX9_count_66 ?_
    obtain ⟨rfl, rfl⟩ := z_ret2 h
    exact zg_iret dX9_count_67
  replace h := (if_neg hc2).symm.trans h
  by_cases hc3 : v1 = (2 : Int32)
  · replace h := (if_pos hc3).symm.trans h
    refine zg_tableEq (k := 2) (off := 62) (tgt := 68) dX9_count_6 hc3 (by decide) (by decide) (by decide) (by decide) ?_
    refine zg_aload_n 0 dX9_count_68 rfl rfl ?_
    refine zo_getr 41 1 rfl fl_X9_24 zt_39 rfl dX9_count_69 ?_
    refine zg_bipush dX9_count_72 zkb_8 ?_
    refine zo_ialdc 8 zt_41 (by decide) rfl dX9_count_74 ?_
    obtain ⟨rfl, rfl⟩ := z_ret2 h
    exact zg_iret dX9_count_75
  replace h := (if_neg hc3).symm.trans h
  by_cases hc4 : v1 = (3 : Int32)
  · replace h := (if_pos hc4).symm.trans h
    refine zg_tableEq (k := 3) (off := 70) (tgt := 76) dX9_count_6 hc4 (by decide) (by decide) (by decide) (by decide) ?_
    refine zg_aload_n 0 dX9_count_76 rfl rfl ?_
    refine zo_getr 41 1 rfl fl_X9_24 zt_39 rfl dX9_count_77 ?_
    obtain ⟨x1, hx1, h⟩ := z_bind h
    refine zg_callS (st := []) (k_X9_overs zt_41 hx1) zY_X9_overs ls_X9_300 rfl (zfit_m (by decide) (by decide)) (Nat.le_of_ble_eq_true rfl) dX9_count_80 rfl ?_
    obtain ⟨rfl, rfl⟩ := z_ret2 h
    exact zg_iret dX9_count_83
  replace h := (if_neg hc4).symm.trans h
  by_cases hc5 : v1 = (4 : Int32)
  · replace h := (if_pos hc5).symm.trans h
    refine zg_tableEq (k := 4) (off := 78) (tgt := 84) dX9_count_6 hc5 (by decide) (by decide) (by decide) (by decide) ?_
    refine zg_aload_n 0 dX9_count_84 rfl rfl ?_
    refine zg_geti fl_X9_413 zt_39 rfl dX9_count_85 ?_
    obtain ⟨rfl, rfl⟩ := z_ret2 h
    exact zg_iret dX9_count_88
  replace h := (if_neg hc5).symm.trans h
  by_cases hc6 : v1 = (5 : Int32)
  · replace h := (if_pos hc6).symm.trans h
    refine zg_tableEq (k := 5) (off := 83) (tgt := 89) dX9_count_6 hc6 (by decide) (by decide) (by decide) (by decide) ?_
    refine zg_aload_n 0 dX9_count_89 rfl rfl ?_
    refine zg_geti fl_X9_198 zt_39 rfl dX9_count_90 ?_
    obtain ⟨rfl, rfl⟩ := z_ret2 h
    exact zg_iret dX9_count_93
  replace h := (if_neg hc6).symm.trans h
  by_cases hc7 : v1 = (6 : Int32)
  · replace h := (if_pos hc7).symm.trans h
    refine zg_tableEq (k := 6) (off := 88) (tgt := 94) dX9_count_6 hc7 (by decide) (by decide) (by decide) (by decide) ?_
    refine zg_aload_n 0 dX9_count_94 rfl rfl ?_
    refine zg_geti fl_X9_15 zt_39 rfl dX9_count_95 ?_
    obtain ⟨rfl, rfl⟩ := z_ret2 h
    exact zg_iret dX9_count_98
  replace h := (if_neg hc7).symm.trans h
  by_cases hc8 : v1 = (7 : Int32)
  · replace h := (if_pos hc8).symm.trans h
    refine zg_tableEq (k := 7) (off := 93) (tgt := 99) dX9_count_6 hc8 (by decide) (by decide) (by decide) (by decide) ?_
    refine zg_aload_n 0 dX9_count_99 rfl rfl ?_
    refine zg_geti fl_X9_144 zt_39 rfl dX9_count_100 ?_
    obtain ⟨rfl, rfl⟩ := z_ret2 h
    exact zg_iret dX9_count_103
  replace h := (if_neg hc8).symm.trans h
  refine zg_tableOut (tgt := 104) dX9_count_6 (z_tout 8 (fun j hj => by match j, hj with | 0, _ => exact hc1 | 1, _ => exact hc2 | 2, _ => exact hc3 | 3, _ => exact hc4 | 4, _ => exact hc5 | 5, _ => exact hc6 | 6, _ => exact hc7 | 7, _ => exact hc8 | j + 8, hj => exact absurd hj (by omega)) (by decide)) (by decide) ?_
  refine zg_bipush dX9_count_104 zkb_m100 ?_
  obtain ⟨rfl, rfl⟩ := z_ret2 h
  exact zg_iret dX9_count_106
set_option maxRecDepth 20000 in
set_option maxHeartbeats 4000000 in
theorem k_X9_row {v1 : Int32} {M : zM} {r1 : Int64} {Mr : zM} (h : f9_row v1 M = some (r1, Mr)) : zK ztops yX9_row cX9_row 2 (some .long) 2 [.ref 39, .int v1] M (some (.long r1)) Mr := by
  refine zK_of pl_X9 (Nat.le_of_ble_eq_true rfl) ?_
  show zJ ztops RX9 cX9_row 2 _ 0 0 0 [(0, .ref 39), (1, .int v1)] [] M
  rw [f9_row] at h
  refine zg_aload_n 0 dX9_row_0 rfl rfl ?_
  refine zg_iconst dX9_row_1 zki_0 ?_
  refine zg_puti fp_X9_3 zt_39 rfl dX9_row_2 ?_
  refine zg_iload_n 1 dX9_row_5 rfl rfl ?_
  refine zg_i2l dX9_row_6 ?_
  refine zg_lconst dX9_row_7 (v := 0) rfl ?_
  refine zg_aload_n 0 dX9_row_8 rfl rfl ?_
  refine zg_geti fl_X9_15 zt_39 rfl dX9_row_9 ?_
  refine zg_iconst dX9_row_12 zki_1 ?_
  refine zg_isub dX9_row_13 ?_
  refine zg_i2l dX9_row_14 ?_
  obtain ⟨x1, hx1, h⟩ := z_bind h
  refine zg_callS (st := []) (k_X9_in hx1) zY_X9_in ls_X9_104 rfl (zfit_m (by decide) (by decide)) (Nat.le_of_ble_eq_true rfl) dX9_row_15 rfl ?_
  refine zg_if_ne (tgt := 28) dX9_row_18 (by decide) (fun hc => ?_) (fun hc => ?_)
  · replace h := (if_neg hc).symm.trans h
    refine zg_aload_n 0 dX9_row_28 rfl rfl ?_
    refine zo_getr 40 0 rfl fl_X9_11 zt_39 rfl dX9_row_29 ?_
    refine zg_iload_n 1 dX9_row_32 rfl rfl ?_
    obtain ⟨x2, hx2, h⟩ := z_bind h
    refine zo_lald zt_40 hx2 dX9_row_33 ?_
    obtain ⟨rfl, rfl⟩ := z_ret2 h
    exact zg_lret dX9_row_34
  · replace h := (if_pos hc).symm.trans h
    refine zg_aload_n 0 dX9_row_21 rfl rfl ?_
    refine zg_iconst dX9_row_22 zki_1 ?_
    refine zg_puti fp_X9_3 zt_39 rfl dX9_row_23 ?_
    refine zg_lconst dX9_row_26 (v := 0) rfl ?_
    obtain ⟨rfl, rfl⟩ := z_ret2 h
    exact zg_lret dX9_row_27
set_option maxRecDepth 20000 in
set_option maxHeartbeats 4000000 in
theorem g0_tie_2 {a1 : Nat} (h1 : zWv ztops a1) {Mr : zM} : ∀ (n : Nat) (v2 : Int32) (M : zM), f0_tie_2 a1 n v2 M = some Mr → zJ ztops RX0 cX0_tie 3 (zBm ztops 2 (none) none Mr) 0 0 2 [(0, .ref 21), (1, .ref a1), (2, .int v2)] [] M := by
  intro n
  induction n with
  | zero => intro v2 M h; cases h
  | succ n ih =>
    intro v2 M h
    rw [f0_tie_2] at h
    refine zg_iload_n 2 dX0_tie_2 rfl rfl ?_
    refine zg_bipush dX0_tie_3 zkb_6 ?_
    refine zg_icmp_ge (tgt := 86) dX0_tie_5 (by decide) (fun hc => ?_) (fun hc => ?_)
    · replace h := (if_pos hc).symm.trans h
      obtain rfl := z_ret1 h
      exact zg_vret dX0_tie_86
    · replace h := (if_neg hc).symm.trans h
      refine zg_aload_n 0 dX0_tie_8 rfl rfl ?_
      refine zo_getr 22 0 rfl fl_X0_9 zt_21 rfl dX0_tie_9 ?_
      refine zg_iload_n 2 dX0_tie_12 rfl rfl ?_
      refine zg_aload_n 1 dX0_tie_13 rfl rfl ?_
      refine zg_iconst dX0_tie_14 zki_0 ?_
      refine zg_iload_n 2 dX0_tie_15 rfl rfl ?_
      obtain ⟨x1, hx1, h⟩ := z_bind h
      refine zg_callV (st := [.int v2, .ref 22]) (k_X7_cellsOf h1 hx1) zY_X7_cellsOf lv_X0_32 rfl h1.1 rfl (zfit_m (by decide) (by decide)) (Nat.le_of_ble_eq_true rfl) dX0_tie_16 rfl ?_
      refine zg_bipush dX0_tie_19 zkb_6 ?_
      refine zg_ishl dX0_tie_21 ?_
      obtain ⟨M2, hM2, h⟩ := z_bind h
      refine zo_iast zt_22 hM2 dX0_tie_22 ?_
      refine zg_aload_n 0 dX0_tie_23 rfl rfl ?_
      refine zo_getr 23 1 rfl fl_X0_15 zt_21 rfl dX0_tie_24 ?_
      refine zg_iload_n 2 dX0_tie_27 rfl rfl ?_
      refine zg_aload_n 1 dX0_tie_28 rfl rfl ?_
      refine zg_iconst dX0_tie_29 zki_0 ?_
      refine zg_iload_n 2 dX0_tie_30 rfl rfl ?_
      obtain ⟨x3, hx3, h⟩ := z_bind h
      refine zg_callV (st := [.int v2, .ref 23]) (k_X7_cellsOf h1 hx3) zY_X7_cellsOf lv_X0_32 rfl h1.1 rfl (zfit_m (by decide) (by decide)) (Nat.le_of_ble_eq_true rfl) dX0_tie_31 rfl ?_
      refine zg_aload_n 1 dX0_tie_34 rfl rfl ?_
      refine zg_iconst dX0_tie_35 zki_0 ?_
      obtain ⟨x4, hx4, h⟩ := z_bind h
      refine zg_callV (st := [.int x3, .int v2, .ref 23]) (k_X7_fullOf h1 hx4) zY_X7_fullOf lv_X0_38 rfl h1.1 rfl (zfit_m (by decide) (by decide)) (Nat.le_of_ble_eq_true rfl) dX0_tie_36 rfl ?_
      refine zg_ixor dX0_tie_39 ?_
      refine zg_bipush dX0_tie_40 zkb_6 ?_
      refine zg_ishl dX0_tie_42 ?_
      obtain ⟨M5, hM5, h⟩ := z_bind h
      refine zo_iast zt_23 hM5 dX0_tie_43 ?_
      refine zg_aload_n 0 dX0_tie_44 rfl rfl ?_
      refine zo_getr 22 0 rfl fl_X0_9 zt_21 rfl dX0_tie_45 ?_
      refine zg_bipush dX0_tie_48 zkb_6 ?_
      refine zg_iload_n 2 dX0_tie_50 rfl rfl ?_
      refine zg_iadd dX0_tie_51 ?_
      refine zg_aload_n 1 dX0_tie_52 rfl rfl ?_
      refine zg_iconst dX0_tie_53 zki_1 ?_
      refine zg_iload_n 2 dX0_tie_54 rfl rfl ?_
      obtain ⟨x6, hx6, h⟩ := z_bind h
      refine zg_callV (st := [.int ((6 : Int32) + v2), .ref 22]) (k_X7_cellsOf h1 hx6) zY_X7_cellsOf lv_X0_32 rfl h1.1 rfl (zfit_m (by decide) (by decide)) (Nat.le_of_ble_eq_true rfl) dX0_tie_55 rfl ?_
      obtain ⟨M7, hM7, h⟩ := z_bind h
      refine zo_iast zt_22 hM7 dX0_tie_58 ?_
      refine zg_aload_n 0 dX0_tie_59 rfl rfl ?_
      refine zo_getr 23 1 rfl fl_X0_15 zt_21 rfl dX0_tie_60 ?_
      refine zg_bipush dX0_tie_63 zkb_6 ?_
      refine zg_iload_n 2 dX0_tie_65 rfl rfl ?_
      refine zg_iadd dX0_tie_66 ?_
      refine zg_aload_n 1 dX0_tie_67 rfl rfl ?_
      refine zg_iconst dX0_tie_68 zki_1 ?_
      refine zg_iload_n 2 dX0_tie_69 rfl rfl ?_
      obtain ⟨x8, hx8, h⟩ := z_bind h
      refine zg_callV (st := [.int ((6 : Int32) + v2), .ref 23]) (k_X7_cellsOf h1 hx8) zY_X7_cellsOf lv_X0_32 rfl h1.1 rfl (zfit_m (by decide) (by decide)) (Nat.le_of_ble_eq_true rfl) dX0_tie_70 rfl ?_
      refine zg_aload_n 1 dX0_tie_73 rfl rfl ?_
      refine zg_iconst dX0_tie_74 zki_1 ?_
      obtain ⟨x9, hx9, h⟩ := z_bind h
      refine zg_callV (st := [.int x8, .int ((6 : Int32) + v2), .ref 23]) (k_X7_fullOf h1 hx9) zY_X7_fullOf lv_X0_38 rfl h1.1 rfl (zfit_m (by decide) (by decide)) (Nat.le_of_ble_eq_true rfl) dX0_tie_75 rfl ?_
      refine zg_ixor dX0_tie_78 ?_
      obtain ⟨M10, hM10, h⟩ := z_bind h
      refine zo_iast zt_23 hM10 dX0_tie_79 ?_
      refine zg_iinc (ls' := [(0, .ref 21), (1, .ref a1), (2, .int (v2 + (1 : Int32)))]) 2 dX0_tie_80 rfl zki_1 (Nat.le_of_ble_eq_true rfl) rfl ?_
      refine zg_goto (tgt := 2) dX0_tie_83 (by decide) ?_
      exact ih _ _ h
set_option maxRecDepth 20000 in
set_option maxHeartbeats 4000000 in
theorem k_X0_tie {a1 : Nat} (h1 : zWv ztops a1) {M : zM} {Mr : zM} (h : f0_tie a1 M = some Mr) : zK ztops yX0_tie cX0_tie 3 (none) 2 [.ref 21, .ref a1] M none Mr := by
  refine zK_of pl_X0 (Nat.le_of_ble_eq_true rfl) ?_
  show zJ ztops RX0 cX0_tie 3 _ 0 0 0 [(0, .ref 21), (1, .ref a1)] [] M
  rw [f0_tie] at h
  refine zg_iconst dX0_tie_0 zki_0 ?_
  refine zg_istore_n (ls' := [(0, .ref 21), (1, .ref a1), (2, .int (0 : Int32))]) dX0_tie_1 rfl (Nat.le_of_ble_eq_true rfl) rfl ?_
  exact g0_tie_2 h1 zfuel _ _ h
set_option maxRecDepth 20000 in
set_option maxHeartbeats 4000000 in
theorem k_X0_isTogether {a1 : Nat} (h1 : zWv ztops a1) {M : zM} {r1 : Int32} {Mr : zM} (h : f0_isTogether a1 M = some (r1, Mr)) : zK ztops yX0_isTogether cX0_isTogether 2 (some .boolean) 4 [.ref 21, .ref a1] M (some (.int r1)) Mr := by
  refine zK_of pl_X0 (Nat.le_of_ble_eq_true rfl) ?_
  show zJ ztops RX0 cX0_isTogether 2 _ 0 0 0 [(0, .ref 21), (1, .ref a1)] [] M
  rw [f0_isTogether] at h
  refine zg_aload_n 0 dX0_isTogether_0 rfl rfl ?_
  refine zg_aload_n 1 dX0_isTogether_1 rfl rfl ?_
  obtain ⟨M1, hM1, h⟩ := z_bind h
  refine zg_callV (st := []) (k_X0_tie h1 hM1) zY_X0_tie lv_X0_51 rfl zt_21 rfl (zfit_m (by decide) (by decide)) (Nat.le_of_ble_eq_true rfl) dX0_isTogether_2 rfl ?_
  refine zg_aload_n 0 dX0_isTogether_5 rfl rfl ?_
  refine zg_aload_n 1 dX0_isTogether_6 rfl rfl ?_
  obtain ⟨x2, hx2, h⟩ := z_bind h
  refine zg_callV (st := [.ref 21]) (k_X7_all h1 hx2) zY_X7_all lv_X0_55 rfl h1.1 rfl (zfit_m (by decide) (by decide)) (Nat.le_of_ble_eq_true rfl) dX0_isTogether_7 rfl ?_
  obtain ⟨x3, hx3, h⟩ := z_bind h
  refine zg_callV (st := []) (k_X0_areTogether hx3) zY_X0_areTogether lv_X0_59 rfl zt_21 rfl (zfit_m (by decide) (by decide)) (Nat.le_of_ble_eq_true rfl) dX0_isTogether_10 rfl ?_
  obtain ⟨x4, hx4, h⟩ := z_bind h
  obtain ⟨rfl, hzx4⟩ := zbl_ok hx4
  obtain ⟨rfl, rfl⟩ := z_ret2 h
  exact zg_zret hzx4 dX0_isTogether_13
set_option maxRecDepth 20000 in
set_option maxHeartbeats 4000000 in
theorem g0_tabulate_93 {a1 : Nat} (h1 : zWv ztops a1) {Mr : zM} {k53 : Int32 → Int32 → Int32 → zM → Option zM} (hk53 : ∀ (v4 : Int32) (v5 : Int32) (v6 : Int32) (M : zM), k53 v4 v5 v6 M = some Mr → zJ ztops RX0 cX0_tabulate 7 (zBm ztops 4 (none) none Mr) 0 0 53 [(0, .ref 21), (4, .int v4), (5, .int v5), (6, .int v6)] [] M) : ∀ (v4 : Int32) (v5 : Int32) (v6 : Int32) (M : zM), f0_tabulate_93 a1 k53 v4 v5 v6 M = some Mr → zJ ztops RX0 cX0_tabulate 7 (zBm ztops 4 (none) none Mr) 0 0 93 [(0, .ref 21), (4, .int v4), (5, .int v5), (6, .int v6)] [] M := by
  intro v4 v5 v6 M h
  rw [f0_tabulate_93] at h
  refine zg_iload 2 dX0_tabulate_93 rfl ?_
  refine zg_iload 1 dX0_tabulate_95 rfl ?_
  refine zg_isub dX0_tabulate_97 ?_
  refine zg_iload 1 dX0_tabulate_98 rfl ?_
  refine zg_iand dX0_tabulate_100 ?_
  refine zg_istore (ls' := [(0, .ref 21), (4, .int v4), (5, .int ((v5 - v4) &&& v4)), (6, .int v6)]) dX0_tabulate_101 (Nat.le_of_ble_eq_true rfl) rfl ?_
  refine zg_iload 2 dX0_tabulate_103 rfl ?_
  refine zg_if_ne (tgt := 111) dX0_tabulate_105 (by decide) (fun hc => ?_) (fun hc => ?_)
  · replace h := (if_neg hc).symm.trans h
    refine zg_iinc (ls' := [(0, .ref 21), (4, .int v4), (5, .int ((v5 - v4) &&& v4)), (6, .int (v6 + (1 : Int32)))]) 3 dX0_tabulate_111 rfl zki_1 (Nat.le_of_ble_eq_true rfl) rfl ?_
    refine zg_goto (tgt := 53) dX0_tabulate_114 (by decide) ?_
    exact hk53 _ _ _ _ h
  · replace h := (if_pos hc).symm.trans h
    refine zg_goto (tgt := 117) dX0_tabulate_108 (by decide) ?_
    obtain rfl := z_ret1 h
    exact zg_vret dX0_tabulate_117
set_option maxRecDepth 20000 in
set_option maxHeartbeats 4000000 in
theorem g0_tabulate_53 {a1 : Nat} (h1 : zWv ztops a1) {Mr : zM} : ∀ (n : Nat) (v4 : Int32) (v5 : Int32) (v6 : Int32) (M : zM), f0_tabulate_53 a1 n v4 v5 v6 M = some Mr → zJ ztops RX0 cX0_tabulate 7 (zBm ztops 4 (none) none Mr) 0 0 53 [(0, .ref 21), (4, .int v4), (5, .int v5), (6, .int v6)] [] M := by
  intro n
  induction n with
  | zero => intro v4 v5 v6 M h; cases h
  | succ n ih =>
    intro v4 v5 v6 M h
    rw [f0_tabulate_53] at h
    refine zg_iload 3 dX0_tabulate_53 rfl ?_
    refine zg_sipush dX0_tabulate_55 zks_4096 ?_
    refine zg_icmp_ge (tgt := 117) dX0_tabulate_58 (by decide) (fun hc => ?_) (fun hc => ?_)
    · replace h := (if_pos hc).symm.trans h
      obtain rfl := z_ret1 h
      exact zg_vret dX0_tabulate_117
    · replace h := (if_neg hc).symm.trans h
      refine zg_aload_n 0 dX0_tabulate_61 rfl rfl ?_
      refine zg_iload 2 dX0_tabulate_62 rfl ?_
      obtain ⟨x1, hx1, h⟩ := z_bind h
      refine zg_callV (st := []) (k_X0_areTogether hx1) zY_X0_areTogether lv_X0_59 rfl zt_21 rfl (zfit_m (by decide) (by decide)) (Nat.le_of_ble_eq_true rfl) dX0_tabulate_64 rfl ?_
      refine zg_if_eq (tgt := 93) dX0_tabulate_67 (by decide) (fun hc => ?_) (fun hc => ?_)
      · replace h := (if_pos hc).symm.trans h
        exact g0_tabulate_93 h1 (fun u0 u1 u2 u3 h => ih u0 u1 u2 u3 h) _ _ _ _ h
      · replace h := (if_neg hc).symm.trans h
        refine zg_aload_n 0 dX0_tabulate_70 rfl rfl ?_
        refine zo_getr 24 2 rfl fl_X0_18 zt_21 rfl dX0_tabulate_71 ?_
        refine zg_iload 2 dX0_tabulate_74 rfl ?_
        obtain ⟨M2, hM2, h⟩ := z_bind h
        refine zg_callS (st := []) (k_X0_mark zt_24 hM2) zY_X0_mark ls_X0_76 rfl (zfit_m (by decide) (by decide)) (Nat.le_of_ble_eq_true rfl) dX0_tabulate_76 rfl ?_
        refine zg_aload_n 0 dX0_tabulate_79 rfl rfl ?_
        refine zo_getr 26 4 rfl fl_X0_25 zt_21 rfl dX0_tabulate_80 ?_
        refine zg_iload 2 dX0_tabulate_83 rfl ?_
        obtain ⟨x3, hx3, h⟩ := z_bind h
        refine zg_callS (st := [.ref 26]) (k_J6_bitCount_0f7a4 hx3) zY_J6_bitCount_0f7a4 ls_X0_42 rfl (zfit_m (by decide) (by decide)) (Nat.le_of_ble_eq_true rfl) dX0_tabulate_85 rfl ?_
        refine zg_dup2 dX0_tabulate_88 rfl rfl ?_
        obtain ⟨x4, hx4, h⟩ := z_bind h
        refine zo_iald zt_26 hx4 dX0_tabulate_89 ?_
        refine zg_iconst dX0_tabulate_90 zki_1 ?_
        refine zg_iadd dX0_tabulate_91 ?_
        obtain ⟨M5, hM5, h⟩ := z_bind h
        refine zo_iast zt_26 hM5 dX0_tabulate_92 ?_
        exact g0_tabulate_93 h1 (fun u0 u1 u2 u3 h => ih u0 u1 u2 u3 h) _ _ _ _ h
set_option maxRecDepth 20000 in
set_option maxHeartbeats 4000000 in
theorem k_X0_tabulate {a1 : Nat} (h1 : zWv ztops a1) {M : zM} {Mr : zM} (h : f0_tabulate a1 M = some Mr) : zK ztops yX0_tabulate cX0_tabulate 7 (none) 4 [.ref 21, .ref a1] M none Mr := by
  refine zK_of pl_X0 (Nat.le_of_ble_eq_true rfl) ?_
  show zJ ztops RX0 cX0_tabulate 7 _ 0 0 0 [(0, .ref 21), (1, .ref a1)] [] M
  rw [f0_tabulate] at h
  refine zg_aload_n 1 dX0_tabulate_0 rfl rfl ?_
  obtain ⟨x1, hx1, h⟩ := z_bind h
  refine zg_callV (st := []) (k_X7_shape h1 hx1) zY_X7_shape lv_X0_63 rfl h1.1 rfl (zfit_m (by decide) (by decide)) (Nat.le_of_ble_eq_true rfl) dX0_tabulate_1 rfl ?_
  refine zg_lstore_n (ls' := [(0, .ref 21), (1, .ref a1), (2, .long x1)]) dX0_tabulate_4 rfl (Nat.le_of_ble_eq_true rfl) rfl ?_
  refine zg_lload_n 2 dX0_tabulate_5 rfl rfl ?_
  refine zg_aload_n 0 dX0_tabulate_6 rfl rfl ?_
  refine zg_getl fl_X0_28 zt_21 rfl dX0_tabulate_7 ?_
  refine zg_lcmp dX0_tabulate_10 ?_
  refine zg_if_ne (tgt := 15) dX0_tabulate_11 (by decide) (fun hc => ?_) (fun hc => ?_)
  · replace h := (if_neg hc).symm.trans h
    refine zg_aload_n 0 dX0_tabulate_15 rfl rfl ?_
    refine zg_lload_n 2 dX0_tabulate_16 rfl rfl ?_
    refine zg_putl fp_X0_28 zt_21 rfl dX0_tabulate_17 ?_
    refine zg_aload_n 0 dX0_tabulate_20 rfl rfl ?_
    refine zg_aload_n 1 dX0_tabulate_21 rfl rfl ?_
    obtain ⟨M2, hM2, h⟩ := z_bind h
    refine zg_callV (st := []) (k_X0_tie h1 hM2) zY_X0_tie lv_X0_51 rfl zt_21 rfl (zfit_m (by decide) (by decide)) (Nat.le_of_ble_eq_true rfl) dX0_tabulate_22 rfl ?_
    refine zg_aload_n 0 dX0_tabulate_25 rfl rfl ?_
    refine zo_getr 24 2 rfl fl_X0_18 zt_21 rfl dX0_tabulate_26 ?_
    refine zg_lconst dX0_tabulate_29 (v := 0) rfl ?_
    obtain ⟨M3, hM3, h⟩ := z_bind h
    refine zg_callS (st := []) (k_J7_fill_d0a16 zt_24 hM3) zY_J7_fill_d0a16 ls_X0_67 rfl (zfit_m (by decide) (by decide)) (Nat.le_of_ble_eq_true rfl) dX0_tabulate_30 rfl ?_
    refine zg_aload_n 0 dX0_tabulate_33 rfl rfl ?_
    refine zo_getr 26 4 rfl fl_X0_25 zt_21 rfl dX0_tabulate_34 ?_
    refine zg_iconst dX0_tabulate_37 zki_0 ?_
    obtain ⟨M4, hM4, h⟩ := z_bind h
    refine zg_callS (st := []) (k_J7_fill_53178 zt_26 hM4) zY_J7_fill_53178 ls_X0_73 rfl (zfit_m (by decide) (by decide)) (Nat.le_of_ble_eq_true rfl) dX0_tabulate_38 rfl ?_
    refine zg_aload_n 1 dX0_tabulate_41 rfl rfl ?_
    obtain ⟨x5, hx5, h⟩ := z_bind h
    refine zg_callV (st := []) (k_X7_all h1 hx5) zY_X7_all lv_X0_55 rfl h1.1 rfl (zfit_m (by decide) (by decide)) (Nat.le_of_ble_eq_true rfl) dX0_tabulate_42 rfl ?_
    refine zg_istore (ls' := [(0, .ref 21), (1, .ref a1), (2, .long x1), (4, .int x5)]) dX0_tabulate_45 (Nat.le_of_ble_eq_true rfl) rfl ?_
    refine zg_iconst dX0_tabulate_47 zki_0 ?_
    refine zg_istore (ls' := [(0, .ref 21), (1, .ref a1), (2, .long x1), (4, .int x5), (5, .int (0 : Int32))]) dX0_tabulate_48 (Nat.le_of_ble_eq_true rfl) rfl ?_
    refine zg_iconst dX0_tabulate_50 zki_0 ?_
    refine zg_istore (ls' := [(0, .ref 21), (1, .ref a1), (2, .long x1), (4, .int x5), (5, .int (0 : Int32)), (6, .int (0 : Int32))]) dX0_tabulate_51 (Nat.le_of_ble_eq_true rfl) rfl ?_
    refine zo_sub (ls' := [(0, .ref 21), (4, .int x5), (5, .int (0 : Int32)), (6, .int (0 : Int32))]) [0, 3, 4, 5] rfl ?_
    exact g0_tabulate_53 h1 zfuel _ _ _ _ h
  · replace h := (if_pos hc).symm.trans h
    obtain rfl := z_ret1 h
    exact zg_vret dX0_tabulate_14
set_option maxRecDepth 20000 in
set_option maxHeartbeats 4000000 in
theorem g0_longestTaking_76 {r1 : Int32} {Mr : zM} {k39 : Int32 → Int32 → Int32 → Int32 → zM → Option (Int32 × zM)} (hk39 : ∀ (v1 : Int32) (v2 : Int32) (v3 : Int32) (v4 : Int32) (M : zM), k39 v1 v2 v3 v4 M = some (r1, Mr) → zJ ztops RX0 cX0_longestTaking 5 (zBm ztops 3 (some .int) (some (.int r1)) Mr) 0 0 39 [(0, .ref 21), (1, .int v1), (2, .int v2), (3, .int v3), (4, .int v4)] [] M) : ∀ (v1 : Int32) (v2 : Int32) (v3 : Int32) (v4 : Int32) (M : zM), f0_longestTaking_76 k39 v1 v2 v3 v4 M = some (r1, Mr) → zJ ztops RX0 cX0_longestTaking 5 (zBm ztops 3 (some .int) (some (.int r1)) Mr) 0 0 76 [(0, .ref 21), (1, .int v1), (2, .int v2), (3, .int v3), (4, .int v4)] [] M := by
  intro v1 v2 v3 v4 M h
  rw [f0_longestTaking_76] at h
  refine zg_iload_n 3 dX0_longestTaking_76 rfl rfl ?_
  refine zg_iconst dX0_longestTaking_77 zki_1 ?_
  refine zg_isub dX0_longestTaking_78 ?_
  refine zg_iload_n 1 dX0_longestTaking_79 rfl rfl ?_
  refine zg_iand dX0_longestTaking_80 ?_
  refine zg_istore_n (ls' := [(0, .ref 21), (1, .int v1), (2, .int v2), (3, .int ((v3 - (1 : Int32)) &&& v1)), (4, .int v4)]) dX0_longestTaking_81 rfl (Nat.le_of_ble_eq_true rfl) rfl ?_
  refine zg_iinc (ls' := [(0, .ref 21), (1, .int v1), (2, .int v2), (3, .int ((v3 - (1 : Int32)) &&& v1)), (4, .int (v4 + (1 : Int32)))]) 4 dX0_longestTaking_82 rfl zki_1 (Nat.le_of_ble_eq_true rfl) rfl ?_
  refine zg_goto (tgt := 39) dX0_longestTaking_85 (by decide) ?_
  exact hk39 _ _ _ _ _ h
set_option maxRecDepth 20000 in
set_option maxHeartbeats 4000000 in
theorem g0_longestTaking_88 {r1 : Int32} {Mr : zM} : ∀ (v1 : Int32) (v2 : Int32) (M : zM), f0_longestTaking_88 v1 v2 M = some (r1, Mr) → zJ ztops RX0 cX0_longestTaking 5 (zBm ztops 3 (some .int) (some (.int r1)) Mr) 0 0 88 [(1, .int v1), (2, .int v2)] [] M := by
  intro v1 v2 M h
  rw [f0_longestTaking_88] at h
  refine zg_iload_n 0 dX0_longestTaking_88 rfl rfl ?_
  obtain ⟨x1, hx1, h⟩ := z_bind h
  refine zg_callS (st := []) (k_J6_bitCount_0f7a4 hx1) zY_J6_bitCount_0f7a4 ls_X0_42 rfl (zfit_m (by decide) (by decide)) (Nat.le_of_ble_eq_true rfl) dX0_longestTaking_89 rfl ?_
  refine zg_iload_n 1 dX0_longestTaking_92 rfl rfl ?_
  refine zg_isub dX0_longestTaking_93 ?_
  obtain ⟨rfl, rfl⟩ := z_ret2 h
  exact zg_iret dX0_longestTaking_94
set_option maxRecDepth 20000 in
set_option maxHeartbeats 4000000 in
theorem g0_longestTaking_39 {r1 : Int32} {Mr : zM} : ∀ (n : Nat) (v1 : Int32) (v2 : Int32) (v3 : Int32) (v4 : Int32) (M : zM), f0_longestTaking_39 n v1 v2 v3 v4 M = some (r1, Mr) → zJ ztops RX0 cX0_longestTaking 5 (zBm ztops 3 (some .int) (some (.int r1)) Mr) 0 0 39 [(0, .ref 21), (1, .int v1), (2, .int v2), (3, .int v3), (4, .int v4)] [] M := by
  intro n
  induction n with
  | zero => intro v1 v2 v3 v4 M h; cases h
  | succ n ih =>
    intro v1 v2 v3 v4 M h
    rw [f0_longestTaking_39] at h
    refine zg_iload 4 dX0_longestTaking_39 rfl ?_
    refine zg_sipush dX0_longestTaking_41 zks_4096 ?_
    refine zg_icmp_ge (tgt := 88) dX0_longestTaking_44 (by decide) (fun hc => ?_) (fun hc => ?_)
    · replace h := (if_pos hc).symm.trans h
      refine zo_sub (ls' := [(1, .int v1), (2, .int v2)]) [1, 2] rfl ?_
      exact g0_longestTaking_88 _ _ _ h
    · replace h := (if_neg hc).symm.trans h
      refine zg_iload_n 3 dX0_longestTaking_47 rfl rfl ?_
      refine zg_if_eq (tgt := 88) dX0_longestTaking_48 (by decide) (fun hc => ?_) (fun hc => ?_)
      · replace h := (if_pos hc).symm.trans h
        refine zo_sub (ls' := [(1, .int v1), (2, .int v2)]) [1, 2] rfl ?_
        exact g0_longestTaking_88 _ _ _ h
      · replace h := (if_neg hc).symm.trans h
        refine zg_aload_n 0 dX0_longestTaking_51 rfl rfl ?_
        refine zo_getr 25 3 rfl fl_X0_22 zt_21 rfl dX0_longestTaking_52 ?_
        refine zg_iload_n 3 dX0_longestTaking_55 rfl rfl ?_
        obtain ⟨x1, hx1, h⟩ := z_bind h
        refine zg_callS (st := []) (k_X0_isIn zt_25 hx1) zY_X0_isIn ls_X0_80 rfl (zfit_m (by decide) (by decide)) (Nat.le_of_ble_eq_true rfl) dX0_longestTaking_56 rfl ?_
        refine zg_if_eq (tgt := 76) dX0_longestTaking_59 (by decide) (fun hc => ?_) (fun hc => ?_)
        · replace h := (if_pos hc).symm.trans h
          exact g0_longestTaking_76 (fun u0 u1 u2 u3 u4 h => ih u0 u1 u2 u3 u4 h) _ _ _ _ _ h
        · replace h := (if_neg hc).symm.trans h
          refine zg_iload_n 2 dX0_longestTaking_62 rfl rfl ?_
          refine zg_iload_n 3 dX0_longestTaking_63 rfl rfl ?_
          obtain ⟨x2, hx2, h⟩ := z_bind h
          refine zg_callS (st := [.int v2]) (k_J6_bitCount_0f7a4 hx2) zY_J6_bitCount_0f7a4 ls_X0_42 rfl (zfit_m (by decide) (by decide)) (Nat.le_of_ble_eq_true rfl) dX0_longestTaking_64 rfl ?_
          refine zo_min ls_X0_84 ⟨Nat.le_of_ble_eq_true rfl, Nat.le_of_ble_eq_true rfl, Nat.le_refl _, Nat.le_refl _⟩ z_iM z_cmin dX0_longestTaking_67 ?_
          refine zg_istore_n (ls' := [(0, .ref 21), (1, .int v1), (2, .int (zmin v2 x2)), (3, .int v3), (4, .int v4)]) dX0_longestTaking_70 rfl (Nat.le_of_ble_eq_true rfl) rfl ?_
          refine zg_aload_n 0 dX0_longestTaking_71 rfl rfl ?_
          refine zg_iload_n 3 dX0_longestTaking_72 rfl rfl ?_
          obtain ⟨M3, hM3, h⟩ := z_bind h
          refine zg_callV (st := []) (k_X0_markTakings hM3) zY_X0_markTakings lv_X0_89 rfl zt_21 rfl (zfit_m (by decide) (by decide)) (Nat.le_of_ble_eq_true rfl) dX0_longestTaking_73 rfl ?_
          exact g0_longestTaking_76 (fun u0 u1 u2 u3 u4 h => ih u0 u1 u2 u3 u4 h) _ _ _ _ _ h
set_option maxRecDepth 20000 in
set_option maxHeartbeats 4000000 in
theorem k_X0_longestTaking {v1 : Int32} {M : zM} {r1 : Int32} {Mr : zM} (h : f0_longestTaking v1 M = some (r1, Mr)) : zK ztops yX0_longestTaking cX0_longestTaking 5 (some .int) 3 [.ref 21, .int v1] M (some (.int r1)) Mr := by
  refine zK_of pl_X0 (Nat.le_of_ble_eq_true rfl) ?_
  show zJ ztops RX0 cX0_longestTaking 5 _ 0 0 0 [(0, .ref 21), (1, .int v1)] [] M
  rw [f0_longestTaking] at h
  refine zg_aload_n 0 dX0_longestTaking_0 rfl rfl ?_
  refine zo_getr 24 2 rfl fl_X0_18 zt_21 rfl dX0_longestTaking_1 ?_
  refine zg_iload_n 1 dX0_longestTaking_4 rfl rfl ?_
  obtain ⟨x1, hx1, h⟩ := z_bind h
  refine zg_callS (st := []) (k_X0_isIn zt_24 hx1) zY_X0_isIn ls_X0_80 rfl (zfit_m (by decide) (by decide)) (Nat.le_of_ble_eq_true rfl) dX0_longestTaking_5 rfl ?_
  refine zg_if_ne (tgt := 13) dX0_longestTaking_8 (by decide) (fun hc => ?_) (fun hc => ?_)
  · replace h := (if_neg hc).symm.trans h
    refine zg_aload_n 0 dX0_longestTaking_13 rfl rfl ?_
    refine zo_getr 25 3 rfl fl_X0_22 zt_21 rfl dX0_longestTaking_14 ?_
    refine zg_lconst dX0_longestTaking_17 (v := 0) rfl ?_
    obtain ⟨M2, hM2, h⟩ := z_bind h
    refine zg_callS (st := []) (k_J7_fill_d0a16 zt_25 hM2) zY_J7_fill_d0a16 ls_X0_67 rfl (zfit_m (by decide) (by decide)) (Nat.le_of_ble_eq_true rfl) dX0_longestTaking_18 rfl ?_
    refine zg_aload_n 0 dX0_longestTaking_21 rfl rfl ?_
    refine zo_getr 25 3 rfl fl_X0_22 zt_21 rfl dX0_longestTaking_22 ?_
    refine zg_iload_n 1 dX0_longestTaking_25 rfl rfl ?_
    obtain ⟨M3, hM3, h⟩ := z_bind h
    refine zg_callS (st := []) (k_X0_mark zt_25 hM3) zY_X0_mark ls_X0_76 rfl (zfit_m (by decide) (by decide)) (Nat.le_of_ble_eq_true rfl) dX0_longestTaking_26 rfl ?_
    refine zg_iload_n 1 dX0_longestTaking_29 rfl rfl ?_
    obtain ⟨x4, hx4, h⟩ := z_bind h
    refine zg_callS (st := []) (k_J6_bitCount_0f7a4 hx4) zY_J6_bitCount_0f7a4 ls_X0_42 rfl (zfit_m (by decide) (by decide)) (Nat.le_of_ble_eq_true rfl) dX0_longestTaking_30 rfl ?_
    refine zg_istore_n (ls' := [(0, .ref 21), (1, .int v1), (2, .int x4)]) dX0_longestTaking_33 rfl (Nat.le_of_ble_eq_true rfl) rfl ?_
    refine zg_iload_n 1 dX0_longestTaking_34 rfl rfl ?_
    refine zg_istore_n (ls' := [(0, .ref 21), (1, .int v1), (2, .int x4), (3, .int v1)]) dX0_longestTaking_35 rfl (Nat.le_of_ble_eq_true rfl) rfl ?_
    refine zg_iconst dX0_longestTaking_36 zki_0 ?_
    refine zg_istore (ls' := [(0, .ref 21), (1, .int v1), (2, .int x4), (3, .int v1), (4, .int (0 : Int32))]) dX0_longestTaking_37 (Nat.le_of_ble_eq_true rfl) rfl ?_
    exact g0_longestTaking_39 zfuel _ _ _ _ _ h
  · replace h := (if_pos hc).symm.trans h
    refine zg_iconst dX0_longestTaking_11 zki_0 ?_
    obtain ⟨rfl, rfl⟩ := z_ret2 h
    exact zg_iret dX0_longestTaking_12
set_option maxRecDepth 20000 in
set_option maxHeartbeats 4000000 in
theorem g0_winningTake_52 {r1 : Int32} {Mr : zM} {k12 : Int32 → Int32 → Int32 → zM → Option (Int32 × zM)} (hk12 : ∀ (v1 : Int32) (v2 : Int32) (v3 : Int32) (M : zM), k12 v1 v2 v3 M = some (r1, Mr) → zJ ztops RX0 cX0_winningTake 4 (zBm ztops 3 (some .int) (some (.int r1)) Mr) 0 0 12 [(0, .ref 21), (1, .int v1), (2, .int v2), (3, .int v3)] [] M) : ∀ (v1 : Int32) (v2 : Int32) (v3 : Int32) (M : zM), f0_winningTake_52 k12 v1 v2 v3 M = some (r1, Mr) → zJ ztops RX0 cX0_winningTake 4 (zBm ztops 3 (some .int) (some (.int r1)) Mr) 0 0 52 [(0, .ref 21), (1, .int v1), (2, .int v2), (3, .int v3)] [] M := by
  intro v1 v2 v3 M h
  rw [f0_winningTake_52] at h
  refine zg_iload_n 2 dX0_winningTake_52 rfl rfl ?_
  refine zg_iload_n 1 dX0_winningTake_53 rfl rfl ?_
  refine zg_isub dX0_winningTake_54 ?_
  refine zg_iload_n 1 dX0_winningTake_55 rfl rfl ?_
  refine zg_iand dX0_winningTake_56 ?_
  refine zg_istore_n (ls' := [(0, .ref 21), (1, .int v1), (2, .int ((v2 - v1) &&& v1)), (3, .int v3)]) dX0_winningTake_57 rfl (Nat.le_of_ble_eq_true rfl) rfl ?_
  refine zg_iinc (ls' := [(0, .ref 21), (1, .int v1), (2, .int ((v2 - v1) &&& v1)), (3, .int (v3 + (1 : Int32)))]) 3 dX0_winningTake_58 rfl zki_1 (Nat.le_of_ble_eq_true rfl) rfl ?_
  refine zg_goto (tgt := 12) dX0_winningTake_61 (by decide) ?_
  exact hk12 _ _ _ _ h
set_option maxRecDepth 20000 in
set_option maxHeartbeats 4000000 in
theorem g0_winningTake_64 {r1 : Int32} {Mr : zM} : ∀ (v1 : Int32) (M : zM), f0_winningTake_64 v1 M = some (r1, Mr) → zJ ztops RX0 cX0_winningTake 4 (zBm ztops 3 (some .int) (some (.int r1)) Mr) 0 0 64 [(0, .ref 21), (1, .int v1)] [] M := by
  intro v1 M h
  rw [f0_winningTake_64] at h
  refine zg_aload_n 0 dX0_winningTake_64 rfl rfl ?_
  refine zg_iload_n 1 dX0_winningTake_65 rfl rfl ?_
  obtain ⟨x1, hx1, h⟩ := z_bind h
  refine zg_callV (st := []) (k_X0_leastTake hx1) zY_X0_leastTake lv_X0_93 rfl zt_21 rfl (zfit_m (by decide) (by decide)) (Nat.le_of_ble_eq_true rfl) dX0_winningTake_66 rfl ?_
  obtain ⟨rfl, rfl⟩ := z_ret2 h
  exact zg_iret dX0_winningTake_69
set_option maxRecDepth 20000 in
set_option maxHeartbeats 4000000 in
theorem g0_winningTake_12 {r1 : Int32} {Mr : zM} : ∀ (n : Nat) (v1 : Int32) (v2 : Int32) (v3 : Int32) (M : zM), f0_winningTake_12 n v1 v2 v3 M = some (r1, Mr) → zJ ztops RX0 cX0_winningTake 4 (zBm ztops 3 (some .int) (some (.int r1)) Mr) 0 0 12 [(0, .ref 21), (1, .int v1), (2, .int v2), (3, .int v3)] [] M := by
  intro n
  induction n with
  | zero => intro v1 v2 v3 M h; cases h
  | succ n ih =>
    intro v1 v2 v3 M h
    rw [f0_winningTake_12] at h
    refine zg_iload_n 3 dX0_winningTake_12 rfl rfl ?_
    refine zg_sipush dX0_winningTake_13 zks_4096 ?_
    refine zg_icmp_ge (tgt := 64) dX0_winningTake_16 (by decide) (fun hc => ?_) (fun hc => ?_)
    · replace h := (if_pos hc).symm.trans h
      refine zo_sub (ls' := [(0, .ref 21), (1, .int v1)]) [0, 1] rfl ?_
      exact g0_winningTake_64 _ _ h
    · replace h := (if_neg hc).symm.trans h
      refine zg_iload_n 2 dX0_winningTake_19 rfl rfl ?_
      refine zg_iload_n 1 dX0_winningTake_20 rfl rfl ?_
      refine zg_icmp_eq (tgt := 64) dX0_winningTake_21 (by decide) (fun hc => ?_) (fun hc => ?_)
      · replace h := (if_pos hc).symm.trans h
        refine zo_sub (ls' := [(0, .ref 21), (1, .int v1)]) [0, 1] rfl ?_
        exact g0_winningTake_64 _ _ h
      · replace h := (if_neg hc).symm.trans h
        refine zg_aload_n 0 dX0_winningTake_24 rfl rfl ?_
        refine zo_getr 24 2 rfl fl_X0_18 zt_21 rfl dX0_winningTake_25 ?_
        refine zg_iload_n 2 dX0_winningTake_28 rfl rfl ?_
        obtain ⟨x1, hx1, h⟩ := z_bind h
        refine zg_callS (st := []) (k_X0_isIn zt_24 hx1) zY_X0_isIn ls_X0_80 rfl (zfit_m (by decide) (by decide)) (Nat.le_of_ble_eq_true rfl) dX0_winningTake_29 rfl ?_
        refine zg_if_eq (tgt := 52) dX0_winningTake_32 (by decide) (fun hc => ?_) (fun hc => ?_)
        · replace h := (if_pos hc).symm.trans h
          exact g0_winningTake_52 (fun u0 u1 u2 u3 h => ih u0 u1 u2 u3 h) _ _ _ _ h
        · replace h := (if_neg hc).symm.trans h
          refine zg_aload_n 0 dX0_winningTake_35 rfl rfl ?_
          refine zg_iload_n 2 dX0_winningTake_36 rfl rfl ?_
          obtain ⟨x2, hx2, h⟩ := z_bind h
          refine zg_callV (st := []) (k_X0_leastTake hx2) zY_X0_leastTake lv_X0_93 rfl zt_21 rfl (zfit_m (by decide) (by decide)) (Nat.le_of_ble_eq_true rfl) dX0_winningTake_37 rfl ?_
          refine zg_iconst dX0_winningTake_40 zki_m1 ?_
          refine zg_icmp_eq (tgt := 52) dX0_winningTake_41 (by decide) (fun hc => ?_) (fun hc => ?_)
          · replace h := (if_pos hc).symm.trans h
            exact g0_winningTake_52 (fun u0 u1 u2 u3 h => ih u0 u1 u2 u3 h) _ _ _ _ h
          · replace h := (if_neg hc).symm.trans h
            refine zg_aload_n 0 dX0_winningTake_44 rfl rfl ?_
            refine zo_getr 25 3 rfl fl_X0_22 zt_21 rfl dX0_winningTake_45 ?_
            refine zg_iload_n 2 dX0_winningTake_48 rfl rfl ?_
            obtain ⟨M3, hM3, h⟩ := z_bind h
            refine zg_callS (st := []) (k_X0_mark zt_25 hM3) zY_X0_mark ls_X0_76 rfl (zfit_m (by decide) (by decide)) (Nat.le_of_ble_eq_true rfl) dX0_winningTake_49 rfl ?_
            exact g0_winningTake_52 (fun u0 u1 u2 u3 h => ih u0 u1 u2 u3 h) _ _ _ _ h
set_option maxRecDepth 20000 in
set_option maxHeartbeats 4000000 in
theorem k_X0_winningTake {v1 : Int32} {M : zM} {r1 : Int32} {Mr : zM} (h : f0_winningTake v1 M = some (r1, Mr)) : zK ztops yX0_winningTake cX0_winningTake 4 (some .int) 3 [.ref 21, .int v1] M (some (.int r1)) Mr := by
  refine zK_of pl_X0 (Nat.le_of_ble_eq_true rfl) ?_
  show zJ ztops RX0 cX0_winningTake 4 _ 0 0 0 [(0, .ref 21), (1, .int v1)] [] M
  rw [f0_winningTake] at h
  refine zg_aload_n 0 dX0_winningTake_0 rfl rfl ?_
  refine zo_getr 25 3 rfl fl_X0_22 zt_21 rfl dX0_winningTake_1 ?_
  refine zg_lconst dX0_winningTake_4 (v := 0) rfl ?_
  obtain ⟨M1, hM1, h⟩ := z_bind h
  refine zg_callS (st := []) (k_J7_fill_d0a16 zt_25 hM1) zY_J7_fill_d0a16 ls_X0_67 rfl (zfit_m (by decide) (by decide)) (Nat.le_of_ble_eq_true rfl) dX0_winningTake_5 rfl ?_
  refine zg_iconst dX0_winningTake_8 zki_0 ?_
  refine zg_istore_n (ls' := [(0, .ref 21), (1, .int v1), (2, .int (0 : Int32))]) dX0_winningTake_9 rfl (Nat.le_of_ble_eq_true rfl) rfl ?_
  refine zg_iconst dX0_winningTake_10 zki_0 ?_
  refine zg_istore_n (ls' := [(0, .ref 21), (1, .int v1), (2, .int (0 : Int32)), (3, .int (0 : Int32))]) dX0_winningTake_11 rfl (Nat.le_of_ble_eq_true rfl) rfl ?_
  exact g0_winningTake_12 zfuel _ _ _ _ h
set_option maxRecDepth 20000 in
set_option maxHeartbeats 4000000 in
theorem g1_narrow_65 {a1 : Nat} (h1 : zWv ztops a1) {Mr : zM} {k39 : Int32 → Int32 → Int32 → Int32 → zM → Option zM} (hk39 : ∀ (v2 : Int32) (v3 : Int32) (v4 : Int32) (v5 : Int32) (M : zM), k39 v2 v3 v4 v5 M = some Mr → zJ ztops RX1 cX1_narrow 6 (zBm ztops 2 (none) none Mr) 0 0 39 [(0, .ref 27), (1, .ref a1), (2, .int v2), (3, .int v3), (4, .int v4), (5, .int v5)] [] M) : ∀ (v2 : Int32) (v3 : Int32) (v5 : Int32) (s0 : Int32) (M : zM), f1_narrow_65 a1 k39 v2 v3 v5 s0 M = some Mr → zJ ztops RX1 cX1_narrow 6 (zBm ztops 2 (none) none Mr) 0 0 65 [(0, .ref 27), (1, .ref a1), (2, .int v2), (3, .int v3), (5, .int v5)] [.int s0] M := by
  intro v2 v3 v5 s0 M h
  rw [f1_narrow_65] at h
  refine zg_istore (ls' := [(0, .ref 27), (1, .ref a1), (2, .int v2), (3, .int v3), (4, .int s0), (5, .int v5)]) dX1_narrow_65 (Nat.le_of_ble_eq_true rfl) rfl ?_
  refine zg_iinc (ls' := [(0, .ref 27), (1, .ref a1), (2, .int v2), (3, .int v3), (4, .int s0), (5, .int (v5 + (-1 : Int32)))]) 5 dX1_narrow_67 rfl zki_m1 (Nat.le_of_ble_eq_true rfl) rfl ?_
  refine zg_goto (tgt := 39) dX1_narrow_70 (by decide) ?_
  exact hk39 _ _ _ _ _ h
set_option maxRecDepth 20000 in
set_option maxHeartbeats 4000000 in
theorem g1_narrow_39 {a1 : Nat} (h1 : zWv ztops a1) {Mr : zM} {k73 : Int32 → Int32 → Int32 → zM → Option zM} (hk73 : ∀ (v2 : Int32) (v3 : Int32) (v4 : Int32) (M : zM), k73 v2 v3 v4 M = some Mr → zJ ztops RX1 cX1_narrow 6 (zBm ztops 2 (none) none Mr) 0 0 73 [(0, .ref 27), (1, .ref a1), (2, .int v2), (3, .int v3), (4, .int v4)] [] M) : ∀ (n : Nat) (v2 : Int32) (v3 : Int32) (v4 : Int32) (v5 : Int32) (M : zM), f1_narrow_39 a1 k73 n v2 v3 v4 v5 M = some Mr → zJ ztops RX1 cX1_narrow 6 (zBm ztops 2 (none) none Mr) 0 0 39 [(0, .ref 27), (1, .ref a1), (2, .int v2), (3, .int v3), (4, .int v4), (5, .int v5)] [] M := by
  intro n
  induction n with
  | zero => intro v2 v3 v4 v5 M h; cases h
  | succ n ih =>
    intro v2 v3 v4 v5 M h
    rw [f1_narrow_39] at h
    refine zg_iload 5 dX1_narrow_39 rfl ?_
    refine zg_if_lt (tgt := 73) dX1_narrow_41 (by decide) (fun hc => ?_) (fun hc => ?_)
    · replace h := (if_pos hc).symm.trans h
      refine zo_sub (ls' := [(0, .ref 27), (1, .ref a1), (2, .int v2), (3, .int v3), (4, .int v4)]) [0, 1, 2, 3, 4] rfl ?_
      exact hk73 _ _ _ _ h
    · replace h := (if_neg hc).symm.trans h
      refine zg_iload_n 2 dX1_narrow_44 rfl rfl ?_
      refine zg_iload 5 dX1_narrow_45 rfl ?_
      refine zg_iushr dX1_narrow_47 ?_
      refine zg_iconst dX1_narrow_48 zki_1 ?_
      refine zg_iand dX1_narrow_49 ?_
      refine zg_if_eq (tgt := 63) dX1_narrow_50 (by decide) (fun hc => ?_) (fun hc => ?_)
      · replace h := (if_pos hc).symm.trans h
        refine zg_iload 4 dX1_narrow_63 rfl ?_
        refine zo_sub (ls' := [(0, .ref 27), (1, .ref a1), (2, .int v2), (3, .int v3), (5, .int v5)]) [0, 1, 2, 3, 5] rfl ?_
        exact g1_narrow_65 h1 (fun u0 u1 u2 u3 u4 h => ih u0 u1 u2 u3 u4 h) _ _ _ _ _ h
      · replace h := (if_neg hc).symm.trans h
        refine zg_iload 4 dX1_narrow_53 rfl ?_
        refine zg_iload 5 dX1_narrow_55 rfl ?_
        obtain ⟨x1, hx1, h⟩ := z_bind h
        refine zg_callSN (st := []) (host := "SeaCloth") (k_X8_without hx1) zY_X8_without (List.mem_of_getElem? (i := 8) rfl) ss_X8_without rfl (zfit_m (by decide) (by decide)) (Nat.le_of_ble_eq_true rfl) dX1_narrow_57 rfl ?_
        refine zg_goto (tgt := 65) dX1_narrow_60 (by decide) ?_
        refine zo_sub (ls' := [(0, .ref 27), (1, .ref a1), (2, .int v2), (3, .int v3), (5, .int v5)]) [0, 1, 2, 3, 5] rfl ?_
        exact g1_narrow_65 h1 (fun u0 u1 u2 u3 u4 h => ih u0 u1 u2 u3 u4 h) _ _ _ _ _ h
set_option maxRecDepth 20000 in
set_option maxHeartbeats 4000000 in
theorem g1_narrow_73 {a1 : Nat} (h1 : zWv ztops a1) {Mr : zM} {k15 : Int32 → Int32 → zM → Option zM} (hk15 : ∀ (v2 : Int32) (v3 : Int32) (M : zM), k15 v2 v3 M = some Mr → zJ ztops RX1 cX1_narrow 6 (zBm ztops 2 (none) none Mr) 0 0 15 [(0, .ref 27), (1, .ref a1), (2, .int v2), (3, .int v3)] [] M) : ∀ (v2 : Int32) (v3 : Int32) (v4 : Int32) (M : zM), f1_narrow_73 a1 k15 v2 v3 v4 M = some Mr → zJ ztops RX1 cX1_narrow 6 (zBm ztops 2 (none) none Mr) 0 0 73 [(0, .ref 27), (1, .ref a1), (2, .int v2), (3, .int v3), (4, .int v4)] [] M := by
  intro v2 v3 v4 M h
  rw [f1_narrow_73] at h
  refine zg_aload_n 0 dX1_narrow_73 rfl rfl ?_
  refine zo_getr 28 0 rfl fl_X1_9 zt_27 rfl dX1_narrow_74 ?_
  refine zg_iload_n 3 dX1_narrow_77 rfl rfl ?_
  refine zg_iload 4 dX1_narrow_78 rfl ?_
  obtain ⟨M1, hM1, h⟩ := z_bind h
  refine zo_iast zt_28 hM1 dX1_narrow_80 ?_
  refine zg_iinc (ls' := [(0, .ref 27), (1, .ref a1), (2, .int v2), (3, .int (v3 + (1 : Int32))), (4, .int v4)]) 3 dX1_narrow_81 rfl zki_1 (Nat.le_of_ble_eq_true rfl) rfl ?_
  refine zg_goto (tgt := 15) dX1_narrow_84 (by decide) ?_
  refine zo_sub (ls' := [(0, .ref 27), (1, .ref a1), (2, .int v2), (3, .int (v3 + (1 : Int32)))]) [0, 1, 2, 3] rfl ?_
  exact hk15 _ _ _ h
set_option maxRecDepth 20000 in
set_option maxHeartbeats 4000000 in
theorem g1_narrow_15 {a1 : Nat} (h1 : zWv ztops a1) {Mr : zM} : ∀ (n : Nat) (v2 : Int32) (v3 : Int32) (M : zM), f1_narrow_15 a1 n v2 v3 M = some Mr → zJ ztops RX1 cX1_narrow 6 (zBm ztops 2 (none) none Mr) 0 0 15 [(0, .ref 27), (1, .ref a1), (2, .int v2), (3, .int v3)] [] M := by
  intro n
  induction n with
  | zero => intro v2 v3 M h; cases h
  | succ n ih =>
    intro v2 v3 M h
    rw [f1_narrow_15] at h
    refine zg_iload_n 3 dX1_narrow_15 rfl rfl ?_
    refine zg_aload_n 1 dX1_narrow_16 rfl rfl ?_
    refine zg_geti fl_X1_34 h1.1 rfl dX1_narrow_17 ?_
    refine zg_icmp_ge (tgt := 87) dX1_narrow_20 (by decide) (fun hc => ?_) (fun hc => ?_)
    · replace h := (if_pos hc).symm.trans h
      obtain rfl := z_ret1 h
      exact zg_vret dX1_narrow_87
    · replace h := (if_neg hc).symm.trans h
      refine zg_aload_n 1 dX1_narrow_23 rfl rfl ?_
      refine zg_iconst dX1_narrow_24 zki_0 ?_
      refine zg_iload_n 3 dX1_narrow_25 rfl rfl ?_
      obtain ⟨x1, hx1, h⟩ := z_bind h
      refine zg_callV (st := []) (k_X7_cellsOf h1 hx1) zY_X7_cellsOf lv_X1_37 rfl h1.1 rfl (zfit_m (by decide) (by decide)) (Nat.le_of_ble_eq_true rfl) dX1_narrow_26 rfl ?_
      refine zg_istore (ls' := [(0, .ref 27), (1, .ref a1), (2, .int v2), (3, .int v3), (4, .int x1)]) dX1_narrow_29 (Nat.le_of_ble_eq_true rfl) rfl ?_
      refine zg_aload_n 1 dX1_narrow_31 rfl rfl ?_
      refine zg_geti fl_X1_19 h1.1 rfl dX1_narrow_32 ?_
      refine zg_iconst dX1_narrow_35 zki_1 ?_
      refine zg_isub dX1_narrow_36 ?_
      refine zg_istore (ls' := [(0, .ref 27), (1, .ref a1), (2, .int v2), (3, .int v3), (4, .int x1), (5, .int ((M.1 a1 1) - (1 : Int32)))]) dX1_narrow_37 (Nat.le_of_ble_eq_true rfl) rfl ?_
      exact g1_narrow_39 h1 (fun u0 u1 u2 u3 h => g1_narrow_73 h1 (fun u0 u1 u2 h => ih u0 u1 u2 h) u0 u1 u2 u3 h) zfuel _ _ _ _ _ h
set_option maxRecDepth 20000 in
set_option maxHeartbeats 4000000 in
theorem k_X1_narrow {a1 : Nat} (h1 : zWv ztops a1) {v2 : Int32} {M : zM} {Mr : zM} (h : f1_narrow a1 v2 M = some Mr) : zK ztops yX1_narrow cX1_narrow 6 (none) 2 [.ref 27, .ref a1, .int v2] M none Mr := by
  refine zK_of pl_X1 (Nat.le_of_ble_eq_true rfl) ?_
  show zJ ztops RX1 cX1_narrow 6 _ 0 0 0 [(0, .ref 27), (1, .ref a1), (2, .int v2)] [] M
  rw [f1_narrow] at h
  refine zg_aload_n 0 dX1_narrow_0 rfl rfl ?_
  refine zg_aload_n 1 dX1_narrow_1 rfl rfl ?_
  refine zg_geti fl_X1_19 h1.1 rfl dX1_narrow_2 ?_
  refine zg_iload_n 2 dX1_narrow_5 rfl rfl ?_
  obtain ⟨x1, hx1, h⟩ := z_bind h
  refine zg_callS (st := [.int (M.1 a1 1), .ref 27]) (k_J6_bitCount_0f7a4 hx1) zY_J6_bitCount_0f7a4 ls_X1_25 rfl (zfit_m (by decide) (by decide)) (Nat.le_of_ble_eq_true rfl) dX1_narrow_6 rfl ?_
  refine zg_isub dX1_narrow_9 ?_
  refine zg_puti fp_X1_31 zt_27 rfl dX1_narrow_10 ?_
  refine zg_iconst dX1_narrow_13 zki_0 ?_
  refine zg_istore_n (ls' := [(0, .ref 27), (1, .ref a1), (2, .int v2), (3, .int (0 : Int32))]) dX1_narrow_14 rfl (Nat.le_of_ble_eq_true rfl) rfl ?_
  exact g1_narrow_15 h1 zfuel _ _ _ h
set_option maxRecDepth 20000 in
set_option maxHeartbeats 4000000 in
theorem g2_push_74 {T : List zN} {a0 : Nat} {n0 : Nat} (h0 : zMe T a0 n0) {Mr : zM} : ∀ (v1 : Int64) (v3 : Int32) (M : zM), f2_push_74 a0 n0 v1 v3 M = some Mr → zJ T RX2 cX2_push 5 (zBm T 2 (none) none Mr) 0 0 74 [(0, .ref a0), (1, .long v1), (3, .int v3)] [] M := by
  intro v1 v3 M h
  rw [f2_push_74] at h
  refine zg_aload_n 0 dX2_push_74 rfl rfl ?_
  refine zg_aload_n 0 dX2_push_75 rfl rfl ?_
  refine zg_geti fl_X2_7 h0.1 rfl dX2_push_76 ?_
  refine zg_lload_n 1 dX2_push_79 rfl rfl ?_
  refine zg_iload_n 2 dX2_push_80 rfl rfl ?_
  obtain ⟨M1, hM1, h⟩ := z_bind h
  refine zg_callV (st := []) (k_X2_put h0 hM1) zY_X2_put lv_X2_27 rfl h0.1 rfl (zfit_m (by decide) (by decide)) (Nat.le_of_ble_eq_true rfl) dX2_push_81 rfl ?_
  refine zg_aload_n 0 dX2_push_84 rfl rfl ?_
  refine zg_dup dX2_push_85 rfl ?_
  refine zg_geti fl_X2_7 h0.1 rfl dX2_push_86 ?_
  refine zg_iconst dX2_push_89 zki_1 ?_
  refine zg_iadd dX2_push_90 ?_
  refine zg_puti fp_X2_7 h0.1 rfl dX2_push_91 ?_
  obtain rfl := z_ret1 h
  exact zg_vret dX2_push_94
set_option maxRecDepth 20000 in
set_option maxHeartbeats 4000000 in
theorem g2_push_15 {T : List zN} {a0 : Nat} {n0 : Nat} (h0 : zMe T a0 n0) {Mr : zM} : ∀ (n : Nat) (v1 : Int64) (v3 : Int32) (v4 : Int32) (M : zM), f2_push_15 a0 n0 n v1 v3 v4 M = some Mr → zJ T RX2 cX2_push 5 (zBm T 2 (none) none Mr) 0 0 15 [(0, .ref a0), (1, .long v1), (3, .int v3), (4, .int v4)] [] M := by
  intro n
  induction n with
  | zero => intro v1 v3 v4 M h; cases h
  | succ n ih =>
    intro v1 v3 v4 M h
    rw [f2_push_15] at h
    refine zg_iload 3 dX2_push_15 rfl ?_
    refine zg_aload_n 0 dX2_push_17 rfl rfl ?_
    refine zo_getr (a0 + 1) 0 rfl fl_X2_13 h0.1 rfl dX2_push_18 ?_
    refine zg_alen (v := (Int32.ofNat n0)) h0.2.1 (by decide) rfl dX2_push_21 ?_
    refine zg_icmp_ge (tgt := 63) dX2_push_22 (by decide) (fun hc => ?_) (fun hc => ?_)
    · replace h := (if_pos hc).symm.trans h
      refine zg_aload_n 0 dX2_push_63 rfl rfl ?_
      refine zg_aload_n 0 dX2_push_64 rfl rfl ?_
      refine zo_getr (a0 + 1) 0 rfl fl_X2_13 h0.1 rfl dX2_push_65 ?_
      refine zg_alen (v := (Int32.ofNat n0)) h0.2.1 (by decide) rfl dX2_push_68 ?_
      refine zg_iconst dX2_push_69 zki_1 ?_
      refine zg_isub dX2_push_70 ?_
      refine zg_puti fp_X2_7 h0.1 rfl dX2_push_71 ?_
      refine zo_sub (ls' := [(0, .ref a0), (1, .long v1), (3, .int v3)]) [0, 1, 2] rfl ?_
      exact g2_push_74 h0 _ _ _ h
    · replace h := (if_neg hc).symm.trans h
      refine zg_aload_n 0 dX2_push_25 rfl rfl ?_
      refine zo_getr (a0 + 1) 0 rfl fl_X2_13 h0.1 rfl dX2_push_26 ?_
      refine zg_iload 3 dX2_push_29 rfl ?_
      refine zg_iconst dX2_push_31 zki_1 ?_
      refine zg_isub dX2_push_32 ?_
      refine zg_aload_n 0 dX2_push_33 rfl rfl ?_
      refine zo_getr (a0 + 1) 0 rfl fl_X2_13 h0.1 rfl dX2_push_34 ?_
      refine zg_iload 3 dX2_push_37 rfl ?_
      obtain ⟨x1, hx1, h⟩ := z_bind h
      refine zo_lald h0.2.1 hx1 dX2_push_39 ?_
      obtain ⟨M2, hM2, h⟩ := z_bind h
      refine zo_last h0.2.1 hM2 dX2_push_40 ?_
      refine zg_aload_n 0 dX2_push_41 rfl rfl ?_
      refine zo_getr (a0 + 2) 1 rfl fl_X2_17 h0.1 rfl dX2_push_42 ?_
      refine zg_iload 3 dX2_push_45 rfl ?_
      refine zg_iconst dX2_push_47 zki_1 ?_
      refine zg_isub dX2_push_48 ?_
      refine zg_aload_n 0 dX2_push_49 rfl rfl ?_
      refine zo_getr (a0 + 2) 1 rfl fl_X2_17 h0.1 rfl dX2_push_50 ?_
      refine zg_iload 3 dX2_push_53 rfl ?_
      obtain ⟨x3, hx3, h⟩ := z_bind h
      refine zo_iald h0.2.2 hx3 dX2_push_55 ?_
      obtain ⟨M4, hM4, h⟩ := z_bind h
      refine zo_iast h0.2.2 hM4 dX2_push_56 ?_
      refine zg_iinc (ls' := [(0, .ref a0), (1, .long v1), (3, .int v3), (4, .int (v4 + (1 : Int32)))]) 3 dX2_push_57 rfl zki_1 (Nat.le_of_ble_eq_true rfl) rfl ?_
      refine zg_goto (tgt := 15) dX2_push_60 (by decide) ?_
      exact ih _ _ _ _ h
set_option maxRecDepth 20000 in
set_option maxHeartbeats 4000000 in
theorem k_X2_push {T : List zN} {a0 : Nat} {n0 : Nat} (h0 : zMe T a0 n0) {v1 : Int64} {v3 : Int32} {M : zM} {Mr : zM} (h : f2_push a0 n0 v1 v3 M = some Mr) : zK T yX2_push cX2_push 5 (none) 2 [.ref a0, .long v1, .int v3] M none Mr := by
  refine zK_of pl_X2 (Nat.le_of_ble_eq_true rfl) ?_
  show zJ T RX2 cX2_push 5 _ 0 0 0 [(0, .ref a0), (1, .long v1), (3, .int v3)] [] M
  rw [f2_push] at h
  refine zg_aload_n 0 dX2_push_0 rfl rfl ?_
  refine zg_geti fl_X2_7 h0.1 rfl dX2_push_1 ?_
  refine zg_aload_n 0 dX2_push_4 rfl rfl ?_
  refine zo_getr (a0 + 1) 0 rfl fl_X2_13 h0.1 rfl dX2_push_5 ?_
  refine zg_alen (v := (Int32.ofNat n0)) h0.2.1 (by decide) rfl dX2_push_8 ?_
  refine zg_icmp_lt (tgt := 74) dX2_push_9 (by decide) (fun hc => ?_) (fun hc => ?_)
  · replace h := (if_pos hc).symm.trans h
    exact g2_push_74 h0 _ _ _ h
  · replace h := (if_neg hc).symm.trans h
    refine zg_iconst dX2_push_12 zki_1 ?_
    refine zg_istore (ls' := [(0, .ref a0), (1, .long v1), (3, .int v3), (4, .int (1 : Int32))]) dX2_push_13 (Nat.le_of_ble_eq_true rfl) rfl ?_
    exact g2_push_15 h0 zfuel _ _ _ _ h
set_option maxRecDepth 20000 in
set_option maxHeartbeats 4000000 in
theorem k_X2_bringBack {T : List zN} {a0 : Nat} {n0 : Nat} {a2 : Nat} (h0 : zMe T a0 n0) (h2 : zWv T a2) {v1 : Int32} {M : zM} {Mr : zM} (h : f2_bringBack a0 n0 v1 a2 M = some Mr) : zK T yX2_bringBack cX2_bringBack 3 (none) 3 [.ref a0, .int v1, .ref a2] M none Mr := by
  refine zK_of pl_X2 (Nat.le_of_ble_eq_true rfl) ?_
  show zJ T RX2 cX2_bringBack 3 _ 0 0 0 [(0, .ref a0), (1, .int v1), (2, .ref a2)] [] M
  rw [f2_bringBack] at h
  refine zg_aload_n 0 dX2_bringBack_0 rfl rfl ?_
  refine zg_iload_n 1 dX2_bringBack_1 rfl rfl ?_
  obtain ⟨x1, hx1, h⟩ := z_bind h
  refine zg_callV (st := []) (k_X2_holds h0 hx1) zY_X2_holds lv_X2_31 rfl h0.1 rfl (zfit_m (by decide) (by decide)) (Nat.le_of_ble_eq_true rfl) dX2_bringBack_2 rfl ?_
  refine zg_if_eq (tgt := 28) dX2_bringBack_5 (by decide) (fun hc => ?_) (fun hc => ?_)
  · replace h := (if_pos hc).symm.trans h
    obtain rfl := z_ret1 h
    exact zg_vret dX2_bringBack_28
  · replace h := (if_neg hc).symm.trans h
    refine zg_aload_n 2 dX2_bringBack_8 rfl rfl ?_
    refine zg_aload_n 0 dX2_bringBack_9 rfl rfl ?_
    refine zo_getr (a0 + 1) 0 rfl fl_X2_13 h0.1 rfl dX2_bringBack_10 ?_
    refine zg_iload_n 1 dX2_bringBack_13 rfl rfl ?_
    obtain ⟨x2, hx2, h⟩ := z_bind h
    refine zo_lald h0.2.1 hx2 dX2_bringBack_14 ?_
    obtain ⟨M3, hM3, h⟩ := z_bind h
    refine zg_callV (st := []) (k_X7_takeShape h2 hM3) zY_X7_takeShape lv_X2_35 rfl h2.1 rfl (zfit_m (by decide) (by decide)) (Nat.le_of_ble_eq_true rfl) dX2_bringBack_15 rfl ?_
    refine zg_aload_n 2 dX2_bringBack_18 rfl rfl ?_
    refine zg_aload_n 0 dX2_bringBack_19 rfl rfl ?_
    refine zo_getr (a0 + 2) 1 rfl fl_X2_17 h0.1 rfl dX2_bringBack_20 ?_
    refine zg_iload_n 1 dX2_bringBack_23 rfl rfl ?_
    obtain ⟨x4, hx4, h⟩ := z_bind h
    refine zo_iald h0.2.2 hx4 dX2_bringBack_24 ?_
    refine zg_puti fp_X2_41 h2.1 rfl dX2_bringBack_25 ?_
    obtain rfl := z_ret1 h
    exact zg_vret dX2_bringBack_28
set_option maxRecDepth 20000 in
set_option maxHeartbeats 4000000 in
theorem k_X4_putPlainRule {T : List zN} {a0 : Nat} (h0 : zRu T a0) {M : zM} {Mr : zM} (h : f4_putPlainRule a0 M = some Mr) : zK T yX4_putPlainRule cX4_putPlainRule 1 (none) 2 [.ref a0] M none Mr := by
  refine zK_of pl_X4 (Nat.le_of_ble_eq_true rfl) ?_
  show zJ T RX4 cX4_putPlainRule 1 _ 0 0 0 [(0, .ref a0)] [] M
  rw [f4_putPlainRule] at h
  refine zg_aload_n 0 dX4_putPlainRule_0 rfl rfl ?_
  refine zg_sipush dX4_putPlainRule_1 zks_1099 ?_
  obtain ⟨M1, hM1, h⟩ := z_bind h
  refine zg_callV (st := []) (k_X4_emit h0 hM1) zY_X4_emit lv_X4_72 rfl h0.1 rfl (zfit_m (by decide) (by decide)) (Nat.le_of_ble_eq_true rfl) dX4_putPlainRule_4 rfl ?_
  refine zg_aload_n 0 dX4_putPlainRule_7 rfl rfl ?_
  refine zg_sipush dX4_putPlainRule_8 zks_1105 ?_
  obtain ⟨M2, hM2, h⟩ := z_bind h
  refine zg_callV (st := []) (k_X4_emit h0 hM2) zY_X4_emit lv_X4_72 rfl h0.1 rfl (zfit_m (by decide) (by decide)) (Nat.le_of_ble_eq_true rfl) dX4_putPlainRule_11 rfl ?_
  refine zg_aload_n 0 dX4_putPlainRule_14 rfl rfl ?_
  refine zg_sipush dX4_putPlainRule_15 zks_1045 ?_
  obtain ⟨M3, hM3, h⟩ := z_bind h
  refine zg_callV (st := []) (k_X4_emit h0 hM3) zY_X4_emit lv_X4_72 rfl h0.1 rfl (zfit_m (by decide) (by decide)) (Nat.le_of_ble_eq_true rfl) dX4_putPlainRule_18 rfl ?_
  obtain rfl := z_ret1 h
  exact zg_vret dX4_putPlainRule_21
set_option maxRecDepth 20000 in
set_option maxHeartbeats 4000000 in
theorem g4_takesThing_91 {T : List zN} {a0 : Nat} (h0 : zRu T a0) {r1 : Int32} {Mr : zM} : ∀ (v1 : Int32) (v2 : Int32) (M : zM), f4_takesThing_91 a0 v1 v2 M = some (r1, Mr) → zJ T RX4 cX4_takesThing 3 (zBm T 2 (some .boolean) (some (.int r1)) Mr) 0 0 91 [(0, .ref a0), (1, .int v1), (2, .int v2)] [] M := by
  intro v1 v2 M h
  rw [f4_takesThing_91] at h
  refine zg_aload_n 0 dX4_takesThing_91 rfl rfl ?_
  refine zg_iload_n 2 dX4_takesThing_92 rfl rfl ?_
  suffices hj : zJ T RX4 cX4_takesThing 3 (zBm T 2 (some .boolean) (some (.int r1)) Mr) 0 0 108 [(0, .ref a0), (1, .int v1), (2, .int v2)] [.int (if v2 = 0 then ((1000 : Int32) + v1) else (v1 - (48 : Int32))), .ref a0] M by
    refine zg_if_eq (tgt := 103) dX4_takesThing_93 (by decide) (fun hc => ?_) (fun hc => ?_)
    · rw [show (if v2 = 0 then ((1000 : Int32) + v1) else (v1 - (48 : Int32))) = ((1000 : Int32) + v1) from if_pos hc] at hj
      refine zg_sipush dX4_takesThing_103 zks_1000 ?_
      refine zg_iload_n 1 dX4_takesThing_106 rfl rfl ?_
      refine zg_iadd dX4_takesThing_107 ?_
      exact hj
    · rw [show (if v2 = 0 then ((1000 : Int32) + v1) else (v1 - (48 : Int32))) = (v1 - (48 : Int32)) from if_neg hc] at hj
      refine zg_iload_n 1 dX4_takesThing_96 rfl rfl ?_
      refine zg_bipush dX4_takesThing_97 zkb_48 ?_
      refine zg_isub dX4_takesThing_99 ?_
      refine zg_goto (tgt := 108) dX4_takesThing_100 (by decide) ?_
      exact hj
  obtain ⟨M1, hM1, h⟩ := z_bind h
  refine zg_callV (st := []) (k_X4_emit h0 hM1) zY_X4_emit lv_X4_72 rfl h0.1 rfl (zfit_m (by decide) (by decide)) (Nat.le_of_ble_eq_true rfl) dX4_takesThing_108 rfl ?_
  refine zg_aload_n 0 dX4_takesThing_111 rfl rfl ?_
  refine zg_iload_n 2 dX4_takesThing_112 rfl rfl ?_
  suffices hj : zJ T RX4 cX4_takesThing 3 (zBm T 2 (some .boolean) (some (.int r1)) Mr) 0 0 121 [(0, .ref a0), (1, .int v1), (2, .int v2)] [.int (if v2 = 0 then (3 : Int32) else (1 : Int32)), .ref a0] M1 by
    refine zg_if_eq (tgt := 120) dX4_takesThing_113 (by decide) (fun hc => ?_) (fun hc => ?_)
    · rw [show (if v2 = 0 then (3 : Int32) else (1 : Int32)) = (3 : Int32) from if_pos hc] at hj
      refine zg_iconst dX4_takesThing_120 zki_3 ?_
      exact hj
    · rw [show (if v2 = 0 then (3 : Int32) else (1 : Int32)) = (1 : Int32) from if_neg hc] at hj
      refine zg_iconst dX4_takesThing_116 zki_1 ?_
      refine zg_goto (tgt := 121) dX4_takesThing_117 (by decide) ?_
      exact hj
  refine zg_puti fp_X4_81 h0.1 rfl dX4_takesThing_121 ?_
  refine zg_aload_n 0 dX4_takesThing_124 rfl rfl ?_
  refine zg_iconst dX4_takesThing_125 zki_0 ?_
  refine zg_putz fp_X4_44 rfl h0.1 rfl dX4_takesThing_126 ?_
  refine zg_iconst dX4_takesThing_129 zki_1 ?_
  obtain ⟨rfl, rfl⟩ := z_ret2 h
  exact zg_zret rfl dX4_takesThing_130
set_option maxRecDepth 20000 in
set_option maxHeartbeats 4000000 in
theorem k_X4_takesThing {T : List zN} {a0 : Nat} (h0 : zRu T a0) {v1 : Int32} {M : zM} {r1 : Int32} {Mr : zM} (h : f4_takesThing a0 v1 M = some (r1, Mr)) : zK T yX4_takesThing cX4_takesThing 3 (some .boolean) 2 [.ref a0, .int v1] M (some (.int r1)) Mr := by
  refine zK_of pl_X4 (Nat.le_of_ble_eq_true rfl) ?_
  show zJ T RX4 cX4_takesThing 3 _ 0 0 0 [(0, .ref a0), (1, .int v1)] [] M
  rw [f4_takesThing] at h
  refine zg_iload_n 1 dX4_takesThing_0 rfl rfl ?_
  refine zg_bipush dX4_takesThing_1 zkb_45 ?_
  refine zg_icmp_ne (tgt := 15) dX4_takesThing_3 (by decide) (fun hc => ?_) (fun hc => ?_)
  · replace h := (if_neg hc).symm.trans h
    refine zg_iload_n 1 dX4_takesThing_15 rfl rfl ?_
    refine zg_bipush dX4_takesThing_16 zkb_40 ?_
    refine zg_icmp_ne (tgt := 60) dX4_takesThing_18 (by decide) (fun hc => ?_) (fun hc => ?_)
    · replace h := (if_neg hc).symm.trans h
      refine zg_iload_n 1 dX4_takesThing_60 rfl rfl ?_
      refine zg_bipush dX4_takesThing_61 zkb_48 ?_
      suffices hj : zJ T RX4 cX4_takesThing 3 (zBm T 2 (some .boolean) (some (.int r1)) Mr) 0 0 77 [(0, .ref a0), (1, .int v1)] [.int (if v1 < (48 : Int32) then (0 : Int32) else (if (57 : Int32) < v1 then (0 : Int32) else (1 : Int32)))] M by
        refine zg_icmp_lt (tgt := 76) dX4_takesThing_63 (by decide) (fun hc => ?_) (fun hc => ?_)
        · rw [show (if v1 < (48 : Int32) then (0 : Int32) else (if (57 : Int32) < v1 then (0 : Int32) else (1 : Int32))) = (0 : Int32) from if_pos hc] at hj
          refine zg_iconst dX4_takesThing_76 zki_0 ?_
          exact hj
        · rw [show (if v1 < (48 : Int32) then (0 : Int32) else (if (57 : Int32) < v1 then (0 : Int32) else (1 : Int32))) = (if (57 : Int32) < v1 then (0 : Int32) else (1 : Int32)) from if_neg hc] at hj
          refine zg_iload_n 1 dX4_takesThing_66 rfl rfl ?_
          refine zg_bipush dX4_takesThing_67 zkb_57 ?_
          refine zg_icmp_gt (tgt := 76) dX4_takesThing_69 (by decide) (fun hc => ?_) (fun hc => ?_)
          · rw [show (if (57 : Int32) < v1 then (0 : Int32) else (1 : Int32)) = (0 : Int32) from if_pos hc] at hj
            refine zg_iconst dX4_takesThing_76 zki_0 ?_
            exact hj
          · rw [show (if (57 : Int32) < v1 then (0 : Int32) else (1 : Int32)) = (1 : Int32) from if_neg hc] at hj
            refine zg_iconst dX4_takesThing_72 zki_1 ?_
            refine zg_goto (tgt := 77) dX4_takesThing_73 (by decide) ?_
            exact hj
      refine zg_istore_n (ls' := [(0, .ref a0), (1, .int v1), (2, .int (if v1 < (48 : Int32) then (0 : Int32) else (if (57 : Int32) < v1 then (0 : Int32) else (1 : Int32))))]) dX4_takesThing_77 rfl (Nat.le_of_ble_eq_true rfl) rfl ?_
      refine zg_iload_n 2 dX4_takesThing_78 rfl rfl ?_
      refine zg_if_ne (tgt := 91) dX4_takesThing_79 (by decide) (fun hc => ?_) (fun hc => ?_)
      · replace h := (if_neg hc).symm.trans h
        exact g4_takesThing_91 h0 _ _ _ h
      · replace h := (if_pos hc).symm.trans h
        refine zg_iload_n 1 dX4_takesThing_82 rfl rfl ?_
        obtain ⟨x1, hx1, h⟩ := z_bind h
        refine zg_callS (st := []) (k_X4_isTrait hx1) zY_X4_isTrait ls_X4_78 rfl (zfit_m (by decide) (by decide)) (Nat.le_of_ble_eq_true rfl) dX4_takesThing_83 rfl ?_
        refine zg_if_ne (tgt := 91) dX4_takesThing_86 (by decide) (fun hc => ?_) (fun hc => ?_)
        · replace h := (if_neg hc).symm.trans h
          exact g4_takesThing_91 h0 _ _ _ h
        · replace h := (if_pos hc).symm.trans h
          refine zg_iconst dX4_takesThing_89 zki_0 ?_
          obtain ⟨rfl, rfl⟩ := z_ret2 h
          exact zg_zret rfl dX4_takesThing_90
    · replace h := (if_pos hc).symm.trans h
      refine zg_aload_n 0 dX4_takesThing_21 rfl rfl ?_
      refine zg_geti fl_X4_41 h0.1 rfl dX4_takesThing_22 ?_
      refine zg_iconst dX4_takesThing_25 zki_4 ?_
      refine zg_icmp_lt (tgt := 31) dX4_takesThing_26 (by decide) (fun hc => ?_) (fun hc => ?_)
      · replace h := (if_pos hc).symm.trans h
        refine zg_aload_n 0 dX4_takesThing_31 rfl rfl ?_
        refine zg_dup dX4_takesThing_32 rfl ?_
        refine zg_geti fl_X4_41 h0.1 rfl dX4_takesThing_33 ?_
        refine zg_iconst dX4_takesThing_36 zki_1 ?_
        refine zg_iadd dX4_takesThing_37 ?_
        refine zg_puti fp_X4_41 h0.1 rfl dX4_takesThing_38 ?_
        refine zg_aload_n 0 dX4_takesThing_41 rfl rfl ?_
        refine zo_getr (a0 + 3) 2 rfl fl_X4_22 h0.1 rfl dX4_takesThing_42 ?_
        refine zg_aload_n 0 dX4_takesThing_45 rfl rfl ?_
        refine zg_geti fl_X4_41 h0.1 rfl dX4_takesThing_46 ?_
        refine zg_iconst dX4_takesThing_49 zki_0 ?_
        obtain ⟨M1, hM1, h⟩ := z_bind h
        refine zo_zast h0.2.2.2.1 hM1 dX4_takesThing_50 ?_
        refine zg_aload_n 0 dX4_takesThing_51 rfl rfl ?_
        refine zg_sipush dX4_takesThing_52 zks_1040 ?_
        obtain ⟨M2, hM2, h⟩ := z_bind h
        refine zg_callV (st := []) (k_X4_hold h0 hM2) zY_X4_hold lv_X4_75 rfl h0.1 rfl (zfit_m (by decide) (by decide)) (Nat.le_of_ble_eq_true rfl) dX4_takesThing_55 rfl ?_
        refine zg_iconst dX4_takesThing_58 zki_1 ?_
        obtain ⟨rfl, rfl⟩ := z_ret2 h
        exact zg_zret rfl dX4_takesThing_59
      · replace h := (if_neg hc).symm.trans h
        refine zg_iconst dX4_takesThing_29 zki_0 ?_
        obtain ⟨rfl, rfl⟩ := z_ret2 h
        exact zg_zret rfl dX4_takesThing_30
  · replace h := (if_pos hc).symm.trans h
    refine zg_aload_n 0 dX4_takesThing_6 rfl rfl ?_
    refine zg_sipush dX4_takesThing_7 zks_1256 ?_
    obtain ⟨M1, hM1, h⟩ := z_bind h
    refine zg_callV (st := []) (k_X4_hold h0 hM1) zY_X4_hold lv_X4_75 rfl h0.1 rfl (zfit_m (by decide) (by decide)) (Nat.le_of_ble_eq_true rfl) dX4_takesThing_10 rfl ?_
    refine zg_iconst dX4_takesThing_13 zki_1 ?_
    obtain ⟨rfl, rfl⟩ := z_ret2 h
    exact zg_zret rfl dX4_takesThing_14
