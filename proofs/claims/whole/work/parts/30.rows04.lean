set_option maxRecDepth 20000 in
set_option maxHeartbeats 4000000 in
theorem g9_takesOf_2 {r1 : Int32} {Mr : zM} : ∀ (n : Nat) (v1 : Nat) (v2 : Int32) (M : zM), f9_takesOf_2 n v1 v2 M = some (r1, Mr) → zJ ztops RX9 cX9_takesOf 3 (zBm ztops 6 (some .int) (some (.int r1)) Mr) 0 0 2 [(0, .ref 39), (1, .ref (1000 + v1)), (2, .int v2)] [] M := by
  intro n
  induction n with
  | zero => intro v1 v2 M h; cases h
  | succ n ih =>
    intro v1 v2 M h
    rw [f9_takesOf_2] at h
    refine zg_iload_n 2 dX9_takesOf_2 rfl rfl ?_
    refine zg_aload_n 1 dX9_takesOf_3 rfl rfl ?_
    obtain ⟨x1, hx1, h⟩ := z_bind h
    refine zo_slen (st := [.int v2]) (zfit_m (by decide) (by decide)) (Nat.le_of_ble_eq_true rfl) lv_X9_165 hx1 dX9_takesOf_4 ?_
    refine zg_icmp_ge (tgt := 56) dX9_takesOf_7 (by decide) (fun hc => ?_) (fun hc => ?_)
    · replace h := (if_pos hc).symm.trans h
      refine zg_iconst dX9_takesOf_56 zki_m1 ?_
      obtain ⟨rfl, rfl⟩ := z_ret2 h
      exact zg_iret dX9_takesOf_57
    · replace h := (if_neg hc).symm.trans h
      refine zg_aload_n 0 dX9_takesOf_10 rfl rfl ?_
      refine zg_geti fl_X9_147 zt_39 rfl dX9_takesOf_11 ?_
      refine zg_aload_n 0 dX9_takesOf_14 rfl rfl ?_
      refine zg_geti fl_X9_158 zt_39 rfl dX9_takesOf_15 ?_
      refine zg_icmp_ge (tgt := 56) dX9_takesOf_18 (by decide) (fun hc => ?_) (fun hc => ?_)
      · replace h := (if_pos hc).symm.trans h
        refine zg_iconst dX9_takesOf_56 zki_m1 ?_
        obtain ⟨rfl, rfl⟩ := z_ret2 h
        exact zg_iret dX9_takesOf_57
      · replace h := (if_neg hc).symm.trans h
        refine zg_aload_n 1 dX9_takesOf_21 rfl rfl ?_
        refine zg_iload_n 2 dX9_takesOf_22 rfl rfl ?_
        obtain ⟨x2, hx2, h⟩ := z_bind h
        refine zo_schr (st := []) (zfit_m (by decide) (by decide)) (Nat.le_of_ble_eq_true rfl) lv_X9_171 hx2 dX9_takesOf_23 ?_
        refine zg_aload_n 0 dX9_takesOf_26 rfl rfl ?_
        refine zo_getr 43 3 rfl fl_X9_31 zt_39 rfl dX9_takesOf_27 ?_
        refine zg_aload_n 0 dX9_takesOf_30 rfl rfl ?_
        refine zg_geti fl_X9_147 zt_39 rfl dX9_takesOf_31 ?_
        obtain ⟨x3, hx3, h⟩ := z_bind h
        refine zo_iald zt_43 hx3 dX9_takesOf_34 ?_
        refine zg_icmp_ne (tgt := 50) dX9_takesOf_35 (by decide) (fun hc => ?_) (fun hc => ?_)
        · replace h := (if_neg hc).symm.trans h
          refine zg_iinc (ls' := [(0, .ref 39), (1, .ref (1000 + v1)), (2, .int (v2 + (1 : Int32)))]) 2 dX9_takesOf_50 rfl zki_1 (Nat.le_of_ble_eq_true rfl) rfl ?_
          refine zg_goto (tgt := 2) dX9_takesOf_53 (by decide) ?_
          exact ih _ _ _ h
        · replace h := (if_pos hc).symm.trans h
          refine zg_aload_n 0 dX9_takesOf_38 rfl rfl ?_
          refine zg_dup dX9_takesOf_39 rfl ?_
          refine zg_geti fl_X9_147 zt_39 rfl dX9_takesOf_40 ?_
          refine zg_iconst dX9_takesOf_43 zki_1 ?_
          refine zg_iadd dX9_takesOf_44 ?_
          refine zg_puti fp_X9_147 zt_39 rfl dX9_takesOf_45 ?_
          refine zg_iload_n 2 dX9_takesOf_48 rfl rfl ?_
          obtain ⟨rfl, rfl⟩ := z_ret2 h
          exact zg_iret dX9_takesOf_49
set_option maxRecDepth 20000 in
set_option maxHeartbeats 4000000 in
theorem k_X9_takesOf {v1 : Nat} {M : zM} {r1 : Int32} {Mr : zM} (h : f9_takesOf v1 M = some (r1, Mr)) : zK ztops yX9_takesOf cX9_takesOf 3 (some .int) 6 [.ref 39, .ref (1000 + v1)] M (some (.int r1)) Mr := by
  refine zK_of pl_X9 (Nat.le_of_ble_eq_true rfl) ?_
  show zJ ztops RX9 cX9_takesOf 3 _ 0 0 0 [(0, .ref 39), (1, .ref (1000 + v1))] [] M
  rw [f9_takesOf] at h
  refine zg_iconst dX9_takesOf_0 zki_0 ?_
  refine zg_istore_n (ls' := [(0, .ref 39), (1, .ref (1000 + v1)), (2, .int (0 : Int32))]) dX9_takesOf_1 rfl (Nat.le_of_ble_eq_true rfl) rfl ?_
  exact g9_takesOf_2 zfuel _ _ _ h
set_option maxRecDepth 20000 in
set_option maxHeartbeats 4000000 in
theorem g9_number_13 {r1 : Int32} {Mr : zM} : ∀ (n : Nat) (v1 : Int32) (v2 : Int32) (v3 : Int32) (M : zM), f9_number_13 n v1 v2 v3 M = some (r1, Mr) → zJ ztops RX9 cX9_number 4 (zBm ztops 3 (some .int) (some (.int r1)) Mr) 0 0 13 [(0, .ref 39), (1, .int v1), (2, .int v2), (3, .int v3)] [] M := by
  intro n
  induction n with
  | zero => intro v1 v2 v3 M h; cases h
  | succ n ih =>
    intro v1 v2 v3 M h
    rw [f9_number_13] at h
    refine zg_iload_n 3 dX9_number_13 rfl rfl ?_
    refine zg_iload_n 1 dX9_number_14 rfl rfl ?_
    refine zg_icmp_ge (tgt := 59) dX9_number_15 (by decide) (fun hc => ?_) (fun hc => ?_)
    · replace h := (if_pos hc).symm.trans h
      refine zg_iload_n 2 dX9_number_59 rfl rfl ?_
      obtain ⟨rfl, rfl⟩ := z_ret2 h
      exact zg_iret dX9_number_60
    · replace h := (if_neg hc).symm.trans h
      refine zg_aload_n 0 dX9_number_18 rfl rfl ?_
      obtain ⟨x1, hx1, h⟩ := z_bind h
      refine zg_callV (st := []) (k_X9_isDigit hx1) zY_X9_isDigit lv_X9_175 rfl zt_39 rfl (zfit_m (by decide) (by decide)) (Nat.le_of_ble_eq_true rfl) dX9_number_19 rfl ?_
      refine zg_if_eq (tgt := 59) dX9_number_22 (by decide) (fun hc => ?_) (fun hc => ?_)
      · replace h := (if_pos hc).symm.trans h
        refine zg_iload_n 2 dX9_number_59 rfl rfl ?_
        obtain ⟨rfl, rfl⟩ := z_ret2 h
        exact zg_iret dX9_number_60
      · replace h := (if_neg hc).symm.trans h
        refine zg_bipush dX9_number_25 zkb_10 ?_
        refine zg_iload_n 2 dX9_number_27 rfl rfl ?_
        refine zg_imul dX9_number_28 ?_
        refine zg_aload_n 0 dX9_number_29 rfl rfl ?_
        refine zo_getr 43 3 rfl fl_X9_31 zt_39 rfl dX9_number_30 ?_
        refine zg_aload_n 0 dX9_number_33 rfl rfl ?_
        refine zg_geti fl_X9_147 zt_39 rfl dX9_number_34 ?_
        obtain ⟨x2, hx2, h⟩ := z_bind h
        refine zo_iald zt_43 hx2 dX9_number_37 ?_
        refine zg_iadd dX9_number_38 ?_
        refine zg_bipush dX9_number_39 zkb_48 ?_
        refine zg_isub dX9_number_41 ?_
        refine zg_istore_n (ls' := [(0, .ref 39), (1, .int v1), (2, .int ((((10 : Int32) * v2) + x2) - (48 : Int32))), (3, .int v3)]) dX9_number_42 rfl (Nat.le_of_ble_eq_true rfl) rfl ?_
        refine zg_aload_n 0 dX9_number_43 rfl rfl ?_
        refine zg_dup dX9_number_44 rfl ?_
        refine zg_geti fl_X9_147 zt_39 rfl dX9_number_45 ?_
        refine zg_iconst dX9_number_48 zki_1 ?_
        refine zg_iadd dX9_number_49 ?_
        refine zg_puti fp_X9_147 zt_39 rfl dX9_number_50 ?_
        refine zg_iinc (ls' := [(0, .ref 39), (1, .int v1), (2, .int ((((10 : Int32) * v2) + x2) - (48 : Int32))), (3, .int (v3 + (1 : Int32)))]) 3 dX9_number_53 rfl zki_1 (Nat.le_of_ble_eq_true rfl) rfl ?_
        refine zg_goto (tgt := 13) dX9_number_56 (by decide) ?_
        exact ih _ _ _ _ h
set_option maxRecDepth 20000 in
set_option maxHeartbeats 4000000 in
theorem k_X9_number {v1 : Int32} {M : zM} {r1 : Int32} {Mr : zM} (h : f9_number v1 M = some (r1, Mr)) : zK ztops yX9_number cX9_number 4 (some .int) 3 [.ref 39, .int v1] M (some (.int r1)) Mr := by
  refine zK_of pl_X9 (Nat.le_of_ble_eq_true rfl) ?_
  show zJ ztops RX9 cX9_number 4 _ 0 0 0 [(0, .ref 39), (1, .int v1)] [] M
  rw [f9_number] at h
  refine zg_aload_n 0 dX9_number_0 rfl rfl ?_
  obtain ⟨x1, hx1, h⟩ := z_bind h
  refine zg_callV (st := []) (k_X9_isDigit hx1) zY_X9_isDigit lv_X9_175 rfl zt_39 rfl (zfit_m (by decide) (by decide)) (Nat.le_of_ble_eq_true rfl) dX9_number_1 rfl ?_
  refine zg_if_ne (tgt := 9) dX9_number_4 (by decide) (fun hc => ?_) (fun hc => ?_)
  · replace h := (if_neg hc).symm.trans h
    refine zg_iconst dX9_number_9 zki_0 ?_
    refine zg_istore_n (ls' := [(0, .ref 39), (1, .int v1), (2, .int (0 : Int32))]) dX9_number_10 rfl (Nat.le_of_ble_eq_true rfl) rfl ?_
    refine zg_iconst dX9_number_11 zki_0 ?_
    refine zg_istore_n (ls' := [(0, .ref 39), (1, .int v1), (2, .int (0 : Int32)), (3, .int (0 : Int32))]) dX9_number_12 rfl (Nat.le_of_ble_eq_true rfl) rfl ?_
    exact g9_number_13 zfuel _ _ _ _ h
  · replace h := (if_pos hc).symm.trans h
    refine zg_iconst dX9_number_7 zki_m1 ?_
    obtain ⟨rfl, rfl⟩ := z_ret2 h
    exact zg_iret dX9_number_8
set_option maxRecDepth 20000 in
set_option maxHeartbeats 4000000 in
theorem k_X9_digitIn {v1 : Int32} {v2 : Int32} {M : zM} {r1 : Int32} {Mr : zM} (h : f9_digitIn v1 v2 M = some (r1, Mr)) : zK ztops yX9_digitIn cX9_digitIn 3 (some .int) 2 [.ref 39, .int v1, .int v2] M (some (.int r1)) Mr := by
  refine zK_of pl_X9 (Nat.le_of_ble_eq_true rfl) ?_
  show zJ ztops RX9 cX9_digitIn 3 _ 0 0 0 [(0, .ref 39), (1, .int v1), (2, .int v2)] [] M
  rw [f9_digitIn] at h
  refine zg_aload_n 0 dX9_digitIn_0 rfl rfl ?_
  refine zg_geti fl_X9_147 zt_39 rfl dX9_digitIn_1 ?_
  refine zg_aload_n 0 dX9_digitIn_4 rfl rfl ?_
  refine zg_geti fl_X9_158 zt_39 rfl dX9_digitIn_5 ?_
  refine zg_icmp_ge (tgt := 34) dX9_digitIn_8 (by decide) (fun hc => ?_) (fun hc => ?_)
  · replace h := (if_pos hc).symm.trans h
    refine zg_iconst dX9_digitIn_34 zki_m1 ?_
    obtain ⟨rfl, rfl⟩ := z_ret2 h
    exact zg_iret dX9_digitIn_35
  · replace h := (if_neg hc).symm.trans h
    refine zg_aload_n 0 dX9_digitIn_11 rfl rfl ?_
    refine zo_getr 43 3 rfl fl_X9_31 zt_39 rfl dX9_digitIn_12 ?_
    refine zg_aload_n 0 dX9_digitIn_15 rfl rfl ?_
    refine zg_geti fl_X9_147 zt_39 rfl dX9_digitIn_16 ?_
    obtain ⟨x1, hx1, h⟩ := z_bind h
    refine zo_iald zt_43 hx1 dX9_digitIn_19 ?_
    refine zg_bipush dX9_digitIn_20 zkb_48 ?_
    refine zg_isub dX9_digitIn_22 ?_
    refine zg_i2l dX9_digitIn_23 ?_
    refine zg_iload_n 1 dX9_digitIn_24 rfl rfl ?_
    refine zg_i2l dX9_digitIn_25 ?_
    refine zg_iload_n 2 dX9_digitIn_26 rfl rfl ?_
    refine zg_i2l dX9_digitIn_27 ?_
    obtain ⟨x2, hx2, h⟩ := z_bind h
    refine zg_callS (st := []) (k_X9_in hx2) zY_X9_in ls_X9_104 rfl (zfit_m (by decide) (by decide)) (Nat.le_of_ble_eq_true rfl) dX9_digitIn_28 rfl ?_
    refine zg_if_ne (tgt := 36) dX9_digitIn_31 (by decide) (fun hc => ?_) (fun hc => ?_)
    · replace h := (if_neg hc).symm.trans h
      refine zg_aload_n 0 dX9_digitIn_36 rfl rfl ?_
      refine zg_dup dX9_digitIn_37 rfl ?_
      refine zg_geti fl_X9_147 zt_39 rfl dX9_digitIn_38 ?_
      refine zg_iconst dX9_digitIn_41 zki_1 ?_
      refine zg_iadd dX9_digitIn_42 ?_
      refine zg_puti fp_X9_147 zt_39 rfl dX9_digitIn_43 ?_
      refine zg_aload_n 0 dX9_digitIn_46 rfl rfl ?_
      refine zo_getr 43 3 rfl fl_X9_31 zt_39 rfl dX9_digitIn_47 ?_
      refine zg_aload_n 0 dX9_digitIn_50 rfl rfl ?_
      refine zg_geti fl_X9_147 zt_39 rfl dX9_digitIn_51 ?_
      refine zg_iconst dX9_digitIn_54 zki_1 ?_
      refine zg_isub dX9_digitIn_55 ?_
      obtain ⟨x3, hx3, h⟩ := z_bind h
      refine zo_iald zt_43 hx3 dX9_digitIn_56 ?_
      refine zg_bipush dX9_digitIn_57 zkb_48 ?_
      refine zg_isub dX9_digitIn_59 ?_
      obtain ⟨rfl, rfl⟩ := z_ret2 h
      exact zg_iret dX9_digitIn_60
    · replace h := (if_pos hc).symm.trans h
      refine zg_iconst dX9_digitIn_34 zki_m1 ?_
      obtain ⟨rfl, rfl⟩ := z_ret2 h
      exact zg_iret dX9_digitIn_35
set_option maxRecDepth 20000 in
set_option maxHeartbeats 4000000 in
theorem g9_faultOf_40 {r1 : Int32} {M : zM} : ∀ (v2 : Int32), f9_faultOf_40 v2 M = some r1 → zJ ztops RX9 cX9_faultOf 5 (zBm ztops 0 (some .int) (some (.int r1)) M) 0 0 40 [(2, .int v2)] [] M := by
  intro v2 h
  rw [f9_faultOf_40] at h
  refine zg_iconst dX9_faultOf_40 zki_m1 ?_
  refine zg_iload_n 0 dX9_faultOf_41 rfl rfl ?_
  refine zg_isub dX9_faultOf_42 ?_
  obtain rfl := z_ret1 h
  exact zg_iret dX9_faultOf_43
set_option maxRecDepth 20000 in
set_option maxHeartbeats 4000000 in
theorem g9_faultOf_44 {r1 : Int32} {M : zM} : ∀ (v4 : Int32), f9_faultOf_44 v4 M = some r1 → zJ ztops RX9 cX9_faultOf 5 (zBm ztops 0 (some .int) (some (.int r1)) M) 0 0 44 [(0, .ref 39), (4, .int v4)] [] M := by
  intro v4 h
  rw [f9_faultOf_44] at h
  refine zg_iload 1 dX9_faultOf_44 rfl ?_
  suffices hj : zJ ztops RX9 cX9_faultOf 5 (zBm ztops 0 (some .int) (some (.int r1)) M) 0 0 59 [(0, .ref 39), (4, .int v4)] [.int (if v4 = 0 then ((-1 : Int32) - (M.1 39 8)) else (0 : Int32))] M by
    refine zg_if_eq (tgt := 53) dX9_faultOf_46 (by decide) (fun hc => ?_) (fun hc => ?_)
    · rw [show (if v4 = 0 then ((-1 : Int32) - (M.1 39 8)) else (0 : Int32)) = ((-1 : Int32) - (M.1 39 8)) from if_pos hc] at hj
      refine zg_iconst dX9_faultOf_53 zki_m1 ?_
      refine zg_aload_n 0 dX9_faultOf_54 rfl rfl ?_
      refine zg_geti fl_X9_147 zt_39 rfl dX9_faultOf_55 ?_
      refine zg_isub dX9_faultOf_58 ?_
      exact hj
    · rw [show (if v4 = 0 then ((-1 : Int32) - (M.1 39 8)) else (0 : Int32)) = (0 : Int32) from if_neg hc] at hj
      refine zg_iconst dX9_faultOf_49 zki_0 ?_
      refine zg_goto (tgt := 59) dX9_faultOf_50 (by decide) ?_
      exact hj
  obtain rfl := z_ret1 h
  exact zg_iret dX9_faultOf_59
set_option maxRecDepth 20000 in
set_option maxHeartbeats 4000000 in
theorem k_X9_faultOf {v1 : Int32} {v2 : Int32} {v3 : Int32} {r1 : Int32} {M : zM} (h : f9_faultOf v1 v2 v3 M = some r1) : zK ztops yX9_faultOf cX9_faultOf 5 (some .int) 0 [.ref 39, .int v1, .int v2, .int v3] M (some (.int r1)) M := by
  refine zK_of pl_X9 (Nat.le_of_ble_eq_true rfl) ?_
  show zJ ztops RX9 cX9_faultOf 5 _ 0 0 0 [(0, .ref 39), (1, .int v1), (2, .int v2), (3, .int v3)] [] M
  rw [f9_faultOf] at h
  refine zg_iload_n 3 dX9_faultOf_0 rfl rfl ?_
  suffices hj : zJ ztops RX9 cX9_faultOf 5 (zBm ztops 0 (some .int) (some (.int r1)) M) 0 0 20 [(0, .ref 39), (1, .int v1), (2, .int v2), (3, .int v3)] [.int (if v3 = 0 then (0 : Int32) else (if (M.1 39 8) = (M.1 39 9) then (1 : Int32) else (0 : Int32)))] M by
    refine zg_if_eq (tgt := 19) dX9_faultOf_1 (by decide) (fun hc => ?_) (fun hc => ?_)
    · rw [show (if v3 = 0 then (0 : Int32) else (if (M.1 39 8) = (M.1 39 9) then (1 : Int32) else (0 : Int32))) = (0 : Int32) from if_pos hc] at hj
      refine zg_iconst dX9_faultOf_19 zki_0 ?_
      exact hj
    · rw [show (if v3 = 0 then (0 : Int32) else (if (M.1 39 8) = (M.1 39 9) then (1 : Int32) else (0 : Int32))) = (if (M.1 39 8) = (M.1 39 9) then (1 : Int32) else (0 : Int32)) from if_neg hc] at hj
      refine zg_aload_n 0 dX9_faultOf_4 rfl rfl ?_
      refine zg_geti fl_X9_147 zt_39 rfl dX9_faultOf_5 ?_
      refine zg_aload_n 0 dX9_faultOf_8 rfl rfl ?_
      refine zg_geti fl_X9_158 zt_39 rfl dX9_faultOf_9 ?_
      refine zg_icmp_ne (tgt := 19) dX9_faultOf_12 (by decide) (fun hc => ?_) (fun hc => ?_)
      · rw [show (if (M.1 39 8) = (M.1 39 9) then (1 : Int32) else (0 : Int32)) = (0 : Int32) from if_neg hc] at hj
        refine zg_iconst dX9_faultOf_19 zki_0 ?_
        exact hj
      · rw [show (if (M.1 39 8) = (M.1 39 9) then (1 : Int32) else (0 : Int32)) = (1 : Int32) from if_pos hc] at hj
        refine zg_iconst dX9_faultOf_15 zki_1 ?_
        refine zg_goto (tgt := 20) dX9_faultOf_16 (by decide) ?_
        exact hj
  refine zg_istore (ls' := [(0, .ref 39), (1, .int v1), (2, .int v2), (3, .int v3), (4, .int (if v3 = 0 then (0 : Int32) else (if (M.1 39 8) = (M.1 39 9) then (1 : Int32) else (0 : Int32))))]) dX9_faultOf_20 (Nat.le_of_ble_eq_true rfl) rfl ?_
  refine zg_iload_n 1 dX9_faultOf_22 rfl rfl ?_
  refine zg_iload_n 2 dX9_faultOf_23 rfl rfl ?_
  refine zg_icmp_le (tgt := 44) dX9_faultOf_24 (by decide) (fun hc => ?_) (fun hc => ?_)
  · replace h := (if_pos hc).symm.trans h
    refine zo_sub (ls' := [(0, .ref 39), (4, .int (if v3 = 0 then (0 : Int32) else (if (M.1 39 8) = (M.1 39 9) then (1 : Int32) else (0 : Int32))))]) [0, 4] rfl ?_
    exact g9_faultOf_44 _ h
  · replace h := (if_neg hc).symm.trans h
    refine zg_iload 4 dX9_faultOf_27 rfl ?_
    refine zg_if_ne (tgt := 40) dX9_faultOf_29 (by decide) (fun hc => ?_) (fun hc => ?_)
    · replace h := (if_neg hc).symm.trans h
      refine zo_sub (ls' := [(2, .int v2)]) [2] rfl ?_
      exact g9_faultOf_40 _ h
    · replace h := (if_pos hc).symm.trans h
      refine zg_aload_n 0 dX9_faultOf_32 rfl rfl ?_
      refine zg_geti fl_X9_147 zt_39 rfl dX9_faultOf_33 ?_
      refine zg_iload_n 2 dX9_faultOf_36 rfl rfl ?_
      refine zg_icmp_lt (tgt := 44) dX9_faultOf_37 (by decide) (fun hc => ?_) (fun hc => ?_)
      · replace h := (if_pos hc).symm.trans h
        refine zo_sub (ls' := [(0, .ref 39), (4, .int (if v3 = 0 then (0 : Int32) else (if (M.1 39 8) = (M.1 39 9) then (1 : Int32) else (0 : Int32))))]) [0, 4] rfl ?_
        exact g9_faultOf_44 _ h
      · replace h := (if_neg hc).symm.trans h
        refine zo_sub (ls' := [(2, .int v2)]) [2] rfl ?_
        exact g9_faultOf_40 _ h
set_option maxRecDepth 20000 in
set_option maxHeartbeats 4000000 in
theorem g9_readsCloth_92 {r1 : Int32} {Mr : zM} {k147 : Int32 → Int32 → zM → Option (Int32 × zM)} (hk147 : ∀ (v1 : Int32) (v2 : Int32) (M : zM), k147 v1 v2 M = some (r1, Mr) → zJ ztops RX9 cX9_readsCloth 5 (zBm ztops 7 (some .int) (some (.int r1)) Mr) 0 0 147 [(0, .ref 39), (1, .int v1), (2, .int v2)] [] M) : ∀ (n : Nat) (v1 : Int32) (v2 : Int32) (v3 : Int32) (M : zM), f9_readsCloth_92 k147 n v1 v2 v3 M = some (r1, Mr) → zJ ztops RX9 cX9_readsCloth 5 (zBm ztops 7 (some .int) (some (.int r1)) Mr) 0 0 92 [(0, .ref 39), (1, .int v1), (2, .int v2), (3, .int v3)] [] M := by
  intro n
  induction n with
  | zero => intro v1 v2 v3 M h; cases h
  | succ n ih =>
    intro v1 v2 v3 M h
    rw [f9_readsCloth_92] at h
    refine zg_iload_n 3 dX9_readsCloth_92 rfl rfl ?_
    refine zg_aload_n 0 dX9_readsCloth_93 rfl rfl ?_
    refine zo_getr 44 4 rfl fl_X9_34 zt_39 rfl dX9_readsCloth_94 ?_
    refine zg_bipush dX9_readsCloth_97 zkb_7 ?_
    refine zo_ialdc 7 zt_44 (by decide) rfl dX9_readsCloth_99 ?_
    refine zg_icmp_ge (tgt := 147) dX9_readsCloth_100 (by decide) (fun hc => ?_) (fun hc => ?_)
    · replace h := (if_pos hc).symm.trans h
      refine zo_sub (ls' := [(0, .ref 39), (1, .int v1), (2, .int v2)]) [0, 1, 2] rfl ?_
      exact hk147 _ _ _ h
    · replace h := (if_neg hc).symm.trans h
      refine zg_iload_n 1 dX9_readsCloth_103 rfl rfl ?_
      refine zg_if_eq (tgt := 147) dX9_readsCloth_104 (by decide) (fun hc => ?_) (fun hc => ?_)
      · replace h := (if_pos hc).symm.trans h
        refine zo_sub (ls' := [(0, .ref 39), (1, .int v1), (2, .int v2)]) [0, 1, 2] rfl ?_
        exact hk147 _ _ _ h
      · replace h := (if_neg hc).symm.trans h
        refine zg_aload_n 0 dX9_readsCloth_107 rfl rfl ?_
        refine zg_ldcS (q := 6) rfl dX9_readsCloth_108 ?_
        obtain ⟨p1, hp1, h⟩ := z_bind h
        refine zg_callV (st := []) (k_X9_takesOf hp1) zY_X9_takesOf lv_X9_187 rfl zt_39 rfl (zfit_m (by decide) (by decide)) (Nat.le_of_ble_eq_true rfl) dX9_readsCloth_110 rfl ?_
        refine zg_istore (ls' := [(0, .ref 39), (1, .int v1), (2, .int v2), (3, .int v3), (4, .int p1.1)]) dX9_readsCloth_113 (Nat.le_of_ble_eq_true rfl) rfl ?_
        refine zg_iload 4 dX9_readsCloth_115 rfl ?_
        suffices hj : zJ ztops RX9 cX9_readsCloth 5 (zBm ztops 7 (some .int) (some (.int r1)) Mr) 0 0 125 [(0, .ref 39), (1, .int v1), (2, .int v2), (3, .int v3), (4, .int p1.1)] [.int (if p1.1 < 0 then (0 : Int32) else (1 : Int32))] p1.2 by
          refine zg_if_lt (tgt := 124) dX9_readsCloth_117 (by decide) (fun hc => ?_) (fun hc => ?_)
          · rw [show (if p1.1 < 0 then (0 : Int32) else (1 : Int32)) = (0 : Int32) from if_pos hc] at hj
            refine zg_iconst dX9_readsCloth_124 zki_0 ?_
            exact hj
          · rw [show (if p1.1 < 0 then (0 : Int32) else (1 : Int32)) = (1 : Int32) from if_neg hc] at hj
            refine zg_iconst dX9_readsCloth_120 zki_1 ?_
            refine zg_goto (tgt := 125) dX9_readsCloth_121 (by decide) ?_
            exact hj
        refine zg_istore_n (ls' := [(0, .ref 39), (1, .int (if p1.1 < 0 then (0 : Int32) else (1 : Int32))), (2, .int v2), (3, .int v3), (4, .int p1.1)]) dX9_readsCloth_125 rfl (Nat.le_of_ble_eq_true rfl) rfl ?_
        refine zg_iload_n 2 dX9_readsCloth_126 rfl rfl ?_
        refine zg_iload_n 1 dX9_readsCloth_127 rfl rfl ?_
        suffices hj : zJ ztops RX9 cX9_readsCloth 5 (zBm ztops 7 (some .int) (some (.int r1)) Mr) 0 0 139 [(0, .ref 39), (1, .int (if p1.1 < 0 then (0 : Int32) else (1 : Int32))), (2, .int v2), (3, .int v3), (4, .int p1.1)] [.int (if (if p1.1 < 0 then (0 : Int32) else (1 : Int32)) = 0 then (0 : Int32) else (zshl p1.1 v3)), .int v2] p1.2 by
          refine zg_if_eq (tgt := 138) dX9_readsCloth_128 (by decide) (fun hc => ?_) (fun hc => ?_)
          · rw [show (if (if p1.1 < 0 then (0 : Int32) else (1 : Int32)) = 0 then (0 : Int32) else (zshl p1.1 v3)) = (0 : Int32) from if_pos hc] at hj
            refine zg_iconst dX9_readsCloth_138 zki_0 ?_
            exact hj
          · rw [show (if (if p1.1 < 0 then (0 : Int32) else (1 : Int32)) = 0 then (0 : Int32) else (zshl p1.1 v3)) = (zshl p1.1 v3) from if_neg hc] at hj
            refine zg_iload 4 dX9_readsCloth_131 rfl ?_
            refine zg_iload_n 3 dX9_readsCloth_133 rfl rfl ?_
            refine zg_ishl dX9_readsCloth_134 ?_
            refine zg_goto (tgt := 139) dX9_readsCloth_135 (by decide) ?_
            exact hj
        refine zg_ior dX9_readsCloth_139 ?_
        refine zg_istore_n (ls' := [(0, .ref 39), (1, .int (if p1.1 < 0 then (0 : Int32) else (1 : Int32))), (2, .int (v2 ||| (if (if p1.1 < 0 then (0 : Int32) else (1 : Int32)) = 0 then (0 : Int32) else (zshl p1.1 v3)))), (3, .int v3), (4, .int p1.1)]) dX9_readsCloth_140 rfl (Nat.le_of_ble_eq_true rfl) rfl ?_
        refine zg_iinc (ls' := [(0, .ref 39), (1, .int (if p1.1 < 0 then (0 : Int32) else (1 : Int32))), (2, .int (v2 ||| (if (if p1.1 < 0 then (0 : Int32) else (1 : Int32)) = 0 then (0 : Int32) else (zshl p1.1 v3)))), (3, .int (v3 + (1 : Int32))), (4, .int p1.1)]) 3 dX9_readsCloth_141 rfl zki_1 (Nat.le_of_ble_eq_true rfl) rfl ?_
        refine zg_goto (tgt := 92) dX9_readsCloth_144 (by decide) ?_
        refine zo_sub (ls' := [(0, .ref 39), (1, .int (if p1.1 < 0 then (0 : Int32) else (1 : Int32))), (2, .int (v2 ||| (if (if p1.1 < 0 then (0 : Int32) else (1 : Int32)) = 0 then (0 : Int32) else (zshl p1.1 v3)))), (3, .int (v3 + (1 : Int32)))]) [0, 1, 2, 3] rfl ?_
        exact ih _ _ _ _ h
set_option maxRecDepth 20000 in
set_option maxHeartbeats 4000000 in
theorem g9_readsCloth_175 {r1 : Int32} {Mr : zM} {k45 : Int32 → zM → Option (Int32 × zM)} (hk45 : ∀ (v1 : Int32) (M : zM), k45 v1 M = some (r1, Mr) → zJ ztops RX9 cX9_readsCloth 5 (zBm ztops 7 (some .int) (some (.int r1)) Mr) 0 0 45 [(0, .ref 39), (1, .int v1)] [] M) : ∀ (v1 : Int32) (M : zM), f9_readsCloth_175 k45 v1 M = some (r1, Mr) → zJ ztops RX9 cX9_readsCloth 5 (zBm ztops 7 (some .int) (some (.int r1)) Mr) 0 0 175 [(0, .ref 39), (1, .int v1)] [] M := by
  intro v1 M h
  rw [f9_readsCloth_175] at h
  refine zg_goto (tgt := 45) dX9_readsCloth_175 (by decide) ?_
  exact hk45 _ _ h
set_option maxRecDepth 20000 in
set_option maxHeartbeats 4000000 in
theorem g9_readsCloth_147 {r1 : Int32} {Mr : zM} {k45 : Int32 → zM → Option (Int32 × zM)} (hk45 : ∀ (v1 : Int32) (M : zM), k45 v1 M = some (r1, Mr) → zJ ztops RX9 cX9_readsCloth 5 (zBm ztops 7 (some .int) (some (.int r1)) Mr) 0 0 45 [(0, .ref 39), (1, .int v1)] [] M) : ∀ (v1 : Int32) (v2 : Int32) (M : zM), f9_readsCloth_147 k45 v1 v2 M = some (r1, Mr) → zJ ztops RX9 cX9_readsCloth 5 (zBm ztops 7 (some .int) (some (.int r1)) Mr) 0 0 147 [(0, .ref 39), (1, .int v1), (2, .int v2)] [] M := by
  intro v1 v2 M h
  rw [f9_readsCloth_147] at h
  refine zg_iload_n 1 dX9_readsCloth_147 rfl rfl ?_
  refine zg_if_eq (tgt := 175) dX9_readsCloth_148 (by decide) (fun hc => ?_) (fun hc => ?_)
  · replace h := (if_pos hc).symm.trans h
    refine zo_sub (ls' := [(0, .ref 39), (1, .int v1)]) [0, 1] rfl ?_
    exact g9_readsCloth_175 hk45 _ _ h
  · replace h := (if_neg hc).symm.trans h
    refine zg_aload_n 0 dX9_readsCloth_151 rfl rfl ?_
    refine zo_getr 44 4 rfl fl_X9_34 zt_39 rfl dX9_readsCloth_152 ?_
    refine zg_aload_n 0 dX9_readsCloth_155 rfl rfl ?_
    refine zo_getr 44 4 rfl fl_X9_34 zt_39 rfl dX9_readsCloth_156 ?_
    refine zg_bipush dX9_readsCloth_159 zkb_6 ?_
    refine zo_ialdc 6 zt_44 (by decide) rfl dX9_readsCloth_161 ?_
    refine zg_iload_n 2 dX9_readsCloth_162 rfl rfl ?_
    obtain ⟨M1, hM1, h⟩ := z_bind h
    refine zo_iast zt_44 hM1 dX9_readsCloth_163 ?_
    refine zg_aload_n 0 dX9_readsCloth_164 rfl rfl ?_
    refine zo_getr 44 4 rfl fl_X9_34 zt_39 rfl dX9_readsCloth_165 ?_
    refine zg_bipush dX9_readsCloth_168 zkb_6 ?_
    refine zg_dup2 dX9_readsCloth_170 rfl rfl ?_
    refine zo_ialdc 6 zt_44 (by decide) rfl dX9_readsCloth_171 ?_
    refine zg_iconst dX9_readsCloth_172 zki_1 ?_
    refine zg_iadd dX9_readsCloth_173 ?_
    refine zo_iastc 6 zt_44 (by decide) rfl dX9_readsCloth_174 ?_
    refine zo_sub (ls' := [(0, .ref 39), (1, .int v1)]) [0, 1] rfl ?_
    exact g9_readsCloth_175 hk45 _ _ h
set_option maxRecDepth 20000 in
set_option maxHeartbeats 4000000 in
theorem g9_readsCloth_70 {r1 : Int32} {Mr : zM} {k45 : Int32 → zM → Option (Int32 × zM)} (hk45 : ∀ (v1 : Int32) (M : zM), k45 v1 M = some (r1, Mr) → zJ ztops RX9 cX9_readsCloth 5 (zBm ztops 7 (some .int) (some (.int r1)) Mr) 0 0 45 [(0, .ref 39), (1, .int v1)] [] M) : ∀ (M : zM), f9_readsCloth_70 k45 M = some (r1, Mr) → zJ ztops RX9 cX9_readsCloth 5 (zBm ztops 7 (some .int) (some (.int r1)) Mr) 0 0 70 [(0, .ref 39)] [] M := by
  intro M h
  rw [f9_readsCloth_70] at h
  refine zg_aload_n 0 dX9_readsCloth_70 rfl rfl ?_
  refine zo_getr 44 4 rfl fl_X9_34 zt_39 rfl dX9_readsCloth_71 ?_
  refine zg_bipush dX9_readsCloth_74 zkb_6 ?_
  refine zo_ialdc 6 zt_44 (by decide) rfl dX9_readsCloth_76 ?_
  refine zg_bipush dX9_readsCloth_77 zkb_6 ?_
  suffices hj : zJ ztops RX9 cX9_readsCloth 5 (zBm ztops 7 (some .int) (some (.int r1)) Mr) 0 0 87 [(0, .ref 39)] [.int (if (6 : Int32) ≤ (M.1 44 6) then (0 : Int32) else (1 : Int32))] M by
    refine zg_icmp_ge (tgt := 86) dX9_readsCloth_79 (by decide) (fun hc => ?_) (fun hc => ?_)
    · rw [show (if (6 : Int32) ≤ (M.1 44 6) then (0 : Int32) else (1 : Int32)) = (0 : Int32) from if_pos hc] at hj
      refine zg_iconst dX9_readsCloth_86 zki_0 ?_
      exact hj
    · rw [show (if (6 : Int32) ≤ (M.1 44 6) then (0 : Int32) else (1 : Int32)) = (1 : Int32) from if_neg hc] at hj
      refine zg_iconst dX9_readsCloth_82 zki_1 ?_
      refine zg_goto (tgt := 87) dX9_readsCloth_83 (by decide) ?_
      exact hj
  refine zg_istore_n (ls' := [(0, .ref 39), (1, .int (if (6 : Int32) ≤ (M.1 44 6) then (0 : Int32) else (1 : Int32)))]) dX9_readsCloth_87 rfl (Nat.le_of_ble_eq_true rfl) rfl ?_
  refine zg_iconst dX9_readsCloth_88 zki_0 ?_
  refine zg_istore_n (ls' := [(0, .ref 39), (1, .int (if (6 : Int32) ≤ (M.1 44 6) then (0 : Int32) else (1 : Int32))), (2, .int (0 : Int32))]) dX9_readsCloth_89 rfl (Nat.le_of_ble_eq_true rfl) rfl ?_
  refine zg_iconst dX9_readsCloth_90 zki_0 ?_
  refine zg_istore_n (ls' := [(0, .ref 39), (1, .int (if (6 : Int32) ≤ (M.1 44 6) then (0 : Int32) else (1 : Int32))), (2, .int (0 : Int32)), (3, .int (0 : Int32))]) dX9_readsCloth_91 rfl (Nat.le_of_ble_eq_true rfl) rfl ?_
  exact g9_readsCloth_92 (fun u0 u1 u2 h => g9_readsCloth_147 hk45 u0 u1 u2 h) zfuel _ _ _ _ h
set_option maxRecDepth 20000 in
set_option maxHeartbeats 4000000 in
theorem g9_readsCloth_178 {r1 : Int32} {Mr : zM} : ∀ (v1 : Int32) (M : zM), f9_readsCloth_178 v1 M = some (r1, Mr) → zJ ztops RX9 cX9_readsCloth 5 (zBm ztops 7 (some .int) (some (.int r1)) Mr) 0 0 178 [(0, .ref 39), (1, .int v1)] [] M := by
  intro v1 M h
  rw [f9_readsCloth_178] at h
  refine zg_iload_n 1 dX9_readsCloth_178 rfl rfl ?_
  suffices hj : zJ ztops RX9 cX9_readsCloth 5 (zBm ztops 7 (some .int) (some (.int r1)) Mr) 0 0 192 [(0, .ref 39), (1, .int v1)] [.int (if v1 = 0 then ((-1 : Int32) - (M.1 39 8)) else (0 : Int32))] M by
    refine zg_if_eq (tgt := 186) dX9_readsCloth_179 (by decide) (fun hc => ?_) (fun hc => ?_)
    · rw [show (if v1 = 0 then ((-1 : Int32) - (M.1 39 8)) else (0 : Int32)) = ((-1 : Int32) - (M.1 39 8)) from if_pos hc] at hj
      refine zg_iconst dX9_readsCloth_186 zki_m1 ?_
      refine zg_aload_n 0 dX9_readsCloth_187 rfl rfl ?_
      refine zg_geti fl_X9_147 zt_39 rfl dX9_readsCloth_188 ?_
      refine zg_isub dX9_readsCloth_191 ?_
      exact hj
    · rw [show (if v1 = 0 then ((-1 : Int32) - (M.1 39 8)) else (0 : Int32)) = (0 : Int32) from if_neg hc] at hj
      refine zg_iconst dX9_readsCloth_182 zki_0 ?_
      refine zg_goto (tgt := 192) dX9_readsCloth_183 (by decide) ?_
      exact hj
  obtain ⟨rfl, rfl⟩ := z_ret2 h
  exact zg_iret dX9_readsCloth_192
set_option maxRecDepth 20000 in
set_option maxHeartbeats 4000000 in
theorem g9_readsCloth_45 {r1 : Int32} {Mr : zM} : ∀ (n : Nat) (v1 : Int32) (M : zM), f9_readsCloth_45 n v1 M = some (r1, Mr) → zJ ztops RX9 cX9_readsCloth 5 (zBm ztops 7 (some .int) (some (.int r1)) Mr) 0 0 45 [(0, .ref 39), (1, .int v1)] [] M := by
  intro n
  induction n with
  | zero => intro v1 M h; cases h
  | succ n ih =>
    intro v1 M h
    rw [f9_readsCloth_45] at h
    refine zg_iload_n 1 dX9_readsCloth_45 rfl rfl ?_
    refine zg_if_eq (tgt := 178) dX9_readsCloth_46 (by decide) (fun hc => ?_) (fun hc => ?_)
    · replace h := (if_pos hc).symm.trans h
      exact g9_readsCloth_178 _ _ h
    · replace h := (if_neg hc).symm.trans h
      refine zg_aload_n 0 dX9_readsCloth_49 rfl rfl ?_
      refine zo_getr 44 4 rfl fl_X9_34 zt_39 rfl dX9_readsCloth_50 ?_
      refine zg_bipush dX9_readsCloth_53 zkb_6 ?_
      refine zo_ialdc 6 zt_44 (by decide) rfl dX9_readsCloth_55 ?_
      refine zg_if_eq (tgt := 70) dX9_readsCloth_56 (by decide) (fun hc => ?_) (fun hc => ?_)
      · replace h := (if_pos hc).symm.trans h
        refine zo_sub (ls' := [(0, .ref 39)]) [0] rfl ?_
        exact g9_readsCloth_70 (fun u0 u1 h => ih u0 u1 h) _ h
      · replace h := (if_neg hc).symm.trans h
        refine zg_aload_n 0 dX9_readsCloth_59 rfl rfl ?_
        refine zg_geti fl_X9_147 zt_39 rfl dX9_readsCloth_60 ?_
        refine zg_aload_n 0 dX9_readsCloth_63 rfl rfl ?_
        refine zg_geti fl_X9_158 zt_39 rfl dX9_readsCloth_64 ?_
        refine zg_icmp_ge (tgt := 178) dX9_readsCloth_67 (by decide) (fun hc => ?_) (fun hc => ?_)
        · replace h := (if_pos hc).symm.trans h
          exact g9_readsCloth_178 _ _ h
        · replace h := (if_neg hc).symm.trans h
          refine zo_sub (ls' := [(0, .ref 39)]) [0] rfl ?_
          exact g9_readsCloth_70 (fun u0 u1 h => ih u0 u1 h) _ h
set_option maxRecDepth 20000 in
set_option maxHeartbeats 4000000 in
theorem k_X9_readsCloth {M : zM} {r1 : Int32} {Mr : zM} (h : f9_readsCloth M = some (r1, Mr)) : zK ztops yX9_readsCloth cX9_readsCloth 5 (some .int) 7 [.ref 39] M (some (.int r1)) Mr := by
  refine zK_of pl_X9 (Nat.le_of_ble_eq_true rfl) ?_
  show zJ ztops RX9 cX9_readsCloth 5 _ 0 0 0 [(0, .ref 39)] [] M
  rw [f9_readsCloth] at h
  refine zg_aload_n 0 dX9_readsCloth_0 rfl rfl ?_
  refine zg_bipush dX9_readsCloth_1 zkb_80 ?_
  obtain ⟨p1, hp1, h⟩ := z_bind h
  refine zg_callV (st := []) (k_X9_begins hp1) zY_X9_begins lv_X9_179 rfl zt_39 rfl (zfit_m (by decide) (by decide)) (Nat.le_of_ble_eq_true rfl) dX9_readsCloth_3 rfl ?_
  refine zg_pop dX9_readsCloth_6 rfl ?_
  refine zg_aload_n 0 dX9_readsCloth_7 rfl rfl ?_
  refine zo_getr 44 4 rfl fl_X9_34 zt_39 rfl dX9_readsCloth_8 ?_
  refine zg_bipush dX9_readsCloth_11 zkb_6 ?_
  refine zg_iconst dX9_readsCloth_13 zki_0 ?_
  refine zo_iastc 6 zt_44 (by decide) rfl dX9_readsCloth_14 ?_
  refine zg_aload_n 0 dX9_readsCloth_15 rfl rfl ?_
  refine zo_getr 44 4 rfl fl_X9_34 zt_39 rfl dX9_readsCloth_16 ?_
  refine zg_bipush dX9_readsCloth_19 zkb_7 ?_
  refine zg_aload_n 0 dX9_readsCloth_21 rfl rfl ?_
  refine zg_iconst dX9_readsCloth_22 zki_1 ?_
  refine zg_bipush dX9_readsCloth_23 zkb_6 ?_
  obtain ⟨p2, hp2, h⟩ := z_bind h
  refine zg_callV (st := [.int (7 : Int32), .ref 44]) (k_X9_digitIn hp2) zY_X9_digitIn lv_X9_182 rfl zt_39 rfl (zfit_m (by decide) (by decide)) (Nat.le_of_ble_eq_true rfl) dX9_readsCloth_25 rfl ?_
  refine zo_iastc 7 zt_44 (by decide) rfl dX9_readsCloth_28 ?_
  refine zg_aload_n 0 dX9_readsCloth_29 rfl rfl ?_
  refine zo_getr 44 4 rfl fl_X9_34 zt_39 rfl dX9_readsCloth_30 ?_
  refine zg_bipush dX9_readsCloth_33 zkb_7 ?_
  refine zo_ialdc 7 zt_44 (by decide) rfl dX9_readsCloth_35 ?_
  suffices hj : zJ ztops RX9 cX9_readsCloth 5 (zBm ztops 7 (some .int) (some (.int r1)) Mr) 0 0 44 [(0, .ref 39)] [.int (if ((zsi p2.2 44 7 p2.1).1 44 7) ≤ 0 then (0 : Int32) else (1 : Int32))] (zsi p2.2 44 7 p2.1) by
    refine zg_if_le (tgt := 43) dX9_readsCloth_36 (by decide) (fun hc => ?_) (fun hc => ?_)
    · rw [show (if ((zsi p2.2 44 7 p2.1).1 44 7) ≤ 0 then (0 : Int32) else (1 : Int32)) = (0 : Int32) from if_pos hc] at hj
      refine zg_iconst dX9_readsCloth_43 zki_0 ?_
      exact hj
    · rw [show (if ((zsi p2.2 44 7 p2.1).1 44 7) ≤ 0 then (0 : Int32) else (1 : Int32)) = (1 : Int32) from if_neg hc] at hj
      refine zg_iconst dX9_readsCloth_39 zki_1 ?_
      refine zg_goto (tgt := 44) dX9_readsCloth_40 (by decide) ?_
      exact hj
  refine zg_istore_n (ls' := [(0, .ref 39), (1, .int (if ((zsi p2.2 44 7 p2.1).1 44 7) ≤ 0 then (0 : Int32) else (1 : Int32)))]) dX9_readsCloth_44 rfl (Nat.le_of_ble_eq_true rfl) rfl ?_
  exact g9_readsCloth_45 zfuel _ _ h
set_option maxRecDepth 20000 in
set_option maxHeartbeats 4000000 in
theorem k_X9_cloth {M : zM} {r1 : Int32} {Mr : zM} (h : f9_cloth M = some (r1, Mr)) : zK ztops yX9_cloth cX9_cloth 2 (some .int) 8 [.ref 39] M (some (.int r1)) Mr := by
  refine zK_of pl_X9 (Nat.le_of_ble_eq_true rfl) ?_
  show zJ ztops RX9 cX9_cloth 2 _ 0 0 0 [(0, .ref 39)] [] M
  rw [f9_cloth] at h
  refine zg_aload_n 0 dX9_cloth_0 rfl rfl ?_
  refine zg_iconst dX9_cloth_1 zki_0 ?_
  refine zg_puti fp_X9_3 zt_39 rfl dX9_cloth_2 ?_
  refine zg_aload_n 0 dX9_cloth_5 rfl rfl ?_
  obtain ⟨p1, hp1, h⟩ := z_bind h
  refine zg_callV (st := []) (k_X9_readsCloth hp1) zY_X9_readsCloth lv_X9_191 rfl zt_39 rfl (zfit_m (by decide) (by decide)) (Nat.le_of_ble_eq_true rfl) dX9_cloth_6 rfl ?_
  refine zg_istore_n (ls' := [(0, .ref 39), (1, .int p1.1)]) dX9_cloth_9 rfl (Nat.le_of_ble_eq_true rfl) rfl ?_
  refine zg_iload_n 1 dX9_cloth_10 rfl rfl ?_
  refine zg_if_ge (tgt := 16) dX9_cloth_11 (by decide) (fun hc => ?_) (fun hc => ?_)
  · replace h := (if_pos hc).symm.trans h
    refine zg_aload_n 0 dX9_cloth_16 rfl rfl ?_
    refine zo_getr 41 1 rfl fl_X9_24 zt_39 rfl dX9_cloth_17 ?_
    refine zg_aload_n 0 dX9_cloth_20 rfl rfl ?_
    refine zo_getr 44 4 rfl fl_X9_34 zt_39 rfl dX9_cloth_21 ?_
    obtain ⟨M2, hM2, h⟩ := z_bind h
    refine zg_callS (st := []) (k_X9_copies zt_41 zt_44 hM2) zY_X9_copies ls_X9_194 rfl (zfit_m (by decide) (by decide)) (Nat.le_of_ble_eq_true rfl) dX9_cloth_24 rfl ?_
    refine zg_aload_n 0 dX9_cloth_27 rfl rfl ?_
    refine zo_getr 41 1 rfl fl_X9_24 zt_39 rfl dX9_cloth_28 ?_
    refine zg_bipush dX9_cloth_31 zkb_8 ?_
    refine zg_iconst dX9_cloth_33 zki_0 ?_
    refine zo_iastc 8 zt_41 (by decide) rfl dX9_cloth_34 ?_
    refine zg_aload_n 0 dX9_cloth_35 rfl rfl ?_
    refine zg_iconst dX9_cloth_36 zki_0 ?_
    refine zg_puti fp_X9_198 zt_39 rfl dX9_cloth_37 ?_
    refine zg_aload_n 0 dX9_cloth_40 rfl rfl ?_
    refine zg_dup dX9_cloth_41 rfl ?_
    refine zg_geti fl_X9_201 zt_39 rfl dX9_cloth_42 ?_
    refine zg_iconst dX9_cloth_45 zki_1 ?_
    refine zg_iadd dX9_cloth_46 ?_
    refine zg_puti fp_X9_201 zt_39 rfl dX9_cloth_47 ?_
    refine zg_aload_n 0 dX9_cloth_50 rfl rfl ?_
    refine zo_getr 41 1 rfl fl_X9_24 zt_39 rfl dX9_cloth_51 ?_
    refine zg_bipush dX9_cloth_54 zkb_6 ?_
    refine zo_ialdc 6 zt_41 (by decide) rfl dX9_cloth_56 ?_
    obtain ⟨rfl, rfl⟩ := z_ret2 h
    exact zg_iret dX9_cloth_57
  · replace h := (if_neg hc).symm.trans h
    refine zg_iload_n 1 dX9_cloth_14 rfl rfl ?_
    obtain ⟨rfl, rfl⟩ := z_ret2 h
    exact zg_iret dX9_cloth_15
set_option maxRecDepth 20000 in
set_option maxHeartbeats 4000000 in
theorem k_X9_codes {v1 : Int32} {M : zM} {Mr : zM} (h : f9_codes v1 M = some Mr) : zK ztops yX9_codes cX9_codes 2 (none) 0 [.ref 39, .int v1] M none Mr := by
  refine zK_of pl_X9 (Nat.le_of_ble_eq_true rfl) ?_
  show zJ ztops RX9 cX9_codes 2 _ 0 0 0 [(0, .ref 39), (1, .int v1)] [] M
  rw [f9_codes] at h
  refine zg_aload_n 0 dX9_codes_0 rfl rfl ?_
  refine zo_getr 46 6 rfl fl_X9_40 zt_39 rfl dX9_codes_1 ?_
  refine zg_aload_n 0 dX9_codes_4 rfl rfl ?_
  refine zg_geti fl_X9_204 zt_39 rfl dX9_codes_5 ?_
  refine zg_iload_n 1 dX9_codes_8 rfl rfl ?_
  obtain ⟨M1, hM1, h⟩ := z_bind h
  refine zo_iast zt_46 hM1 dX9_codes_9 ?_
  refine zg_aload_n 0 dX9_codes_10 rfl rfl ?_
  refine zg_dup dX9_codes_11 rfl ?_
  refine zg_geti fl_X9_204 zt_39 rfl dX9_codes_12 ?_
  refine zg_iconst dX9_codes_15 zki_1 ?_
  refine zg_iadd dX9_codes_16 ?_
  refine zg_puti fp_X9_204 zt_39 rfl dX9_codes_17 ?_
  obtain rfl := z_ret1 h
  exact zg_vret dX9_codes_20
set_option maxRecDepth 20000 in
set_option maxHeartbeats 4000000 in
theorem k_X9_readsThing {gd gr : Nat} {rec : Nat → Int32 → zM → Option (Int32 × zM)} (hdr : gr < gd) (hgd : 20 ≤ gd) (hrec_readsThing : ∀ {M : zM} {p : Int32 × zM}, rec 0 0 M = some p → zK ztops yX9_readsThing cX9_readsThing 2 (some .boolean) gr [.ref 39] M (some (.int p.1)) p.2) (hrec_readsRank : ∀ {v : Int32} {M : zM} {p : Int32 × zM}, rec 1 v M = some p → zK ztops yX9_readsRank cX9_readsRank 4 (some .boolean) gr [.ref 39, .int v] M (some (.int p.1)) p.2) {M : zM} {r1 : Int32} {Mr : zM} (h : f9_readsThing rec M = some (r1, Mr)) : zK ztops yX9_readsThing cX9_readsThing 2 (some .boolean) gd [.ref 39] M (some (.int r1)) Mr := by
  refine zK_of pl_X9 (Nat.le_of_ble_eq_true rfl) ?_
  show zJ ztops RX9 cX9_readsThing 2 _ 0 0 0 [(0, .ref 39)] [] M
  rw [f9_readsThing] at h
  refine zg_aload_n 0 dX9_readsThing_0 rfl rfl ?_
  refine zg_bipush dX9_readsThing_1 zkb_45 ?_
  obtain ⟨p1, hp1, h⟩ := z_bind h
  refine zg_callV (st := []) (k_X9_takes hp1) zY_X9_takes lv_X9_207 rfl zt_39 rfl (zfit_m (Nat.lt_of_lt_of_le (by decide) hgd) (by decide)) (Nat.le_of_ble_eq_true rfl) dX9_readsThing_3 rfl ?_
  refine zg_if_eq (tgt := 23) dX9_readsThing_6 (by decide) (fun hc => ?_) (fun hc => ?_)
  · replace h := (if_pos hc).symm.trans h
    refine zg_aload_n 0 dX9_readsThing_23 rfl rfl ?_
    obtain ⟨x2, hx2, h⟩ := z_bind h
    refine zg_callV (st := []) (k_X9_isDigit hx2) zY_X9_isDigit lv_X9_175 rfl zt_39 rfl (zfit_m (Nat.lt_of_lt_of_le (by decide) hgd) (by decide)) (Nat.le_of_ble_eq_true rfl) dX9_readsThing_24 rfl ?_
    refine zg_if_eq (tgt := 41) dX9_readsThing_27 (by decide) (fun hc => ?_) (fun hc => ?_)
    · replace h := (if_pos hc).symm.trans h
      refine zg_aload_n 0 dX9_readsThing_41 rfl rfl ?_
      refine zg_ldcS (q := 7) rfl dX9_readsThing_42 ?_
      obtain ⟨p3, hp3, h⟩ := z_bind h
      refine zg_callV (st := []) (k_X9_takesOf hp3) zY_X9_takesOf lv_X9_187 rfl zt_39 rfl (zfit_m (Nat.lt_of_lt_of_le (by decide) hgd) (by decide)) (Nat.le_of_ble_eq_true rfl) dX9_readsThing_44 rfl ?_
      refine zg_istore_n (ls' := [(0, .ref 39), (1, .int p3.1)]) dX9_readsThing_47 rfl (Nat.le_of_ble_eq_true rfl) rfl ?_
      refine zg_iload_n 1 dX9_readsThing_48 rfl rfl ?_
      refine zg_if_lt (tgt := 63) dX9_readsThing_49 (by decide) (fun hc => ?_) (fun hc => ?_)
      · replace h := (if_pos hc).symm.trans h
        refine zg_aload_n 0 dX9_readsThing_63 rfl rfl ?_
        refine zg_geti fl_X9_150 zt_39 rfl dX9_readsThing_64 ?_
        refine zg_iconst dX9_readsThing_67 zki_4 ?_
        refine zg_icmp_eq (tgt := 80) dX9_readsThing_68 (by decide) (fun hc => ?_) (fun hc => ?_)
        · replace h := (if_pos hc).symm.trans h
          refine zg_iconst dX9_readsThing_80 zki_0 ?_
          obtain ⟨rfl, rfl⟩ := z_ret2 h
          exact zg_zret rfl dX9_readsThing_81
        · replace h := (if_neg hc).symm.trans h
          refine zg_aload_n 0 dX9_readsThing_71 rfl rfl ?_
          refine zg_bipush dX9_readsThing_72 zkb_40 ?_
          obtain ⟨p4, hp4, h⟩ := z_bind h
          refine zg_callV (st := []) (k_X9_takes hp4) zY_X9_takes lv_X9_207 rfl zt_39 rfl (zfit_m (Nat.lt_of_lt_of_le (by decide) hgd) (by decide)) (Nat.le_of_ble_eq_true rfl) dX9_readsThing_74 rfl ?_
          refine zg_if_ne (tgt := 82) dX9_readsThing_77 (by decide) (fun hc => ?_) (fun hc => ?_)
          · replace h := (if_neg hc).symm.trans h
            refine zg_aload_n 0 dX9_readsThing_82 rfl rfl ?_
            refine zg_dup dX9_readsThing_83 rfl ?_
            refine zg_geti fl_X9_150 zt_39 rfl dX9_readsThing_84 ?_
            refine zg_iconst dX9_readsThing_87 zki_1 ?_
            refine zg_iadd dX9_readsThing_88 ?_
            refine zg_puti fp_X9_150 zt_39 rfl dX9_readsThing_89 ?_
            refine zg_aload_n 0 dX9_readsThing_92 rfl rfl ?_
            refine zg_iconst dX9_readsThing_93 zki_0 ?_
            obtain ⟨p5, hp5, h⟩ := z_bind h
            refine zg_callV (st := []) (hrec_readsRank hp5) zY_X9_readsRank lv_X9_223 rfl zt_39 rfl (zfit_m hdr (by decide)) (Nat.le_of_ble_eq_true rfl) dX9_readsThing_94 rfl ?_
            refine zg_if_eq (tgt := 109) dX9_readsThing_97 (by decide) (fun hc => ?_) (fun hc => ?_)
            · replace h := (if_pos hc).symm.trans h
              refine zg_iconst dX9_readsThing_109 zki_0 ?_
              obtain ⟨rfl, rfl⟩ := z_ret2 h
              exact zg_zret rfl dX9_readsThing_110
            · replace h := (if_neg hc).symm.trans h
              refine zg_aload_n 0 dX9_readsThing_100 rfl rfl ?_
              refine zg_bipush dX9_readsThing_101 zkb_41 ?_
              obtain ⟨p6, hp6, h⟩ := z_bind h
              refine zg_callV (st := []) (k_X9_takes hp6) zY_X9_takes lv_X9_207 rfl zt_39 rfl (zfit_m (Nat.lt_of_lt_of_le (by decide) hgd) (by decide)) (Nat.le_of_ble_eq_true rfl) dX9_readsThing_103 rfl ?_
              refine zg_if_ne (tgt := 111) dX9_readsThing_106 (by decide) (fun hc => ?_) (fun hc => ?_)
              · replace h := (if_neg hc).symm.trans h
                refine zg_aload_n 0 dX9_readsThing_111 rfl rfl ?_
                refine zg_dup dX9_readsThing_112 rfl ?_
                refine zg_geti fl_X9_150 zt_39 rfl dX9_readsThing_113 ?_
                refine zg_iconst dX9_readsThing_116 zki_1 ?_
                refine zg_isub dX9_readsThing_117 ?_
                refine zg_puti fp_X9_150 zt_39 rfl dX9_readsThing_118 ?_
                refine zg_iconst dX9_readsThing_121 zki_1 ?_
                obtain ⟨rfl, rfl⟩ := z_ret2 h
                exact zg_zret rfl dX9_readsThing_122
              · replace h := (if_pos hc).symm.trans h
                refine zg_iconst dX9_readsThing_109 zki_0 ?_
                obtain ⟨rfl, rfl⟩ := z_ret2 h
                exact zg_zret rfl dX9_readsThing_110
          · replace h := (if_pos hc).symm.trans h
            refine zg_iconst dX9_readsThing_80 zki_0 ?_
            obtain ⟨rfl, rfl⟩ := z_ret2 h
            exact zg_zret rfl dX9_readsThing_81
      · replace h := (if_neg hc).symm.trans h
        refine zg_aload_n 0 dX9_readsThing_52 rfl rfl ?_
        refine zg_sipush dX9_readsThing_53 zks_1000 ?_
        refine zg_iload_n 1 dX9_readsThing_56 rfl rfl ?_
        refine zg_iadd dX9_readsThing_57 ?_
        obtain ⟨M4, hM4, h⟩ := z_bind h
        refine zg_callV (st := []) (k_X9_codes hM4) zY_X9_codes lv_X9_214 rfl zt_39 rfl (zfit_m (Nat.lt_of_lt_of_le (by decide) hgd) (by decide)) (Nat.le_of_ble_eq_true rfl) dX9_readsThing_58 rfl ?_
        refine zg_iconst dX9_readsThing_61 zki_1 ?_
        obtain ⟨rfl, rfl⟩ := z_ret2 h
        exact zg_zret rfl dX9_readsThing_62
    · replace h := (if_neg hc).symm.trans h
      refine zg_aload_n 0 dX9_readsThing_30 rfl rfl ?_
      refine zg_aload_n 0 dX9_readsThing_31 rfl rfl ?_
      refine zg_iconst dX9_readsThing_32 zki_3 ?_
      obtain ⟨p3, hp3, h⟩ := z_bind h
      refine zg_callV (st := [.ref 39]) (k_X9_number hp3) zY_X9_number lv_X9_218 rfl zt_39 rfl (zfit_m (Nat.lt_of_lt_of_le (by decide) hgd) (by decide)) (Nat.le_of_ble_eq_true rfl) dX9_readsThing_33 rfl ?_
      obtain ⟨M4, hM4, h⟩ := z_bind h
      refine zg_callV (st := []) (k_X9_codes hM4) zY_X9_codes lv_X9_214 rfl zt_39 rfl (zfit_m (Nat.lt_of_lt_of_le (by decide) hgd) (by decide)) (Nat.le_of_ble_eq_true rfl) dX9_readsThing_36 rfl ?_
      refine zg_iconst dX9_readsThing_39 zki_1 ?_
      obtain ⟨rfl, rfl⟩ := z_ret2 h
      exact zg_zret rfl dX9_readsThing_40
  · replace h := (if_neg hc).symm.trans h
    refine zg_aload_n 0 dX9_readsThing_9 rfl rfl ?_
    obtain ⟨p2, hp2, h⟩ := z_bind h
    refine zg_callV (st := []) (hrec_readsThing hp2) zY_X9_readsThing lv_X9_211 rfl zt_39 rfl (zfit_m hdr (by decide)) (Nat.le_of_ble_eq_true rfl) dX9_readsThing_10 rfl ?_
    refine zg_istore_n (ls' := [(0, .ref 39), (1, .int p2.1)]) dX9_readsThing_13 rfl (Nat.le_of_ble_eq_true rfl) rfl ?_
    refine zg_aload_n 0 dX9_readsThing_14 rfl rfl ?_
    refine zg_sipush dX9_readsThing_15 zks_3000 ?_
    obtain ⟨M3, hM3, h⟩ := z_bind h
    refine zg_callV (st := []) (k_X9_codes hM3) zY_X9_codes lv_X9_214 rfl zt_39 rfl (zfit_m (Nat.lt_of_lt_of_le (by decide) hgd) (by decide)) (Nat.le_of_ble_eq_true rfl) dX9_readsThing_18 rfl ?_
    refine zg_iload_n 1 dX9_readsThing_21 rfl rfl ?_
    obtain ⟨x4, hx4, h⟩ := z_bind h
    obtain ⟨rfl, hzx4⟩ := zbl_ok hx4
    obtain ⟨rfl, rfl⟩ := z_ret2 h
    exact zg_zret hzx4 dX9_readsThing_22
set_option maxRecDepth 20000 in
set_option maxHeartbeats 4000000 in
theorem g9_readsRank_50 {r1 : Int32} {Mr : zM} {gd gr : Nat} {rec : Nat → Int32 → zM → Option (Int32 × zM)} (hdr : gr < gd) (hgd : 20 ≤ gd) (hrec_readsThing : ∀ {M : zM} {p : Int32 × zM}, rec 0 0 M = some p → zK ztops yX9_readsThing cX9_readsThing 2 (some .boolean) gr [.ref 39] M (some (.int p.1)) p.2) (hrec_readsRank : ∀ {v : Int32} {M : zM} {p : Int32 × zM}, rec 1 v M = some p → zK ztops yX9_readsRank cX9_readsRank 4 (some .boolean) gr [.ref 39, .int v] M (some (.int p.1)) p.2) {k24 : Int32 → Int32 → zM → Option (Int32 × zM)} (hk24 : ∀ (v1 : Int32) (v2 : Int32) (M : zM), k24 v1 v2 M = some (r1, Mr) → zJ ztops RX9 cX9_readsRank 4 (zBm ztops gd (some .boolean) (some (.int r1)) Mr) 0 0 24 [(0, .ref 39), (1, .int v1), (2, .int v2)] [] M) : ∀ (v1 : Int32) (s1 : Nat) (M : zM), f9_readsRank_50 rec k24 v1 s1 M = some (r1, Mr) → zJ ztops RX9 cX9_readsRank 4 (zBm ztops gd (some .boolean) (some (.int r1)) Mr) 0 0 50 [(0, .ref 39), (1, .int v1)] [.ref (1000 + s1), .ref 39] M := by
  intro v1 s1 M h
  rw [f9_readsRank_50] at h
  obtain ⟨p1, hp1, h⟩ := z_bind h
  refine zg_callV (st := []) (k_X9_takesOf hp1) zY_X9_takesOf lv_X9_187 rfl zt_39 rfl (zfit_m (Nat.lt_of_lt_of_le (by decide) hgd) (by decide)) (Nat.le_of_ble_eq_true rfl) dX9_readsRank_50 rfl ?_
  refine zg_istore_n (ls' := [(0, .ref 39), (1, .int v1), (3, .int p1.1)]) dX9_readsRank_53 rfl (Nat.le_of_ble_eq_true rfl) rfl ?_
  refine zg_iload_n 2 dX9_readsRank_54 rfl rfl ?_
  refine zg_if_ge (tgt := 60) dX9_readsRank_55 (by decide) (fun hc => ?_) (fun hc => ?_)
  · replace h := (if_pos hc).symm.trans h
    refine zg_aload_n 0 dX9_readsRank_60 rfl rfl ?_
    refine zg_iload_n 1 dX9_readsRank_61 rfl rfl ?_
    refine zg_iconst dX9_readsRank_62 zki_1 ?_
    refine zg_iadd dX9_readsRank_63 ?_
    obtain ⟨p2, hp2, h⟩ := z_bind h
    refine zg_callV (st := []) (hrec_readsRank hp2) zY_X9_readsRank lv_X9_223 rfl zt_39 rfl (zfit_m hdr (by decide)) (Nat.le_of_ble_eq_true rfl) dX9_readsRank_64 rfl ?_
    refine zg_if_ne (tgt := 72) dX9_readsRank_67 (by decide) (fun hc => ?_) (fun hc => ?_)
    · replace h := (if_neg hc).symm.trans h
      refine zg_aload_n 0 dX9_readsRank_72 rfl rfl ?_
      refine zg_sipush dX9_readsRank_73 zks_2000 ?_
      refine zg_iload_n 2 dX9_readsRank_76 rfl rfl ?_
      refine zg_iadd dX9_readsRank_77 ?_
      refine zg_iload_n 1 dX9_readsRank_78 rfl rfl ?_
      suffices hj : zJ ztops RX9 cX9_readsRank 4 (zBm ztops gd (some .boolean) (some (.int r1)) Mr) 0 0 96 [(0, .ref 39), (1, .int v1), (3, .int p1.1)] [.int (if v1 = 0 then (0 : Int32) else (if v1 = (1 : Int32) then (3 : Int32) else (5 : Int32))), .int ((2000 : Int32) + p1.1), .ref 39] p2.2 by
        refine zg_if_ne (tgt := 86) dX9_readsRank_79 (by decide) (fun hc => ?_) (fun hc => ?_)
        · rw [show (if v1 = 0 then (0 : Int32) else (if v1 = (1 : Int32) then (3 : Int32) else (5 : Int32))) = (if v1 = (1 : Int32) then (3 : Int32) else (5 : Int32)) from if_neg hc] at hj
          refine zg_iload_n 1 dX9_readsRank_86 rfl rfl ?_
          refine zg_iconst dX9_readsRank_87 zki_1 ?_
          refine zg_icmp_ne (tgt := 95) dX9_readsRank_88 (by decide) (fun hc => ?_) (fun hc => ?_)
          · rw [show (if v1 = (1 : Int32) then (3 : Int32) else (5 : Int32)) = (5 : Int32) from if_neg hc] at hj
            refine zg_iconst dX9_readsRank_95 zki_5 ?_
            exact hj
          · rw [show (if v1 = (1 : Int32) then (3 : Int32) else (5 : Int32)) = (3 : Int32) from if_pos hc] at hj
            refine zg_iconst dX9_readsRank_91 zki_3 ?_
            refine zg_goto (tgt := 96) dX9_readsRank_92 (by decide) ?_
            exact hj
        · rw [show (if v1 = 0 then (0 : Int32) else (if v1 = (1 : Int32) then (3 : Int32) else (5 : Int32))) = (0 : Int32) from if_pos hc] at hj
          refine zg_iconst dX9_readsRank_82 zki_0 ?_
          refine zg_goto (tgt := 96) dX9_readsRank_83 (by decide) ?_
          exact hj
      refine zg_iadd dX9_readsRank_96 ?_
      obtain ⟨M3, hM3, h⟩ := z_bind h
      refine zg_callV (st := []) (k_X9_codes hM3) zY_X9_codes lv_X9_214 rfl zt_39 rfl (zfit_m (Nat.lt_of_lt_of_le (by decide) hgd) (by decide)) (Nat.le_of_ble_eq_true rfl) dX9_readsRank_97 rfl ?_
      refine zg_iload_n 1 dX9_readsRank_100 rfl rfl ?_
      suffices hj : zJ ztops RX9 cX9_readsRank 4 (zBm ztops gd (some .boolean) (some (.int r1)) Mr) 0 0 109 [(0, .ref 39), (1, .int v1), (3, .int p1.1)] [.int (if v1 ≤ 0 then (0 : Int32) else (1 : Int32))] M3 by
        refine zg_if_le (tgt := 108) dX9_readsRank_101 (by decide) (fun hc => ?_) (fun hc => ?_)
        · rw [show (if v1 ≤ 0 then (0 : Int32) else (1 : Int32)) = (0 : Int32) from if_pos hc] at hj
          refine zg_iconst dX9_readsRank_108 zki_0 ?_
          exact hj
        · rw [show (if v1 ≤ 0 then (0 : Int32) else (1 : Int32)) = (1 : Int32) from if_neg hc] at hj
          refine zg_iconst dX9_readsRank_104 zki_1 ?_
          refine zg_goto (tgt := 109) dX9_readsRank_105 (by decide) ?_
          exact hj
      refine zg_istore_n (ls' := [(0, .ref 39), (1, .int v1), (2, .int (if v1 ≤ 0 then (0 : Int32) else (1 : Int32))), (3, .int p1.1)]) dX9_readsRank_109 rfl (Nat.le_of_ble_eq_true rfl) rfl ?_
      refine zg_goto (tgt := 24) dX9_readsRank_110 (by decide) ?_
      refine zo_sub (ls' := [(0, .ref 39), (1, .int v1), (2, .int (if v1 ≤ 0 then (0 : Int32) else (1 : Int32)))]) [0, 1, 2] rfl ?_
      exact hk24 _ _ _ h
    · replace h := (if_pos hc).symm.trans h
      refine zg_iconst dX9_readsRank_70 zki_0 ?_
      obtain ⟨rfl, rfl⟩ := z_ret2 h
      exact zg_zret rfl dX9_readsRank_71
  · replace h := (if_neg hc).symm.trans h
    refine zg_iconst dX9_readsRank_58 zki_1 ?_
    obtain ⟨rfl, rfl⟩ := z_ret2 h
    exact zg_zret rfl dX9_readsRank_59
set_option maxRecDepth 20000 in
set_option maxHeartbeats 4000000 in
theorem g9_readsRank_24 {r1 : Int32} {Mr : zM} {gd gr : Nat} {rec : Nat → Int32 → zM → Option (Int32 × zM)} (hdr : gr < gd) (hgd : 20 ≤ gd) (hrec_readsThing : ∀ {M : zM} {p : Int32 × zM}, rec 0 0 M = some p → zK ztops yX9_readsThing cX9_readsThing 2 (some .boolean) gr [.ref 39] M (some (.int p.1)) p.2) (hrec_readsRank : ∀ {v : Int32} {M : zM} {p : Int32 × zM}, rec 1 v M = some p → zK ztops yX9_readsRank cX9_readsRank 4 (some .boolean) gr [.ref 39, .int v] M (some (.int p.1)) p.2) : ∀ (n : Nat) (v1 : Int32) (v2 : Int32) (M : zM), f9_readsRank_24 rec n v1 v2 M = some (r1, Mr) → zJ ztops RX9 cX9_readsRank 4 (zBm ztops gd (some .boolean) (some (.int r1)) Mr) 0 0 24 [(0, .ref 39), (1, .int v1), (2, .int v2)] [] M := by
  intro n
  induction n with
  | zero => intro v1 v2 M h; cases h
  | succ n ih =>
    intro v1 v2 M h
    rw [f9_readsRank_24] at h
    refine zg_iload_n 2 dX9_readsRank_24 rfl rfl ?_
    refine zg_if_eq (tgt := 113) dX9_readsRank_25 (by decide) (fun hc => ?_) (fun hc => ?_)
    · replace h := (if_pos hc).symm.trans h
      refine zg_iconst dX9_readsRank_113 zki_1 ?_
      obtain ⟨rfl, rfl⟩ := z_ret2 h
      exact zg_zret rfl dX9_readsRank_114
    · replace h := (if_neg hc).symm.trans h
      refine zg_aload_n 0 dX9_readsRank_28 rfl rfl ?_
      refine zg_iload_n 1 dX9_readsRank_29 rfl rfl ?_
      refine zg_if_ne (tgt := 38) dX9_readsRank_30 (by decide) (fun hc => ?_) (fun hc => ?_)
      · replace h := (if_neg hc).symm.trans h
        refine zg_iload_n 1 dX9_readsRank_38 rfl rfl ?_
        refine zg_iconst dX9_readsRank_39 zki_1 ?_
        refine zg_icmp_ne (tgt := 48) dX9_readsRank_40 (by decide) (fun hc => ?_) (fun hc => ?_)
        · replace h := (if_neg hc).symm.trans h
          refine zg_ldcS (q := 10) rfl dX9_readsRank_48 ?_
          refine zo_sub (ls' := [(0, .ref 39), (1, .int v1)]) [0, 1] rfl ?_
          exact g9_readsRank_50 hdr hgd hrec_readsThing hrec_readsRank (fun u0 u1 u2 h => ih u0 u1 u2 h) _ _ _ h
        · replace h := (if_pos hc).symm.trans h
          refine zg_ldcS (q := 9) rfl dX9_readsRank_43 ?_
          refine zg_goto (tgt := 50) dX9_readsRank_45 (by decide) ?_
          refine zo_sub (ls' := [(0, .ref 39), (1, .int v1)]) [0, 1] rfl ?_
          exact g9_readsRank_50 hdr hgd hrec_readsThing hrec_readsRank (fun u0 u1 u2 h => ih u0 u1 u2 h) _ _ _ h
      · replace h := (if_pos hc).symm.trans h
        refine zg_ldcS (q := 8) rfl dX9_readsRank_33 ?_
        refine zg_goto (tgt := 50) dX9_readsRank_35 (by decide) ?_
        refine zo_sub (ls' := [(0, .ref 39), (1, .int v1)]) [0, 1] rfl ?_
        exact g9_readsRank_50 hdr hgd hrec_readsThing hrec_readsRank (fun u0 u1 u2 h => ih u0 u1 u2 h) _ _ _ h
set_option maxRecDepth 20000 in
set_option maxHeartbeats 4000000 in
theorem k_X9_readsRank {gd gr : Nat} {rec : Nat → Int32 → zM → Option (Int32 × zM)} (hdr : gr < gd) (hgd : 20 ≤ gd) (hrec_readsThing : ∀ {M : zM} {p : Int32 × zM}, rec 0 0 M = some p → zK ztops yX9_readsThing cX9_readsThing 2 (some .boolean) gr [.ref 39] M (some (.int p.1)) p.2) (hrec_readsRank : ∀ {v : Int32} {M : zM} {p : Int32 × zM}, rec 1 v M = some p → zK ztops yX9_readsRank cX9_readsRank 4 (some .boolean) gr [.ref 39, .int v] M (some (.int p.1)) p.2) {v1 : Int32} {M : zM} {r1 : Int32} {Mr : zM} (h : f9_readsRank rec v1 M = some (r1, Mr)) : zK ztops yX9_readsRank cX9_readsRank 4 (some .boolean) gd [.ref 39, .int v1] M (some (.int r1)) Mr := by
  refine zK_of pl_X9 (Nat.le_of_ble_eq_true rfl) ?_
  show zJ ztops RX9 cX9_readsRank 4 _ 0 0 0 [(0, .ref 39), (1, .int v1)] [] M
  rw [f9_readsRank] at h
  refine zg_iload_n 1 dX9_readsRank_0 rfl rfl ?_
  refine zg_iconst dX9_readsRank_1 zki_3 ?_
  refine zg_icmp_ne (tgt := 10) dX9_readsRank_2 (by decide) (fun hc => ?_) (fun hc => ?_)
  · replace h := (if_neg hc).symm.trans h
    refine zg_aload_n 0 dX9_readsRank_10 rfl rfl ?_
    refine zg_iload_n 1 dX9_readsRank_11 rfl rfl ?_
    refine zg_iconst dX9_readsRank_12 zki_1 ?_
    refine zg_iadd dX9_readsRank_13 ?_
    obtain ⟨p1, hp1, h⟩ := z_bind h
    refine zg_callV (st := []) (hrec_readsRank hp1) zY_X9_readsRank lv_X9_223 rfl zt_39 rfl (zfit_m hdr (by decide)) (Nat.le_of_ble_eq_true rfl) dX9_readsRank_14 rfl ?_
    refine zg_if_ne (tgt := 22) dX9_readsRank_17 (by decide) (fun hc => ?_) (fun hc => ?_)
    · replace h := (if_neg hc).symm.trans h
      refine zg_iconst dX9_readsRank_22 zki_1 ?_
      refine zg_istore_n (ls' := [(0, .ref 39), (1, .int v1), (2, .int (1 : Int32))]) dX9_readsRank_23 rfl (Nat.le_of_ble_eq_true rfl) rfl ?_
      exact g9_readsRank_24 hdr hgd hrec_readsThing hrec_readsRank zfuel _ _ _ h
    · replace h := (if_pos hc).symm.trans h
      refine zg_iconst dX9_readsRank_20 zki_0 ?_
      obtain ⟨rfl, rfl⟩ := z_ret2 h
      exact zg_zret rfl dX9_readsRank_21
  · replace h := (if_pos hc).symm.trans h
    refine zg_aload_n 0 dX9_readsRank_5 rfl rfl ?_
    obtain ⟨p1, hp1, h⟩ := z_bind h
    refine zg_callV (st := []) (hrec_readsThing hp1) zY_X9_readsThing lv_X9_211 rfl zt_39 rfl (zfit_m hdr (by decide)) (Nat.le_of_ble_eq_true rfl) dX9_readsRank_6 rfl ?_
    obtain ⟨x2, hx2, h⟩ := z_bind h
    obtain ⟨rfl, hzx2⟩ := zbl_ok hx2
    obtain ⟨rfl, rfl⟩ := z_ret2 h
    exact zg_zret hzx2 dX9_readsRank_9
set_option maxHeartbeats 4000000 in
theorem k_reads : ∀ n : Nat, (∀ (M : zM) (p : Int32 × zM), f9_reads n 0 0 M = some p → zK ztops yX9_readsThing cX9_readsThing 2 (some .boolean) (n + 20) [.ref 39] M (some (.int p.1)) p.2) ∧ ∀ (v : Int32) (M : zM) (p : Int32 × zM), f9_reads n 1 v M = some p → zK ztops yX9_readsRank cX9_readsRank 4 (some .boolean) (n + 20) [.ref 39, .int v] M (some (.int p.1)) p.2 := by
  intro n
  induction n with
  | zero => exact ⟨fun _ _ h => (by cases h), fun _ _ _ h => (by cases h)⟩
  | succ n ih =>
    have hT : ∀ {M : zM} {p : Int32 × zM}, f9_reads n 0 0 M = some p → zK ztops yX9_readsThing cX9_readsThing 2 (some .boolean) (n + 20) [.ref 39] M (some (.int p.1)) p.2 := fun h => ih.1 _ _ h
    have hR : ∀ {v : Int32} {M : zM} {p : Int32 × zM}, f9_reads n 1 v M = some p → zK ztops yX9_readsRank cX9_readsRank 4 (some .boolean) (n + 20) [.ref 39, .int v] M (some (.int p.1)) p.2 := fun h => ih.2 _ _ _ h
    refine ⟨fun M p h => ?_, fun v M p h => ?_⟩
    · rw [f9_reads, if_pos rfl] at h
      exact k_X9_readsThing (by omega) (by omega) hT hR h
    · rw [f9_reads, if_neg (by decide)] at h
      exact k_X9_readsRank (by omega) (by omega) hT hR h
set_option maxRecDepth 20000 in
set_option maxHeartbeats 4000000 in
theorem g9_readsRule_29 {r1 : Int32} {Mr : zM} : ∀ (v1 : Int32) (s0 : Int32) (M : zM), f9_readsRule_29 v1 s0 M = some (r1, Mr) → zJ ztops RX9 cX9_readsRule 3 (zBm ztops 221 (some .int) (some (.int r1)) Mr) 0 0 29 [(0, .ref 39), (1, .int v1)] [.int s0] M := by
  intro v1 s0 M h
  rw [f9_readsRule_29] at h
  refine zg_istore_n (ls' := [(0, .ref 39), (1, .int v1), (2, .int s0)]) dX9_readsRule_29 rfl (Nat.le_of_ble_eq_true rfl) rfl ?_
  refine zg_aload_n 0 dX9_readsRule_30 rfl rfl ?_
  refine zg_iload_n 1 dX9_readsRule_31 rfl rfl ?_
  refine zg_bipush dX9_readsRule_32 zkb_40 ?_
  refine zg_iload_n 2 dX9_readsRule_34 rfl rfl ?_
  obtain ⟨x1, hx1, h⟩ := z_bind h
  refine zg_callV (st := []) (k_X9_faultOf hx1) zY_X9_faultOf lv_X9_232 rfl zt_39 rfl (zfit_m (by decide) (by decide)) (Nat.le_of_ble_eq_true rfl) dX9_readsRule_35 rfl ?_
  obtain ⟨rfl, rfl⟩ := z_ret2 h
  exact zg_iret dX9_readsRule_38
set_option maxRecDepth 20000 in
set_option maxHeartbeats 4000000 in
theorem k_X9_readsRule {M : zM} {r1 : Int32} {Mr : zM} (h : f9_readsRule M = some (r1, Mr)) : zK ztops yX9_readsRule cX9_readsRule 3 (some .int) 221 [.ref 39] M (some (.int r1)) Mr := by
  refine zK_of pl_X9 (Nat.le_of_ble_eq_true rfl) ?_
  show zJ ztops RX9 cX9_readsRule 3 _ 0 0 0 [(0, .ref 39)] [] M
  rw [f9_readsRule] at h
  refine zg_aload_n 0 dX9_readsRule_0 rfl rfl ?_
  refine zg_bipush dX9_readsRule_1 zkb_40 ?_
  obtain ⟨p1, hp1, h⟩ := z_bind h
  refine zg_callV (st := []) (k_X9_begins hp1) zY_X9_begins lv_X9_179 rfl zt_39 rfl (zfit_m (by decide) (by decide)) (Nat.le_of_ble_eq_true rfl) dX9_readsRule_3 rfl ?_
  refine zg_istore_n (ls' := [(0, .ref 39), (1, .int p1.1)]) dX9_readsRule_6 rfl (Nat.le_of_ble_eq_true rfl) rfl ?_
  refine zg_aload_n 0 dX9_readsRule_7 rfl rfl ?_
  refine zg_iconst dX9_readsRule_8 zki_0 ?_
  refine zg_puti fp_X9_204 zt_39 rfl dX9_readsRule_9 ?_
  refine zg_iload_n 1 dX9_readsRule_12 rfl rfl ?_
  refine zg_if_eq (tgt := 24) dX9_readsRule_13 (by decide) (fun hc => ?_) (fun hc => ?_)
  · replace h := (if_pos hc).symm.trans h
    refine zg_iconst dX9_readsRule_24 zki_1 ?_
    refine zg_goto (tgt := 29) dX9_readsRule_25 (by decide) ?_
    exact g9_readsRule_29 _ _ _ h
  · replace h := (if_neg hc).symm.trans h
    refine zg_aload_n 0 dX9_readsRule_16 rfl rfl ?_
    refine zg_iconst dX9_readsRule_17 zki_0 ?_
    obtain ⟨p2, hp2, h⟩ := z_bind h
    refine zg_callV (st := []) ((k_reads 200).2 _ _ _ hp2) zY_X9_readsRank lv_X9_223 rfl zt_39 rfl (zfit_m (by decide) (by decide)) (Nat.le_of_ble_eq_true rfl) dX9_readsRule_18 rfl ?_
    suffices hj : zJ ztops RX9 cX9_readsRule 3 (zBm ztops 221 (some .int) (some (.int r1)) Mr) 0 0 29 [(0, .ref 39), (1, .int p1.1)] [.int (if p2.1 = 0 then (0 : Int32) else (1 : Int32))] p2.2 by
      refine zg_if_eq (tgt := 28) dX9_readsRule_21 (by decide) (fun hc => ?_) (fun hc => ?_)
      · rw [show (if p2.1 = 0 then (0 : Int32) else (1 : Int32)) = (0 : Int32) from if_pos hc] at hj
        refine zg_iconst dX9_readsRule_28 zki_0 ?_
        exact hj
      · rw [show (if p2.1 = 0 then (0 : Int32) else (1 : Int32)) = (1 : Int32) from if_neg hc] at hj
        refine zg_iconst dX9_readsRule_24 zki_1 ?_
        refine zg_goto (tgt := 29) dX9_readsRule_25 (by decide) ?_
        exact hj
    exact g9_readsRule_29 _ _ _ h
set_option maxRecDepth 20000 in
set_option maxHeartbeats 4000000 in
theorem g9_laysCode_7 {a1 : Nat} (h1 : ztops[a1]? = some (.inl (0, 80))) {Mr : zM} : ∀ (n : Nat) (v2 : Int32) (v3 : Int32) (M : zM), f9_laysCode_7 a1 n v2 v3 M = some Mr → zJ ztops RX9 cX9_laysCode 4 (zBm ztops 0 (none) none Mr) 0 0 7 [(0, .ref 39), (1, .ref a1), (2, .int v2), (3, .int v3)] [] M := by
  intro n
  induction n with
  | zero => intro v2 v3 M h; cases h
  | succ n ih =>
    intro v2 v3 M h
    rw [f9_laysCode_7] at h
    refine zg_iload_n 3 dX9_laysCode_7 rfl rfl ?_
    refine zg_iload_n 2 dX9_laysCode_8 rfl rfl ?_
    refine zg_icmp_ge (tgt := 27) dX9_laysCode_9 (by decide) (fun hc => ?_) (fun hc => ?_)
    · replace h := (if_pos hc).symm.trans h
      obtain rfl := z_ret1 h
      exact zg_vret dX9_laysCode_27
    · replace h := (if_neg hc).symm.trans h
      refine zg_aload_n 0 dX9_laysCode_12 rfl rfl ?_
      refine zo_getr 45 5 rfl fl_X9_37 zt_39 rfl dX9_laysCode_13 ?_
      refine zg_iload_n 3 dX9_laysCode_16 rfl rfl ?_
      refine zg_aload_n 1 dX9_laysCode_17 rfl rfl ?_
      refine zg_iload_n 3 dX9_laysCode_18 rfl rfl ?_
      obtain ⟨x1, hx1, h⟩ := z_bind h
      refine zo_iald h1 hx1 dX9_laysCode_19 ?_
      obtain ⟨M2, hM2, h⟩ := z_bind h
      refine zo_iast zt_45 hM2 dX9_laysCode_20 ?_
      refine zg_iinc (ls' := [(0, .ref 39), (1, .ref a1), (2, .int v2), (3, .int (v3 + (1 : Int32)))]) 3 dX9_laysCode_21 rfl zki_1 (Nat.le_of_ble_eq_true rfl) rfl ?_
      refine zg_goto (tgt := 7) dX9_laysCode_24 (by decide) ?_
      exact ih _ _ _ h
set_option maxRecDepth 20000 in
set_option maxHeartbeats 4000000 in
theorem k_X9_laysCode {a1 : Nat} (h1 : ztops[a1]? = some (.inl (0, 80))) {v2 : Int32} {M : zM} {Mr : zM} (h : f9_laysCode a1 v2 M = some Mr) : zK ztops yX9_laysCode cX9_laysCode 4 (none) 0 [.ref 39, .ref a1, .int v2] M none Mr := by
  refine zK_of pl_X9 (Nat.le_of_ble_eq_true rfl) ?_
  show zJ ztops RX9 cX9_laysCode 4 _ 0 0 0 [(0, .ref 39), (1, .ref a1), (2, .int v2)] [] M
  rw [f9_laysCode] at h
  refine zg_aload_n 0 dX9_laysCode_0 rfl rfl ?_
  refine zg_iload_n 2 dX9_laysCode_1 rfl rfl ?_
  refine zg_puti fp_X9_236 zt_39 rfl dX9_laysCode_2 ?_
  refine zg_iconst dX9_laysCode_5 zki_0 ?_
  refine zg_istore_n (ls' := [(0, .ref 39), (1, .ref a1), (2, .int v2), (3, .int (0 : Int32))]) dX9_laysCode_6 rfl (Nat.le_of_ble_eq_true rfl) rfl ?_
  exact g9_laysCode_7 h1 zfuel _ _ _ h
set_option maxRecDepth 20000 in
set_option maxHeartbeats 4000000 in
theorem k_X9_rule {M : zM} {r1 : Int32} {Mr : zM} (h : f9_rule M = some (r1, Mr)) : zK ztops yX9_rule cX9_rule 2 (some .int) 222 [.ref 39] M (some (.int r1)) Mr := by
  refine zK_of pl_X9 (Nat.le_of_ble_eq_true rfl) ?_
  show zJ ztops RX9 cX9_rule 2 _ 0 0 0 [(0, .ref 39)] [] M
  rw [f9_rule] at h
  refine zg_aload_n 0 dX9_rule_0 rfl rfl ?_
  refine zg_iconst dX9_rule_1 zki_0 ?_
  refine zg_puti fp_X9_3 zt_39 rfl dX9_rule_2 ?_
  refine zg_aload_n 0 dX9_rule_5 rfl rfl ?_
  obtain ⟨p1, hp1, h⟩ := z_bind h
  refine zg_callV (st := []) (k_X9_readsRule hp1) zY_X9_readsRule lv_X9_239 rfl zt_39 rfl (zfit_m (by decide) (by decide)) (Nat.le_of_ble_eq_true rfl) dX9_rule_6 rfl ?_
  refine zg_istore_n (ls' := [(0, .ref 39), (1, .int p1.1)]) dX9_rule_9 rfl (Nat.le_of_ble_eq_true rfl) rfl ?_
  refine zg_iload_n 1 dX9_rule_10 rfl rfl ?_
  refine zg_if_ne (tgt := 26) dX9_rule_11 (by decide) (fun hc => ?_) (fun hc => ?_)
  · replace h := (if_neg hc).symm.trans h
    refine zg_iload_n 1 dX9_rule_26 rfl rfl ?_
    obtain ⟨rfl, rfl⟩ := z_ret2 h
    exact zg_iret dX9_rule_27
  · replace h := (if_pos hc).symm.trans h
    refine zg_aload_n 0 dX9_rule_14 rfl rfl ?_
    refine zg_aload_n 0 dX9_rule_15 rfl rfl ?_
    refine zo_getr 46 6 rfl fl_X9_40 zt_39 rfl dX9_rule_16 ?_
    refine zg_aload_n 0 dX9_rule_19 rfl rfl ?_
    refine zg_geti fl_X9_204 zt_39 rfl dX9_rule_20 ?_
    obtain ⟨M2, hM2, h⟩ := z_bind h
    refine zg_callV (st := []) (k_X9_laysCode zt_46 hM2) zY_X9_laysCode lv_X9_242 rfl zt_39 rfl (zfit_m (by decide) (by decide)) (Nat.le_of_ble_eq_true rfl) dX9_rule_23 rfl ?_
    refine zg_iload_n 1 dX9_rule_26 rfl rfl ?_
    obtain ⟨rfl, rfl⟩ := z_ret2 h
    exact zg_iret dX9_rule_27
set_option maxRecDepth 20000 in
set_option maxHeartbeats 4000000 in
theorem k_X9_worked {T : List zN} {v0 : Int32} {v1 : Int32} {v2 : Int32} {r1 : Int32} {M : zM} (h : f9_worked v0 v1 v2 = some r1) : zK T yX9_worked cX9_worked 3 (some .int) 2 [.int v0, .int v1, .int v2] M (some (.int r1)) M := by
  refine zK_of pl_X9 (Nat.le_of_ble_eq_true rfl) ?_
  show zJ T RX9 cX9_worked 3 _ 0 0 0 [(0, .int v0), (1, .int v1), (2, .int v2)] [] M
  rw [f9_worked] at h
  refine zg_iload_n 0 dX9_worked_0 rfl rfl ?_
  by_cases hc1 : v0 = (0 : Int32)
  · replace h := (if_pos hc1).symm.trans h
    refine zg_tableEq (k := 0) (off := 39) (tgt := 40) dX9_worked_1 hc1 (by decide) (by decide) (by decide) (by decide) ?_
    refine zg_iload_n 1 dX9_worked_40 rfl rfl ?_
    refine zg_iload_n 2 dX9_worked_41 rfl rfl ?_
    suffices hj : zJ T RX9 cX9_worked 3 (zBm T 2 (some .int) (some (.int r1)) M) 0 0 50 [(0, .int v0), (1, .int v1), (2, .int v2)] [.int (if v2 ≤ v1 then (0 : Int32) else (1 : Int32))] M by
      refine zg_icmp_ge (tgt := 49) dX9_worked_42 (by decide) (fun hc => ?_) (fun hc => ?_)
      · rw [show (if v2 ≤ v1 then (0 : Int32) else (1 : Int32)) = (0 : Int32) from if_pos hc] at hj
        refine zg_iconst dX9_worked_49 zki_0 ?_
        exact hj
      · rw [show (if v2 ≤ v1 then (0 : Int32) else (1 : Int32)) = (1 : Int32) from if_neg hc] at hj
        refine zg_iconst dX9_worked_45 zki_1 ?_
        refine zg_goto (tgt := 50) dX9_worked_46 (by decide) ?_
        exact hj
    obtain ⟨x1, hx1, h⟩ := z_bind h
    refine zg_callS (st := []) (k_X9_flag hx1) zY_X9_flag ls_X9_116 rfl (zfit_m (by decide) (by decide)) (Nat.le_of_ble_eq_true rfl) dX9_worked_50 rfl ?_
    obtain rfl := z_ret1 h
    exact zg_iret dX9_worked_53
  replace h := (if_neg hc1).symm.trans h
  by_cases hc2 : v0 = (1 : Int32)
  · replace h := (if_pos hc2).symm.trans h
    refine zg_tableEq (k := 1) (off := 53) (tgt := 54) dX9_worked_1 hc2 (by decide) (by decide) (by decide) (by decide) ?_
    refine zg_iload_n 1 dX9_worked_54 rfl rfl ?_
    refine zg_iload_n 2 dX9_worked_55 rfl rfl ?_
    suffices hj : zJ T RX9 cX9_worked 3 (zBm T 2 (some .int) (some (.int r1)) M) 0 0 64 [(0, .int v0), (1, .int v1), (2, .int v2)] [.int (if v1 ≤ v2 then (0 : Int32) else (1 : Int32))] M by
      refine zg_icmp_le (tgt := 63) dX9_worked_56 (by decide) (fun hc => ?_) (fun hc => ?_)
      · rw [show (if v1 ≤ v2 then (0 : Int32) else (1 : Int32)) = (0 : Int32) from if_pos hc] at hj
        refine zg_iconst dX9_worked_63 zki_0 ?_
        exact hj
      · rw [show (if v1 ≤ v2 then (0 : Int32) else (1 : Int32)) = (1 : Int32) from if_neg hc] at hj
        refine zg_iconst dX9_worked_59 zki_1 ?_
        refine zg_goto (tgt := 64) dX9_worked_60 (by decide) ?_
        exact hj
    obtain ⟨x1, hx1, h⟩ := z_bind h
    refine zg_callS (st := []) (k_X9_flag hx1) zY_X9_flag ls_X9_116 rfl (zfit_m (by decide) (by decide)) (Nat.le_of_ble_eq_true rfl) dX9_worked_64 rfl ?_
    obtain rfl := z_ret1 h
    exact zg_iret dX9_worked_67
  replace h := (if_neg hc2).symm.trans h
  by_cases hc3 : v0 = (2 : Int32)
  · replace h := (if_pos hc3).symm.trans h
    refine zg_tableEq (k := 2) (off := 67) (tgt := 68) dX9_worked_1 hc3 (by decide) (by decide) (by decide) (by decide) ?_
    refine zg_iload_n 1 dX9_worked_68 rfl rfl ?_
    refine zg_iload_n 2 dX9_worked_69 rfl rfl ?_
    suffices hj : zJ T RX9 cX9_worked 3 (zBm T 2 (some .int) (some (.int r1)) M) 0 0 78 [(0, .int v0), (1, .int v1), (2, .int v2)] [.int (if v1 = v2 then (1 : Int32) else (0 : Int32))] M by
      refine zg_icmp_ne (tgt := 77) dX9_worked_70 (by decide) (fun hc => ?_) (fun hc => ?_)
      · rw [show (if v1 = v2 then (1 : Int32) else (0 : Int32)) = (0 : Int32) from if_neg hc] at hj
        refine zg_iconst dX9_worked_77 zki_0 ?_
        exact hj
      · rw [show (if v1 = v2 then (1 : Int32) else (0 : Int32)) = (1 : Int32) from if_pos hc] at hj
        refine zg_iconst dX9_worked_73 zki_1 ?_
        refine zg_goto (tgt := 78) dX9_worked_74 (by decide) ?_
        exact hj
    obtain ⟨x1, hx1, h⟩ := z_bind h
    refine zg_callS (st := []) (k_X9_flag hx1) zY_X9_flag ls_X9_116 rfl (zfit_m (by decide) (by decide)) (Nat.le_of_ble_eq_true rfl) dX9_worked_78 rfl ?_
    obtain rfl := z_ret1 h
    exact zg_iret dX9_worked_81
  replace h := (if_neg hc3).symm.trans h
  by_cases hc4 : v0 = (3 : Int32)
  · replace h := (if_pos hc4).symm.trans h
    refine zg_tableEq (k := 3) (off := 81) (tgt := 82) dX9_worked_1 hc4 (by decide) (by decide) (by decide) (by decide) ?_
    refine zg_iload_n 1 dX9_worked_82 rfl rfl ?_
    refine zg_iload_n 2 dX9_worked_83 rfl rfl ?_
    refine zg_iadd dX9_worked_84 ?_
    obtain rfl := z_ret1 h
    exact zg_iret dX9_worked_85
  replace h := (if_neg hc4).symm.trans h
  by_cases hc5 : v0 = (4 : Int32)
  · replace h := (if_pos hc5).symm.trans h
    refine zg_tableEq (k := 4) (off := 85) (tgt := 86) dX9_worked_1 hc5 (by decide) (by decide) (by decide) (by decide) ?_
    refine zg_iload_n 1 dX9_worked_86 rfl rfl ?_
    refine zg_iload_n 2 dX9_worked_87 rfl rfl ?_
    refine zg_isub dX9_worked_88 ?_
    obtain rfl := z_ret1 h
    exact zg_iret dX9_worked_89
  replace h := (if_neg hc5).symm.trans h
  by_cases hc6 : v0 = (5 : Int32)
  · replace h := (if_pos hc6).symm.trans h
    refine zg_tableEq (k := 5) (off := 89) (tgt := 90) dX9_worked_1 hc6 (by decide) (by decide) (by decide) (by decide) ?_
    refine zg_iload_n 1 dX9_worked_90 rfl rfl ?_
    refine zg_iload_n 2 dX9_worked_91 rfl rfl ?_
    refine zg_imul dX9_worked_92 ?_
    obtain rfl := z_ret1 h
    exact zg_iret dX9_worked_93
  replace h := (if_neg hc6).symm.trans h
  refine zg_tableOut (tgt := 94) dX9_worked_1 (z_tout 6 (fun j hj => by match j, hj with | 0, _ => exact hc1 | 1, _ => exact hc2 | 2, _ => exact hc3 | 3, _ => exact hc4 | 4, _ => exact hc5 | 5, _ => exact hc6 | j + 6, hj => exact absurd hj (by omega)) (by decide)) (by decide) ?_
  refine zg_iload_n 2 dX9_worked_94 rfl rfl ?_
  refine zg_if_ne (tgt := 102) dX9_worked_95 (by decide) (fun hc => ?_) (fun hc => ?_)
  · replace h := (if_neg hc).symm.trans h
    refine zg_iload_n 1 dX9_worked_102 rfl rfl ?_
    refine zg_iload_n 2 dX9_worked_103 rfl rfl ?_
    obtain ⟨x1, hx1, h⟩ := z_bind h
    refine zo_idiv hx1 dX9_worked_104 ?_
    obtain rfl := z_ret1 h
    exact zg_iret dX9_worked_105
  · replace h := (if_pos hc).symm.trans h
    refine zg_iconst dX9_worked_98 zki_0 ?_
    refine zg_goto (tgt := 105) dX9_worked_99 (by decide) ?_
    obtain rfl := z_ret1 h
    exact zg_iret dX9_worked_105
set_option maxRecDepth 20000 in
set_option maxHeartbeats 4000000 in
theorem g9_ruled_119 {r1 : Int32} {Mr : zM} {k4 : Int32 → Int32 → zM → Option (Int32 × zM)} (hk4 : ∀ (v1 : Int32) (v2 : Int32) (M : zM), k4 v1 v2 M = some (r1, Mr) → zJ ztops RX9 cX9_ruled 4 (zBm ztops 3 (some .int) (some (.int r1)) Mr) 0 0 4 [(0, .ref 39), (1, .int v1), (2, .int v2)] [] M) : ∀ (v1 : Int32) (v2 : Int32) (M : zM), f9_ruled_119 k4 v1 v2 M = some (r1, Mr) → zJ ztops RX9 cX9_ruled 4 (zBm ztops 3 (some .int) (some (.int r1)) Mr) 0 0 119 [(0, .ref 39), (1, .int v1), (2, .int v2)] [] M := by
  intro v1 v2 M h
  rw [f9_ruled_119] at h
  refine zg_iinc (ls' := [(0, .ref 39), (1, .int v1), (2, .int (v2 + (1 : Int32)))]) 2 dX9_ruled_119 rfl zki_1 (Nat.le_of_ble_eq_true rfl) rfl ?_
  refine zg_goto (tgt := 4) dX9_ruled_122 (by decide) ?_
  exact hk4 _ _ _ h
set_option maxRecDepth 20000 in
set_option maxHeartbeats 4000000 in
theorem g9_ruled_115 {r1 : Int32} {Mr : zM} {k4 : Int32 → Int32 → zM → Option (Int32 × zM)} (hk4 : ∀ (v1 : Int32) (v2 : Int32) (M : zM), k4 v1 v2 M = some (r1, Mr) → zJ ztops RX9 cX9_ruled 4 (zBm ztops 3 (some .int) (some (.int r1)) Mr) 0 0 4 [(0, .ref 39), (1, .int v1), (2, .int v2)] [] M) : ∀ (v1 : Int32) (v2 : Int32) (s1 : Int32) (s2 : Int32) (M : zM), f9_ruled_115 k4 v1 v2 s1 s2 M = some (r1, Mr) → zJ ztops RX9 cX9_ruled 4 (zBm ztops 3 (some .int) (some (.int r1)) Mr) 0 0 115 [(0, .ref 39), (1, .int v1), (2, .int v2)] [.int s2, .int s1, .ref 47] M := by
  intro v1 v2 s1 s2 M h
  rw [f9_ruled_115] at h
  obtain ⟨M1, hM1, h⟩ := z_bind h
  refine zo_iast zt_47 hM1 dX9_ruled_115 ?_
  refine zg_iinc (ls' := [(0, .ref 39), (1, .int (v1 + (1 : Int32))), (2, .int v2)]) 1 dX9_ruled_116 rfl zki_1 (Nat.le_of_ble_eq_true rfl) rfl ?_
  exact g9_ruled_119 hk4 _ _ _ h
set_option maxRecDepth 20000 in
set_option maxHeartbeats 4000000 in
theorem g9_ruled_4 {r1 : Int32} {Mr : zM} : ∀ (n : Nat) (v1 : Int32) (v2 : Int32) (M : zM), f9_ruled_4 n v1 v2 M = some (r1, Mr) → zJ ztops RX9 cX9_ruled 4 (zBm ztops 3 (some .int) (some (.int r1)) Mr) 0 0 4 [(0, .ref 39), (1, .int v1), (2, .int v2)] [] M := by
  intro n
  induction n with
  | zero => intro v1 v2 M h; cases h
  | succ n ih =>
    intro v1 v2 M h
    rw [f9_ruled_4] at h
    refine zg_iload_n 2 dX9_ruled_4 rfl rfl ?_
    refine zg_aload_n 0 dX9_ruled_5 rfl rfl ?_
    refine zg_geti fl_X9_236 zt_39 rfl dX9_ruled_6 ?_
    refine zg_icmp_ge (tgt := 125) dX9_ruled_9 (by decide) (fun hc => ?_) (fun hc => ?_)
    · replace h := (if_pos hc).symm.trans h
      refine zg_aload_n 0 dX9_ruled_125 rfl rfl ?_
      refine zg_geti fl_X9_236 zt_39 rfl dX9_ruled_126 ?_
      suffices hj : zJ ztops RX9 cX9_ruled 4 (zBm ztops 3 (some .int) (some (.int r1)) Mr) 0 0 154 [(0, .ref 39), (1, .int v1), (2, .int v2)] [.int (if (M.1 39 14) = 0 then ((M.1 48 3) - (M.1 48 1)) else (M.1 47 0))] M by
        refine zg_if_ne (tgt := 148) dX9_ruled_129 (by decide) (fun hc => ?_) (fun hc => ?_)
        · rw [show (if (M.1 39 14) = 0 then ((M.1 48 3) - (M.1 48 1)) else (M.1 47 0)) = (M.1 47 0) from if_neg hc] at hj
          refine zg_aload_n 0 dX9_ruled_148 rfl rfl ?_
          refine zo_getr 47 7 rfl fl_X9_43 zt_39 rfl dX9_ruled_149 ?_
          refine zg_iconst dX9_ruled_152 zki_0 ?_
          refine zo_ialdc 0 zt_47 (by decide) rfl dX9_ruled_153 ?_
          exact hj
        · rw [show (if (M.1 39 14) = 0 then ((M.1 48 3) - (M.1 48 1)) else (M.1 47 0)) = ((M.1 48 3) - (M.1 48 1)) from if_pos hc] at hj
          refine zg_aload_n 0 dX9_ruled_132 rfl rfl ?_
          refine zo_getr 48 8 rfl fl_X9_46 zt_39 rfl dX9_ruled_133 ?_
          refine zg_iconst dX9_ruled_136 zki_3 ?_
          refine zo_ialdc 3 zt_48 (by decide) rfl dX9_ruled_137 ?_
          refine zg_aload_n 0 dX9_ruled_138 rfl rfl ?_
          refine zo_getr 48 8 rfl fl_X9_46 zt_39 rfl dX9_ruled_139 ?_
          refine zg_iconst dX9_ruled_142 zki_1 ?_
          refine zo_ialdc 1 zt_48 (by decide) rfl dX9_ruled_143 ?_
          refine zg_isub dX9_ruled_144 ?_
          refine zg_goto (tgt := 154) dX9_ruled_145 (by decide) ?_
          exact hj
      obtain ⟨rfl, rfl⟩ := z_ret2 h
      exact zg_iret dX9_ruled_154
    · replace h := (if_neg hc).symm.trans h
      refine zg_aload_n 0 dX9_ruled_12 rfl rfl ?_
      refine zo_getr 45 5 rfl fl_X9_37 zt_39 rfl dX9_ruled_13 ?_
      refine zg_iload_n 2 dX9_ruled_16 rfl rfl ?_
      obtain ⟨x1, hx1, h⟩ := z_bind h
      refine zo_iald zt_45 hx1 dX9_ruled_17 ?_
      refine zg_istore_n (ls' := [(0, .ref 39), (1, .int v1), (2, .int v2), (3, .int x1)]) dX9_ruled_18 rfl (Nat.le_of_ble_eq_true rfl) rfl ?_
      refine zg_iload_n 3 dX9_ruled_19 rfl rfl ?_
      refine zg_sipush dX9_ruled_20 zks_3000 ?_
      refine zg_icmp_ne (tgt := 46) dX9_ruled_23 (by decide) (fun hc => ?_) (fun hc => ?_)
      · replace h := (if_neg hc).symm.trans h
        refine zg_iload_n 3 dX9_ruled_46 rfl rfl ?_
        refine zg_sipush dX9_ruled_47 zks_2000 ?_
        refine zg_icmp_lt (tgt := 89) dX9_ruled_50 (by decide) (fun hc => ?_) (fun hc => ?_)
        · replace h := (if_pos hc).symm.trans h
          refine zg_aload_n 0 dX9_ruled_89 rfl rfl ?_
          refine zo_getr 47 7 rfl fl_X9_43 zt_39 rfl dX9_ruled_90 ?_
          refine zg_iload_n 1 dX9_ruled_93 rfl rfl ?_
          refine zg_iload_n 3 dX9_ruled_94 rfl rfl ?_
          refine zg_sipush dX9_ruled_95 zks_1000 ?_
          refine zg_icmp_lt (tgt := 114) dX9_ruled_98 (by decide) (fun hc => ?_) (fun hc => ?_)
          · replace h := (if_pos hc).symm.trans h
            refine zg_iload_n 3 dX9_ruled_114 rfl rfl ?_
            refine zo_sub (ls' := [(0, .ref 39), (1, .int v1), (2, .int v2)]) [0, 1, 2] rfl ?_
            exact g9_ruled_115 (fun u0 u1 u2 h => ih u0 u1 u2 h) _ _ _ _ _ h
          · replace h := (if_neg hc).symm.trans h
            refine zg_aload_n 0 dX9_ruled_101 rfl rfl ?_
            refine zo_getr 48 8 rfl fl_X9_46 zt_39 rfl dX9_ruled_102 ?_
            refine zg_iload_n 3 dX9_ruled_105 rfl rfl ?_
            refine zg_sipush dX9_ruled_106 zks_1000 ?_
            refine zg_isub dX9_ruled_109 ?_
            obtain ⟨x2, hx2, h⟩ := z_bind h
            refine zo_iald zt_48 hx2 dX9_ruled_110 ?_
            refine zg_goto (tgt := 115) dX9_ruled_111 (by decide) ?_
            refine zo_sub (ls' := [(0, .ref 39), (1, .int v1), (2, .int v2)]) [0, 1, 2] rfl ?_
            exact g9_ruled_115 (fun u0 u1 u2 h => ih u0 u1 u2 h) _ _ _ _ _ h
        · replace h := (if_neg hc).symm.trans h
          refine zg_iinc (ls' := [(0, .ref 39), (1, .int (v1 + (-1 : Int32))), (2, .int v2), (3, .int x1)]) 1 dX9_ruled_53 rfl zki_m1 (Nat.le_of_ble_eq_true rfl) rfl ?_
          refine zg_aload_n 0 dX9_ruled_56 rfl rfl ?_
          refine zo_getr 47 7 rfl fl_X9_43 zt_39 rfl dX9_ruled_57 ?_
          refine zg_iload_n 1 dX9_ruled_60 rfl rfl ?_
          refine zg_iconst dX9_ruled_61 zki_1 ?_
          refine zg_isub dX9_ruled_62 ?_
          refine zg_iload_n 3 dX9_ruled_63 rfl rfl ?_
          refine zg_sipush dX9_ruled_64 zks_2000 ?_
          refine zg_isub dX9_ruled_67 ?_
          refine zg_aload_n 0 dX9_ruled_68 rfl rfl ?_
          refine zo_getr 47 7 rfl fl_X9_43 zt_39 rfl dX9_ruled_69 ?_
          refine zg_iload_n 1 dX9_ruled_72 rfl rfl ?_
          refine zg_iconst dX9_ruled_73 zki_1 ?_
          refine zg_isub dX9_ruled_74 ?_
          obtain ⟨x2, hx2, h⟩ := z_bind h
          refine zo_iald zt_47 hx2 dX9_ruled_75 ?_
          refine zg_aload_n 0 dX9_ruled_76 rfl rfl ?_
          refine zo_getr 47 7 rfl fl_X9_43 zt_39 rfl dX9_ruled_77 ?_
          refine zg_iload_n 1 dX9_ruled_80 rfl rfl ?_
          obtain ⟨x3, hx3, h⟩ := z_bind h
          refine zo_iald zt_47 hx3 dX9_ruled_81 ?_
          obtain ⟨x4, hx4, h⟩ := z_bind h
          refine zg_callS (st := [.int ((v1 + (-1 : Int32)) - (1 : Int32)), .ref 47]) (k_X9_worked hx4) zY_X9_worked ls_X9_246 rfl (zfit_m (by decide) (by decide)) (Nat.le_of_ble_eq_true rfl) dX9_ruled_82 rfl ?_
          obtain ⟨M5, hM5, h⟩ := z_bind h
          refine zo_iast zt_47 hM5 dX9_ruled_85 ?_
          refine zg_goto (tgt := 119) dX9_ruled_86 (by decide) ?_
          refine zo_sub (ls' := [(0, .ref 39), (1, .int (v1 + (-1 : Int32))), (2, .int v2)]) [0, 1, 2] rfl ?_
          exact g9_ruled_119 (fun u0 u1 u2 h => ih u0 u1 u2 h) _ _ _ h
      · replace h := (if_pos hc).symm.trans h
        refine zg_aload_n 0 dX9_ruled_26 rfl rfl ?_
        refine zo_getr 47 7 rfl fl_X9_43 zt_39 rfl dX9_ruled_27 ?_
        refine zg_iload_n 1 dX9_ruled_30 rfl rfl ?_
        refine zg_iconst dX9_ruled_31 zki_1 ?_
        refine zg_isub dX9_ruled_32 ?_
        refine zg_aload_n 0 dX9_ruled_33 rfl rfl ?_
        refine zo_getr 47 7 rfl fl_X9_43 zt_39 rfl dX9_ruled_34 ?_
        refine zg_iload_n 1 dX9_ruled_37 rfl rfl ?_
        refine zg_iconst dX9_ruled_38 zki_1 ?_
        refine zg_isub dX9_ruled_39 ?_
        obtain ⟨x2, hx2, h⟩ := z_bind h
        refine zo_iald zt_47 hx2 dX9_ruled_40 ?_
        refine zg_ineg dX9_ruled_41 ?_
        obtain ⟨M3, hM3, h⟩ := z_bind h
        refine zo_iast zt_47 hM3 dX9_ruled_42 ?_
        refine zg_goto (tgt := 119) dX9_ruled_43 (by decide) ?_
        refine zo_sub (ls' := [(0, .ref 39), (1, .int v1), (2, .int v2)]) [0, 1, 2] rfl ?_
        exact g9_ruled_119 (fun u0 u1 u2 h => ih u0 u1 u2 h) _ _ _ h
set_option maxRecDepth 20000 in
set_option maxHeartbeats 4000000 in
theorem k_X9_ruled {M : zM} {r1 : Int32} {Mr : zM} (h : f9_ruled M = some (r1, Mr)) : zK ztops yX9_ruled cX9_ruled 4 (some .int) 3 [.ref 39] M (some (.int r1)) Mr := by
  refine zK_of pl_X9 (Nat.le_of_ble_eq_true rfl) ?_
  show zJ ztops RX9 cX9_ruled 4 _ 0 0 0 [(0, .ref 39)] [] M
  rw [f9_ruled] at h
  refine zg_iconst dX9_ruled_0 zki_0 ?_
  refine zg_istore_n (ls' := [(0, .ref 39), (1, .int (0 : Int32))]) dX9_ruled_1 rfl (Nat.le_of_ble_eq_true rfl) rfl ?_
  refine zg_iconst dX9_ruled_2 zki_0 ?_
  refine zg_istore_n (ls' := [(0, .ref 39), (1, .int (0 : Int32)), (2, .int (0 : Int32))]) dX9_ruled_3 rfl (Nat.le_of_ble_eq_true rfl) rfl ?_
  exact g9_ruled_4 zfuel _ _ _ h
set_option maxRecDepth 20000 in
set_option maxHeartbeats 4000000 in
theorem g9_pull_85 {a1 : Nat} (h1 : ztops[a1]? = some (.inl (0, 9))) {r1 : Int32} {Mr : zM} : ∀ (v2 : Int32) (v3 : Int32) (s1 : Int32) (s2 : Int32) (M : zM), f9_pull_85 a1 v2 v3 s1 s2 M = some (r1, Mr) → zJ ztops RX9 cX9_pull 5 (zBm ztops 4 (some .int) (some (.int r1)) Mr) 0 0 85 [(0, .ref 39), (1, .ref a1), (2, .int v2), (3, .int v3)] [.int s2, .int s1, .ref 48] M := by
  intro v2 v3 s1 s2 M h
  rw [f9_pull_85] at h
  obtain ⟨x1, hx1, h⟩ := z_bind h
  refine zg_callS (st := [.int s1, .ref 48]) (k_X9_flag hx1) zY_X9_flag ls_X9_116 rfl (zfit_m (by decide) (by decide)) (Nat.le_of_ble_eq_true rfl) dX9_pull_85 rfl ?_
  obtain ⟨M2, hM2, h⟩ := z_bind h
  refine zo_iast zt_48 hM2 dX9_pull_88 ?_
  refine zg_aload_n 0 dX9_pull_89 rfl rfl ?_
  refine zo_getr 48 8 rfl fl_X9_46 zt_39 rfl dX9_pull_90 ?_
  refine zg_bipush dX9_pull_93 zkb_6 ?_
  refine zg_aload_n 1 dX9_pull_95 rfl rfl ?_
  refine zg_iload_n 2 dX9_pull_96 rfl rfl ?_
  refine zg_iload_n 3 dX9_pull_97 rfl rfl ?_
  obtain ⟨x3, hx3, h⟩ := z_bind h
  refine zg_callS (st := [.int (6 : Int32), .ref 48]) (k_X9_alike h1 hx3) zY_X9_alike ls_X9_252 rfl (zfit_m (by decide) (by decide)) (Nat.le_of_ble_eq_true rfl) dX9_pull_98 rfl ?_
  refine zo_iastc 6 zt_48 (by decide) rfl dX9_pull_101 ?_
  refine zg_aload_n 0 dX9_pull_102 rfl rfl ?_
  refine zo_getr 48 8 rfl fl_X9_46 zt_39 rfl dX9_pull_103 ?_
  refine zg_bipush dX9_pull_106 zkb_7 ?_
  refine zg_aload_n 1 dX9_pull_108 rfl rfl ?_
  refine zg_bipush dX9_pull_109 zkb_8 ?_
  refine zo_ialdc 8 h1 (by decide) rfl dX9_pull_111 ?_
  refine zg_bipush dX9_pull_112 zkb_7 ?_
  refine zg_irem (by decide) dX9_pull_114 ?_
  refine zo_iastc 7 zt_48 (by decide) rfl dX9_pull_115 ?_
  refine zg_bipush dX9_pull_116 zkb_m99 ?_
  refine zg_bipush dX9_pull_118 zkb_99 ?_
  refine zg_aload_n 0 dX9_pull_120 rfl rfl ?_
  obtain ⟨p4, hp4, h⟩ := z_bind h
  refine zg_callV (st := [.int (99 : Int32), .int (-99 : Int32)]) (k_X9_ruled hp4) zY_X9_ruled lv_X9_255 rfl zt_39 rfl (zfit_m (by decide) (by decide)) (Nat.le_of_ble_eq_true rfl) dX9_pull_121 rfl ?_
  refine zo_min ls_X9_153 ⟨Nat.le_of_ble_eq_true rfl, Nat.le_of_ble_eq_true rfl, Nat.le_refl _, Nat.le_refl _⟩ z_iM z_cmin dX9_pull_124 ?_
  refine zo_max ls_X9_258 ⟨Nat.le_of_ble_eq_true rfl, Nat.le_of_ble_eq_true rfl, Nat.le_refl _, Nat.le_refl _⟩ z_iM z_cmax dX9_pull_127 ?_
  obtain ⟨rfl, rfl⟩ := z_ret2 h
  exact zg_iret dX9_pull_130
set_option maxRecDepth 20000 in
set_option maxHeartbeats 4000000 in
theorem k_X9_pull {a1 : Nat} (h1 : ztops[a1]? = some (.inl (0, 9))) {v2 : Int32} {v3 : Int32} {M : zM} {r1 : Int32} {Mr : zM} (h : f9_pull a1 v2 v3 M = some (r1, Mr)) : zK ztops yX9_pull cX9_pull 5 (some .int) 4 [.ref 39, .ref a1, .int v2, .int v3] M (some (.int r1)) Mr := by
  refine zK_of pl_X9 (Nat.le_of_ble_eq_true rfl) ?_
  show zJ ztops RX9 cX9_pull 5 _ 0 0 0 [(0, .ref 39), (1, .ref a1), (2, .int v2), (3, .int v3)] [] M
  rw [f9_pull] at h
  refine zg_aload_n 1 dX9_pull_0 rfl rfl ?_
  refine zg_iload_n 2 dX9_pull_1 rfl rfl ?_
  refine zg_iload_n 3 dX9_pull_2 rfl rfl ?_
  obtain ⟨x1, hx1, h⟩ := z_bind h
  refine zg_callS (st := []) (k_X9_bitsOf h1 hx1) zY_X9_bitsOf ls_X9_120 rfl (zfit_m (by decide) (by decide)) (Nat.le_of_ble_eq_true rfl) dX9_pull_3 rfl ?_
  refine zg_istore (ls' := [(0, .ref 39), (1, .ref a1), (2, .int v2), (3, .int v3), (4, .int x1)]) dX9_pull_6 (Nat.le_of_ble_eq_true rfl) rfl ?_
  refine zg_aload_n 0 dX9_pull_8 rfl rfl ?_
  refine zo_getr 48 8 rfl fl_X9_46 zt_39 rfl dX9_pull_9 ?_
  refine zg_iconst dX9_pull_12 zki_0 ?_
  refine zg_iload_n 2 dX9_pull_13 rfl rfl ?_
  refine zo_iastc 0 zt_48 (by decide) rfl dX9_pull_14 ?_
  refine zg_aload_n 0 dX9_pull_15 rfl rfl ?_
  refine zo_getr 48 8 rfl fl_X9_46 zt_39 rfl dX9_pull_16 ?_
  refine zg_iconst dX9_pull_19 zki_1 ?_
  refine zg_iload_n 3 dX9_pull_20 rfl rfl ?_
  refine zo_iastc 1 zt_48 (by decide) rfl dX9_pull_21 ?_
  refine zg_aload_n 0 dX9_pull_22 rfl rfl ?_
  refine zo_getr 48 8 rfl fl_X9_46 zt_39 rfl dX9_pull_23 ?_
  refine zg_iconst dX9_pull_26 zki_2 ?_
  refine zg_iload 4 dX9_pull_27 rfl ?_
  obtain ⟨x2, hx2, h⟩ := z_bind h
  refine zg_callS (st := [.int (2 : Int32), .ref 48]) (k_J6_bitCount_0f7a4 hx2) zY_J6_bitCount_0f7a4 ls_X9_131 rfl (zfit_m (by decide) (by decide)) (Nat.le_of_ble_eq_true rfl) dX9_pull_29 rfl ?_
  refine zo_iastc 2 zt_48 (by decide) rfl dX9_pull_32 ?_
  refine zg_aload_n 0 dX9_pull_33 rfl rfl ?_
  refine zo_getr 48 8 rfl fl_X9_46 zt_39 rfl dX9_pull_34 ?_
  refine zg_iconst dX9_pull_37 zki_3 ?_
  refine zg_iload 4 dX9_pull_38 rfl ?_
  refine zg_aload_n 1 dX9_pull_40 rfl rfl ?_
  refine zg_iload_n 2 dX9_pull_41 rfl rfl ?_
  obtain ⟨x3, hx3, h⟩ := z_bind h
  refine zg_callS (st := [.int x1, .int (3 : Int32), .ref 48]) (k_X9_cellsOf h1 hx3) zY_X9_cellsOf ls_X9_124 rfl (zfit_m (by decide) (by decide)) (Nat.le_of_ble_eq_true rfl) dX9_pull_42 rfl ?_
  obtain ⟨x4, hx4, h⟩ := z_bind h
  refine zg_callS (st := [.int (3 : Int32), .ref 48]) (k_X9_changesOf hx4) zY_X9_changesOf ls_X9_249 rfl (zfit_m (by decide) (by decide)) (Nat.le_of_ble_eq_true rfl) dX9_pull_45 rfl ?_
  refine zo_iastc 3 zt_48 (by decide) rfl dX9_pull_48 ?_
  refine zg_aload_n 0 dX9_pull_49 rfl rfl ?_
  refine zo_getr 48 8 rfl fl_X9_46 zt_39 rfl dX9_pull_50 ?_
  refine zg_iconst dX9_pull_53 zki_4 ?_
  refine zg_aload_n 1 dX9_pull_54 rfl rfl ?_
  refine zg_iload_n 2 dX9_pull_55 rfl rfl ?_
  obtain ⟨x5, hx5, h⟩ := z_bind h
  refine zg_callS (st := [.int (4 : Int32), .ref 48]) (k_X9_cellsOf h1 hx5) zY_X9_cellsOf ls_X9_124 rfl (zfit_m (by decide) (by decide)) (Nat.le_of_ble_eq_true rfl) dX9_pull_56 rfl ?_
  refine zo_iastc 4 zt_48 (by decide) rfl dX9_pull_59 ?_
  refine zg_aload_n 0 dX9_pull_60 rfl rfl ?_
  refine zo_getr 48 8 rfl fl_X9_46 zt_39 rfl dX9_pull_61 ?_
  refine zg_iconst dX9_pull_64 zki_5 ?_
  refine zg_iload_n 3 dX9_pull_65 rfl rfl ?_
  refine zg_if_eq (tgt := 80) dX9_pull_66 (by decide) (fun hc => ?_) (fun hc => ?_)
  · replace h := (if_pos hc).symm.trans h
    refine zg_iconst dX9_pull_80 zki_1 ?_
    refine zg_goto (tgt := 85) dX9_pull_81 (by decide) ?_
    refine zo_sub (ls' := [(0, .ref 39), (1, .ref a1), (2, .int v2), (3, .int v3)]) [0, 1, 2, 3] rfl ?_
    exact g9_pull_85 h1 _ _ _ _ _ h
  · replace h := (if_neg hc).symm.trans h
    refine zg_iload_n 3 dX9_pull_69 rfl rfl ?_
    refine zg_aload_n 1 dX9_pull_70 rfl rfl ?_
    refine zg_iload_n 2 dX9_pull_71 rfl rfl ?_
    obtain ⟨x6, hx6, h⟩ := z_bind h
    refine zg_callS (st := [.int v3, .int (5 : Int32), .ref 48]) (k_X9_manyOf h1 hx6) zY_X9_manyOf ls_X9_108 rfl (zfit_m (by decide) (by decide)) (Nat.le_of_ble_eq_true rfl) dX9_pull_72 rfl ?_
    refine zg_iconst dX9_pull_75 zki_1 ?_
    refine zg_isub dX9_pull_76 ?_
    suffices hj : zJ ztops RX9 cX9_pull 5 (zBm ztops 4 (some .int) (some (.int r1)) Mr) 0 0 85 [(0, .ref 39), (1, .ref a1), (2, .int v2), (3, .int v3), (4, .int x1)] [.int (if v3 = (x6 - (1 : Int32)) then (1 : Int32) else (0 : Int32)), .int (5 : Int32), .ref 48] (zsi (zsi (zsi (zsi (zsi M 48 0 v2) 48 1 v3) 48 2 x2) 48 3 x4) 48 4 x5) by
      refine zg_icmp_ne (tgt := 84) dX9_pull_77 (by decide) (fun hc => ?_) (fun hc => ?_)
      · rw [show (if v3 = (x6 - (1 : Int32)) then (1 : Int32) else (0 : Int32)) = (0 : Int32) from if_neg hc] at hj
        refine zg_iconst dX9_pull_84 zki_0 ?_
        exact hj
      · rw [show (if v3 = (x6 - (1 : Int32)) then (1 : Int32) else (0 : Int32)) = (1 : Int32) from if_pos hc] at hj
        refine zg_iconst dX9_pull_80 zki_1 ?_
        refine zg_goto (tgt := 85) dX9_pull_81 (by decide) ?_
        exact hj
    refine zo_sub (ls' := [(0, .ref 39), (1, .ref a1), (2, .int v2), (3, .int v3)]) [0, 1, 2, 3] rfl ?_
    exact g9_pull_85 h1 _ _ _ _ _ h
set_option maxRecDepth 20000 in
set_option maxHeartbeats 4000000 in
theorem g9_strongest_54 {a1 : Nat} (h1 : ztops[a1]? = some (.inl (0, 9))) {r1 : Int32} {Mr : zM} {k9 : Int32 → Int32 → Int32 → zM → Option (Int32 × zM)} (hk9 : ∀ (v2 : Int32) (v3 : Int32) (v4 : Int32) (M : zM), k9 v2 v3 v4 M = some (r1, Mr) → zJ ztops RX9 cX9_strongest 6 (zBm ztops 5 (some .int) (some (.int r1)) Mr) 0 0 9 [(0, .ref 39), (1, .ref a1), (2, .int v2), (3, .int v3), (4, .int v4)] [] M) : ∀ (v2 : Int32) (v3 : Int32) (v4 : Int32) (s0 : Int32) (M : zM), f9_strongest_54 a1 k9 v2 v3 v4 s0 M = some (r1, Mr) → zJ ztops RX9 cX9_strongest 6 (zBm ztops 5 (some .int) (some (.int r1)) Mr) 0 0 54 [(0, .ref 39), (1, .ref a1), (2, .int v2), (3, .int v3), (4, .int v4)] [.int s0] M := by
  intro v2 v3 v4 s0 M h
  rw [f9_strongest_54] at h
  refine zg_istore (ls' := [(0, .ref 39), (1, .ref a1), (2, .int v2), (3, .int v3), (4, .int v4), (5, .int s0)]) dX9_strongest_54 (Nat.le_of_ble_eq_true rfl) rfl ?_
  refine zg_iload 5 dX9_strongest_56 rfl ?_
  refine zg_iload_n 3 dX9_strongest_58 rfl rfl ?_
  suffices hj : zJ ztops RX9 cX9_strongest 6 (zBm ztops 5 (some .int) (some (.int r1)) Mr) 0 0 68 [(0, .ref 39), (1, .ref a1), (2, .int v2), (3, .int v3), (4, .int v4), (5, .int s0)] [.int (if s0 ≤ v3 then v2 else v4)] M by
    refine zg_icmp_le (tgt := 67) dX9_strongest_59 (by decide) (fun hc => ?_) (fun hc => ?_)
    · rw [show (if s0 ≤ v3 then v2 else v4) = v2 from if_pos hc] at hj
      refine zg_iload_n 2 dX9_strongest_67 rfl rfl ?_
      exact hj
    · rw [show (if s0 ≤ v3 then v2 else v4) = v4 from if_neg hc] at hj
      refine zg_iload 4 dX9_strongest_62 rfl ?_
      refine zg_goto (tgt := 68) dX9_strongest_64 (by decide) ?_
      exact hj
  refine zg_istore_n (ls' := [(0, .ref 39), (1, .ref a1), (2, .int (if s0 ≤ v3 then v2 else v4)), (3, .int v3), (4, .int v4), (5, .int s0)]) dX9_strongest_68 rfl (Nat.le_of_ble_eq_true rfl) rfl ?_
  refine zg_iload_n 3 dX9_strongest_69 rfl rfl ?_
  refine zg_iload 5 dX9_strongest_70 rfl ?_
  refine zo_max ls_X9_258 ⟨Nat.le_of_ble_eq_true rfl, Nat.le_of_ble_eq_true rfl, Nat.le_refl _, Nat.le_refl _⟩ z_iM z_cmax dX9_strongest_72 ?_
  refine zg_istore_n (ls' := [(0, .ref 39), (1, .ref a1), (2, .int (if s0 ≤ v3 then v2 else v4)), (3, .int (zmax v3 s0)), (4, .int v4), (5, .int s0)]) dX9_strongest_75 rfl (Nat.le_of_ble_eq_true rfl) rfl ?_
  refine zg_iinc (ls' := [(0, .ref 39), (1, .ref a1), (2, .int (if s0 ≤ v3 then v2 else v4)), (3, .int (zmax v3 s0)), (4, .int (v4 + (1 : Int32))), (5, .int s0)]) 4 dX9_strongest_76 rfl zki_1 (Nat.le_of_ble_eq_true rfl) rfl ?_
  refine zg_goto (tgt := 9) dX9_strongest_79 (by decide) ?_
  refine zo_sub (ls' := [(0, .ref 39), (1, .ref a1), (2, .int (if s0 ≤ v3 then v2 else v4)), (3, .int (zmax v3 s0)), (4, .int (v4 + (1 : Int32)))]) [0, 1, 2, 3, 4] rfl ?_
  exact hk9 _ _ _ _ h
set_option maxRecDepth 20000 in
set_option maxHeartbeats 4000000 in
theorem g9_strongest_9 {a1 : Nat} (h1 : ztops[a1]? = some (.inl (0, 9))) {r1 : Int32} {Mr : zM} : ∀ (n : Nat) (v2 : Int32) (v3 : Int32) (v4 : Int32) (M : zM), f9_strongest_9 a1 n v2 v3 v4 M = some (r1, Mr) → zJ ztops RX9 cX9_strongest 6 (zBm ztops 5 (some .int) (some (.int r1)) Mr) 0 0 9 [(0, .ref 39), (1, .ref a1), (2, .int v2), (3, .int v3), (4, .int v4)] [] M := by
  intro n
  induction n with
  | zero => intro v2 v3 v4 M h; cases h
  | succ n ih =>
    intro v2 v3 v4 M h
    rw [f9_strongest_9] at h
    refine zg_iload 4 dX9_strongest_9 rfl ?_
    refine zg_bipush dX9_strongest_11 zkb_12 ?_
    refine zg_icmp_ge (tgt := 82) dX9_strongest_13 (by decide) (fun hc => ?_) (fun hc => ?_)
    · replace h := (if_pos hc).symm.trans h
      refine zg_iload_n 2 dX9_strongest_82 rfl rfl ?_
      obtain ⟨rfl, rfl⟩ := z_ret2 h
      exact zg_iret dX9_strongest_83
    · replace h := (if_neg hc).symm.trans h
      refine zg_aload_n 1 dX9_strongest_16 rfl rfl ?_
      refine zg_iload 4 dX9_strongest_17 rfl ?_
      refine zg_bipush dX9_strongest_19 zkb_6 ?_
      refine zg_idiv (by decide) dX9_strongest_21 ?_
      refine zg_iload 4 dX9_strongest_22 rfl ?_
      refine zg_bipush dX9_strongest_24 zkb_6 ?_
      refine zg_irem (by decide) dX9_strongest_26 ?_
      obtain ⟨x1, hx1, h⟩ := z_bind h
      refine zg_callS (st := []) (k_X9_isThread h1 hx1) zY_X9_isThread ls_X9_262 rfl (zfit_m (by decide) (by decide)) (Nat.le_of_ble_eq_true rfl) dX9_strongest_27 rfl ?_
      refine zg_if_eq (tgt := 51) dX9_strongest_30 (by decide) (fun hc => ?_) (fun hc => ?_)
      · replace h := (if_pos hc).symm.trans h
        refine zg_ldcw kc_X9_261 dX9_strongest_51 ?_
        exact g9_strongest_54 h1 (fun u0 u1 u2 u3 h => ih u0 u1 u2 u3 h) _ _ _ _ _ h
      · replace h := (if_neg hc).symm.trans h
        refine zg_aload_n 0 dX9_strongest_33 rfl rfl ?_
        refine zg_aload_n 1 dX9_strongest_34 rfl rfl ?_
        refine zg_iload 4 dX9_strongest_35 rfl ?_
        refine zg_bipush dX9_strongest_37 zkb_6 ?_
        refine zg_idiv (by decide) dX9_strongest_39 ?_
        refine zg_iload 4 dX9_strongest_40 rfl ?_
        refine zg_bipush dX9_strongest_42 zkb_6 ?_
        refine zg_irem (by decide) dX9_strongest_44 ?_
        obtain ⟨p2, hp2, h⟩ := z_bind h
        refine zg_callV (st := []) (k_X9_pull h1 hp2) zY_X9_pull lv_X9_266 rfl zt_39 rfl (zfit_m (by decide) (by decide)) (Nat.le_of_ble_eq_true rfl) dX9_strongest_45 rfl ?_
        refine zg_goto (tgt := 54) dX9_strongest_48 (by decide) ?_
        exact g9_strongest_54 h1 (fun u0 u1 u2 u3 h => ih u0 u1 u2 u3 h) _ _ _ _ _ h
set_option maxRecDepth 20000 in
set_option maxHeartbeats 4000000 in
theorem k_X9_strongest {a1 : Nat} (h1 : ztops[a1]? = some (.inl (0, 9))) {M : zM} {r1 : Int32} {Mr : zM} (h : f9_strongest a1 M = some (r1, Mr)) : zK ztops yX9_strongest cX9_strongest 6 (some .int) 5 [.ref 39, .ref a1] M (some (.int r1)) Mr := by
  refine zK_of pl_X9 (Nat.le_of_ble_eq_true rfl) ?_
  show zJ ztops RX9 cX9_strongest 6 _ 0 0 0 [(0, .ref 39), (1, .ref a1)] [] M
  rw [f9_strongest] at h
  refine zg_iconst dX9_strongest_0 zki_0 ?_
  refine zg_istore_n (ls' := [(0, .ref 39), (1, .ref a1), (2, .int (0 : Int32))]) dX9_strongest_1 rfl (Nat.le_of_ble_eq_true rfl) rfl ?_
  refine zg_ldcw kc_X9_261 dX9_strongest_2 ?_
  refine zg_istore_n (ls' := [(0, .ref 39), (1, .ref a1), (2, .int (0 : Int32)), (3, .int (-1000000 : Int32))]) dX9_strongest_5 rfl (Nat.le_of_ble_eq_true rfl) rfl ?_
  refine zg_iconst dX9_strongest_6 zki_0 ?_
  refine zg_istore (ls' := [(0, .ref 39), (1, .ref a1), (2, .int (0 : Int32)), (3, .int (-1000000 : Int32)), (4, .int (0 : Int32))]) dX9_strongest_7 (Nat.le_of_ble_eq_true rfl) rfl ?_
  exact g9_strongest_9 h1 zfuel _ _ _ _ h
