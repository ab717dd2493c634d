set_option maxRecDepth 20000 in
set_option maxHeartbeats 4000000 in
theorem k_X5_mostOf {T : List zN} {v0 : Int32} {r1 : Int32} {M : zM} (h : f5_mostOf v0 = some r1) : zK T yX5_mostOf cX5_mostOf 1 (some .int) 0 [.int v0] M (some (.int r1)) M := by
  refine zK_of pl_X5 (Nat.le_of_ble_eq_true rfl) ?_
  show zJ T RX5 cX5_mostOf 1 _ 0 0 0 [(0, .int v0)] [] M
  rw [f5_mostOf] at h
  refine zg_iload_n 0 dX5_mostOf_0 rfl rfl ?_
  by_cases hc1 : v0 = (0 : Int32)
  · replace h := (if_pos hc1).symm.trans h
    refine zg_tableEq (k := 0) (off := 35) (tgt := 36) dX5_mostOf_1 hc1 (by decide) (by decide) (by decide) (by decide) ?_
    refine zg_iconst dX5_mostOf_36 zki_1 ?_
    obtain rfl := z_ret1 h
    exact zg_iret dX5_mostOf_37
  replace h := (if_neg hc1).symm.trans h
  by_cases hc2 : v0 = (1 : Int32)
  · replace h := (if_pos hc2).symm.trans h
    refine zg_tableEq (k := 1) (off := 37) (tgt := 38) dX5_mostOf_1 hc2 (by decide) (by decide) (by decide) (by decide) ?_
    refine zg_bipush dX5_mostOf_38 zkb_6 ?_
    obtain rfl := z_ret1 h
    exact zg_iret dX5_mostOf_40
  replace h := (if_neg hc2).symm.trans h
  by_cases hc3 : v0 = (2 : Int32)
  · replace h := (if_pos hc3).symm.trans h
    refine zg_tableEq (k := 2) (off := 40) (tgt := 41) dX5_mostOf_1 hc3 (by decide) (by decide) (by decide) (by decide) ?_
    refine zg_iconst dX5_mostOf_41 zki_5 ?_
    obtain rfl := z_ret1 h
    exact zg_iret dX5_mostOf_42
  replace h := (if_neg hc3).symm.trans h
  by_cases hc4 : v0 = (3 : Int32)
  · replace h := (if_pos hc4).symm.trans h
    refine zg_tableEq (k := 3) (off := 35) (tgt := 36) dX5_mostOf_1 hc4 (by decide) (by decide) (by decide) (by decide) ?_
    refine zg_iconst dX5_mostOf_36 zki_1 ?_
    obtain rfl := z_ret1 h
    exact zg_iret dX5_mostOf_37
  replace h := (if_neg hc4).symm.trans h
  by_cases hc5 : v0 = (4 : Int32)
  · replace h := (if_pos hc5).symm.trans h
    refine zg_tableEq (k := 4) (off := 40) (tgt := 41) dX5_mostOf_1 hc5 (by decide) (by decide) (by decide) (by decide) ?_
    refine zg_iconst dX5_mostOf_41 zki_5 ?_
    obtain rfl := z_ret1 h
    exact zg_iret dX5_mostOf_42
  replace h := (if_neg hc5).symm.trans h
  refine zg_tableOut (tgt := 43) dX5_mostOf_1 (z_tout 5 (fun j hj => by match j, hj with | 0, _ => exact hc1 | 1, _ => exact hc2 | 2, _ => exact hc3 | 3, _ => exact hc4 | 4, _ => exact hc5 | j + 5, hj => exact absurd hj (by omega)) (by decide)) (by decide) ?_
  refine zg_iconst dX5_mostOf_43 zki_m1 ?_
  obtain rfl := z_ret1 h
  exact zg_iret dX5_mostOf_44
set_option maxRecDepth 20000 in
set_option maxHeartbeats 4000000 in
theorem k_X5_add {v1 : Int32} {v2 : Int32} {M : zM} {Mr : zM} (h : f5_add v1 v2 M = some Mr) : zK ztops yX5_add cX5_add 3 (none) 0 [.ref 30, .int v1, .int v2] M none Mr := by
  refine zK_of pl_X5 (Nat.le_of_ble_eq_true rfl) ?_
  show zJ ztops RX5 cX5_add 3 _ 0 0 0 [(0, .ref 30), (1, .int v1), (2, .int v2)] [] M
  rw [f5_add] at h
  refine zg_aload_n 0 dX5_add_0 rfl rfl ?_
  refine zg_geti fl_X5_18 zt_30 rfl dX5_add_1 ?_
  refine zg_aload_n 0 dX5_add_4 rfl rfl ?_
  refine zo_getr 31 0 rfl fl_X5_9 zt_30 rfl dX5_add_5 ?_
  refine zg_alen (v := (12 : Int32)) zt_31 (by decide) rfl dX5_add_8 ?_
  refine zg_icmp_ge (tgt := 42) dX5_add_9 (by decide) (fun hc => ?_) (fun hc => ?_)
  · replace h := (if_pos hc).symm.trans h
    obtain rfl := z_ret1 h
    exact zg_vret dX5_add_42
  · replace h := (if_neg hc).symm.trans h
    refine zg_aload_n 0 dX5_add_12 rfl rfl ?_
    refine zo_getr 31 0 rfl fl_X5_9 zt_30 rfl dX5_add_13 ?_
    refine zg_aload_n 0 dX5_add_16 rfl rfl ?_
    refine zg_geti fl_X5_18 zt_30 rfl dX5_add_17 ?_
    refine zg_iload_n 1 dX5_add_20 rfl rfl ?_
    obtain ⟨M1, hM1, h⟩ := z_bind h
    refine zo_iast zt_31 hM1 dX5_add_21 ?_
    refine zg_aload_n 0 dX5_add_22 rfl rfl ?_
    refine zo_getr 32 1 rfl fl_X5_15 zt_30 rfl dX5_add_23 ?_
    refine zg_aload_n 0 dX5_add_26 rfl rfl ?_
    refine zg_geti fl_X5_18 zt_30 rfl dX5_add_27 ?_
    refine zg_iload_n 2 dX5_add_30 rfl rfl ?_
    obtain ⟨M2, hM2, h⟩ := z_bind h
    refine zo_iast zt_32 hM2 dX5_add_31 ?_
    refine zg_aload_n 0 dX5_add_32 rfl rfl ?_
    refine zg_dup dX5_add_33 rfl ?_
    refine zg_geti fl_X5_18 zt_30 rfl dX5_add_34 ?_
    refine zg_iconst dX5_add_37 zki_1 ?_
    refine zg_iadd dX5_add_38 ?_
    refine zg_puti fp_X5_18 zt_30 rfl dX5_add_39 ?_
    obtain rfl := z_ret1 h
    exact zg_vret dX5_add_42
set_option maxRecDepth 20000 in
set_option maxHeartbeats 4000000 in
theorem k_X6_add {v1 : Int32} {M : zM} {Mr : zM} (h : f6_add v1 M = some Mr) : zK ztops yX6_add cX6_add 2 (none) 0 [.ref 7, .int v1] M none Mr := by
  refine zK_of pl_X6 (Nat.le_of_ble_eq_true rfl) ?_
  show zJ ztops RX6 cX6_add 2 _ 0 0 0 [(0, .ref 7), (1, .int v1)] [] M
  rw [f6_add] at h
  refine zg_aload_n 0 dX6_add_0 rfl rfl ?_
  refine zg_geti fl_X6_15 zt_7 rfl dX6_add_1 ?_
  refine zg_aload_n 0 dX6_add_4 rfl rfl ?_
  refine zo_getr 8 0 rfl fl_X6_9 zt_7 rfl dX6_add_5 ?_
  refine zg_alen (v := (80 : Int32)) zt_8 (by decide) rfl dX6_add_8 ?_
  refine zg_icmp_ge (tgt := 32) dX6_add_9 (by decide) (fun hc => ?_) (fun hc => ?_)
  · replace h := (if_pos hc).symm.trans h
    obtain rfl := z_ret1 h
    exact zg_vret dX6_add_32
  · replace h := (if_neg hc).symm.trans h
    refine zg_aload_n 0 dX6_add_12 rfl rfl ?_
    refine zo_getr 8 0 rfl fl_X6_9 zt_7 rfl dX6_add_13 ?_
    refine zg_aload_n 0 dX6_add_16 rfl rfl ?_
    refine zg_geti fl_X6_15 zt_7 rfl dX6_add_17 ?_
    refine zg_iload_n 1 dX6_add_20 rfl rfl ?_
    obtain ⟨M1, hM1, h⟩ := z_bind h
    refine zo_iast zt_8 hM1 dX6_add_21 ?_
    refine zg_aload_n 0 dX6_add_22 rfl rfl ?_
    refine zg_dup dX6_add_23 rfl ?_
    refine zg_geti fl_X6_15 zt_7 rfl dX6_add_24 ?_
    refine zg_iconst dX6_add_27 zki_1 ?_
    refine zg_iadd dX6_add_28 ?_
    refine zg_puti fp_X6_15 zt_7 rfl dX6_add_29 ?_
    obtain rfl := z_ret1 h
    exact zg_vret dX6_add_32
set_option maxRecDepth 20000 in
set_option maxHeartbeats 4000000 in
theorem k_X6_at {v1 : Int32} {r1 : Int32} {M : zM} (h : f6_at v1 M = some r1) : zK ztops yX6_at cX6_at 2 (some .int) 0 [.ref 7, .int v1] M (some (.int r1)) M := by
  refine zK_of pl_X6 (Nat.le_of_ble_eq_true rfl) ?_
  show zJ ztops RX6 cX6_at 2 _ 0 0 0 [(0, .ref 7), (1, .int v1)] [] M
  rw [f6_at] at h
  refine zg_iload_n 1 dX6_at_0 rfl rfl ?_
  refine zg_if_lt (tgt := 21) dX6_at_1 (by decide) (fun hc => ?_) (fun hc => ?_)
  · replace h := (if_pos hc).symm.trans h
    refine zg_iconst dX6_at_21 zki_m1 ?_
    obtain rfl := z_ret1 h
    exact zg_iret dX6_at_22
  · replace h := (if_neg hc).symm.trans h
    refine zg_iload_n 1 dX6_at_4 rfl rfl ?_
    refine zg_aload_n 0 dX6_at_5 rfl rfl ?_
    refine zg_geti fl_X6_15 zt_7 rfl dX6_at_6 ?_
    refine zg_icmp_ge (tgt := 21) dX6_at_9 (by decide) (fun hc => ?_) (fun hc => ?_)
    · replace h := (if_pos hc).symm.trans h
      refine zg_iconst dX6_at_21 zki_m1 ?_
      obtain rfl := z_ret1 h
      exact zg_iret dX6_at_22
    · replace h := (if_neg hc).symm.trans h
      refine zg_aload_n 0 dX6_at_12 rfl rfl ?_
      refine zo_getr 8 0 rfl fl_X6_9 zt_7 rfl dX6_at_13 ?_
      refine zg_iload_n 1 dX6_at_16 rfl rfl ?_
      obtain ⟨x1, hx1, h⟩ := z_bind h
      refine zo_iald zt_8 hx1 dX6_at_17 ?_
      refine zg_goto (tgt := 22) dX6_at_18 (by decide) ?_
      obtain rfl := z_ret1 h
      exact zg_iret dX6_at_22
set_option maxRecDepth 20000 in
set_option maxHeartbeats 4000000 in
theorem k_X6_digit {v1 : Int32} {r1 : Int32} {M : zM} (h : f6_digit v1 M = some r1) : zK ztops yX6_digit cX6_digit 3 (some .int) 2 [.ref 7, .int v1] M (some (.int r1)) M := by
  refine zK_of pl_X6 (Nat.le_of_ble_eq_true rfl) ?_
  show zJ ztops RX6 cX6_digit 3 _ 0 0 0 [(0, .ref 7), (1, .int v1)] [] M
  rw [f6_digit] at h
  refine zg_aload_n 0 dX6_digit_0 rfl rfl ?_
  refine zg_iload_n 1 dX6_digit_1 rfl rfl ?_
  obtain ⟨x1, hx1, h⟩ := z_bind h
  refine zg_callV (st := []) (k_X6_at hx1) zY_X6_at lv_X6_19 rfl zt_7 rfl (zfit_m (by decide) (by decide)) (Nat.le_of_ble_eq_true rfl) dX6_digit_2 rfl ?_
  refine zg_istore_n (ls' := [(0, .ref 7), (1, .int v1), (2, .int x1)]) dX6_digit_5 rfl (Nat.le_of_ble_eq_true rfl) rfl ?_
  refine zg_iload_n 2 dX6_digit_6 rfl rfl ?_
  refine zg_bipush dX6_digit_7 zkb_48 ?_
  suffices hj : zJ ztops RX6 cX6_digit 3 (zBm ztops 2 (some .int) (some (.int r1)) M) 0 0 26 [(0, .ref 7), (1, .int v1), (2, .int x1)] [.int (if x1 < (48 : Int32) then (-1 : Int32) else (if (57 : Int32) < x1 then (-1 : Int32) else (x1 - (48 : Int32))))] M by
    refine zg_icmp_lt (tgt := 25) dX6_digit_9 (by decide) (fun hc => ?_) (fun hc => ?_)
    · rw [show (if x1 < (48 : Int32) then (-1 : Int32) else (if (57 : Int32) < x1 then (-1 : Int32) else (x1 - (48 : Int32)))) = (-1 : Int32) from if_pos hc] at hj
      refine zg_iconst dX6_digit_25 zki_m1 ?_
      exact hj
    · rw [show (if x1 < (48 : Int32) then (-1 : Int32) else (if (57 : Int32) < x1 then (-1 : Int32) else (x1 - (48 : Int32)))) = (if (57 : Int32) < x1 then (-1 : Int32) else (x1 - (48 : Int32))) from if_neg hc] at hj
      refine zg_iload_n 2 dX6_digit_12 rfl rfl ?_
      refine zg_bipush dX6_digit_13 zkb_57 ?_
      refine zg_icmp_gt (tgt := 25) dX6_digit_15 (by decide) (fun hc => ?_) (fun hc => ?_)
      · rw [show (if (57 : Int32) < x1 then (-1 : Int32) else (x1 - (48 : Int32))) = (-1 : Int32) from if_pos hc] at hj
        refine zg_iconst dX6_digit_25 zki_m1 ?_
        exact hj
      · rw [show (if (57 : Int32) < x1 then (-1 : Int32) else (x1 - (48 : Int32))) = (x1 - (48 : Int32)) from if_neg hc] at hj
        refine zg_iload_n 2 dX6_digit_18 rfl rfl ?_
        refine zg_bipush dX6_digit_19 zkb_48 ?_
        refine zg_isub dX6_digit_21 ?_
        refine zg_goto (tgt := 26) dX6_digit_22 (by decide) ?_
        exact hj
  obtain rfl := z_ret1 h
  exact zg_iret dX6_digit_26
set_option maxRecDepth 20000 in
set_option maxHeartbeats 4000000 in
theorem k_X7_sizeOf {T : List zN} {a0 : Nat} (h0 : zWv T a0) {v1 : Int32} {r1 : Int32} {M : zM} (h : f7_sizeOf a0 v1 M = some r1) : zK T yX7_sizeOf cX7_sizeOf 2 (some .int) 0 [.ref a0, .int v1] M (some (.int r1)) M := by
  refine zK_of pl_X7 (Nat.le_of_ble_eq_true rfl) ?_
  show zJ T RX7 cX7_sizeOf 2 _ 0 0 0 [(0, .ref a0), (1, .int v1)] [] M
  rw [f7_sizeOf] at h
  refine zg_iload_n 1 dX7_sizeOf_0 rfl rfl ?_
  suffices hj : zJ T RX7 cX7_sizeOf 2 (zBm T 0 (some .int) (some (.int r1)) M) 0 0 15 [(0, .ref a0), (1, .int v1)] [.int (if v1 = 0 then (M.1 a0 0) else (M.1 a0 1))] M by
    refine zg_if_ne (tgt := 11) dX7_sizeOf_1 (by decide) (fun hc => ?_) (fun hc => ?_)
    · rw [show (if v1 = 0 then (M.1 a0 0) else (M.1 a0 1)) = (M.1 a0 1) from if_neg hc] at hj
      refine zg_aload_n 0 dX7_sizeOf_11 rfl rfl ?_
      refine zg_geti fl_X7_15 h0.1 rfl dX7_sizeOf_12 ?_
      exact hj
    · rw [show (if v1 = 0 then (M.1 a0 0) else (M.1 a0 1)) = (M.1 a0 0) from if_pos hc] at hj
      refine zg_aload_n 0 dX7_sizeOf_4 rfl rfl ?_
      refine zg_geti fl_X7_9 h0.1 rfl dX7_sizeOf_5 ?_
      refine zg_goto (tgt := 15) dX7_sizeOf_8 (by decide) ?_
      exact hj
  obtain rfl := z_ret1 h
  exact zg_iret dX7_sizeOf_15
set_option maxRecDepth 20000 in
set_option maxHeartbeats 4000000 in
theorem k_X7_threads {T : List zN} {a0 : Nat} (h0 : zWv T a0) {r1 : Int32} {M : zM} (h : f7_threads a0 M = some r1) : zK T yX7_threads cX7_threads 1 (some .int) 0 [.ref a0] M (some (.int r1)) M := by
  refine zK_of pl_X7 (Nat.le_of_ble_eq_true rfl) ?_
  show zJ T RX7 cX7_threads 1 _ 0 0 0 [(0, .ref a0)] [] M
  rw [f7_threads] at h
  refine zg_aload_n 0 dX7_threads_0 rfl rfl ?_
  refine zg_geti fl_X7_9 h0.1 rfl dX7_threads_1 ?_
  refine zg_aload_n 0 dX7_threads_4 rfl rfl ?_
  refine zg_geti fl_X7_15 h0.1 rfl dX7_threads_5 ?_
  refine zg_iadd dX7_threads_8 ?_
  obtain rfl := z_ret1 h
  exact zg_iret dX7_threads_9
set_option maxRecDepth 20000 in
set_option maxHeartbeats 4000000 in
theorem k_X7_fullOf {T : List zN} {a0 : Nat} (h0 : zWv T a0) {v1 : Int32} {r1 : Int32} {M : zM} (h : f7_fullOf a0 v1 M = some r1) : zK T yX7_fullOf cX7_fullOf 2 (some .int) 0 [.ref a0, .int v1] M (some (.int r1)) M := by
  refine zK_of pl_X7 (Nat.le_of_ble_eq_true rfl) ?_
  show zJ T RX7 cX7_fullOf 2 _ 0 0 0 [(0, .ref a0), (1, .int v1)] [] M
  rw [f7_fullOf] at h
  refine zg_iconst dX7_fullOf_0 zki_1 ?_
  refine zg_iload_n 1 dX7_fullOf_1 rfl rfl ?_
  suffices hj : zJ T RX7 cX7_fullOf 2 (zBm T 0 (some .int) (some (.int r1)) M) 0 0 16 [(0, .ref a0), (1, .int v1)] [.int (if v1 = 0 then (M.1 a0 1) else (M.1 a0 0)), .int (1 : Int32)] M by
    refine zg_if_ne (tgt := 12) dX7_fullOf_2 (by decide) (fun hc => ?_) (fun hc => ?_)
    · rw [show (if v1 = 0 then (M.1 a0 1) else (M.1 a0 0)) = (M.1 a0 0) from if_neg hc] at hj
      refine zg_aload_n 0 dX7_fullOf_12 rfl rfl ?_
      refine zg_geti fl_X7_9 h0.1 rfl dX7_fullOf_13 ?_
      exact hj
    · rw [show (if v1 = 0 then (M.1 a0 1) else (M.1 a0 0)) = (M.1 a0 1) from if_pos hc] at hj
      refine zg_aload_n 0 dX7_fullOf_5 rfl rfl ?_
      refine zg_geti fl_X7_15 h0.1 rfl dX7_fullOf_6 ?_
      refine zg_goto (tgt := 16) dX7_fullOf_9 (by decide) ?_
      exact hj
  refine zg_ishl dX7_fullOf_16 ?_
  refine zg_iconst dX7_fullOf_17 zki_1 ?_
  refine zg_isub dX7_fullOf_18 ?_
  obtain rfl := z_ret1 h
  exact zg_iret dX7_fullOf_19
set_option maxRecDepth 20000 in
set_option maxHeartbeats 4000000 in
theorem k_X7_all {T : List zN} {a0 : Nat} (h0 : zWv T a0) {r1 : Int32} {M : zM} (h : f7_all a0 M = some r1) : zK T yX7_all cX7_all 1 (some .int) 2 [.ref a0] M (some (.int r1)) M := by
  refine zK_of pl_X7 (Nat.le_of_ble_eq_true rfl) ?_
  show zJ T RX7 cX7_all 1 _ 0 0 0 [(0, .ref a0)] [] M
  rw [f7_all] at h
  refine zg_aload_n 0 dX7_all_0 rfl rfl ?_
  refine zg_iconst dX7_all_1 zki_1 ?_
  obtain ⟨x1, hx1, h⟩ := z_bind h
  refine zg_callV (st := []) (k_X7_fullOf h0 hx1) zY_X7_fullOf lv_X7_25 rfl h0.1 rfl (zfit_m (by decide) (by decide)) (Nat.le_of_ble_eq_true rfl) dX7_all_2 rfl ?_
  refine zg_aload_n 0 dX7_all_5 rfl rfl ?_
  refine zg_iconst dX7_all_6 zki_0 ?_
  obtain ⟨x2, hx2, h⟩ := z_bind h
  refine zg_callV (st := [.int x1]) (k_X7_fullOf h0 hx2) zY_X7_fullOf lv_X7_25 rfl h0.1 rfl (zfit_m (by decide) (by decide)) (Nat.le_of_ble_eq_true rfl) dX7_all_7 rfl ?_
  refine zg_bipush dX7_all_10 zkb_6 ?_
  refine zg_ishl dX7_all_12 ?_
  refine zg_ior dX7_all_13 ?_
  obtain rfl := z_ret1 h
  exact zg_iret dX7_all_14
set_option maxRecDepth 20000 in
set_option maxHeartbeats 4000000 in
theorem g7_has_9 {T : List zN} {a0 : Nat} (h0 : zWv T a0) {r1 : Int32} {M : zM} : ∀ (v1 : Int32) (v2 : Int32), f7_has_9 a0 v1 v2 M = some r1 → zJ T RX7 cX7_has 3 (zBm T 2 (some .boolean) (some (.int r1)) M) 0 0 9 [(0, .ref a0), (1, .int v1), (2, .int v2)] [] M := by
  intro v1 v2 h
  rw [f7_has_9] at h
  refine zg_iload_n 2 dX7_has_9 rfl rfl ?_
  refine zg_if_lt (tgt := 26) dX7_has_10 (by decide) (fun hc => ?_) (fun hc => ?_)
  · replace h := (if_pos hc).symm.trans h
    refine zg_iconst dX7_has_26 zki_0 ?_
    obtain rfl := z_ret1 h
    exact zg_zret rfl dX7_has_27
  · replace h := (if_neg hc).symm.trans h
    refine zg_iload_n 2 dX7_has_13 rfl rfl ?_
    refine zg_aload_n 0 dX7_has_14 rfl rfl ?_
    refine zg_iload_n 1 dX7_has_15 rfl rfl ?_
    obtain ⟨x1, hx1, h⟩ := z_bind h
    refine zg_callV (st := [.int v2]) (k_X7_sizeOf h0 hx1) zY_X7_sizeOf lv_X7_29 rfl h0.1 rfl (zfit_m (by decide) (by decide)) (Nat.le_of_ble_eq_true rfl) dX7_has_16 rfl ?_
    suffices hj : zJ T RX7 cX7_has 3 (zBm T 2 (some .boolean) (some (.int r1)) M) 0 0 27 [(0, .ref a0), (1, .int v1), (2, .int v2)] [.int (if x1 ≤ v2 then (0 : Int32) else (1 : Int32))] M by
      refine zg_icmp_ge (tgt := 26) dX7_has_19 (by decide) (fun hc => ?_) (fun hc => ?_)
      · rw [show (if x1 ≤ v2 then (0 : Int32) else (1 : Int32)) = (0 : Int32) from if_pos hc] at hj
        refine zg_iconst dX7_has_26 zki_0 ?_
        exact hj
      · rw [show (if x1 ≤ v2 then (0 : Int32) else (1 : Int32)) = (1 : Int32) from if_neg hc] at hj
        refine zg_iconst dX7_has_22 zki_1 ?_
        refine zg_goto (tgt := 27) dX7_has_23 (by decide) ?_
        exact hj
    obtain rfl := z_ret1 h
    exact zg_zret (zn_ite rfl rfl) dX7_has_27
set_option maxRecDepth 20000 in
set_option maxHeartbeats 4000000 in
theorem k_X7_has {T : List zN} {a0 : Nat} (h0 : zWv T a0) {v1 : Int32} {v2 : Int32} {r1 : Int32} {M : zM} (h : f7_has a0 v1 v2 M = some r1) : zK T yX7_has cX7_has 3 (some .boolean) 2 [.ref a0, .int v1, .int v2] M (some (.int r1)) M := by
  refine zK_of pl_X7 (Nat.le_of_ble_eq_true rfl) ?_
  show zJ T RX7 cX7_has 3 _ 0 0 0 [(0, .ref a0), (1, .int v1), (2, .int v2)] [] M
  rw [f7_has] at h
  refine zg_iload_n 1 dX7_has_0 rfl rfl ?_
  refine zg_if_eq (tgt := 9) dX7_has_1 (by decide) (fun hc => ?_) (fun hc => ?_)
  · replace h := (if_pos hc).symm.trans h
    exact g7_has_9 h0 _ _ h
  · replace h := (if_neg hc).symm.trans h
    refine zg_iload_n 1 dX7_has_4 rfl rfl ?_
    refine zg_iconst dX7_has_5 zki_1 ?_
    refine zg_icmp_ne (tgt := 26) dX7_has_6 (by decide) (fun hc => ?_) (fun hc => ?_)
    · replace h := (if_neg hc).symm.trans h
      refine zg_iconst dX7_has_26 zki_0 ?_
      obtain rfl := z_ret1 h
      exact zg_zret rfl dX7_has_27
    · replace h := (if_pos hc).symm.trans h
      exact g7_has_9 h0 _ _ h
set_option maxRecDepth 20000 in
set_option maxHeartbeats 4000000 in
theorem k_X7_crosses {T : List zN} {a0 : Nat} (h0 : zWv T a0) {v1 : Int32} {v2 : Int32} {r1 : Int32} {M : zM} (h : f7_crosses a0 v1 v2 M = some r1) : zK T yX7_crosses cX7_crosses 3 (some .boolean) 3 [.ref a0, .int v1, .int v2] M (some (.int r1)) M := by
  refine zK_of pl_X7 (Nat.le_of_ble_eq_true rfl) ?_
  show zJ T RX7 cX7_crosses 3 _ 0 0 0 [(0, .ref a0), (1, .int v1), (2, .int v2)] [] M
  rw [f7_crosses] at h
  refine zg_aload_n 0 dX7_crosses_0 rfl rfl ?_
  refine zg_iconst dX7_crosses_1 zki_0 ?_
  refine zg_iload_n 1 dX7_crosses_2 rfl rfl ?_
  obtain ⟨x1, hx1, h⟩ := z_bind h
  refine zg_callV (st := []) (k_X7_has h0 hx1) zY_X7_has lv_X7_32 rfl h0.1 rfl (zfit_m (by decide) (by decide)) (Nat.le_of_ble_eq_true rfl) dX7_crosses_3 rfl ?_
  refine zg_if_eq (tgt := 22) dX7_crosses_6 (by decide) (fun hc => ?_) (fun hc => ?_)
  · replace h := (if_pos hc).symm.trans h
    refine zg_iconst dX7_crosses_22 zki_0 ?_
    obtain rfl := z_ret1 h
    exact zg_zret rfl dX7_crosses_23
  · replace h := (if_neg hc).symm.trans h
    refine zg_aload_n 0 dX7_crosses_9 rfl rfl ?_
    refine zg_iconst dX7_crosses_10 zki_1 ?_
    refine zg_iload_n 2 dX7_crosses_11 rfl rfl ?_
    obtain ⟨x2, hx2, h⟩ := z_bind h
    refine zg_callV (st := []) (k_X7_has h0 hx2) zY_X7_has lv_X7_32 rfl h0.1 rfl (zfit_m (by decide) (by decide)) (Nat.le_of_ble_eq_true rfl) dX7_crosses_12 rfl ?_
    suffices hj : zJ T RX7 cX7_crosses 3 (zBm T 3 (some .boolean) (some (.int r1)) M) 0 0 23 [(0, .ref a0), (1, .int v1), (2, .int v2)] [.int (if x2 = 0 then (0 : Int32) else (1 : Int32))] M by
      refine zg_if_eq (tgt := 22) dX7_crosses_15 (by decide) (fun hc => ?_) (fun hc => ?_)
      · rw [show (if x2 = 0 then (0 : Int32) else (1 : Int32)) = (0 : Int32) from if_pos hc] at hj
        refine zg_iconst dX7_crosses_22 zki_0 ?_
        exact hj
      · rw [show (if x2 = 0 then (0 : Int32) else (1 : Int32)) = (1 : Int32) from if_neg hc] at hj
        refine zg_iconst dX7_crosses_18 zki_1 ?_
        refine zg_goto (tgt := 23) dX7_crosses_19 (by decide) ?_
        exact hj
    obtain rfl := z_ret1 h
    exact zg_zret (zn_ite rfl rfl) dX7_crosses_23
set_option maxRecDepth 20000 in
set_option maxHeartbeats 4000000 in
theorem k_X7_cellsOf {T : List zN} {a0 : Nat} (h0 : zWv T a0) {v1 : Int32} {v2 : Int32} {r1 : Int32} {M : zM} (h : f7_cellsOf a0 v1 v2 M = some r1) : zK T yX7_cellsOf cX7_cellsOf 4 (some .int) 0 [.ref a0, .int v1, .int v2] M (some (.int r1)) M := by
  refine zK_of pl_X7 (Nat.le_of_ble_eq_true rfl) ?_
  show zJ T RX7 cX7_cellsOf 4 _ 0 0 0 [(0, .ref a0), (1, .int v1), (2, .int v2)] [] M
  rw [f7_cellsOf] at h
  refine zg_bipush dX7_cellsOf_0 zkb_6 ?_
  refine zg_iload_n 1 dX7_cellsOf_2 rfl rfl ?_
  refine zg_imul dX7_cellsOf_3 ?_
  refine zg_iload_n 2 dX7_cellsOf_4 rfl rfl ?_
  refine zg_iadd dX7_cellsOf_5 ?_
  refine zg_istore_n (ls' := [(0, .ref a0), (1, .int v1), (2, .int v2), (3, .int (((6 : Int32) * v1) + v2))]) dX7_cellsOf_6 rfl (Nat.le_of_ble_eq_true rfl) rfl ?_
  refine zg_iload_n 3 dX7_cellsOf_7 rfl rfl ?_
  refine zg_if_lt (tgt := 26) dX7_cellsOf_8 (by decide) (fun hc => ?_) (fun hc => ?_)
  · replace h := (if_pos hc).symm.trans h
    refine zg_iconst dX7_cellsOf_26 zki_0 ?_
    obtain rfl := z_ret1 h
    exact zg_iret dX7_cellsOf_27
  · replace h := (if_neg hc).symm.trans h
    refine zg_iload_n 3 dX7_cellsOf_11 rfl rfl ?_
    refine zg_bipush dX7_cellsOf_12 zkb_12 ?_
    refine zg_icmp_ge (tgt := 26) dX7_cellsOf_14 (by decide) (fun hc => ?_) (fun hc => ?_)
    · replace h := (if_pos hc).symm.trans h
      refine zg_iconst dX7_cellsOf_26 zki_0 ?_
      obtain rfl := z_ret1 h
      exact zg_iret dX7_cellsOf_27
    · replace h := (if_neg hc).symm.trans h
      refine zg_aload_n 0 dX7_cellsOf_17 rfl rfl ?_
      refine zo_getr (a0 + 1) 0 rfl fl_X7_21 h0.1 rfl dX7_cellsOf_18 ?_
      refine zg_iload_n 3 dX7_cellsOf_21 rfl rfl ?_
      obtain ⟨x1, hx1, h⟩ := z_bind h
      refine zo_iald h0.2 hx1 dX7_cellsOf_22 ?_
      refine zg_goto (tgt := 27) dX7_cellsOf_23 (by decide) ?_
      obtain rfl := z_ret1 h
      exact zg_iret dX7_cellsOf_27
set_option maxRecDepth 20000 in
set_option maxHeartbeats 4000000 in
theorem k_X7_overAt {T : List zN} {a0 : Nat} (h0 : zWv T a0) {v1 : Int32} {v2 : Int32} {r1 : Int32} {M : zM} (h : f7_overAt a0 v1 v2 M = some r1) : zK T yX7_overAt cX7_overAt 3 (some .int) 4 [.ref a0, .int v1, .int v2] M (some (.int r1)) M := by
  refine zK_of pl_X7 (Nat.le_of_ble_eq_true rfl) ?_
  show zJ T RX7 cX7_overAt 3 _ 0 0 0 [(0, .ref a0), (1, .int v1), (2, .int v2)] [] M
  rw [f7_overAt] at h
  refine zg_aload_n 0 dX7_overAt_0 rfl rfl ?_
  refine zg_iload_n 1 dX7_overAt_1 rfl rfl ?_
  refine zg_iload_n 2 dX7_overAt_2 rfl rfl ?_
  obtain ⟨x1, hx1, h⟩ := z_bind h
  refine zg_callV (st := []) (k_X7_crosses h0 hx1) zY_X7_crosses lv_X7_36 rfl h0.1 rfl (zfit_m (by decide) (by decide)) (Nat.le_of_ble_eq_true rfl) dX7_overAt_3 rfl ?_
  refine zg_if_eq (tgt := 22) dX7_overAt_6 (by decide) (fun hc => ?_) (fun hc => ?_)
  · replace h := (if_pos hc).symm.trans h
    refine zg_iconst dX7_overAt_22 zki_0 ?_
    obtain rfl := z_ret1 h
    exact zg_iret dX7_overAt_23
  · replace h := (if_neg hc).symm.trans h
    refine zg_aload_n 0 dX7_overAt_9 rfl rfl ?_
    refine zo_getr (a0 + 1) 0 rfl fl_X7_21 h0.1 rfl dX7_overAt_10 ?_
    refine zg_iload_n 1 dX7_overAt_13 rfl rfl ?_
    obtain ⟨x2, hx2, h⟩ := z_bind h
    refine zo_iald h0.2 hx2 dX7_overAt_14 ?_
    refine zg_iload_n 2 dX7_overAt_15 rfl rfl ?_
    refine zg_iushr dX7_overAt_16 ?_
    refine zg_iconst dX7_overAt_17 zki_1 ?_
    refine zg_iand dX7_overAt_18 ?_
    refine zg_goto (tgt := 23) dX7_overAt_19 (by decide) ?_
    obtain rfl := z_ret1 h
    exact zg_iret dX7_overAt_23
set_option maxRecDepth 20000 in
set_option maxHeartbeats 4000000 in
theorem g7_overs_4 {T : List zN} {a0 : Nat} (h0 : zWv T a0) {r1 : Int32} {M : zM} : ∀ (n : Nat) (v1 : Int32) (v2 : Int32), f7_overs_4 a0 n v1 v2 M = some r1 → zJ T RX7 cX7_overs 3 (zBm T 2 (some .int) (some (.int r1)) M) 0 0 4 [(0, .ref a0), (1, .int v1), (2, .int v2)] [] M := by
  intro n
  induction n with
  | zero => intro v1 v2 h; cases h
  | succ n ih =>
    intro v1 v2 h
    rw [f7_overs_4] at h
    refine zg_iload_n 2 dX7_overs_4 rfl rfl ?_
    refine zg_aload_n 0 dX7_overs_5 rfl rfl ?_
    refine zg_geti fl_X7_9 h0.1 rfl dX7_overs_6 ?_
    refine zg_icmp_ge (tgt := 30) dX7_overs_9 (by decide) (fun hc => ?_) (fun hc => ?_)
    · replace h := (if_pos hc).symm.trans h
      refine zg_iload_n 1 dX7_overs_30 rfl rfl ?_
      obtain rfl := z_ret1 h
      exact zg_iret dX7_overs_31
    · replace h := (if_neg hc).symm.trans h
      refine zg_iload_n 1 dX7_overs_12 rfl rfl ?_
      refine zg_aload_n 0 dX7_overs_13 rfl rfl ?_
      refine zo_getr (a0 + 1) 0 rfl fl_X7_21 h0.1 rfl dX7_overs_14 ?_
      refine zg_iload_n 2 dX7_overs_17 rfl rfl ?_
      obtain ⟨x1, hx1, h⟩ := z_bind h
      refine zo_iald h0.2 hx1 dX7_overs_18 ?_
      obtain ⟨x2, hx2, h⟩ := z_bind h
      refine zg_callS (st := [.int v1]) (k_J6_bitCount_0f7a4 hx2) zY_J6_bitCount_0f7a4 ls_X7_39 rfl (zfit_m (by decide) (by decide)) (Nat.le_of_ble_eq_true rfl) dX7_overs_19 rfl ?_
      refine zg_iadd dX7_overs_22 ?_
      refine zg_istore_n (ls' := [(0, .ref a0), (1, .int (v1 + x2)), (2, .int v2)]) dX7_overs_23 rfl (Nat.le_of_ble_eq_true rfl) rfl ?_
      refine zg_iinc (ls' := [(0, .ref a0), (1, .int (v1 + x2)), (2, .int (v2 + (1 : Int32)))]) 2 dX7_overs_24 rfl zki_1 (Nat.le_of_ble_eq_true rfl) rfl ?_
      refine zg_goto (tgt := 4) dX7_overs_27 (by decide) ?_
      exact ih _ _ h
set_option maxRecDepth 20000 in
set_option maxHeartbeats 4000000 in
theorem k_X7_overs {T : List zN} {a0 : Nat} (h0 : zWv T a0) {r1 : Int32} {M : zM} (h : f7_overs a0 M = some r1) : zK T yX7_overs cX7_overs 3 (some .int) 2 [.ref a0] M (some (.int r1)) M := by
  refine zK_of pl_X7 (Nat.le_of_ble_eq_true rfl) ?_
  show zJ T RX7 cX7_overs 3 _ 0 0 0 [(0, .ref a0)] [] M
  rw [f7_overs] at h
  refine zg_iconst dX7_overs_0 zki_0 ?_
  refine zg_istore_n (ls' := [(0, .ref a0), (1, .int (0 : Int32))]) dX7_overs_1 rfl (Nat.le_of_ble_eq_true rfl) rfl ?_
  refine zg_iconst dX7_overs_2 zki_0 ?_
  refine zg_istore_n (ls' := [(0, .ref a0), (1, .int (0 : Int32)), (2, .int (0 : Int32))]) dX7_overs_3 rfl (Nat.le_of_ble_eq_true rfl) rfl ?_
  exact g7_overs_4 h0 zfuel _ _ h
set_option maxRecDepth 20000 in
set_option maxHeartbeats 4000000 in
theorem k_X7_changesOf {T : List zN} {a0 : Nat} (h0 : zWv T a0) {v1 : Int32} {v2 : Int32} {r1 : Int32} {M : zM} (h : f7_changesOf a0 v1 v2 M = some r1) : zK T yX7_changesOf cX7_changesOf 5 (some .int) 2 [.ref a0, .int v1, .int v2] M (some (.int r1)) M := by
  refine zK_of pl_X7 (Nat.le_of_ble_eq_true rfl) ?_
  show zJ T RX7 cX7_changesOf 5 _ 0 0 0 [(0, .ref a0), (1, .int v1), (2, .int v2)] [] M
  rw [f7_changesOf] at h
  refine zg_aload_n 0 dX7_changesOf_0 rfl rfl ?_
  refine zg_iload_n 1 dX7_changesOf_1 rfl rfl ?_
  refine zg_iload_n 2 dX7_changesOf_2 rfl rfl ?_
  obtain ⟨x1, hx1, h⟩ := z_bind h
  refine zg_callV (st := []) (k_X7_cellsOf h0 hx1) zY_X7_cellsOf lv_X7_44 rfl h0.1 rfl (zfit_m (by decide) (by decide)) (Nat.le_of_ble_eq_true rfl) dX7_changesOf_3 rfl ?_
  refine zg_istore_n (ls' := [(0, .ref a0), (1, .int v1), (2, .int v2), (3, .int x1)]) dX7_changesOf_6 rfl (Nat.le_of_ble_eq_true rfl) rfl ?_
  refine zg_aload_n 0 dX7_changesOf_7 rfl rfl ?_
  refine zg_iload_n 1 dX7_changesOf_8 rfl rfl ?_
  obtain ⟨x2, hx2, h⟩ := z_bind h
  refine zg_callV (st := []) (k_X7_fullOf h0 hx2) zY_X7_fullOf lv_X7_25 rfl h0.1 rfl (zfit_m (by decide) (by decide)) (Nat.le_of_ble_eq_true rfl) dX7_changesOf_9 rfl ?_
  refine zg_iconst dX7_changesOf_12 zki_1 ?_
  refine zg_iushr dX7_changesOf_13 ?_
  refine zg_istore (ls' := [(0, .ref a0), (1, .int v1), (2, .int v2), (3, .int x1), (4, .int (zushr x2 (1 : Int32)))]) dX7_changesOf_14 (Nat.le_of_ble_eq_true rfl) rfl ?_
  refine zg_iload_n 3 dX7_changesOf_16 rfl rfl ?_
  refine zg_iload_n 3 dX7_changesOf_17 rfl rfl ?_
  refine zg_iconst dX7_changesOf_18 zki_1 ?_
  refine zg_iushr dX7_changesOf_19 ?_
  refine zg_ixor dX7_changesOf_20 ?_
  refine zg_iload 4 dX7_changesOf_21 rfl ?_
  refine zg_iand dX7_changesOf_23 ?_
  obtain ⟨x3, hx3, h⟩ := z_bind h
  refine zg_callS (st := []) (k_J6_bitCount_0f7a4 hx3) zY_J6_bitCount_0f7a4 ls_X7_39 rfl (zfit_m (by decide) (by decide)) (Nat.le_of_ble_eq_true rfl) dX7_changesOf_24 rfl ?_
  obtain rfl := z_ret1 h
  exact zg_iret dX7_changesOf_27
set_option maxRecDepth 20000 in
set_option maxHeartbeats 4000000 in
theorem g7_likesOf_43 {T : List zN} {a0 : Nat} (h0 : zWv T a0) {r1 : Int32} {M : zM} {k5 : Int32 → Int32 → Int32 → Int32 → zM → Option Int32} (hk5 : ∀ (v1 : Int32) (v2 : Int32) (v3 : Int32) (v4 : Int32), k5 v1 v2 v3 v4 M = some r1 → zJ T RX7 cX7_likesOf 5 (zBm T 2 (some .int) (some (.int r1)) M) 0 0 5 [(0, .ref a0), (1, .int v1), (2, .int v2), (3, .int v3), (4, .int v4)] [] M) : ∀ (v1 : Int32) (v2 : Int32) (v4 : Int32) (s0 : Int32) (s1 : Int32), f7_likesOf_43 a0 k5 v1 v2 v4 s0 s1 M = some r1 → zJ T RX7 cX7_likesOf 5 (zBm T 2 (some .int) (some (.int r1)) M) 0 0 43 [(0, .ref a0), (1, .int v1), (2, .int v2), (4, .int v4)] [.int s1, .int s0] M := by
  intro v1 v2 v4 s0 s1 h
  rw [f7_likesOf_43] at h
  refine zg_iadd dX7_likesOf_43 ?_
  refine zg_istore_n (ls' := [(0, .ref a0), (1, .int v1), (2, .int v2), (3, .int (s0 + s1)), (4, .int v4)]) dX7_likesOf_44 rfl (Nat.le_of_ble_eq_true rfl) rfl ?_
  refine zg_iinc (ls' := [(0, .ref a0), (1, .int v1), (2, .int v2), (3, .int (s0 + s1)), (4, .int (v4 + (1 : Int32)))]) 4 dX7_likesOf_45 rfl zki_1 (Nat.le_of_ble_eq_true rfl) rfl ?_
  refine zg_goto (tgt := 5) dX7_likesOf_48 (by decide) ?_
  exact hk5 _ _ _ _ h
set_option maxRecDepth 20000 in
set_option maxHeartbeats 4000000 in
theorem g7_likesOf_5 {T : List zN} {a0 : Nat} (h0 : zWv T a0) {r1 : Int32} {M : zM} : ∀ (n : Nat) (v1 : Int32) (v2 : Int32) (v3 : Int32) (v4 : Int32), f7_likesOf_5 a0 n v1 v2 v3 v4 M = some r1 → zJ T RX7 cX7_likesOf 5 (zBm T 2 (some .int) (some (.int r1)) M) 0 0 5 [(0, .ref a0), (1, .int v1), (2, .int v2), (3, .int v3), (4, .int v4)] [] M := by
  intro n
  induction n with
  | zero => intro v1 v2 v3 v4 h; cases h
  | succ n ih =>
    intro v1 v2 v3 v4 h
    rw [f7_likesOf_5] at h
    refine zg_iload 4 dX7_likesOf_5 rfl ?_
    refine zg_aload_n 0 dX7_likesOf_7 rfl rfl ?_
    refine zg_iload_n 1 dX7_likesOf_8 rfl rfl ?_
    obtain ⟨x1, hx1, h⟩ := z_bind h
    refine zg_callV (st := [.int v4]) (k_X7_sizeOf h0 hx1) zY_X7_sizeOf lv_X7_29 rfl h0.1 rfl (zfit_m (by decide) (by decide)) (Nat.le_of_ble_eq_true rfl) dX7_likesOf_9 rfl ?_
    refine zg_icmp_ge (tgt := 51) dX7_likesOf_12 (by decide) (fun hc => ?_) (fun hc => ?_)
    · replace h := (if_pos hc).symm.trans h
      refine zg_iload_n 3 dX7_likesOf_51 rfl rfl ?_
      obtain rfl := z_ret1 h
      exact zg_iret dX7_likesOf_52
    · replace h := (if_neg hc).symm.trans h
      refine zg_iload_n 3 dX7_likesOf_15 rfl rfl ?_
      refine zg_iload 4 dX7_likesOf_16 rfl ?_
      refine zg_iload_n 2 dX7_likesOf_18 rfl rfl ?_
      refine zg_icmp_eq (tgt := 42) dX7_likesOf_19 (by decide) (fun hc => ?_) (fun hc => ?_)
      · replace h := (if_pos hc).symm.trans h
        refine zg_iconst dX7_likesOf_42 zki_0 ?_
        refine zo_sub (ls' := [(0, .ref a0), (1, .int v1), (2, .int v2), (4, .int v4)]) [0, 1, 2, 4] rfl ?_
        exact g7_likesOf_43 h0 (fun u0 u1 u2 u3 h => ih u0 u1 u2 u3 h) _ _ _ _ _ h
      · replace h := (if_neg hc).symm.trans h
        refine zg_aload_n 0 dX7_likesOf_22 rfl rfl ?_
        refine zg_iload_n 1 dX7_likesOf_23 rfl rfl ?_
        refine zg_iload 4 dX7_likesOf_24 rfl ?_
        obtain ⟨x2, hx2, h⟩ := z_bind h
        refine zg_callV (st := [.int v3]) (k_X7_cellsOf h0 hx2) zY_X7_cellsOf lv_X7_44 rfl h0.1 rfl (zfit_m (by decide) (by decide)) (Nat.le_of_ble_eq_true rfl) dX7_likesOf_26 rfl ?_
        refine zg_aload_n 0 dX7_likesOf_29 rfl rfl ?_
        refine zg_iload_n 1 dX7_likesOf_30 rfl rfl ?_
        refine zg_iload_n 2 dX7_likesOf_31 rfl rfl ?_
        obtain ⟨x3, hx3, h⟩ := z_bind h
        refine zg_callV (st := [.int x2, .int v3]) (k_X7_cellsOf h0 hx3) zY_X7_cellsOf lv_X7_44 rfl h0.1 rfl (zfit_m (by decide) (by decide)) (Nat.le_of_ble_eq_true rfl) dX7_likesOf_32 rfl ?_
        suffices hj : zJ T RX7 cX7_likesOf 5 (zBm T 2 (some .int) (some (.int r1)) M) 0 0 43 [(0, .ref a0), (1, .int v1), (2, .int v2), (3, .int v3), (4, .int v4)] [.int (if x2 = x3 then (1 : Int32) else (0 : Int32)), .int v3] M by
          refine zg_icmp_ne (tgt := 42) dX7_likesOf_35 (by decide) (fun hc => ?_) (fun hc => ?_)
          · rw [show (if x2 = x3 then (1 : Int32) else (0 : Int32)) = (0 : Int32) from if_neg hc] at hj
            refine zg_iconst dX7_likesOf_42 zki_0 ?_
            exact hj
          · rw [show (if x2 = x3 then (1 : Int32) else (0 : Int32)) = (1 : Int32) from if_pos hc] at hj
            refine zg_iconst dX7_likesOf_38 zki_1 ?_
            refine zg_goto (tgt := 43) dX7_likesOf_39 (by decide) ?_
            exact hj
        refine zo_sub (ls' := [(0, .ref a0), (1, .int v1), (2, .int v2), (4, .int v4)]) [0, 1, 2, 4] rfl ?_
        exact g7_likesOf_43 h0 (fun u0 u1 u2 u3 h => ih u0 u1 u2 u3 h) _ _ _ _ _ h
set_option maxRecDepth 20000 in
set_option maxHeartbeats 4000000 in
theorem k_X7_likesOf {T : List zN} {a0 : Nat} (h0 : zWv T a0) {v1 : Int32} {v2 : Int32} {r1 : Int32} {M : zM} (h : f7_likesOf a0 v1 v2 M = some r1) : zK T yX7_likesOf cX7_likesOf 5 (some .int) 2 [.ref a0, .int v1, .int v2] M (some (.int r1)) M := by
  refine zK_of pl_X7 (Nat.le_of_ble_eq_true rfl) ?_
  show zJ T RX7 cX7_likesOf 5 _ 0 0 0 [(0, .ref a0), (1, .int v1), (2, .int v2)] [] M
  rw [f7_likesOf] at h
  refine zg_iconst dX7_likesOf_0 zki_0 ?_
  refine zg_istore_n (ls' := [(0, .ref a0), (1, .int v1), (2, .int v2), (3, .int (0 : Int32))]) dX7_likesOf_1 rfl (Nat.le_of_ble_eq_true rfl) rfl ?_
  refine zg_iconst dX7_likesOf_2 zki_0 ?_
  refine zg_istore (ls' := [(0, .ref a0), (1, .int v1), (2, .int v2), (3, .int (0 : Int32)), (4, .int (0 : Int32))]) dX7_likesOf_3 (Nat.le_of_ble_eq_true rfl) rfl ?_
  exact g7_likesOf_5 h0 zfuel _ _ _ _ h
set_option maxRecDepth 20000 in
set_option maxHeartbeats 4000000 in
theorem k_X7_areTwins {T : List zN} {a0 : Nat} (h0 : zWv T a0) {v1 : Int32} {v2 : Int32} {r1 : Int32} {M : zM} (h : f7_areTwins a0 v1 v2 M = some r1) : zK T yX7_areTwins cX7_areTwins 4 (some .boolean) 3 [.ref a0, .int v1, .int v2] M (some (.int r1)) M := by
  refine zK_of pl_X7 (Nat.le_of_ble_eq_true rfl) ?_
  show zJ T RX7 cX7_areTwins 4 _ 0 0 0 [(0, .ref a0), (1, .int v1), (2, .int v2)] [] M
  rw [f7_areTwins] at h
  refine zg_iload_n 1 dX7_areTwins_0 rfl rfl ?_
  refine zg_bipush dX7_areTwins_1 zkb_6 ?_
  refine zg_idiv (by decide) dX7_areTwins_3 ?_
  refine zg_istore_n (ls' := [(0, .ref a0), (1, .int v1), (2, .int v2), (3, .int (v1 / (6 : Int32)))]) dX7_areTwins_4 rfl (Nat.le_of_ble_eq_true rfl) rfl ?_
  refine zg_iload_n 3 dX7_areTwins_5 rfl rfl ?_
  refine zg_iload_n 2 dX7_areTwins_6 rfl rfl ?_
  refine zg_bipush dX7_areTwins_7 zkb_6 ?_
  refine zg_idiv (by decide) dX7_areTwins_9 ?_
  refine zg_icmp_ne (tgt := 56) dX7_areTwins_10 (by decide) (fun hc => ?_) (fun hc => ?_)
  · replace h := (if_neg hc).symm.trans h
    refine zg_iconst dX7_areTwins_56 zki_0 ?_
    obtain rfl := z_ret1 h
    exact zg_zret rfl dX7_areTwins_57
  · replace h := (if_pos hc).symm.trans h
    refine zg_aload_n 0 dX7_areTwins_13 rfl rfl ?_
    refine zg_iload_n 3 dX7_areTwins_14 rfl rfl ?_
    refine zg_iload_n 1 dX7_areTwins_15 rfl rfl ?_
    refine zg_bipush dX7_areTwins_16 zkb_6 ?_
    refine zg_irem (by decide) dX7_areTwins_18 ?_
    obtain ⟨x1, hx1, h⟩ := z_bind h
    refine zg_callV (st := []) (k_X7_has h0 hx1) zY_X7_has lv_X7_32 rfl h0.1 rfl (zfit_m (by decide) (by decide)) (Nat.le_of_ble_eq_true rfl) dX7_areTwins_19 rfl ?_
    refine zg_if_eq (tgt := 56) dX7_areTwins_22 (by decide) (fun hc => ?_) (fun hc => ?_)
    · replace h := (if_pos hc).symm.trans h
      refine zg_iconst dX7_areTwins_56 zki_0 ?_
      obtain rfl := z_ret1 h
      exact zg_zret rfl dX7_areTwins_57
    · replace h := (if_neg hc).symm.trans h
      refine zg_aload_n 0 dX7_areTwins_25 rfl rfl ?_
      refine zg_iload_n 3 dX7_areTwins_26 rfl rfl ?_
      refine zg_iload_n 2 dX7_areTwins_27 rfl rfl ?_
      refine zg_bipush dX7_areTwins_28 zkb_6 ?_
      refine zg_irem (by decide) dX7_areTwins_30 ?_
      obtain ⟨x2, hx2, h⟩ := z_bind h
      refine zg_callV (st := []) (k_X7_has h0 hx2) zY_X7_has lv_X7_32 rfl h0.1 rfl (zfit_m (by decide) (by decide)) (Nat.le_of_ble_eq_true rfl) dX7_areTwins_31 rfl ?_
      refine zg_if_eq (tgt := 56) dX7_areTwins_34 (by decide) (fun hc => ?_) (fun hc => ?_)
      · replace h := (if_pos hc).symm.trans h
        refine zg_iconst dX7_areTwins_56 zki_0 ?_
        obtain rfl := z_ret1 h
        exact zg_zret rfl dX7_areTwins_57
      · replace h := (if_neg hc).symm.trans h
        refine zg_aload_n 0 dX7_areTwins_37 rfl rfl ?_
        refine zo_getr (a0 + 1) 0 rfl fl_X7_21 h0.1 rfl dX7_areTwins_38 ?_
        refine zg_iload_n 1 dX7_areTwins_41 rfl rfl ?_
        obtain ⟨x3, hx3, h⟩ := z_bind h
        refine zo_iald h0.2 hx3 dX7_areTwins_42 ?_
        refine zg_aload_n 0 dX7_areTwins_43 rfl rfl ?_
        refine zo_getr (a0 + 1) 0 rfl fl_X7_21 h0.1 rfl dX7_areTwins_44 ?_
        refine zg_iload_n 2 dX7_areTwins_47 rfl rfl ?_
        obtain ⟨x4, hx4, h⟩ := z_bind h
        refine zo_iald h0.2 hx4 dX7_areTwins_48 ?_
        suffices hj : zJ T RX7 cX7_areTwins 4 (zBm T 3 (some .boolean) (some (.int r1)) M) 0 0 57 [(0, .ref a0), (1, .int v1), (2, .int v2), (3, .int (v1 / (6 : Int32)))] [.int (if x3 = x4 then (1 : Int32) else (0 : Int32))] M by
          refine zg_icmp_ne (tgt := 56) dX7_areTwins_49 (by decide) (fun hc => ?_) (fun hc => ?_)
          · rw [show (if x3 = x4 then (1 : Int32) else (0 : Int32)) = (0 : Int32) from if_neg hc] at hj
            refine zg_iconst dX7_areTwins_56 zki_0 ?_
            exact hj
          · rw [show (if x3 = x4 then (1 : Int32) else (0 : Int32)) = (1 : Int32) from if_pos hc] at hj
            refine zg_iconst dX7_areTwins_52 zki_1 ?_
            refine zg_goto (tgt := 57) dX7_areTwins_53 (by decide) ?_
            exact hj
        obtain rfl := z_ret1 h
        exact zg_zret (zn_ite rfl rfl) dX7_areTwins_57
set_option maxRecDepth 20000 in
set_option maxHeartbeats 4000000 in
theorem k_X7_isLoose {T : List zN} {a0 : Nat} (h0 : zWv T a0) {v1 : Int32} {v2 : Int32} {r1 : Int32} {M : zM} (h : f7_isLoose a0 v1 v2 M = some r1) : zK T yX7_isLoose cX7_isLoose 4 (some .boolean) 2 [.ref a0, .int v1, .int v2] M (some (.int r1)) M := by
  refine zK_of pl_X7 (Nat.le_of_ble_eq_true rfl) ?_
  show zJ T RX7 cX7_isLoose 4 _ 0 0 0 [(0, .ref a0), (1, .int v1), (2, .int v2)] [] M
  rw [f7_isLoose] at h
  refine zg_aload_n 0 dX7_isLoose_0 rfl rfl ?_
  refine zg_iload_n 1 dX7_isLoose_1 rfl rfl ?_
  refine zg_iload_n 2 dX7_isLoose_2 rfl rfl ?_
  obtain ⟨x1, hx1, h⟩ := z_bind h
  refine zg_callV (st := []) (k_X7_cellsOf h0 hx1) zY_X7_cellsOf lv_X7_44 rfl h0.1 rfl (zfit_m (by decide) (by decide)) (Nat.le_of_ble_eq_true rfl) dX7_isLoose_3 rfl ?_
  refine zg_istore_n (ls' := [(0, .ref a0), (1, .int v1), (2, .int v2), (3, .int x1)]) dX7_isLoose_6 rfl (Nat.le_of_ble_eq_true rfl) rfl ?_
  refine zg_iload_n 3 dX7_isLoose_7 rfl rfl ?_
  refine zg_if_eq (tgt := 20) dX7_isLoose_8 (by decide) (fun hc => ?_) (fun hc => ?_)
  · replace h := (if_pos hc).symm.trans h
    refine zg_iconst dX7_isLoose_20 zki_1 ?_
    refine zg_goto (tgt := 25) dX7_isLoose_21 (by decide) ?_
    obtain rfl := z_ret1 h
    exact zg_zret rfl dX7_isLoose_25
  · replace h := (if_neg hc).symm.trans h
    refine zg_iload_n 3 dX7_isLoose_11 rfl rfl ?_
    refine zg_aload_n 0 dX7_isLoose_12 rfl rfl ?_
    refine zg_iload_n 1 dX7_isLoose_13 rfl rfl ?_
    obtain ⟨x2, hx2, h⟩ := z_bind h
    refine zg_callV (st := [.int x1]) (k_X7_fullOf h0 hx2) zY_X7_fullOf lv_X7_25 rfl h0.1 rfl (zfit_m (by decide) (by decide)) (Nat.le_of_ble_eq_true rfl) dX7_isLoose_14 rfl ?_
    suffices hj : zJ T RX7 cX7_isLoose 4 (zBm T 2 (some .boolean) (some (.int r1)) M) 0 0 25 [(0, .ref a0), (1, .int v1), (2, .int v2), (3, .int x1)] [.int (if x1 = x2 then (1 : Int32) else (0 : Int32))] M by
      refine zg_icmp_ne (tgt := 24) dX7_isLoose_17 (by decide) (fun hc => ?_) (fun hc => ?_)
      · rw [show (if x1 = x2 then (1 : Int32) else (0 : Int32)) = (0 : Int32) from if_neg hc] at hj
        refine zg_iconst dX7_isLoose_24 zki_0 ?_
        exact hj
      · rw [show (if x1 = x2 then (1 : Int32) else (0 : Int32)) = (1 : Int32) from if_pos hc] at hj
        refine zg_iconst dX7_isLoose_20 zki_1 ?_
        refine zg_goto (tgt := 25) dX7_isLoose_21 (by decide) ?_
        exact hj
    obtain rfl := z_ret1 h
    exact zg_zret (zn_ite rfl rfl) dX7_isLoose_25
set_option maxRecDepth 20000 in
set_option maxHeartbeats 4000000 in
theorem g7_looseIn_89 {T : List zN} {a0 : Nat} (h0 : zWv T a0) {r1 : Int32} {M : zM} {k27 : Int32 → Int32 → Int32 → Int32 → Int32 → zM → Option Int32} (hk27 : ∀ (v1 : Int32) (v2 : Int32) (v3 : Int32) (v4 : Int32) (v5 : Int32), k27 v1 v2 v3 v4 v5 M = some r1 → zJ T RX7 cX7_looseIn 8 (zBm T 0 (some .int) (some (.int r1)) M) 0 0 27 [(0, .ref a0), (1, .int v1), (2, .int v2), (3, .int v3), (4, .int v4), (5, .int v5)] [] M) : ∀ (v1 : Int32) (v2 : Int32) (v3 : Int32) (v4 : Int32) (v5 : Int32), f7_looseIn_89 a0 k27 v1 v2 v3 v4 v5 M = some r1 → zJ T RX7 cX7_looseIn 8 (zBm T 0 (some .int) (some (.int r1)) M) 0 0 89 [(0, .ref a0), (1, .int v1), (2, .int v2), (3, .int v3), (4, .int v4), (5, .int v5)] [] M := by
  intro v1 v2 v3 v4 v5 h
  rw [f7_looseIn_89] at h
  refine zg_iinc (ls' := [(0, .ref a0), (1, .int v1), (2, .int v2), (3, .int v3), (4, .int v4), (5, .int (v5 + (1 : Int32)))]) 5 dX7_looseIn_89 rfl zki_1 (Nat.le_of_ble_eq_true rfl) rfl ?_
  refine zg_goto (tgt := 27) dX7_looseIn_92 (by decide) ?_
  exact hk27 _ _ _ _ _ h
set_option maxRecDepth 20000 in
set_option maxHeartbeats 4000000 in
theorem g7_looseIn_82 {T : List zN} {a0 : Nat} (h0 : zWv T a0) {r1 : Int32} {M : zM} {k27 : Int32 → Int32 → Int32 → Int32 → Int32 → zM → Option Int32} (hk27 : ∀ (v1 : Int32) (v2 : Int32) (v3 : Int32) (v4 : Int32) (v5 : Int32), k27 v1 v2 v3 v4 v5 M = some r1 → zJ T RX7 cX7_looseIn 8 (zBm T 0 (some .int) (some (.int r1)) M) 0 0 27 [(0, .ref a0), (1, .int v1), (2, .int v2), (3, .int v3), (4, .int v4), (5, .int v5)] [] M) : ∀ (v1 : Int32) (v2 : Int32) (v3 : Int32) (v4 : Int32) (v5 : Int32), f7_looseIn_82 a0 k27 v1 v2 v3 v4 v5 M = some r1 → zJ T RX7 cX7_looseIn 8 (zBm T 0 (some .int) (some (.int r1)) M) 0 0 82 [(0, .ref a0), (1, .int v1), (2, .int v2), (3, .int v3), (4, .int v4), (5, .int v5)] [] M := by
  intro v1 v2 v3 v4 v5 h
  rw [f7_looseIn_82] at h
  refine zg_iload_n 2 dX7_looseIn_82 rfl rfl ?_
  refine zg_iconst dX7_looseIn_83 zki_1 ?_
  refine zg_iload 5 dX7_looseIn_84 rfl ?_
  refine zg_ishl dX7_looseIn_86 ?_
  refine zg_ior dX7_looseIn_87 ?_
  refine zg_istore_n (ls' := [(0, .ref a0), (1, .int v1), (2, .int (v2 ||| (zshl (1 : Int32) v5))), (3, .int v3), (4, .int v4), (5, .int v5)]) dX7_looseIn_88 rfl (Nat.le_of_ble_eq_true rfl) rfl ?_
  exact g7_looseIn_89 h0 hk27 _ _ _ _ _ h
set_option maxRecDepth 20000 in
set_option maxHeartbeats 4000000 in
theorem g7_looseIn_27 {T : List zN} {a0 : Nat} (h0 : zWv T a0) {r1 : Int32} {M : zM} : ∀ (n : Nat) (v1 : Int32) (v2 : Int32) (v3 : Int32) (v4 : Int32) (v5 : Int32), f7_looseIn_27 a0 n v1 v2 v3 v4 v5 M = some r1 → zJ T RX7 cX7_looseIn 8 (zBm T 0 (some .int) (some (.int r1)) M) 0 0 27 [(0, .ref a0), (1, .int v1), (2, .int v2), (3, .int v3), (4, .int v4), (5, .int v5)] [] M := by
  intro n
  induction n with
  | zero => intro v1 v2 v3 v4 v5 h; cases h
  | succ n ih =>
    intro v1 v2 v3 v4 v5 h
    rw [f7_looseIn_27] at h
    refine zg_iload 5 dX7_looseIn_27 rfl ?_
    refine zg_bipush dX7_looseIn_29 zkb_12 ?_
    refine zg_icmp_ge (tgt := 95) dX7_looseIn_31 (by decide) (fun hc => ?_) (fun hc => ?_)
    · replace h := (if_pos hc).symm.trans h
      refine zg_iload_n 2 dX7_looseIn_95 rfl rfl ?_
      obtain rfl := z_ret1 h
      exact zg_iret dX7_looseIn_96
    · replace h := (if_neg hc).symm.trans h
      refine zg_iload 5 dX7_looseIn_34 rfl ?_
      refine zg_bipush dX7_looseIn_36 zkb_6 ?_
      suffices hj : zJ T RX7 cX7_looseIn 8 (zBm T 0 (some .int) (some (.int r1)) M) 0 0 47 [(0, .ref a0), (1, .int v1), (2, .int v2), (3, .int v3), (4, .int v4), (5, .int v5)] [.int (if (6 : Int32) ≤ v5 then v3 else v4)] M by
        refine zg_icmp_ge (tgt := 46) dX7_looseIn_38 (by decide) (fun hc => ?_) (fun hc => ?_)
        · rw [show (if (6 : Int32) ≤ v5 then v3 else v4) = v3 from if_pos hc] at hj
          refine zg_iload_n 3 dX7_looseIn_46 rfl rfl ?_
          exact hj
        · rw [show (if (6 : Int32) ≤ v5 then v3 else v4) = v4 from if_neg hc] at hj
          refine zg_iload 4 dX7_looseIn_41 rfl ?_
          refine zg_goto (tgt := 47) dX7_looseIn_43 (by decide) ?_
          exact hj
      refine zg_istore (ls' := [(0, .ref a0), (1, .int v1), (2, .int v2), (3, .int v3), (4, .int v4), (5, .int v5), (6, .int (if (6 : Int32) ≤ v5 then v3 else v4))]) dX7_looseIn_47 (Nat.le_of_ble_eq_true rfl) rfl ?_
      refine zg_aload_n 0 dX7_looseIn_49 rfl rfl ?_
      refine zo_getr (a0 + 1) 0 rfl fl_X7_21 h0.1 rfl dX7_looseIn_50 ?_
      refine zg_iload 5 dX7_looseIn_53 rfl ?_
      obtain ⟨x1, hx1, h⟩ := z_bind h
      refine zo_iald h0.2 hx1 dX7_looseIn_55 ?_
      refine zg_iload 6 dX7_looseIn_56 rfl ?_
      refine zg_iand dX7_looseIn_58 ?_
      refine zg_istore (ls' := [(0, .ref a0), (1, .int v1), (2, .int v2), (3, .int v3), (4, .int v4), (5, .int v5), (6, .int (if (6 : Int32) ≤ v5 then v3 else v4)), (7, .int (x1 &&& (if (6 : Int32) ≤ v5 then v3 else v4)))]) dX7_looseIn_59 (Nat.le_of_ble_eq_true rfl) rfl ?_
      refine zg_iload_n 1 dX7_looseIn_61 rfl rfl ?_
      refine zg_iload 5 dX7_looseIn_62 rfl ?_
      refine zg_iushr dX7_looseIn_64 ?_
      refine zg_iconst dX7_looseIn_65 zki_1 ?_
      refine zg_iand dX7_looseIn_66 ?_
      refine zg_if_eq (tgt := 89) dX7_looseIn_67 (by decide) (fun hc => ?_) (fun hc => ?_)
      · replace h := (if_pos hc).symm.trans h
        refine zo_sub (ls' := [(0, .ref a0), (1, .int v1), (2, .int v2), (3, .int v3), (4, .int v4), (5, .int v5)]) [0, 1, 2, 3, 4, 5] rfl ?_
        exact g7_looseIn_89 h0 (fun u0 u1 u2 u3 u4 h => ih u0 u1 u2 u3 u4 h) _ _ _ _ _ h
      · replace h := (if_neg hc).symm.trans h
        refine zg_iload 7 dX7_looseIn_70 rfl ?_
        refine zg_if_eq (tgt := 82) dX7_looseIn_72 (by decide) (fun hc => ?_) (fun hc => ?_)
        · replace h := (if_pos hc).symm.trans h
          refine zo_sub (ls' := [(0, .ref a0), (1, .int v1), (2, .int v2), (3, .int v3), (4, .int v4), (5, .int v5)]) [0, 1, 2, 3, 4, 5] rfl ?_
          exact g7_looseIn_82 h0 (fun u0 u1 u2 u3 u4 h => ih u0 u1 u2 u3 u4 h) _ _ _ _ _ h
        · replace h := (if_neg hc).symm.trans h
          refine zg_iload 7 dX7_looseIn_75 rfl ?_
          refine zg_iload 6 dX7_looseIn_77 rfl ?_
          refine zg_icmp_ne (tgt := 89) dX7_looseIn_79 (by decide) (fun hc => ?_) (fun hc => ?_)
          · replace h := (if_neg hc).symm.trans h
            refine zo_sub (ls' := [(0, .ref a0), (1, .int v1), (2, .int v2), (3, .int v3), (4, .int v4), (5, .int v5)]) [0, 1, 2, 3, 4, 5] rfl ?_
            exact g7_looseIn_89 h0 (fun u0 u1 u2 u3 u4 h => ih u0 u1 u2 u3 u4 h) _ _ _ _ _ h
          · replace h := (if_pos hc).symm.trans h
            refine zo_sub (ls' := [(0, .ref a0), (1, .int v1), (2, .int v2), (3, .int v3), (4, .int v4), (5, .int v5)]) [0, 1, 2, 3, 4, 5] rfl ?_
            exact g7_looseIn_82 h0 (fun u0 u1 u2 u3 u4 h => ih u0 u1 u2 u3 u4 h) _ _ _ _ _ h
set_option maxRecDepth 20000 in
set_option maxHeartbeats 4000000 in
theorem k_X7_looseIn {T : List zN} {a0 : Nat} (h0 : zWv T a0) {v1 : Int32} {r1 : Int32} {M : zM} (h : f7_looseIn a0 v1 M = some r1) : zK T yX7_looseIn cX7_looseIn 8 (some .int) 0 [.ref a0, .int v1] M (some (.int r1)) M := by
  refine zK_of pl_X7 (Nat.le_of_ble_eq_true rfl) ?_
  show zJ T RX7 cX7_looseIn 8 _ 0 0 0 [(0, .ref a0), (1, .int v1)] [] M
  rw [f7_looseIn] at h
  refine zg_iconst dX7_looseIn_0 zki_0 ?_
  refine zg_istore_n (ls' := [(0, .ref a0), (1, .int v1), (2, .int (0 : Int32))]) dX7_looseIn_1 rfl (Nat.le_of_ble_eq_true rfl) rfl ?_
  refine zg_iload_n 1 dX7_looseIn_2 rfl rfl ?_
  refine zg_bipush dX7_looseIn_3 zkb_63 ?_
  refine zg_iand dX7_looseIn_5 ?_
  refine zg_istore_n (ls' := [(0, .ref a0), (1, .int v1), (2, .int (0 : Int32)), (3, .int (v1 &&& (63 : Int32)))]) dX7_looseIn_6 rfl (Nat.le_of_ble_eq_true rfl) rfl ?_
  refine zg_iload_n 1 dX7_looseIn_7 rfl rfl ?_
  refine zg_bipush dX7_looseIn_8 zkb_6 ?_
  refine zg_iushr dX7_looseIn_10 ?_
  refine zg_istore (ls' := [(0, .ref a0), (1, .int v1), (2, .int (0 : Int32)), (3, .int (v1 &&& (63 : Int32))), (4, .int (zushr v1 (6 : Int32)))]) dX7_looseIn_11 (Nat.le_of_ble_eq_true rfl) rfl ?_
  refine zg_iload_n 3 dX7_looseIn_13 rfl rfl ?_
  refine zg_if_eq (tgt := 22) dX7_looseIn_14 (by decide) (fun hc => ?_) (fun hc => ?_)
  · replace h := (if_pos hc).symm.trans h
    refine zg_iconst dX7_looseIn_22 zki_0 ?_
    obtain rfl := z_ret1 h
    exact zg_iret dX7_looseIn_23
  · replace h := (if_neg hc).symm.trans h
    refine zg_iload 4 dX7_looseIn_17 rfl ?_
    refine zg_if_ne (tgt := 24) dX7_looseIn_19 (by decide) (fun hc => ?_) (fun hc => ?_)
    · replace h := (if_neg hc).symm.trans h
      refine zg_iconst dX7_looseIn_24 zki_0 ?_
      refine zg_istore (ls' := [(0, .ref a0), (1, .int v1), (2, .int (0 : Int32)), (3, .int (v1 &&& (63 : Int32))), (4, .int (zushr v1 (6 : Int32))), (5, .int (0 : Int32))]) dX7_looseIn_25 (Nat.le_of_ble_eq_true rfl) rfl ?_
      exact g7_looseIn_27 h0 zfuel _ _ _ _ _ h
    · replace h := (if_pos hc).symm.trans h
      refine zg_iconst dX7_looseIn_22 zki_0 ?_
      obtain rfl := z_ret1 h
      exact zg_iret dX7_looseIn_23
set_option maxRecDepth 20000 in
set_option maxHeartbeats 4000000 in
theorem g7_repeatOf_54 {T : List zN} {a0 : Nat} (h0 : zWv T a0) {r1 : Int32} {M : zM} {k16 : Int32 → Int32 → Int32 → Int32 → zM → Option Int32} (hk16 : ∀ (v1 : Int32) (v2 : Int32) (v3 : Int32) (v4 : Int32), k16 v1 v2 v3 v4 M = some r1 → zJ T RX7 cX7_repeatOf 5 (zBm T 2 (some .int) (some (.int r1)) M) 0 0 16 [(0, .ref a0), (1, .int v1), (2, .int v2), (3, .int v3), (4, .int v4)] [] M) : ∀ (v1 : Int32) (v2 : Int32) (v4 : Int32) (s0 : Int32), f7_repeatOf_54 a0 k16 v1 v2 v4 s0 M = some r1 → zJ T RX7 cX7_repeatOf 5 (zBm T 2 (some .int) (some (.int r1)) M) 0 0 54 [(0, .ref a0), (1, .int v1), (2, .int v2), (4, .int v4)] [.int s0] M := by
  intro v1 v2 v4 s0 h
  rw [f7_repeatOf_54] at h
  refine zg_istore_n (ls' := [(0, .ref a0), (1, .int v1), (2, .int v2), (3, .int s0), (4, .int v4)]) dX7_repeatOf_54 rfl (Nat.le_of_ble_eq_true rfl) rfl ?_
  refine zg_iinc (ls' := [(0, .ref a0), (1, .int v1), (2, .int v2), (3, .int s0), (4, .int (v4 + (1 : Int32)))]) 4 dX7_repeatOf_55 rfl zki_1 (Nat.le_of_ble_eq_true rfl) rfl ?_
  refine zg_goto (tgt := 16) dX7_repeatOf_58 (by decide) ?_
  exact hk16 _ _ _ _ h
set_option maxRecDepth 20000 in
set_option maxHeartbeats 4000000 in
theorem g7_repeatOf_16 {T : List zN} {a0 : Nat} (h0 : zWv T a0) {r1 : Int32} {M : zM} {k61 : Int32 → Int32 → Int32 → zM → Option Int32} (hk61 : ∀ (v1 : Int32) (v2 : Int32) (v3 : Int32), k61 v1 v2 v3 M = some r1 → zJ T RX7 cX7_repeatOf 5 (zBm T 2 (some .int) (some (.int r1)) M) 0 0 61 [(0, .ref a0), (1, .int v1), (2, .int v2), (3, .int v3)] [] M) : ∀ (n : Nat) (v1 : Int32) (v2 : Int32) (v3 : Int32) (v4 : Int32), f7_repeatOf_16 a0 k61 n v1 v2 v3 v4 M = some r1 → zJ T RX7 cX7_repeatOf 5 (zBm T 2 (some .int) (some (.int r1)) M) 0 0 16 [(0, .ref a0), (1, .int v1), (2, .int v2), (3, .int v3), (4, .int v4)] [] M := by
  intro n
  induction n with
  | zero => intro v1 v2 v3 v4 h; cases h
  | succ n ih =>
    intro v1 v2 v3 v4 h
    rw [f7_repeatOf_16] at h
    refine zg_iload 4 dX7_repeatOf_16 rfl ?_
    refine zg_aload_n 0 dX7_repeatOf_18 rfl rfl ?_
    refine zg_iload_n 1 dX7_repeatOf_19 rfl rfl ?_
    obtain ⟨x1, hx1, h⟩ := z_bind h
    refine zg_callV (st := [.int v4]) (k_X7_sizeOf h0 hx1) zY_X7_sizeOf lv_X7_29 rfl h0.1 rfl (zfit_m (by decide) (by decide)) (Nat.le_of_ble_eq_true rfl) dX7_repeatOf_20 rfl ?_
    refine zg_icmp_ge (tgt := 61) dX7_repeatOf_23 (by decide) (fun hc => ?_) (fun hc => ?_)
    · replace h := (if_pos hc).symm.trans h
      refine zo_sub (ls' := [(0, .ref a0), (1, .int v1), (2, .int v2), (3, .int v3)]) [0, 1, 2, 3] rfl ?_
      exact hk61 _ _ _ h
    · replace h := (if_neg hc).symm.trans h
      refine zg_iload_n 3 dX7_repeatOf_26 rfl rfl ?_
      refine zg_if_eq (tgt := 53) dX7_repeatOf_27 (by decide) (fun hc => ?_) (fun hc => ?_)
      · replace h := (if_pos hc).symm.trans h
        refine zg_iconst dX7_repeatOf_53 zki_0 ?_
        refine zo_sub (ls' := [(0, .ref a0), (1, .int v1), (2, .int v2), (4, .int v4)]) [0, 1, 2, 4] rfl ?_
        exact g7_repeatOf_54 h0 (fun u0 u1 u2 u3 h => ih u0 u1 u2 u3 h) _ _ _ _ h
      · replace h := (if_neg hc).symm.trans h
        refine zg_aload_n 0 dX7_repeatOf_30 rfl rfl ?_
        refine zg_iload_n 1 dX7_repeatOf_31 rfl rfl ?_
        refine zg_iload 4 dX7_repeatOf_32 rfl ?_
        obtain ⟨x2, hx2, h⟩ := z_bind h
        refine zg_callV (st := []) (k_X7_cellsOf h0 hx2) zY_X7_cellsOf lv_X7_44 rfl h0.1 rfl (zfit_m (by decide) (by decide)) (Nat.le_of_ble_eq_true rfl) dX7_repeatOf_34 rfl ?_
        refine zg_aload_n 0 dX7_repeatOf_37 rfl rfl ?_
        refine zg_iload_n 1 dX7_repeatOf_38 rfl rfl ?_
        refine zg_iload 4 dX7_repeatOf_39 rfl ?_
        refine zg_iload_n 2 dX7_repeatOf_41 rfl rfl ?_
        refine zg_isub dX7_repeatOf_42 ?_
        obtain ⟨x3, hx3, h⟩ := z_bind h
        refine zg_callV (st := [.int x2]) (k_X7_cellsOf h0 hx3) zY_X7_cellsOf lv_X7_44 rfl h0.1 rfl (zfit_m (by decide) (by decide)) (Nat.le_of_ble_eq_true rfl) dX7_repeatOf_43 rfl ?_
        suffices hj : zJ T RX7 cX7_repeatOf 5 (zBm T 2 (some .int) (some (.int r1)) M) 0 0 54 [(0, .ref a0), (1, .int v1), (2, .int v2), (3, .int v3), (4, .int v4)] [.int (if x2 = x3 then (1 : Int32) else (0 : Int32))] M by
          refine zg_icmp_ne (tgt := 53) dX7_repeatOf_46 (by decide) (fun hc => ?_) (fun hc => ?_)
          · rw [show (if x2 = x3 then (1 : Int32) else (0 : Int32)) = (0 : Int32) from if_neg hc] at hj
            refine zg_iconst dX7_repeatOf_53 zki_0 ?_
            exact hj
          · rw [show (if x2 = x3 then (1 : Int32) else (0 : Int32)) = (1 : Int32) from if_pos hc] at hj
            refine zg_iconst dX7_repeatOf_49 zki_1 ?_
            refine zg_goto (tgt := 54) dX7_repeatOf_50 (by decide) ?_
            exact hj
        refine zo_sub (ls' := [(0, .ref a0), (1, .int v1), (2, .int v2), (4, .int v4)]) [0, 1, 2, 4] rfl ?_
        exact g7_repeatOf_54 h0 (fun u0 u1 u2 u3 h => ih u0 u1 u2 u3 h) _ _ _ _ h
set_option maxRecDepth 20000 in
set_option maxHeartbeats 4000000 in
theorem g7_repeatOf_61 {T : List zN} {a0 : Nat} (h0 : zWv T a0) {r1 : Int32} {M : zM} {k2 : Int32 → Int32 → zM → Option Int32} (hk2 : ∀ (v1 : Int32) (v2 : Int32), k2 v1 v2 M = some r1 → zJ T RX7 cX7_repeatOf 5 (zBm T 2 (some .int) (some (.int r1)) M) 0 0 2 [(0, .ref a0), (1, .int v1), (2, .int v2)] [] M) : ∀ (v1 : Int32) (v2 : Int32) (v3 : Int32), f7_repeatOf_61 a0 k2 v1 v2 v3 M = some r1 → zJ T RX7 cX7_repeatOf 5 (zBm T 2 (some .int) (some (.int r1)) M) 0 0 61 [(0, .ref a0), (1, .int v1), (2, .int v2), (3, .int v3)] [] M := by
  intro v1 v2 v3 h
  rw [f7_repeatOf_61] at h
  refine zg_iload_n 3 dX7_repeatOf_61 rfl rfl ?_
  refine zg_if_eq (tgt := 67) dX7_repeatOf_62 (by decide) (fun hc => ?_) (fun hc => ?_)
  · replace h := (if_pos hc).symm.trans h
    refine zg_iinc (ls' := [(0, .ref a0), (1, .int v1), (2, .int (v2 + (1 : Int32))), (3, .int v3)]) 2 dX7_repeatOf_67 rfl zki_1 (Nat.le_of_ble_eq_true rfl) rfl ?_
    refine zg_goto (tgt := 2) dX7_repeatOf_70 (by decide) ?_
    refine zo_sub (ls' := [(0, .ref a0), (1, .int v1), (2, .int (v2 + (1 : Int32)))]) [0, 1, 2] rfl ?_
    exact hk2 _ _ h
  · replace h := (if_neg hc).symm.trans h
    refine zg_iload_n 2 dX7_repeatOf_65 rfl rfl ?_
    obtain rfl := z_ret1 h
    exact zg_iret dX7_repeatOf_66
set_option maxRecDepth 20000 in
set_option maxHeartbeats 4000000 in
theorem g7_repeatOf_2 {T : List zN} {a0 : Nat} (h0 : zWv T a0) {r1 : Int32} {M : zM} : ∀ (n : Nat) (v1 : Int32) (v2 : Int32), f7_repeatOf_2 a0 n v1 v2 M = some r1 → zJ T RX7 cX7_repeatOf 5 (zBm T 2 (some .int) (some (.int r1)) M) 0 0 2 [(0, .ref a0), (1, .int v1), (2, .int v2)] [] M := by
  intro n
  induction n with
  | zero => intro v1 v2 h; cases h
  | succ n ih =>
    intro v1 v2 h
    rw [f7_repeatOf_2] at h
    refine zg_iload_n 2 dX7_repeatOf_2 rfl rfl ?_
    refine zg_aload_n 0 dX7_repeatOf_3 rfl rfl ?_
    refine zg_iload_n 1 dX7_repeatOf_4 rfl rfl ?_
    obtain ⟨x1, hx1, h⟩ := z_bind h
    refine zg_callV (st := [.int v2]) (k_X7_sizeOf h0 hx1) zY_X7_sizeOf lv_X7_29 rfl h0.1 rfl (zfit_m (by decide) (by decide)) (Nat.le_of_ble_eq_true rfl) dX7_repeatOf_5 rfl ?_
    refine zg_icmp_ge (tgt := 73) dX7_repeatOf_8 (by decide) (fun hc => ?_) (fun hc => ?_)
    · replace h := (if_pos hc).symm.trans h
      refine zg_aload_n 0 dX7_repeatOf_73 rfl rfl ?_
      refine zg_iload_n 1 dX7_repeatOf_74 rfl rfl ?_
      obtain ⟨x2, hx2, h⟩ := z_bind h
      refine zg_callV (st := []) (k_X7_sizeOf h0 hx2) zY_X7_sizeOf lv_X7_29 rfl h0.1 rfl (zfit_m (by decide) (by decide)) (Nat.le_of_ble_eq_true rfl) dX7_repeatOf_75 rfl ?_
      obtain rfl := z_ret1 h
      exact zg_iret dX7_repeatOf_78
    · replace h := (if_neg hc).symm.trans h
      refine zg_iconst dX7_repeatOf_11 zki_1 ?_
      refine zg_istore_n (ls' := [(0, .ref a0), (1, .int v1), (2, .int v2), (3, .int (1 : Int32))]) dX7_repeatOf_12 rfl (Nat.le_of_ble_eq_true rfl) rfl ?_
      refine zg_iload_n 2 dX7_repeatOf_13 rfl rfl ?_
      refine zg_istore (ls' := [(0, .ref a0), (1, .int v1), (2, .int v2), (3, .int (1 : Int32)), (4, .int v2)]) dX7_repeatOf_14 (Nat.le_of_ble_eq_true rfl) rfl ?_
      exact g7_repeatOf_16 h0 (fun u0 u1 u2 h => g7_repeatOf_61 h0 (fun u0 u1 h => ih u0 u1 h) u0 u1 u2 h) zfuel _ _ _ _ h
set_option maxRecDepth 20000 in
set_option maxHeartbeats 4000000 in
theorem k_X7_repeatOf {T : List zN} {a0 : Nat} (h0 : zWv T a0) {v1 : Int32} {r1 : Int32} {M : zM} (h : f7_repeatOf a0 v1 M = some r1) : zK T yX7_repeatOf cX7_repeatOf 5 (some .int) 2 [.ref a0, .int v1] M (some (.int r1)) M := by
  refine zK_of pl_X7 (Nat.le_of_ble_eq_true rfl) ?_
  show zJ T RX7 cX7_repeatOf 5 _ 0 0 0 [(0, .ref a0), (1, .int v1)] [] M
  rw [f7_repeatOf] at h
  refine zg_iconst dX7_repeatOf_0 zki_1 ?_
  refine zg_istore_n (ls' := [(0, .ref a0), (1, .int v1), (2, .int (1 : Int32))]) dX7_repeatOf_1 rfl (Nat.le_of_ble_eq_true rfl) rfl ?_
  exact g7_repeatOf_2 h0 zfuel _ _ h
set_option maxRecDepth 20000 in
set_option maxHeartbeats 4000000 in
theorem g7_runsAlong_4 {T : List zN} {a0 : Nat} (h0 : zWv T a0) {r1 : Int32} {M : zM} : ∀ (n : Nat) (v1 : Int32) (v2 : Int32) (v3 : Int32), f7_runsAlong_4 a0 n v1 v2 v3 M = some r1 → zJ T RX7 cX7_runsAlong 4 (zBm T 3 (some .int) (some (.int r1)) M) 0 0 4 [(0, .ref a0), (1, .int v1), (2, .int v2), (3, .int v3)] [] M := by
  intro n
  induction n with
  | zero => intro v1 v2 v3 h; cases h
  | succ n ih =>
    intro v1 v2 v3 h
    rw [f7_runsAlong_4] at h
    refine zg_iload_n 3 dX7_runsAlong_4 rfl rfl ?_
    refine zg_aload_n 0 dX7_runsAlong_5 rfl rfl ?_
    refine zg_iload_n 1 dX7_runsAlong_6 rfl rfl ?_
    obtain ⟨x1, hx1, h⟩ := z_bind h
    refine zg_callV (st := [.int v3]) (k_X7_sizeOf h0 hx1) zY_X7_sizeOf lv_X7_29 rfl h0.1 rfl (zfit_m (by decide) (by decide)) (Nat.le_of_ble_eq_true rfl) dX7_runsAlong_7 rfl ?_
    refine zg_icmp_ge (tgt := 30) dX7_runsAlong_10 (by decide) (fun hc => ?_) (fun hc => ?_)
    · replace h := (if_pos hc).symm.trans h
      refine zg_iload_n 2 dX7_runsAlong_30 rfl rfl ?_
      obtain rfl := z_ret1 h
      exact zg_iret dX7_runsAlong_31
    · replace h := (if_neg hc).symm.trans h
      refine zg_iload_n 2 dX7_runsAlong_13 rfl rfl ?_
      refine zg_iconst dX7_runsAlong_14 zki_1 ?_
      refine zg_aload_n 0 dX7_runsAlong_15 rfl rfl ?_
      refine zg_iload_n 1 dX7_runsAlong_16 rfl rfl ?_
      refine zg_iload_n 3 dX7_runsAlong_17 rfl rfl ?_
      obtain ⟨x2, hx2, h⟩ := z_bind h
      refine zg_callV (st := [.int (1 : Int32), .int v2]) (k_X7_changesOf h0 hx2) zY_X7_changesOf lv_X7_48 rfl h0.1 rfl (zfit_m (by decide) (by decide)) (Nat.le_of_ble_eq_true rfl) dX7_runsAlong_18 rfl ?_
      refine zg_iadd dX7_runsAlong_21 ?_
      refine zg_iadd dX7_runsAlong_22 ?_
      refine zg_istore_n (ls' := [(0, .ref a0), (1, .int v1), (2, .int (v2 + ((1 : Int32) + x2))), (3, .int v3)]) dX7_runsAlong_23 rfl (Nat.le_of_ble_eq_true rfl) rfl ?_
      refine zg_iinc (ls' := [(0, .ref a0), (1, .int v1), (2, .int (v2 + ((1 : Int32) + x2))), (3, .int (v3 + (1 : Int32)))]) 3 dX7_runsAlong_24 rfl zki_1 (Nat.le_of_ble_eq_true rfl) rfl ?_
      refine zg_goto (tgt := 4) dX7_runsAlong_27 (by decide) ?_
      exact ih _ _ _ h
set_option maxRecDepth 20000 in
set_option maxHeartbeats 4000000 in
theorem k_X7_runsAlong {T : List zN} {a0 : Nat} (h0 : zWv T a0) {v1 : Int32} {r1 : Int32} {M : zM} (h : f7_runsAlong a0 v1 M = some r1) : zK T yX7_runsAlong cX7_runsAlong 4 (some .int) 3 [.ref a0, .int v1] M (some (.int r1)) M := by
  refine zK_of pl_X7 (Nat.le_of_ble_eq_true rfl) ?_
  show zJ T RX7 cX7_runsAlong 4 _ 0 0 0 [(0, .ref a0), (1, .int v1)] [] M
  rw [f7_runsAlong] at h
  refine zg_iconst dX7_runsAlong_0 zki_0 ?_
  refine zg_istore_n (ls' := [(0, .ref a0), (1, .int v1), (2, .int (0 : Int32))]) dX7_runsAlong_1 rfl (Nat.le_of_ble_eq_true rfl) rfl ?_
  refine zg_iconst dX7_runsAlong_2 zki_0 ?_
  refine zg_istore_n (ls' := [(0, .ref a0), (1, .int v1), (2, .int (0 : Int32)), (3, .int (0 : Int32))]) dX7_runsAlong_3 rfl (Nat.le_of_ble_eq_true rfl) rfl ?_
  exact g7_runsAlong_4 h0 zfuel _ _ _ h
set_option maxRecDepth 20000 in
set_option maxHeartbeats 4000000 in
theorem g7_longestRun_27 {T : List zN} {a0 : Nat} (h0 : zWv T a0) {r1 : Int32} {M : zM} {k81 : Int32 → Int32 → Int32 → zM → Option Int32} (hk81 : ∀ (v1 : Int32) (v2 : Int32) (v3 : Int32), k81 v1 v2 v3 M = some r1 → zJ T RX7 cX7_longestRun 7 (zBm T 2 (some .int) (some (.int r1)) M) 0 0 81 [(0, .ref a0), (1, .int v1), (2, .int v2), (3, .int v3)] [] M) : ∀ (n : Nat) (v1 : Int32) (v2 : Int32) (v3 : Int32) (v4 : Int32) (v5 : Int32) (v6 : Int32), f7_longestRun_27 a0 k81 n v1 v2 v3 v4 v5 v6 M = some r1 → zJ T RX7 cX7_longestRun 7 (zBm T 2 (some .int) (some (.int r1)) M) 0 0 27 [(0, .ref a0), (1, .int v1), (2, .int v2), (3, .int v3), (4, .int v4), (5, .int v5), (6, .int v6)] [] M := by
  intro n
  induction n with
  | zero => intro v1 v2 v3 v4 v5 v6 h; cases h
  | succ n ih =>
    intro v1 v2 v3 v4 v5 v6 h
    rw [f7_longestRun_27] at h
    refine zg_iload 6 dX7_longestRun_27 rfl ?_
    refine zg_aload_n 0 dX7_longestRun_29 rfl rfl ?_
    refine zg_iconst dX7_longestRun_30 zki_1 ?_
    refine zg_iload_n 1 dX7_longestRun_31 rfl rfl ?_
    refine zg_isub dX7_longestRun_32 ?_
    obtain ⟨x1, hx1, h⟩ := z_bind h
    refine zg_callV (st := [.int v6]) (k_X7_sizeOf h0 hx1) zY_X7_sizeOf lv_X7_29 rfl h0.1 rfl (zfit_m (by decide) (by decide)) (Nat.le_of_ble_eq_true rfl) dX7_longestRun_33 rfl ?_
    refine zg_icmp_ge (tgt := 81) dX7_longestRun_36 (by decide) (fun hc => ?_) (fun hc => ?_)
    · replace h := (if_pos hc).symm.trans h
      refine zo_sub (ls' := [(0, .ref a0), (1, .int v1), (2, .int v2), (3, .int v3)]) [0, 1, 2, 3] rfl ?_
      exact hk81 _ _ _ h
    · replace h := (if_neg hc).symm.trans h
      refine zg_iload 4 dX7_longestRun_39 rfl ?_
      refine zg_iload 6 dX7_longestRun_41 rfl ?_
      refine zg_iushr dX7_longestRun_43 ?_
      refine zg_iconst dX7_longestRun_44 zki_1 ?_
      refine zg_iand dX7_longestRun_45 ?_
      refine zg_iload 4 dX7_longestRun_46 rfl ?_
      refine zg_iload 6 dX7_longestRun_48 rfl ?_
      refine zg_iconst dX7_longestRun_50 zki_1 ?_
      refine zg_isub dX7_longestRun_51 ?_
      refine zg_iushr dX7_longestRun_52 ?_
      refine zg_iconst dX7_longestRun_53 zki_1 ?_
      refine zg_iand dX7_longestRun_54 ?_
      suffices hj : zJ T RX7 cX7_longestRun 7 (zBm T 2 (some .int) (some (.int r1)) M) 0 0 66 [(0, .ref a0), (1, .int v1), (2, .int v2), (3, .int v3), (4, .int v4), (5, .int v5), (6, .int v6)] [.int (if ((zushr v4 v6) &&& (1 : Int32)) = ((zushr v4 (v6 - (1 : Int32))) &&& (1 : Int32)) then (v5 + (1 : Int32)) else (1 : Int32))] M by
        refine zg_icmp_ne (tgt := 65) dX7_longestRun_55 (by decide) (fun hc => ?_) (fun hc => ?_)
        · rw [show (if ((zushr v4 v6) &&& (1 : Int32)) = ((zushr v4 (v6 - (1 : Int32))) &&& (1 : Int32)) then (v5 + (1 : Int32)) else (1 : Int32)) = (1 : Int32) from if_neg hc] at hj
          refine zg_iconst dX7_longestRun_65 zki_1 ?_
          exact hj
        · rw [show (if ((zushr v4 v6) &&& (1 : Int32)) = ((zushr v4 (v6 - (1 : Int32))) &&& (1 : Int32)) then (v5 + (1 : Int32)) else (1 : Int32)) = (v5 + (1 : Int32)) from if_pos hc] at hj
          refine zg_iload 5 dX7_longestRun_58 rfl ?_
          refine zg_iconst dX7_longestRun_60 zki_1 ?_
          refine zg_iadd dX7_longestRun_61 ?_
          refine zg_goto (tgt := 66) dX7_longestRun_62 (by decide) ?_
          exact hj
      refine zg_istore (ls' := [(0, .ref a0), (1, .int v1), (2, .int v2), (3, .int v3), (4, .int v4), (5, .int (if ((zushr v4 v6) &&& (1 : Int32)) = ((zushr v4 (v6 - (1 : Int32))) &&& (1 : Int32)) then (v5 + (1 : Int32)) else (1 : Int32))), (6, .int v6)]) dX7_longestRun_66 (Nat.le_of_ble_eq_true rfl) rfl ?_
      refine zg_iload_n 2 dX7_longestRun_68 rfl rfl ?_
      refine zg_iload 5 dX7_longestRun_69 rfl ?_
      refine zo_max ls_X7_51 ⟨Nat.le_of_ble_eq_true rfl, Nat.le_of_ble_eq_true rfl, Nat.le_refl _, Nat.le_refl _⟩ z_iM z_cmax dX7_longestRun_71 ?_
      refine zg_istore_n (ls' := [(0, .ref a0), (1, .int v1), (2, .int (zmax v2 (if ((zushr v4 v6) &&& (1 : Int32)) = ((zushr v4 (v6 - (1 : Int32))) &&& (1 : Int32)) then (v5 + (1 : Int32)) else (1 : Int32)))), (3, .int v3), (4, .int v4), (5, .int (if ((zushr v4 v6) &&& (1 : Int32)) = ((zushr v4 (v6 - (1 : Int32))) &&& (1 : Int32)) then (v5 + (1 : Int32)) else (1 : Int32))), (6, .int v6)]) dX7_longestRun_74 rfl (Nat.le_of_ble_eq_true rfl) rfl ?_
      refine zg_iinc (ls' := [(0, .ref a0), (1, .int v1), (2, .int (zmax v2 (if ((zushr v4 v6) &&& (1 : Int32)) = ((zushr v4 (v6 - (1 : Int32))) &&& (1 : Int32)) then (v5 + (1 : Int32)) else (1 : Int32)))), (3, .int v3), (4, .int v4), (5, .int (if ((zushr v4 v6) &&& (1 : Int32)) = ((zushr v4 (v6 - (1 : Int32))) &&& (1 : Int32)) then (v5 + (1 : Int32)) else (1 : Int32))), (6, .int (v6 + (1 : Int32)))]) 6 dX7_longestRun_75 rfl zki_1 (Nat.le_of_ble_eq_true rfl) rfl ?_
      refine zg_goto (tgt := 27) dX7_longestRun_78 (by decide) ?_
      exact ih _ _ _ _ _ _ h
set_option maxRecDepth 20000 in
set_option maxHeartbeats 4000000 in
theorem g7_longestRun_81 {T : List zN} {a0 : Nat} (h0 : zWv T a0) {r1 : Int32} {M : zM} {k4 : Int32 → Int32 → Int32 → zM → Option Int32} (hk4 : ∀ (v1 : Int32) (v2 : Int32) (v3 : Int32), k4 v1 v2 v3 M = some r1 → zJ T RX7 cX7_longestRun 7 (zBm T 2 (some .int) (some (.int r1)) M) 0 0 4 [(0, .ref a0), (1, .int v1), (2, .int v2), (3, .int v3)] [] M) : ∀ (v1 : Int32) (v2 : Int32) (v3 : Int32), f7_longestRun_81 a0 k4 v1 v2 v3 M = some r1 → zJ T RX7 cX7_longestRun 7 (zBm T 2 (some .int) (some (.int r1)) M) 0 0 81 [(0, .ref a0), (1, .int v1), (2, .int v2), (3, .int v3)] [] M := by
  intro v1 v2 v3 h
  rw [f7_longestRun_81] at h
  refine zg_iinc (ls' := [(0, .ref a0), (1, .int v1), (2, .int v2), (3, .int (v3 + (1 : Int32)))]) 3 dX7_longestRun_81 rfl zki_1 (Nat.le_of_ble_eq_true rfl) rfl ?_
  refine zg_goto (tgt := 4) dX7_longestRun_84 (by decide) ?_
  exact hk4 _ _ _ h
set_option maxRecDepth 20000 in
set_option maxHeartbeats 4000000 in
theorem g7_longestRun_4 {T : List zN} {a0 : Nat} (h0 : zWv T a0) {r1 : Int32} {M : zM} : ∀ (n : Nat) (v1 : Int32) (v2 : Int32) (v3 : Int32), f7_longestRun_4 a0 n v1 v2 v3 M = some r1 → zJ T RX7 cX7_longestRun 7 (zBm T 2 (some .int) (some (.int r1)) M) 0 0 4 [(0, .ref a0), (1, .int v1), (2, .int v2), (3, .int v3)] [] M := by
  intro n
  induction n with
  | zero => intro v1 v2 v3 h; cases h
  | succ n ih =>
    intro v1 v2 v3 h
    rw [f7_longestRun_4] at h
    refine zg_iload_n 3 dX7_longestRun_4 rfl rfl ?_
    refine zg_aload_n 0 dX7_longestRun_5 rfl rfl ?_
    refine zg_iload_n 1 dX7_longestRun_6 rfl rfl ?_
    obtain ⟨x1, hx1, h⟩ := z_bind h
    refine zg_callV (st := [.int v3]) (k_X7_sizeOf h0 hx1) zY_X7_sizeOf lv_X7_29 rfl h0.1 rfl (zfit_m (by decide) (by decide)) (Nat.le_of_ble_eq_true rfl) dX7_longestRun_7 rfl ?_
    refine zg_icmp_ge (tgt := 87) dX7_longestRun_10 (by decide) (fun hc => ?_) (fun hc => ?_)
    · replace h := (if_pos hc).symm.trans h
      refine zg_iload_n 2 dX7_longestRun_87 rfl rfl ?_
      obtain rfl := z_ret1 h
      exact zg_iret dX7_longestRun_88
    · replace h := (if_neg hc).symm.trans h
      refine zg_aload_n 0 dX7_longestRun_13 rfl rfl ?_
      refine zg_iload_n 1 dX7_longestRun_14 rfl rfl ?_
      refine zg_iload_n 3 dX7_longestRun_15 rfl rfl ?_
      obtain ⟨x2, hx2, h⟩ := z_bind h
      refine zg_callV (st := []) (k_X7_cellsOf h0 hx2) zY_X7_cellsOf lv_X7_44 rfl h0.1 rfl (zfit_m (by decide) (by decide)) (Nat.le_of_ble_eq_true rfl) dX7_longestRun_16 rfl ?_
      refine zg_istore (ls' := [(0, .ref a0), (1, .int v1), (2, .int v2), (3, .int v3), (4, .int x2)]) dX7_longestRun_19 (Nat.le_of_ble_eq_true rfl) rfl ?_
      refine zg_iconst dX7_longestRun_21 zki_1 ?_
      refine zg_istore (ls' := [(0, .ref a0), (1, .int v1), (2, .int v2), (3, .int v3), (4, .int x2), (5, .int (1 : Int32))]) dX7_longestRun_22 (Nat.le_of_ble_eq_true rfl) rfl ?_
      refine zg_iconst dX7_longestRun_24 zki_1 ?_
      refine zg_istore (ls' := [(0, .ref a0), (1, .int v1), (2, .int v2), (3, .int v3), (4, .int x2), (5, .int (1 : Int32)), (6, .int (1 : Int32))]) dX7_longestRun_25 (Nat.le_of_ble_eq_true rfl) rfl ?_
      exact g7_longestRun_27 h0 (fun u0 u1 u2 h => g7_longestRun_81 h0 (fun u0 u1 u2 h => ih u0 u1 u2 h) u0 u1 u2 h) zfuel _ _ _ _ _ _ h
set_option maxRecDepth 20000 in
set_option maxHeartbeats 4000000 in
theorem k_X7_longestRun {T : List zN} {a0 : Nat} (h0 : zWv T a0) {v1 : Int32} {r1 : Int32} {M : zM} (h : f7_longestRun a0 v1 M = some r1) : zK T yX7_longestRun cX7_longestRun 7 (some .int) 2 [.ref a0, .int v1] M (some (.int r1)) M := by
  refine zK_of pl_X7 (Nat.le_of_ble_eq_true rfl) ?_
  show zJ T RX7 cX7_longestRun 7 _ 0 0 0 [(0, .ref a0), (1, .int v1)] [] M
  rw [f7_longestRun] at h
  refine zg_iconst dX7_longestRun_0 zki_1 ?_
  refine zg_istore_n (ls' := [(0, .ref a0), (1, .int v1), (2, .int (1 : Int32))]) dX7_longestRun_1 rfl (Nat.le_of_ble_eq_true rfl) rfl ?_
  refine zg_iconst dX7_longestRun_2 zki_0 ?_
  refine zg_istore_n (ls' := [(0, .ref a0), (1, .int v1), (2, .int (1 : Int32)), (3, .int (0 : Int32))]) dX7_longestRun_3 rfl (Nat.le_of_ble_eq_true rfl) rfl ?_
  exact g7_longestRun_4 h0 zfuel _ _ _ h
set_option maxRecDepth 20000 in
set_option maxHeartbeats 4000000 in
theorem g7_settle_12 {T : List zN} {a0 : Nat} (h0 : zWv T a0) {Mr : zM} {k51 : Int32 → Int32 → zM → Option zM} (hk51 : ∀ (v1 : Int32) (v2 : Int32) (M : zM), k51 v1 v2 M = some Mr → zJ T RX7 cX7_settle 4 (zBm T 0 (none) none Mr) 0 0 51 [(0, .ref a0), (1, .int v1), (2, .int v2)] [] M) : ∀ (n : Nat) (v1 : Int32) (v2 : Int32) (v3 : Int32) (M : zM), f7_settle_12 a0 k51 n v1 v2 v3 M = some Mr → zJ T RX7 cX7_settle 4 (zBm T 0 (none) none Mr) 0 0 12 [(0, .ref a0), (1, .int v1), (2, .int v2), (3, .int v3)] [] M := by
  intro n
  induction n with
  | zero => intro v1 v2 v3 M h; cases h
  | succ n ih =>
    intro v1 v2 v3 M h
    rw [f7_settle_12] at h
    refine zg_iload_n 3 dX7_settle_12 rfl rfl ?_
    refine zg_aload_n 0 dX7_settle_13 rfl rfl ?_
    refine zg_geti fl_X7_9 h0.1 rfl dX7_settle_14 ?_
    refine zg_icmp_ge (tgt := 51) dX7_settle_17 (by decide) (fun hc => ?_) (fun hc => ?_)
    · replace h := (if_pos hc).symm.trans h
      refine zo_sub (ls' := [(0, .ref a0), (1, .int v1), (2, .int v2)]) [0, 1, 2] rfl ?_
      exact hk51 _ _ _ h
    · replace h := (if_neg hc).symm.trans h
      refine zg_iload_n 1 dX7_settle_20 rfl rfl ?_
      refine zg_aload_n 0 dX7_settle_21 rfl rfl ?_
      refine zg_geti fl_X7_15 h0.1 rfl dX7_settle_22 ?_
      refine zg_icmp_ge (tgt := 51) dX7_settle_25 (by decide) (fun hc => ?_) (fun hc => ?_)
      · replace h := (if_pos hc).symm.trans h
        refine zo_sub (ls' := [(0, .ref a0), (1, .int v1), (2, .int v2)]) [0, 1, 2] rfl ?_
        exact hk51 _ _ _ h
      · replace h := (if_neg hc).symm.trans h
        refine zg_iload_n 2 dX7_settle_28 rfl rfl ?_
        refine zg_aload_n 0 dX7_settle_29 rfl rfl ?_
        refine zo_getr (a0 + 1) 0 rfl fl_X7_21 h0.1 rfl dX7_settle_30 ?_
        refine zg_iload_n 3 dX7_settle_33 rfl rfl ?_
        obtain ⟨x1, hx1, h⟩ := z_bind h
        refine zo_iald h0.2 hx1 dX7_settle_34 ?_
        refine zg_iload_n 1 dX7_settle_35 rfl rfl ?_
        refine zg_iushr dX7_settle_36 ?_
        refine zg_iconst dX7_settle_37 zki_1 ?_
        refine zg_iand dX7_settle_38 ?_
        refine zg_iconst dX7_settle_39 zki_1 ?_
        refine zg_ixor dX7_settle_40 ?_
        refine zg_iload_n 3 dX7_settle_41 rfl rfl ?_
        refine zg_ishl dX7_settle_42 ?_
        refine zg_ior dX7_settle_43 ?_
        refine zg_istore_n (ls' := [(0, .ref a0), (1, .int v1), (2, .int (v2 ||| (zshl (((zushr x1 v1) &&& (1 : Int32)) ^^^ (1 : Int32)) v3))), (3, .int v3)]) dX7_settle_44 rfl (Nat.le_of_ble_eq_true rfl) rfl ?_
        refine zg_iinc (ls' := [(0, .ref a0), (1, .int v1), (2, .int (v2 ||| (zshl (((zushr x1 v1) &&& (1 : Int32)) ^^^ (1 : Int32)) v3))), (3, .int (v3 + (1 : Int32)))]) 3 dX7_settle_45 rfl zki_1 (Nat.le_of_ble_eq_true rfl) rfl ?_
        refine zg_goto (tgt := 12) dX7_settle_48 (by decide) ?_
        exact ih _ _ _ _ h
set_option maxRecDepth 20000 in
set_option maxHeartbeats 4000000 in
theorem g7_settle_51 {T : List zN} {a0 : Nat} (h0 : zWv T a0) {Mr : zM} {k2 : Int32 → zM → Option zM} (hk2 : ∀ (v1 : Int32) (M : zM), k2 v1 M = some Mr → zJ T RX7 cX7_settle 4 (zBm T 0 (none) none Mr) 0 0 2 [(0, .ref a0), (1, .int v1)] [] M) : ∀ (v1 : Int32) (v2 : Int32) (M : zM), f7_settle_51 a0 k2 v1 v2 M = some Mr → zJ T RX7 cX7_settle 4 (zBm T 0 (none) none Mr) 0 0 51 [(0, .ref a0), (1, .int v1), (2, .int v2)] [] M := by
  intro v1 v2 M h
  rw [f7_settle_51] at h
  refine zg_aload_n 0 dX7_settle_51 rfl rfl ?_
  refine zo_getr (a0 + 1) 0 rfl fl_X7_21 h0.1 rfl dX7_settle_52 ?_
  refine zg_bipush dX7_settle_55 zkb_6 ?_
  refine zg_iload_n 1 dX7_settle_57 rfl rfl ?_
  refine zg_iadd dX7_settle_58 ?_
  refine zg_iload_n 2 dX7_settle_59 rfl rfl ?_
  obtain ⟨M1, hM1, h⟩ := z_bind h
  refine zo_iast h0.2 hM1 dX7_settle_60 ?_
  refine zg_iinc (ls' := [(0, .ref a0), (1, .int (v1 + (1 : Int32))), (2, .int v2)]) 1 dX7_settle_61 rfl zki_1 (Nat.le_of_ble_eq_true rfl) rfl ?_
  refine zg_goto (tgt := 2) dX7_settle_64 (by decide) ?_
  refine zo_sub (ls' := [(0, .ref a0), (1, .int (v1 + (1 : Int32)))]) [0, 1] rfl ?_
  exact hk2 _ _ h
set_option maxRecDepth 20000 in
set_option maxHeartbeats 4000000 in
theorem g7_settle_2 {T : List zN} {a0 : Nat} (h0 : zWv T a0) {Mr : zM} : ∀ (n : Nat) (v1 : Int32) (M : zM), f7_settle_2 a0 n v1 M = some Mr → zJ T RX7 cX7_settle 4 (zBm T 0 (none) none Mr) 0 0 2 [(0, .ref a0), (1, .int v1)] [] M := by
  intro n
  induction n with
  | zero => intro v1 M h; cases h
  | succ n ih =>
    intro v1 M h
    rw [f7_settle_2] at h
    refine zg_iload_n 1 dX7_settle_2 rfl rfl ?_
    refine zg_bipush dX7_settle_3 zkb_6 ?_
    refine zg_icmp_ge (tgt := 67) dX7_settle_5 (by decide) (fun hc => ?_) (fun hc => ?_)
    · replace h := (if_pos hc).symm.trans h
      obtain rfl := z_ret1 h
      exact zg_vret dX7_settle_67
    · replace h := (if_neg hc).symm.trans h
      refine zg_iconst dX7_settle_8 zki_0 ?_
      refine zg_istore_n (ls' := [(0, .ref a0), (1, .int v1), (2, .int (0 : Int32))]) dX7_settle_9 rfl (Nat.le_of_ble_eq_true rfl) rfl ?_
      refine zg_iconst dX7_settle_10 zki_0 ?_
      refine zg_istore_n (ls' := [(0, .ref a0), (1, .int v1), (2, .int (0 : Int32)), (3, .int (0 : Int32))]) dX7_settle_11 rfl (Nat.le_of_ble_eq_true rfl) rfl ?_
      exact g7_settle_12 h0 (fun u0 u1 u2 h => g7_settle_51 h0 (fun u0 u1 h => ih u0 u1 h) u0 u1 u2 h) zfuel _ _ _ _ h
set_option maxRecDepth 20000 in
set_option maxHeartbeats 4000000 in
theorem k_X7_settle {T : List zN} {a0 : Nat} (h0 : zWv T a0) {M : zM} {Mr : zM} (h : f7_settle a0 M = some Mr) : zK T yX7_settle cX7_settle 4 (none) 0 [.ref a0] M none Mr := by
  refine zK_of pl_X7 (Nat.le_of_ble_eq_true rfl) ?_
  show zJ T RX7 cX7_settle 4 _ 0 0 0 [(0, .ref a0)] [] M
  rw [f7_settle] at h
  refine zg_iconst dX7_settle_0 zki_0 ?_
  refine zg_istore_n (ls' := [(0, .ref a0), (1, .int (0 : Int32))]) dX7_settle_1 rfl (Nat.le_of_ble_eq_true rfl) rfl ?_
  exact g7_settle_2 h0 zfuel _ _ h
set_option maxRecDepth 20000 in
set_option maxHeartbeats 4000000 in
theorem k_X7_become {T : List zN} {a0 : Nat} {a1 : Nat} (h0 : zWv T a0) (h1 : zWv T a1) {M : zM} {Mr : zM} (h : f7_become a0 a1 M = some Mr) : zK T yX7_become cX7_become 2 (none) 2 [.ref a0, .ref a1] M none Mr := by
  refine zK_of pl_X7 (Nat.le_of_ble_eq_true rfl) ?_
  show zJ T RX7 cX7_become 2 _ 0 0 0 [(0, .ref a0), (1, .ref a1)] [] M
  rw [f7_become] at h
  refine zg_aload_n 0 dX7_become_0 rfl rfl ?_
  refine zg_aload_n 1 dX7_become_1 rfl rfl ?_
  refine zg_geti fl_X7_9 h1.1 rfl dX7_become_2 ?_
  refine zg_puti fp_X7_9 h0.1 rfl dX7_become_5 ?_
  refine zg_aload_n 0 dX7_become_8 rfl rfl ?_
  refine zg_aload_n 1 dX7_become_9 rfl rfl ?_
  refine zg_geti fl_X7_15 h1.1 rfl dX7_become_10 ?_
  refine zg_puti fp_X7_15 h0.1 rfl dX7_become_13 ?_
  refine zg_aload_n 0 dX7_become_16 rfl rfl ?_
  refine zg_aload_n 1 dX7_become_17 rfl rfl ?_
  refine zg_geti fl_X7_18 h1.1 rfl dX7_become_18 ?_
  refine zg_puti fp_X7_18 h0.1 rfl dX7_become_21 ?_
  refine zg_aload_n 1 dX7_become_24 rfl rfl ?_
  refine zo_getr (a1 + 1) 0 rfl fl_X7_21 h1.1 rfl dX7_become_25 ?_
  refine zg_iconst dX7_become_28 zki_0 ?_
  refine zg_aload_n 0 dX7_become_29 rfl rfl ?_
  refine zo_getr (a0 + 1) 0 rfl fl_X7_21 h0.1 rfl dX7_become_30 ?_
  refine zg_iconst dX7_become_33 zki_0 ?_
  refine zg_bipush dX7_become_34 zkb_12 ?_
  refine zo_copy 12 ls_X7_56 z_nat z_iS h1.2 h0.2 (by decide) rfl rfl ⟨Nat.le_of_ble_eq_true rfl, Nat.le_of_ble_eq_true rfl⟩ dX7_become_36 ?_
  obtain rfl := z_ret1 h
  exact zg_vret dX7_become_39
set_option maxRecDepth 20000 in
set_option maxHeartbeats 4000000 in
theorem g7_shape_4 {T : List zN} {a0 : Nat} (h0 : zWv T a0) {r1 : Int64} {M : zM} : ∀ (n : Nat) (v1 : Int64) (v3 : Int32), f7_shape_4 a0 n v1 v3 M = some r1 → zJ T RX7 cX7_shape 4 (zBm T 0 (some .long) (some (.long r1)) M) 0 0 4 [(0, .ref a0), (1, .long v1), (3, .int v3)] [] M := by
  intro n
  induction n with
  | zero => intro v1 v3 h; cases h
  | succ n ih =>
    intro v1 v3 h
    rw [f7_shape_4] at h
    refine zg_iload_n 2 dX7_shape_4 rfl rfl ?_
    refine zg_if_lt (tgt := 27) dX7_shape_5 (by decide) (fun hc => ?_) (fun hc => ?_)
    · replace h := (if_pos hc).symm.trans h
      refine zg_lload_n 1 dX7_shape_27 rfl rfl ?_
      refine zg_bipush dX7_shape_28 zkb_6 ?_
      refine zg_lshl dX7_shape_30 ?_
      refine zg_aload_n 0 dX7_shape_31 rfl rfl ?_
      refine zg_geti fl_X7_15 h0.1 rfl dX7_shape_32 ?_
      refine zg_iconst dX7_shape_35 zki_3 ?_
      refine zg_ishl dX7_shape_36 ?_
      refine zg_i2l dX7_shape_37 ?_
      refine zg_lor dX7_shape_38 ?_
      refine zg_aload_n 0 dX7_shape_39 rfl rfl ?_
      refine zg_geti fl_X7_9 h0.1 rfl dX7_shape_40 ?_
      refine zg_i2l dX7_shape_43 ?_
      refine zg_lor dX7_shape_44 ?_
      obtain rfl := z_ret1 h
      exact zg_lret dX7_shape_45
    · replace h := (if_neg hc).symm.trans h
      refine zg_lload_n 1 dX7_shape_8 rfl rfl ?_
      refine zg_bipush dX7_shape_9 zkb_6 ?_
      refine zg_lshl dX7_shape_11 ?_
      refine zg_aload_n 0 dX7_shape_12 rfl rfl ?_
      refine zo_getr (a0 + 1) 0 rfl fl_X7_21 h0.1 rfl dX7_shape_13 ?_
      refine zg_iload_n 2 dX7_shape_16 rfl rfl ?_
      obtain ⟨x1, hx1, h⟩ := z_bind h
      refine zo_iald h0.2 hx1 dX7_shape_17 ?_
      refine zg_i2l dX7_shape_18 ?_
      refine zg_lor dX7_shape_19 ?_
      refine zg_lstore_n (ls' := [(0, .ref a0), (1, .long ((zlshl v1 (6 : Int32)) ||| (Int32.toInt64 x1))), (3, .int v3)]) dX7_shape_20 rfl (Nat.le_of_ble_eq_true rfl) rfl ?_
      refine zg_iinc (ls' := [(0, .ref a0), (1, .long ((zlshl v1 (6 : Int32)) ||| (Int32.toInt64 x1))), (3, .int (v3 + (-1 : Int32)))]) 2 dX7_shape_21 rfl zki_m1 (Nat.le_of_ble_eq_true rfl) rfl ?_
      refine zg_goto (tgt := 4) dX7_shape_24 (by decide) ?_
      exact ih _ _ h
set_option maxRecDepth 20000 in
set_option maxHeartbeats 4000000 in
theorem k_X7_shape {T : List zN} {a0 : Nat} (h0 : zWv T a0) {r1 : Int64} {M : zM} (h : f7_shape a0 M = some r1) : zK T yX7_shape cX7_shape 4 (some .long) 0 [.ref a0] M (some (.long r1)) M := by
  refine zK_of pl_X7 (Nat.le_of_ble_eq_true rfl) ?_
  show zJ T RX7 cX7_shape 4 _ 0 0 0 [(0, .ref a0)] [] M
  rw [f7_shape] at h
  refine zg_lconst dX7_shape_0 (v := 0) rfl ?_
  refine zg_lstore_n (ls' := [(0, .ref a0), (1, .long (0 : Int64))]) dX7_shape_1 rfl (Nat.le_of_ble_eq_true rfl) rfl ?_
  refine zg_iconst dX7_shape_2 zki_5 ?_
  refine zg_istore_n (ls' := [(0, .ref a0), (1, .long (0 : Int64)), (3, .int (5 : Int32))]) dX7_shape_3 rfl (Nat.le_of_ble_eq_true rfl) rfl ?_
  exact g7_shape_4 h0 zfuel _ _ h
set_option maxRecDepth 20000 in
set_option maxHeartbeats 4000000 in
theorem g7_takeShape_24 {T : List zN} {a0 : Nat} (h0 : zWv T a0) {Mr : zM} : ∀ (n : Nat) (v1 : Int64) (v3 : Int32) (M : zM), f7_takeShape_24 a0 n v1 v3 M = some Mr → zJ T RX7 cX7_takeShape 4 (zBm T 2 (none) none Mr) 0 0 24 [(0, .ref a0), (1, .long v1), (3, .int v3)] [] M := by
  intro n
  induction n with
  | zero => intro v1 v3 M h; cases h
  | succ n ih =>
    intro v1 v3 M h
    rw [f7_takeShape_24] at h
    refine zg_iload_n 2 dX7_takeShape_24 rfl rfl ?_
    refine zg_bipush dX7_takeShape_25 zkb_6 ?_
    refine zg_icmp_ge (tgt := 56) dX7_takeShape_27 (by decide) (fun hc => ?_) (fun hc => ?_)
    · replace h := (if_pos hc).symm.trans h
      refine zg_aload_n 0 dX7_takeShape_56 rfl rfl ?_
      obtain ⟨M1, hM1, h⟩ := z_bind h
      refine zg_callV (st := []) (k_X7_settle h0 hM1) zY_X7_settle lv_X7_66 rfl h0.1 rfl (zfit_m (by decide) (by decide)) (Nat.le_of_ble_eq_true rfl) dX7_takeShape_57 rfl ?_
      obtain rfl := z_ret1 h
      exact zg_vret dX7_takeShape_60
    · replace h := (if_neg hc).symm.trans h
      refine zg_aload_n 0 dX7_takeShape_30 rfl rfl ?_
      refine zo_getr (a0 + 1) 0 rfl fl_X7_21 h0.1 rfl dX7_takeShape_31 ?_
      refine zg_iload_n 2 dX7_takeShape_34 rfl rfl ?_
      refine zg_lload_n 1 dX7_takeShape_35 rfl rfl ?_
      refine zg_bipush dX7_takeShape_36 zkb_6 ?_
      refine zg_bipush dX7_takeShape_38 zkb_6 ?_
      refine zg_iload_n 2 dX7_takeShape_40 rfl rfl ?_
      refine zg_imul dX7_takeShape_41 ?_
      refine zg_iadd dX7_takeShape_42 ?_
      refine zg_lushr dX7_takeShape_43 ?_
      refine zg_ldc2 kc_X7_64 dX7_takeShape_44 ?_
      refine zg_land dX7_takeShape_47 ?_
      refine zg_l2i dX7_takeShape_48 ?_
      obtain ⟨M1, hM1, h⟩ := z_bind h
      refine zo_iast h0.2 hM1 dX7_takeShape_49 ?_
      refine zg_iinc (ls' := [(0, .ref a0), (1, .long v1), (3, .int (v3 + (1 : Int32)))]) 2 dX7_takeShape_50 rfl zki_1 (Nat.le_of_ble_eq_true rfl) rfl ?_
      refine zg_goto (tgt := 24) dX7_takeShape_53 (by decide) ?_
      exact ih _ _ _ h
set_option maxRecDepth 20000 in
set_option maxHeartbeats 4000000 in
theorem k_X7_takeShape {T : List zN} {a0 : Nat} (h0 : zWv T a0) {v1 : Int64} {M : zM} {Mr : zM} (h : f7_takeShape a0 v1 M = some Mr) : zK T yX7_takeShape cX7_takeShape 4 (none) 2 [.ref a0, .long v1] M none Mr := by
  refine zK_of pl_X7 (Nat.le_of_ble_eq_true rfl) ?_
  show zJ T RX7 cX7_takeShape 4 _ 0 0 0 [(0, .ref a0), (1, .long v1)] [] M
  rw [f7_takeShape] at h
  refine zg_aload_n 0 dX7_takeShape_0 rfl rfl ?_
  refine zg_lload_n 1 dX7_takeShape_1 rfl rfl ?_
  refine zg_ldc2 kc_X7_62 dX7_takeShape_2 ?_
  refine zg_land dX7_takeShape_5 ?_
  refine zg_l2i dX7_takeShape_6 ?_
  refine zg_puti fp_X7_9 h0.1 rfl dX7_takeShape_7 ?_
  refine zg_aload_n 0 dX7_takeShape_10 rfl rfl ?_
  refine zg_lload_n 1 dX7_takeShape_11 rfl rfl ?_
  refine zg_iconst dX7_takeShape_12 zki_3 ?_
  refine zg_lushr dX7_takeShape_13 ?_
  refine zg_ldc2 kc_X7_62 dX7_takeShape_14 ?_
  refine zg_land dX7_takeShape_17 ?_
  refine zg_l2i dX7_takeShape_18 ?_
  refine zg_puti fp_X7_15 h0.1 rfl dX7_takeShape_19 ?_
  refine zg_iconst dX7_takeShape_22 zki_0 ?_
  refine zg_istore_n (ls' := [(0, .ref a0), (1, .long v1), (3, .int (0 : Int32))]) dX7_takeShape_23 rfl (Nat.le_of_ble_eq_true rfl) rfl ?_
  exact g7_takeShape_24 h0 zfuel _ _ _ h
set_option maxRecDepth 20000 in
set_option maxHeartbeats 4000000 in
theorem g7_readFrom_97 {a0 : Nat} (h0 : zWv ztops a0) {r1 : Int32} {Mr : zM} {k29 : Int32 → Int32 → zM → Option (Int32 × zM)} (hk29 : ∀ (v2 : Int32) (v3 : Int32) (M : zM), k29 v2 v3 M = some (r1, Mr) → zJ ztops RX7 cX7_readFrom 5 (zBm ztops 3 (some .int) (some (.int r1)) Mr) 0 0 29 [(0, .ref a0), (1, .ref 7), (2, .int v2), (3, .int v3)] [] M) : ∀ (v2 : Int32) (v3 : Int32) (s1 : Int32) (s2 : Int32) (s3 : Int32) (M : zM), f7_readFrom_97 a0 k29 v2 v3 s1 s2 s3 M = some (r1, Mr) → zJ ztops RX7 cX7_readFrom 5 (zBm ztops 3 (some .int) (some (.int r1)) Mr) 0 0 97 [(0, .ref a0), (1, .ref 7), (2, .int v2), (3, .int v3)] [.int s3, .int s2, .int s1, .ref (a0 + 1)] M := by
  intro v2 v3 s1 s2 s3 M h
  rw [f7_readFrom_97] at h
  refine zg_ior dX7_readFrom_97 ?_
  obtain ⟨M1, hM1, h⟩ := z_bind h
  refine zo_iast h0.2 hM1 dX7_readFrom_98 ?_
  refine zg_iinc (ls' := [(0, .ref a0), (1, .ref 7), (2, .int v2), (3, .int (v3 + (1 : Int32)))]) 3 dX7_readFrom_99 rfl zki_1 (Nat.le_of_ble_eq_true rfl) rfl ?_
  refine zg_goto (tgt := 29) dX7_readFrom_102 (by decide) ?_
  exact hk29 _ _ _ h
set_option maxRecDepth 20000 in
set_option maxHeartbeats 4000000 in
theorem g7_readFrom_68 {a0 : Nat} (h0 : zWv ztops a0) {r1 : Int32} {Mr : zM} {k29 : Int32 → Int32 → zM → Option (Int32 × zM)} (hk29 : ∀ (v2 : Int32) (v3 : Int32) (M : zM), k29 v2 v3 M = some (r1, Mr) → zJ ztops RX7 cX7_readFrom 5 (zBm ztops 3 (some .int) (some (.int r1)) Mr) 0 0 29 [(0, .ref a0), (1, .ref 7), (2, .int v2), (3, .int v3)] [] M) : ∀ (v2 : Int32) (v3 : Int32) (v4 : Int32) (M : zM), f7_readFrom_68 a0 k29 v2 v3 v4 M = some (r1, Mr) → zJ ztops RX7 cX7_readFrom 5 (zBm ztops 3 (some .int) (some (.int r1)) Mr) 0 0 68 [(0, .ref a0), (1, .ref 7), (2, .int v2), (3, .int v3), (4, .int v4)] [] M := by
  intro v2 v3 v4 M h
  rw [f7_readFrom_68] at h
  refine zg_aload_n 0 dX7_readFrom_68 rfl rfl ?_
  refine zo_getr (a0 + 1) 0 rfl fl_X7_21 h0.1 rfl dX7_readFrom_69 ?_
  refine zg_iload_n 3 dX7_readFrom_72 rfl rfl ?_
  refine zg_iconst dX7_readFrom_73 zki_1 ?_
  refine zg_isub dX7_readFrom_74 ?_
  refine zg_iload_n 2 dX7_readFrom_75 rfl rfl ?_
  obtain ⟨x1, hx1, h⟩ := z_bind h
  refine zo_idiv hx1 dX7_readFrom_76 ?_
  refine zg_dup2 dX7_readFrom_77 rfl rfl ?_
  obtain ⟨x2, hx2, h⟩ := z_bind h
  refine zo_iald h0.2 hx2 dX7_readFrom_78 ?_
  refine zg_iload 4 dX7_readFrom_79 rfl ?_
  refine zg_bipush dX7_readFrom_81 zkb_35 ?_
  refine zg_icmp_ne (tgt := 96) dX7_readFrom_83 (by decide) (fun hc => ?_) (fun hc => ?_)
  · replace h := (if_neg hc).symm.trans h
    refine zg_iconst dX7_readFrom_96 zki_0 ?_
    refine zo_sub (ls' := [(0, .ref a0), (1, .ref 7), (2, .int v2), (3, .int v3)]) [0, 1, 2, 3] rfl ?_
    exact g7_readFrom_97 h0 hk29 _ _ _ _ _ _ h
  · replace h := (if_pos hc).symm.trans h
    refine zg_iconst dX7_readFrom_86 zki_1 ?_
    refine zg_iload_n 3 dX7_readFrom_87 rfl rfl ?_
    refine zg_iconst dX7_readFrom_88 zki_1 ?_
    refine zg_isub dX7_readFrom_89 ?_
    refine zg_iload_n 2 dX7_readFrom_90 rfl rfl ?_
    obtain ⟨x3, hx3, h⟩ := z_bind h
    refine zo_irem hx3 dX7_readFrom_91 ?_
    refine zg_ishl dX7_readFrom_92 ?_
    refine zg_goto (tgt := 97) dX7_readFrom_93 (by decide) ?_
    refine zo_sub (ls' := [(0, .ref a0), (1, .ref 7), (2, .int v2), (3, .int v3)]) [0, 1, 2, 3] rfl ?_
    exact g7_readFrom_97 h0 hk29 _ _ _ _ _ _ h
set_option maxRecDepth 20000 in
set_option maxHeartbeats 4000000 in
theorem g7_readFrom_29 {a0 : Nat} (h0 : zWv ztops a0) {r1 : Int32} {Mr : zM} : ∀ (n : Nat) (v2 : Int32) (v3 : Int32) (M : zM), f7_readFrom_29 a0 n v2 v3 M = some (r1, Mr) → zJ ztops RX7 cX7_readFrom 5 (zBm ztops 3 (some .int) (some (.int r1)) Mr) 0 0 29 [(0, .ref a0), (1, .ref 7), (2, .int v2), (3, .int v3)] [] M := by
  intro n
  induction n with
  | zero => intro v2 v3 M h; cases h
  | succ n ih =>
    intro v2 v3 M h
    rw [f7_readFrom_29] at h
    refine zg_iload_n 3 dX7_readFrom_29 rfl rfl ?_
    refine zg_aload_n 1 dX7_readFrom_30 rfl rfl ?_
    refine zg_geti fl_X7_80 zt_7 rfl dX7_readFrom_31 ?_
    refine zg_icmp_ge (tgt := 105) dX7_readFrom_34 (by decide) (fun hc => ?_) (fun hc => ?_)
    · replace h := (if_pos hc).symm.trans h
      refine zg_aload_n 1 dX7_readFrom_105 rfl rfl ?_
      refine zg_geti fl_X7_80 zt_7 rfl dX7_readFrom_106 ?_
      refine zg_iconst dX7_readFrom_109 zki_1 ?_
      refine zg_isub dX7_readFrom_110 ?_
      refine zg_istore_n (ls' := [(0, .ref a0), (1, .ref 7), (2, .int v2), (3, .int ((M.1 7 1) - (1 : Int32)))]) dX7_readFrom_111 rfl (Nat.le_of_ble_eq_true rfl) rfl ?_
      refine zg_iload_n 3 dX7_readFrom_112 rfl rfl ?_
      refine zg_iload_n 2 dX7_readFrom_113 rfl rfl ?_
      refine zg_icmp_lt (tgt := 123) dX7_readFrom_114 (by decide) (fun hc => ?_) (fun hc => ?_)
      · replace h := (if_pos hc).symm.trans h
        refine zg_aload_n 1 dX7_readFrom_123 rfl rfl ?_
        refine zg_geti fl_X7_80 zt_7 rfl dX7_readFrom_124 ?_
        obtain ⟨rfl, rfl⟩ := z_ret2 h
        exact zg_iret dX7_readFrom_127
      · replace h := (if_neg hc).symm.trans h
        refine zg_iload_n 3 dX7_readFrom_117 rfl rfl ?_
        refine zg_iload_n 2 dX7_readFrom_118 rfl rfl ?_
        obtain ⟨x1, hx1, h⟩ := z_bind h
        refine zo_irem hx1 dX7_readFrom_119 ?_
        refine zg_if_eq (tgt := 128) dX7_readFrom_120 (by decide) (fun hc => ?_) (fun hc => ?_)
        · replace h := (if_pos hc).symm.trans h
          refine zg_aload_n 0 dX7_readFrom_128 rfl rfl ?_
          refine zg_iload_n 3 dX7_readFrom_129 rfl rfl ?_
          refine zg_iload_n 2 dX7_readFrom_130 rfl rfl ?_
          obtain ⟨x2, hx2, h⟩ := z_bind h
          refine zo_idiv hx2 dX7_readFrom_131 ?_
          refine zg_puti fp_X7_9 h0.1 rfl dX7_readFrom_132 ?_
          refine zg_aload_n 0 dX7_readFrom_135 rfl rfl ?_
          refine zg_iload_n 2 dX7_readFrom_136 rfl rfl ?_
          refine zg_puti fp_X7_15 h0.1 rfl dX7_readFrom_137 ?_
          refine zg_aload_n 0 dX7_readFrom_140 rfl rfl ?_
          refine zg_iconst dX7_readFrom_141 zki_0 ?_
          refine zg_puti fp_X7_18 h0.1 rfl dX7_readFrom_142 ?_
          refine zg_aload_n 0 dX7_readFrom_145 rfl rfl ?_
          obtain ⟨M3, hM3, h⟩ := z_bind h
          refine zg_callV (st := []) (k_X7_settle h0 hM3) zY_X7_settle lv_X7_66 rfl h0.1 rfl (zfit_m (by decide) (by decide)) (Nat.le_of_ble_eq_true rfl) dX7_readFrom_146 rfl ?_
          refine zg_iconst dX7_readFrom_149 zki_m1 ?_
          obtain ⟨rfl, rfl⟩ := z_ret2 h
          exact zg_iret dX7_readFrom_150
        · replace h := (if_neg hc).symm.trans h
          refine zg_aload_n 1 dX7_readFrom_123 rfl rfl ?_
          refine zg_geti fl_X7_80 zt_7 rfl dX7_readFrom_124 ?_
          obtain ⟨rfl, rfl⟩ := z_ret2 h
          exact zg_iret dX7_readFrom_127
    · replace h := (if_neg hc).symm.trans h
      refine zg_aload_n 1 dX7_readFrom_37 rfl rfl ?_
      refine zg_iload_n 3 dX7_readFrom_38 rfl rfl ?_
      obtain ⟨x1, hx1, h⟩ := z_bind h
      refine zg_callV (st := []) (k_X6_at hx1) zY_X6_at lv_X7_83 rfl zt_7 rfl (zfit_m (by decide) (by decide)) (Nat.le_of_ble_eq_true rfl) dX7_readFrom_39 rfl ?_
      refine zg_istore (ls' := [(0, .ref a0), (1, .ref 7), (2, .int v2), (3, .int v3), (4, .int x1)]) dX7_readFrom_42 (Nat.le_of_ble_eq_true rfl) rfl ?_
      refine zg_iload_n 3 dX7_readFrom_44 rfl rfl ?_
      refine zg_bipush dX7_readFrom_45 zkb_6 ?_
      refine zg_iload_n 2 dX7_readFrom_47 rfl rfl ?_
      refine zg_imul dX7_readFrom_48 ?_
      refine zg_icmp_gt (tgt := 66) dX7_readFrom_49 (by decide) (fun hc => ?_) (fun hc => ?_)
      · replace h := (if_pos hc).symm.trans h
        refine zg_iload_n 3 dX7_readFrom_66 rfl rfl ?_
        obtain ⟨rfl, rfl⟩ := z_ret2 h
        exact zg_iret dX7_readFrom_67
      · replace h := (if_neg hc).symm.trans h
        refine zg_iload 4 dX7_readFrom_52 rfl ?_
        refine zg_bipush dX7_readFrom_54 zkb_35 ?_
        refine zg_icmp_eq (tgt := 68) dX7_readFrom_56 (by decide) (fun hc => ?_) (fun hc => ?_)
        · replace h := (if_pos hc).symm.trans h
          exact g7_readFrom_68 h0 (fun u0 u1 u2 h => ih u0 u1 u2 h) _ _ _ _ h
        · replace h := (if_neg hc).symm.trans h
          refine zg_iload 4 dX7_readFrom_59 rfl ?_
          refine zg_bipush dX7_readFrom_61 zkb_46 ?_
          refine zg_icmp_eq (tgt := 68) dX7_readFrom_63 (by decide) (fun hc => ?_) (fun hc => ?_)
          · replace h := (if_pos hc).symm.trans h
            exact g7_readFrom_68 h0 (fun u0 u1 u2 h => ih u0 u1 u2 h) _ _ _ _ h
          · replace h := (if_neg hc).symm.trans h
            refine zg_iload_n 3 dX7_readFrom_66 rfl rfl ?_
            obtain ⟨rfl, rfl⟩ := z_ret2 h
            exact zg_iret dX7_readFrom_67
set_option maxRecDepth 20000 in
set_option maxHeartbeats 4000000 in
theorem k_X7_readFrom {a0 : Nat} (h0 : zWv ztops a0) {M : zM} {r1 : Int32} {Mr : zM} (h : f7_readFrom a0 M = some (r1, Mr)) : zK ztops yX7_readFrom cX7_readFrom 5 (some .int) 3 [.ref a0, .ref 7] M (some (.int r1)) Mr := by
  refine zK_of pl_X7 (Nat.le_of_ble_eq_true rfl) ?_
  show zJ ztops RX7 cX7_readFrom 5 _ 0 0 0 [(0, .ref a0), (1, .ref 7)] [] M
  rw [f7_readFrom] at h
  refine zg_aload_n 1 dX7_readFrom_0 rfl rfl ?_
  refine zg_iconst dX7_readFrom_1 zki_0 ?_
  obtain ⟨x1, hx1, h⟩ := z_bind h
  refine zg_callV (st := []) (k_X6_digit hx1) zY_X6_digit lv_X7_69 rfl zt_7 rfl (zfit_m (by decide) (by decide)) (Nat.le_of_ble_eq_true rfl) dX7_readFrom_2 rfl ?_
  refine zg_istore_n (ls' := [(0, .ref a0), (1, .ref 7), (2, .int x1)]) dX7_readFrom_5 rfl (Nat.le_of_ble_eq_true rfl) rfl ?_
  refine zg_iload_n 2 dX7_readFrom_6 rfl rfl ?_
  refine zg_iconst dX7_readFrom_7 zki_1 ?_
  refine zg_icmp_lt (tgt := 17) dX7_readFrom_8 (by decide) (fun hc => ?_) (fun hc => ?_)
  · replace h := (if_pos hc).symm.trans h
    refine zg_iconst dX7_readFrom_17 zki_0 ?_
    obtain ⟨rfl, rfl⟩ := z_ret2 h
    exact zg_iret dX7_readFrom_18
  · replace h := (if_neg hc).symm.trans h
    refine zg_iload_n 2 dX7_readFrom_11 rfl rfl ?_
    refine zg_bipush dX7_readFrom_12 zkb_6 ?_
    refine zg_icmp_le (tgt := 19) dX7_readFrom_14 (by decide) (fun hc => ?_) (fun hc => ?_)
    · replace h := (if_pos hc).symm.trans h
      refine zg_aload_n 0 dX7_readFrom_19 rfl rfl ?_
      refine zo_getr (a0 + 1) 0 rfl fl_X7_21 h0.1 rfl dX7_readFrom_20 ?_
      refine zg_iconst dX7_readFrom_23 zki_0 ?_
      obtain ⟨M2, hM2, h⟩ := z_bind h
      refine zg_callS (st := []) (k_J7_fill_53178 h0.2 hM2) zY_J7_fill_53178 ls_X7_74 rfl (zfit_m (by decide) (by decide)) (Nat.le_of_ble_eq_true rfl) dX7_readFrom_24 rfl ?_
      refine zg_iconst dX7_readFrom_27 zki_1 ?_
      refine zg_istore_n (ls' := [(0, .ref a0), (1, .ref 7), (2, .int x1), (3, .int (1 : Int32))]) dX7_readFrom_28 rfl (Nat.le_of_ble_eq_true rfl) rfl ?_
      exact g7_readFrom_29 h0 zfuel _ _ _ h
    · replace h := (if_neg hc).symm.trans h
      refine zg_iconst dX7_readFrom_17 zki_0 ?_
      obtain ⟨rfl, rfl⟩ := z_ret2 h
      exact zg_iret dX7_readFrom_18
