set_option maxRecDepth 20000 in
set_option maxHeartbeats 4000000 in
theorem g8_otherwiseAcross_17 {r1 : Int32} {M : zM} {k56 : Int32 → Int32 → zM → Option Int32} (hk56 : ∀ (v1 : Int32) (v2 : Int32), k56 v1 v2 M = some r1 → zJ ztops RX8 cX8_otherwiseAcross 4 (zBm ztops 5 (some .int) (some (.int r1)) M) 0 0 56 [(0, .ref 0), (1, .int v1), (2, .int v2)] [] M) : ∀ (n : Nat) (v1 : Int32) (v2 : Int32) (v3 : Int32), f8_otherwiseAcross_17 k56 n v1 v2 v3 M = some r1 → zJ ztops RX8 cX8_otherwiseAcross 4 (zBm ztops 5 (some .int) (some (.int r1)) M) 0 0 17 [(0, .ref 0), (1, .int v1), (2, .int v2), (3, .int v3)] [] M := by
  intro n
  induction n with
  | zero => intro v1 v2 v3 h; cases h
  | succ n ih =>
    intro v1 v2 v3 h
    rw [f8_otherwiseAcross_17] at h
    refine zg_iload_n 3 dX8_otherwiseAcross_17 rfl rfl ?_
    refine zg_aload_n 0 dX8_otherwiseAcross_18 rfl rfl ?_
    refine zo_getr 1 0 rfl fl_X8_10 zt_0 rfl dX8_otherwiseAcross_19 ?_
    refine zg_geti fl_X8_213 zt_1 rfl dX8_otherwiseAcross_22 ?_
    refine zg_icmp_ge (tgt := 56) dX8_otherwiseAcross_25 (by decide) (fun hc => ?_) (fun hc => ?_)
    · replace h := (if_pos hc).symm.trans h
      refine zo_sub (ls' := [(0, .ref 0), (1, .int v1), (2, .int v2)]) [0, 1, 2] rfl ?_
      exact hk56 _ _ h
    · replace h := (if_neg hc).symm.trans h
      refine zg_iload_n 1 dX8_otherwiseAcross_28 rfl rfl ?_
      refine zg_aload_n 0 dX8_otherwiseAcross_29 rfl rfl ?_
      refine zo_getr 1 0 rfl fl_X8_10 zt_0 rfl dX8_otherwiseAcross_30 ?_
      refine zg_iload_n 2 dX8_otherwiseAcross_33 rfl rfl ?_
      refine zg_iload_n 3 dX8_otherwiseAcross_34 rfl rfl ?_
      obtain ⟨x1, hx1, h⟩ := z_bind h
      refine zg_callV (st := [.int v1]) (k_X7_overAt zW_1 hx1) zY_X7_overAt lv_X8_114 rfl zt_1 rfl (zfit_m (by decide) (by decide)) (Nat.le_of_ble_eq_true rfl) dX8_otherwiseAcross_35 rfl ?_
      refine zg_aload_n 0 dX8_otherwiseAcross_38 rfl rfl ?_
      refine zo_getr 1 0 rfl fl_X8_10 zt_0 rfl dX8_otherwiseAcross_39 ?_
      refine zg_iload_n 3 dX8_otherwiseAcross_42 rfl rfl ?_
      refine zg_iload_n 2 dX8_otherwiseAcross_43 rfl rfl ?_
      obtain ⟨x2, hx2, h⟩ := z_bind h
      refine zg_callV (st := [.int x1, .int v1]) (k_X7_overAt zW_1 hx2) zY_X7_overAt lv_X8_114 rfl zt_1 rfl (zfit_m (by decide) (by decide)) (Nat.le_of_ble_eq_true rfl) dX8_otherwiseAcross_44 rfl ?_
      refine zg_ixor dX8_otherwiseAcross_47 ?_
      refine zg_iadd dX8_otherwiseAcross_48 ?_
      refine zg_istore_n (ls' := [(0, .ref 0), (1, .int (v1 + (x1 ^^^ x2))), (2, .int v2), (3, .int v3)]) dX8_otherwiseAcross_49 rfl (Nat.le_of_ble_eq_true rfl) rfl ?_
      refine zg_iinc (ls' := [(0, .ref 0), (1, .int (v1 + (x1 ^^^ x2))), (2, .int v2), (3, .int (v3 + (1 : Int32)))]) 3 dX8_otherwiseAcross_50 rfl zki_1 (Nat.le_of_ble_eq_true rfl) rfl ?_
      refine zg_goto (tgt := 17) dX8_otherwiseAcross_53 (by decide) ?_
      exact ih _ _ _ h
set_option maxRecDepth 20000 in
set_option maxHeartbeats 4000000 in
theorem g8_otherwiseAcross_56 {r1 : Int32} {M : zM} {k4 : Int32 → Int32 → zM → Option Int32} (hk4 : ∀ (v1 : Int32) (v2 : Int32), k4 v1 v2 M = some r1 → zJ ztops RX8 cX8_otherwiseAcross 4 (zBm ztops 5 (some .int) (some (.int r1)) M) 0 0 4 [(0, .ref 0), (1, .int v1), (2, .int v2)] [] M) : ∀ (v1 : Int32) (v2 : Int32), f8_otherwiseAcross_56 k4 v1 v2 M = some r1 → zJ ztops RX8 cX8_otherwiseAcross 4 (zBm ztops 5 (some .int) (some (.int r1)) M) 0 0 56 [(0, .ref 0), (1, .int v1), (2, .int v2)] [] M := by
  intro v1 v2 h
  rw [f8_otherwiseAcross_56] at h
  refine zg_iinc (ls' := [(0, .ref 0), (1, .int v1), (2, .int (v2 + (1 : Int32)))]) 2 dX8_otherwiseAcross_56 rfl zki_1 (Nat.le_of_ble_eq_true rfl) rfl ?_
  refine zg_goto (tgt := 4) dX8_otherwiseAcross_59 (by decide) ?_
  exact hk4 _ _ h
set_option maxRecDepth 20000 in
set_option maxHeartbeats 4000000 in
theorem g8_otherwiseAcross_4 {r1 : Int32} {M : zM} : ∀ (n : Nat) (v1 : Int32) (v2 : Int32), f8_otherwiseAcross_4 n v1 v2 M = some r1 → zJ ztops RX8 cX8_otherwiseAcross 4 (zBm ztops 5 (some .int) (some (.int r1)) M) 0 0 4 [(0, .ref 0), (1, .int v1), (2, .int v2)] [] M := by
  intro n
  induction n with
  | zero => intro v1 v2 h; cases h
  | succ n ih =>
    intro v1 v2 h
    rw [f8_otherwiseAcross_4] at h
    refine zg_iload_n 2 dX8_otherwiseAcross_4 rfl rfl ?_
    refine zg_aload_n 0 dX8_otherwiseAcross_5 rfl rfl ?_
    refine zo_getr 1 0 rfl fl_X8_10 zt_0 rfl dX8_otherwiseAcross_6 ?_
    refine zg_geti fl_X8_100 zt_1 rfl dX8_otherwiseAcross_9 ?_
    refine zg_icmp_ge (tgt := 62) dX8_otherwiseAcross_12 (by decide) (fun hc => ?_) (fun hc => ?_)
    · replace h := (if_pos hc).symm.trans h
      refine zg_iload_n 1 dX8_otherwiseAcross_62 rfl rfl ?_
      obtain rfl := z_ret1 h
      exact zg_iret dX8_otherwiseAcross_63
    · replace h := (if_neg hc).symm.trans h
      refine zg_iconst dX8_otherwiseAcross_15 zki_0 ?_
      refine zg_istore_n (ls' := [(0, .ref 0), (1, .int v1), (2, .int v2), (3, .int (0 : Int32))]) dX8_otherwiseAcross_16 rfl (Nat.le_of_ble_eq_true rfl) rfl ?_
      exact g8_otherwiseAcross_17 (fun u0 u1 h => g8_otherwiseAcross_56 (fun u0 u1 h => ih u0 u1 h) u0 u1 h) zfuel _ _ _ h
set_option maxRecDepth 20000 in
set_option maxHeartbeats 4000000 in
theorem k_X8_otherwiseAcross {r1 : Int32} {M : zM} (h : f8_otherwiseAcross M = some r1) : zK ztops yX8_otherwiseAcross cX8_otherwiseAcross 4 (some .int) 5 [.ref 0] M (some (.int r1)) M := by
  refine zK_of pl_X8 (Nat.le_of_ble_eq_true rfl) ?_
  show zJ ztops RX8 cX8_otherwiseAcross 4 _ 0 0 0 [(0, .ref 0)] [] M
  rw [f8_otherwiseAcross] at h
  refine zg_iconst dX8_otherwiseAcross_0 zki_0 ?_
  refine zg_istore_n (ls' := [(0, .ref 0), (1, .int (0 : Int32))]) dX8_otherwiseAcross_1 rfl (Nat.le_of_ble_eq_true rfl) rfl ?_
  refine zg_iconst dX8_otherwiseAcross_2 zki_0 ?_
  refine zg_istore_n (ls' := [(0, .ref 0), (1, .int (0 : Int32)), (2, .int (0 : Int32))]) dX8_otherwiseAcross_3 rfl (Nat.le_of_ble_eq_true rfl) rfl ?_
  exact g8_otherwiseAcross_4 zfuel _ _ h
set_option maxRecDepth 20000 in
set_option maxHeartbeats 4000000 in
theorem g8_power_5 {T : List zN} {r1 : Int64} {M : zM} : ∀ (n : Nat) (v0 : Int32) (v1 : Int32) (v2 : Int64) (v4 : Int32), f8_power_5 n v0 v1 v2 v4 = some r1 → zJ T RX8 cX8_power 5 (zBm T 0 (some .long) (some (.long r1)) M) 0 0 5 [(0, .int v0), (1, .int v1), (2, .long v2), (4, .int v4)] [] M := by
  intro n
  induction n with
  | zero => intro v0 v1 v2 v4 h; cases h
  | succ n ih =>
    intro v0 v1 v2 v4 h
    rw [f8_power_5] at h
    refine zg_iload 3 dX8_power_5 rfl ?_
    refine zg_iload_n 1 dX8_power_7 rfl rfl ?_
    refine zg_icmp_ge (tgt := 22) dX8_power_8 (by decide) (fun hc => ?_) (fun hc => ?_)
    · replace h := (if_pos hc).symm.trans h
      refine zg_lload_n 2 dX8_power_22 rfl rfl ?_
      obtain rfl := z_ret1 h
      exact zg_lret dX8_power_23
    · replace h := (if_neg hc).symm.trans h
      refine zg_lload_n 2 dX8_power_11 rfl rfl ?_
      refine zg_iload_n 0 dX8_power_12 rfl rfl ?_
      refine zg_i2l dX8_power_13 ?_
      refine zg_lmul dX8_power_14 ?_
      refine zg_lstore_n (ls' := [(0, .int v0), (1, .int v1), (2, .long (v2 * (Int32.toInt64 v0))), (4, .int v4)]) dX8_power_15 rfl (Nat.le_of_ble_eq_true rfl) rfl ?_
      refine zg_iinc (ls' := [(0, .int v0), (1, .int v1), (2, .long (v2 * (Int32.toInt64 v0))), (4, .int (v4 + (1 : Int32)))]) 3 dX8_power_16 rfl zki_1 (Nat.le_of_ble_eq_true rfl) rfl ?_
      refine zg_goto (tgt := 5) dX8_power_19 (by decide) ?_
      exact ih _ _ _ _ h
set_option maxRecDepth 20000 in
set_option maxHeartbeats 4000000 in
theorem k_X8_power {T : List zN} {v0 : Int32} {v1 : Int32} {r1 : Int64} {M : zM} (h : f8_power v0 v1 = some r1) : zK T yX8_power cX8_power 5 (some .long) 0 [.int v0, .int v1] M (some (.long r1)) M := by
  refine zK_of pl_X8 (Nat.le_of_ble_eq_true rfl) ?_
  show zJ T RX8 cX8_power 5 _ 0 0 0 [(0, .int v0), (1, .int v1)] [] M
  rw [f8_power] at h
  refine zg_lconst dX8_power_0 (v := 1) rfl ?_
  refine zg_lstore_n (ls' := [(0, .int v0), (1, .int v1), (2, .long (1 : Int64))]) dX8_power_1 rfl (Nat.le_of_ble_eq_true rfl) rfl ?_
  refine zg_iconst dX8_power_2 zki_0 ?_
  refine zg_istore (ls' := [(0, .int v0), (1, .int v1), (2, .long (1 : Int64)), (4, .int (0 : Int32))]) dX8_power_3 (Nat.le_of_ble_eq_true rfl) rfl ?_
  exact g8_power_5 zfuel _ _ _ _ h
set_option maxRecDepth 20000 in
set_option maxHeartbeats 4000000 in
theorem g8_commonDivisor_45 {T : List zN} {r1 : Int64} {M : zM} : ∀ (v4 : Int64), f8_commonDivisor_45 v4 = some r1 → zJ T RX8 cX8_commonDivisor 11 (zBm T 0 (some .long) (some (.long r1)) M) 0 0 45 [(4, .long v4)] [] M := by
  intro v4 h
  rw [f8_commonDivisor_45] at h
  refine zg_lload 0 dX8_commonDivisor_45 rfl ?_
  obtain rfl := z_ret1 h
  exact zg_lret dX8_commonDivisor_47
set_option maxRecDepth 20000 in
set_option maxHeartbeats 4000000 in
theorem g8_commonDivisor_9 {T : List zN} {r1 : Int64} {M : zM} : ∀ (n : Nat) (v4 : Int64) (v6 : Int64) (v8 : Int32), f8_commonDivisor_9 n v4 v6 v8 = some r1 → zJ T RX8 cX8_commonDivisor 11 (zBm T 0 (some .long) (some (.long r1)) M) 0 0 9 [(4, .long v4), (6, .long v6), (8, .int v8)] [] M := by
  intro n
  induction n with
  | zero => intro v4 v6 v8 h; cases h
  | succ n ih =>
    intro v4 v6 v8 h
    rw [f8_commonDivisor_9] at h
    refine zg_iload 2 dX8_commonDivisor_9 rfl ?_
    refine zg_sipush dX8_commonDivisor_11 zks_200 ?_
    refine zg_icmp_ge (tgt := 45) dX8_commonDivisor_14 (by decide) (fun hc => ?_) (fun hc => ?_)
    · replace h := (if_pos hc).symm.trans h
      refine zo_sub (ls' := [(4, .long v4)]) [0] rfl ?_
      exact g8_commonDivisor_45 _ h
    · replace h := (if_neg hc).symm.trans h
      refine zg_lload 1 dX8_commonDivisor_17 rfl ?_
      refine zg_lconst dX8_commonDivisor_19 (v := 0) rfl ?_
      refine zg_lcmp dX8_commonDivisor_20 ?_
      refine zg_if_eq (tgt := 45) dX8_commonDivisor_21 (by decide) (fun hc => ?_) (fun hc => ?_)
      · replace h := (if_pos hc).symm.trans h
        refine zo_sub (ls' := [(4, .long v4)]) [0] rfl ?_
        exact g8_commonDivisor_45 _ h
      · replace h := (if_neg hc).symm.trans h
        refine zg_lload 0 dX8_commonDivisor_24 rfl ?_
        refine zg_lload 1 dX8_commonDivisor_26 rfl ?_
        obtain ⟨x1, hx1, h⟩ := z_bind h
        refine zo_lrem hx1 dX8_commonDivisor_28 ?_
        refine zg_lstore (ls' := [(4, .long v4), (6, .long v6), (8, .int v8), (9, .long x1)]) dX8_commonDivisor_29 (Nat.le_of_ble_eq_true rfl) rfl ?_
        refine zg_lload 1 dX8_commonDivisor_31 rfl ?_
        refine zg_lstore (ls' := [(4, .long v6), (6, .long v6), (8, .int v8), (9, .long x1)]) dX8_commonDivisor_33 (Nat.le_of_ble_eq_true rfl) rfl ?_
        refine zg_lload 3 dX8_commonDivisor_35 rfl ?_
        refine zg_lstore (ls' := [(4, .long v6), (6, .long x1), (8, .int v8), (9, .long x1)]) dX8_commonDivisor_37 (Nat.le_of_ble_eq_true rfl) rfl ?_
        refine zg_iinc (ls' := [(4, .long v6), (6, .long x1), (8, .int (v8 + (1 : Int32))), (9, .long x1)]) 2 dX8_commonDivisor_39 rfl zki_1 (Nat.le_of_ble_eq_true rfl) rfl ?_
        refine zg_goto (tgt := 9) dX8_commonDivisor_42 (by decide) ?_
        refine zo_sub (ls' := [(4, .long v6), (6, .long x1), (8, .int (v8 + (1 : Int32)))]) [0, 1, 2] rfl ?_
        exact ih _ _ _ h
set_option maxRecDepth 20000 in
set_option maxHeartbeats 4000000 in
theorem k_X8_commonDivisor {T : List zN} {v0 : Int64} {v2 : Int64} {r1 : Int64} {M : zM} (h : f8_commonDivisor v0 v2 = some r1) : zK T yX8_commonDivisor cX8_commonDivisor 11 (some .long) 0 [.long v0, .long v2] M (some (.long r1)) M := by
  refine zK_of pl_X8 (Nat.le_of_ble_eq_true rfl) ?_
  show zJ T RX8 cX8_commonDivisor 11 _ 0 0 0 [(0, .long v0), (2, .long v2)] [] M
  rw [f8_commonDivisor] at h
  refine zg_lload_n 1 dX8_commonDivisor_0 rfl rfl ?_
  refine zg_lstore (ls' := [(0, .long v0), (2, .long v2), (4, .long v2)]) dX8_commonDivisor_1 (Nat.le_of_ble_eq_true rfl) rfl ?_
  refine zg_lload_n 0 dX8_commonDivisor_3 rfl rfl ?_
  refine zg_lstore (ls' := [(0, .long v0), (2, .long v2), (4, .long v2), (6, .long v0)]) dX8_commonDivisor_4 (Nat.le_of_ble_eq_true rfl) rfl ?_
  refine zg_iconst dX8_commonDivisor_6 zki_0 ?_
  refine zg_istore (ls' := [(0, .long v0), (2, .long v2), (4, .long v2), (6, .long v0), (8, .int (0 : Int32))]) dX8_commonDivisor_7 (Nat.le_of_ble_eq_true rfl) rfl ?_
  refine zo_sub (ls' := [(4, .long v2), (6, .long v0), (8, .int (0 : Int32))]) [2, 3, 4] rfl ?_
  exact g8_commonDivisor_9 zfuel _ _ _ h
set_option maxRecDepth 20000 in
set_option maxHeartbeats 4000000 in
theorem k_X8_share {T : List zN} {v0 : Int32} {v1 : Int32} {v2 : Int32} {r1 : Int32} {M : zM} (h : f8_share v0 v1 v2 = some r1) : zK T yX8_share cX8_share 3 (some .int) 2 [.int v0, .int v1, .int v2] M (some (.int r1)) M := by
  refine zK_of pl_X8 (Nat.le_of_ble_eq_true rfl) ?_
  show zJ T RX8 cX8_share 3 _ 0 0 0 [(0, .int v0), (1, .int v1), (2, .int v2)] [] M
  rw [f8_share] at h
  refine zg_iload_n 0 dX8_share_0 rfl rfl ?_
  refine zg_iload_n 1 dX8_share_1 rfl rfl ?_
  refine zg_iadd dX8_share_2 ?_
  refine zg_iload_n 2 dX8_share_3 rfl rfl ?_
  refine zg_icmp_gt (tgt := 9) dX8_share_4 (by decide) (fun hc => ?_) (fun hc => ?_)
  · replace h := (if_pos hc).symm.trans h
    refine zg_iload_n 0 dX8_share_9 rfl rfl ?_
    refine zg_iload_n 1 dX8_share_10 rfl rfl ?_
    refine zg_icmp_ne (tgt := 20) dX8_share_11 (by decide) (fun hc => ?_) (fun hc => ?_)
    · replace h := (if_neg hc).symm.trans h
      refine zg_iload_n 0 dX8_share_20 rfl rfl ?_
      refine zg_iload_n 1 dX8_share_21 rfl rfl ?_
      suffices hj : zJ T RX8 cX8_share 3 (zBm T 2 (some .int) (some (.int r1)) M) 0 0 40 [(0, .int v0), (1, .int v1), (2, .int v2)] [.int (if v1 ≤ v0 then (v2 - (zmin v1 v2)) else (zmin v0 v2))] M by
        refine zg_icmp_ge (tgt := 33) dX8_share_22 (by decide) (fun hc => ?_) (fun hc => ?_)
        · rw [show (if v1 ≤ v0 then (v2 - (zmin v1 v2)) else (zmin v0 v2)) = (v2 - (zmin v1 v2)) from if_pos hc] at hj
          refine zg_iload_n 2 dX8_share_33 rfl rfl ?_
          refine zg_iload_n 1 dX8_share_34 rfl rfl ?_
          refine zg_iload_n 2 dX8_share_35 rfl rfl ?_
          refine zo_min ls_X8_390 ⟨Nat.le_of_ble_eq_true rfl, Nat.le_of_ble_eq_true rfl, Nat.le_refl _, Nat.le_refl _⟩ z_iM z_cmin dX8_share_36 ?_
          refine zg_isub dX8_share_39 ?_
          exact hj
        · rw [show (if v1 ≤ v0 then (v2 - (zmin v1 v2)) else (zmin v0 v2)) = (zmin v0 v2) from if_neg hc] at hj
          refine zg_iload_n 0 dX8_share_25 rfl rfl ?_
          refine zg_iload_n 2 dX8_share_26 rfl rfl ?_
          refine zo_min ls_X8_390 ⟨Nat.le_of_ble_eq_true rfl, Nat.le_of_ble_eq_true rfl, Nat.le_refl _, Nat.le_refl _⟩ z_iM z_cmin dX8_share_27 ?_
          refine zg_goto (tgt := 40) dX8_share_30 (by decide) ?_
          exact hj
      refine zg_iconst dX8_share_40 zki_1 ?_
      refine zg_isub dX8_share_41 ?_
      obtain rfl := z_ret1 h
      exact zg_iret dX8_share_42
    · replace h := (if_pos hc).symm.trans h
      refine zg_iload_n 2 dX8_share_14 rfl rfl ?_
      refine zg_iconst dX8_share_15 zki_2 ?_
      refine zg_idiv (by decide) dX8_share_16 ?_
      refine zg_iconst dX8_share_17 zki_1 ?_
      refine zg_isub dX8_share_18 ?_
      obtain rfl := z_ret1 h
      exact zg_iret dX8_share_19
  · replace h := (if_neg hc).symm.trans h
    refine zg_iload_n 0 dX8_share_7 rfl rfl ?_
    obtain rfl := z_ret1 h
    exact zg_iret dX8_share_8
set_option maxRecDepth 20000 in
set_option maxHeartbeats 4000000 in
theorem g8_isBestAgainst_10 {T : List zN} {r1 : Int32} {M : zM} : ∀ (n : Nat) (v1 : Int32) (v2 : Int32) (v3 : Int32) (v4 : Int32), f8_isBestAgainst_10 n v1 v2 v3 v4 = some r1 → zJ T RX8 cX8_isBestAgainst 5 (zBm T 3 (some .boolean) (some (.int r1)) M) 0 0 10 [(1, .int v1), (2, .int v2), (3, .int v3), (4, .int v4)] [] M := by
  intro n
  induction n with
  | zero => intro v1 v2 v3 v4 h; cases h
  | succ n ih =>
    intro v1 v2 v3 v4 h
    rw [f8_isBestAgainst_10] at h
    refine zg_iload 3 dX8_isBestAgainst_10 rfl ?_
    refine zg_bipush dX8_isBestAgainst_12 zkb_9 ?_
    refine zg_icmp_gt (tgt := 36) dX8_isBestAgainst_14 (by decide) (fun hc => ?_) (fun hc => ?_)
    · replace h := (if_pos hc).symm.trans h
      refine zg_iconst dX8_isBestAgainst_36 zki_1 ?_
      obtain rfl := z_ret1 h
      exact zg_zret rfl dX8_isBestAgainst_37
    · replace h := (if_neg hc).symm.trans h
      refine zg_iload 3 dX8_isBestAgainst_17 rfl ?_
      refine zg_iload_n 0 dX8_isBestAgainst_19 rfl rfl ?_
      refine zg_iload_n 1 dX8_isBestAgainst_20 rfl rfl ?_
      obtain ⟨x1, hx1, h⟩ := z_bind h
      refine zg_callS (st := []) (k_X8_share hx1) zY_X8_share ls_X8_410 rfl (zfit_m (by decide) (by decide)) (Nat.le_of_ble_eq_true rfl) dX8_isBestAgainst_21 rfl ?_
      refine zg_iload_n 2 dX8_isBestAgainst_24 rfl rfl ?_
      refine zg_icmp_le (tgt := 30) dX8_isBestAgainst_25 (by decide) (fun hc => ?_) (fun hc => ?_)
      · replace h := (if_pos hc).symm.trans h
        refine zg_iinc (ls' := [(1, .int v1), (2, .int v2), (3, .int v3), (4, .int (v4 + (1 : Int32)))]) 3 dX8_isBestAgainst_30 rfl zki_1 (Nat.le_of_ble_eq_true rfl) rfl ?_
        refine zg_goto (tgt := 10) dX8_isBestAgainst_33 (by decide) ?_
        exact ih _ _ _ _ h
      · replace h := (if_neg hc).symm.trans h
        refine zg_iconst dX8_isBestAgainst_28 zki_0 ?_
        obtain rfl := z_ret1 h
        exact zg_zret rfl dX8_isBestAgainst_29
set_option maxRecDepth 20000 in
set_option maxHeartbeats 4000000 in
theorem k_X8_isBestAgainst {T : List zN} {v0 : Int32} {v1 : Int32} {v2 : Int32} {r1 : Int32} {M : zM} (h : f8_isBestAgainst v0 v1 v2 = some r1) : zK T yX8_isBestAgainst cX8_isBestAgainst 5 (some .boolean) 3 [.int v0, .int v1, .int v2] M (some (.int r1)) M := by
  refine zK_of pl_X8 (Nat.le_of_ble_eq_true rfl) ?_
  show zJ T RX8 cX8_isBestAgainst 5 _ 0 0 0 [(0, .int v0), (1, .int v1), (2, .int v2)] [] M
  rw [f8_isBestAgainst] at h
  refine zg_iload_n 0 dX8_isBestAgainst_0 rfl rfl ?_
  refine zg_iload_n 1 dX8_isBestAgainst_1 rfl rfl ?_
  refine zg_iload_n 2 dX8_isBestAgainst_2 rfl rfl ?_
  obtain ⟨x1, hx1, h⟩ := z_bind h
  refine zg_callS (st := []) (k_X8_share hx1) zY_X8_share ls_X8_410 rfl (zfit_m (by decide) (by decide)) (Nat.le_of_ble_eq_true rfl) dX8_isBestAgainst_3 rfl ?_
  refine zg_istore_n (ls' := [(0, .int v0), (1, .int v1), (2, .int v2), (3, .int x1)]) dX8_isBestAgainst_6 rfl (Nat.le_of_ble_eq_true rfl) rfl ?_
  refine zg_iconst dX8_isBestAgainst_7 zki_0 ?_
  refine zg_istore (ls' := [(0, .int v0), (1, .int v1), (2, .int v2), (3, .int x1), (4, .int (0 : Int32))]) dX8_isBestAgainst_8 (Nat.le_of_ble_eq_true rfl) rfl ?_
  refine zo_sub (ls' := [(1, .int v1), (2, .int v2), (3, .int x1), (4, .int (0 : Int32))]) [1, 2, 3, 4] rfl ?_
  exact g8_isBestAgainst_10 zfuel _ _ _ _ h
set_option maxRecDepth 20000 in
set_option maxHeartbeats 4000000 in
theorem k_X8_drawnBelow {v1 : Int32} {M : zM} {r1 : Int32} {Mr : zM} (h : f8_drawnBelow v1 M = some (r1, Mr)) : zK ztops yX8_drawnBelow cX8_drawnBelow 2 (some .int) 0 [.ref 0, .int v1] M (some (.int r1)) Mr := by
  refine zK_of pl_X8 (Nat.le_of_ble_eq_true rfl) ?_
  show zJ ztops RX8 cX8_drawnBelow 2 _ 0 0 0 [(0, .ref 0), (1, .int v1)] [] M
  rw [f8_drawnBelow] at h
  refine zg_aload_n 0 dX8_drawnBelow_0 rfl rfl ?_
  refine zg_aload_n 0 dX8_drawnBelow_1 rfl rfl ?_
  refine zg_geti fl_X8_79 zt_0 rfl dX8_drawnBelow_2 ?_
  refine zg_ldcw kc_X8_413 dX8_drawnBelow_5 ?_
  refine zg_imul dX8_drawnBelow_8 ?_
  refine zg_sipush dX8_drawnBelow_9 zks_12345 ?_
  refine zg_iadd dX8_drawnBelow_12 ?_
  refine zg_puti fp_X8_79 zt_0 rfl dX8_drawnBelow_13 ?_
  refine zg_iload_n 1 dX8_drawnBelow_16 rfl rfl ?_
  refine zg_if_le (tgt := 32) dX8_drawnBelow_17 (by decide) (fun hc => ?_) (fun hc => ?_)
  · replace h := (if_pos hc).symm.trans h
    refine zg_iconst dX8_drawnBelow_32 zki_0 ?_
    obtain ⟨rfl, rfl⟩ := z_ret2 h
    exact zg_iret dX8_drawnBelow_33
  · replace h := (if_neg hc).symm.trans h
    refine zg_aload_n 0 dX8_drawnBelow_20 rfl rfl ?_
    refine zg_geti fl_X8_79 zt_0 rfl dX8_drawnBelow_21 ?_
    refine zg_bipush dX8_drawnBelow_24 zkb_16 ?_
    refine zg_iushr dX8_drawnBelow_26 ?_
    refine zg_iload_n 1 dX8_drawnBelow_27 rfl rfl ?_
    obtain ⟨x1, hx1, h⟩ := z_bind h
    refine zo_irem hx1 dX8_drawnBelow_28 ?_
    refine zg_goto (tgt := 33) dX8_drawnBelow_29 (by decide) ?_
    obtain ⟨rfl, rfl⟩ := z_ret2 h
    exact zg_iret dX8_drawnBelow_33
set_option maxRecDepth 20000 in
set_option maxHeartbeats 4000000 in
theorem k_X8_without {T : List zN} {v0 : Int32} {v1 : Int32} {r1 : Int32} {M : zM} (h : f8_without v0 v1 = some r1) : zK T yX8_without cX8_without 3 (some .int) 0 [.int v0, .int v1] M (some (.int r1)) M := by
  refine zK_of pl_X8 (Nat.le_of_ble_eq_true rfl) ?_
  show zJ T RX8 cX8_without 3 _ 0 0 0 [(0, .int v0), (1, .int v1)] [] M
  rw [f8_without] at h
  refine zg_iconst dX8_without_0 zki_1 ?_
  refine zg_iload_n 1 dX8_without_1 rfl rfl ?_
  refine zg_ishl dX8_without_2 ?_
  refine zg_iconst dX8_without_3 zki_1 ?_
  refine zg_isub dX8_without_4 ?_
  refine zg_istore_n (ls' := [(0, .int v0), (1, .int v1), (2, .int ((zshl (1 : Int32) v1) - (1 : Int32)))]) dX8_without_5 rfl (Nat.le_of_ble_eq_true rfl) rfl ?_
  refine zg_iload_n 0 dX8_without_6 rfl rfl ?_
  refine zg_iload_n 2 dX8_without_7 rfl rfl ?_
  refine zg_iand dX8_without_8 ?_
  refine zg_iload_n 0 dX8_without_9 rfl rfl ?_
  refine zg_iconst dX8_without_10 zki_1 ?_
  refine zg_iushr dX8_without_11 ?_
  refine zg_iload_n 2 dX8_without_12 rfl rfl ?_
  refine zg_iconst dX8_without_13 zki_m1 ?_
  refine zg_ixor dX8_without_14 ?_
  refine zg_iand dX8_without_15 ?_
  refine zg_ior dX8_without_16 ?_
  obtain rfl := z_ret1 h
  exact zg_iret dX8_without_17
set_option maxRecDepth 20000 in
set_option maxHeartbeats 4000000 in
theorem k_X8_with {T : List zN} {v0 : Int32} {v1 : Int32} {v2 : Int32} {r1 : Int32} {M : zM} (h : f8_with v0 v1 v2 = some r1) : zK T yX8_with cX8_with 4 (some .int) 0 [.int v0, .int v1, .int v2] M (some (.int r1)) M := by
  refine zK_of pl_X8 (Nat.le_of_ble_eq_true rfl) ?_
  show zJ T RX8 cX8_with 4 _ 0 0 0 [(0, .int v0), (1, .int v1), (2, .int v2)] [] M
  rw [f8_with] at h
  refine zg_iconst dX8_with_0 zki_1 ?_
  refine zg_iload_n 1 dX8_with_1 rfl rfl ?_
  refine zg_ishl dX8_with_2 ?_
  refine zg_iconst dX8_with_3 zki_1 ?_
  refine zg_isub dX8_with_4 ?_
  refine zg_istore_n (ls' := [(0, .int v0), (1, .int v1), (2, .int v2), (3, .int ((zshl (1 : Int32) v1) - (1 : Int32)))]) dX8_with_5 rfl (Nat.le_of_ble_eq_true rfl) rfl ?_
  refine zg_iload_n 0 dX8_with_6 rfl rfl ?_
  refine zg_iload_n 3 dX8_with_7 rfl rfl ?_
  refine zg_iand dX8_with_8 ?_
  refine zg_iload_n 2 dX8_with_9 rfl rfl ?_
  refine zg_iload_n 1 dX8_with_10 rfl rfl ?_
  refine zg_ishl dX8_with_11 ?_
  refine zg_ior dX8_with_12 ?_
  refine zg_iload_n 0 dX8_with_13 rfl rfl ?_
  refine zg_iload_n 3 dX8_with_14 rfl rfl ?_
  refine zg_iconst dX8_with_15 zki_m1 ?_
  refine zg_ixor dX8_with_16 ?_
  refine zg_iand dX8_with_17 ?_
  refine zg_iconst dX8_with_18 zki_1 ?_
  refine zg_ishl dX8_with_19 ?_
  refine zg_ior dX8_with_20 ?_
  obtain rfl := z_ret1 h
  exact zg_iret dX8_with_21
set_option maxRecDepth 20000 in
set_option maxHeartbeats 4000000 in
theorem k_X9_thrown {r1 : Int32} {M : zM} (h : f9_thrown M = some r1) : zK ztops yX9_thrown cX9_thrown 1 (some .int) 0 [.ref 39] M (some (.int r1)) M := by
  refine zK_of pl_X9 (Nat.le_of_ble_eq_true rfl) ?_
  show zJ ztops RX9 cX9_thrown 1 _ 0 0 0 [(0, .ref 39)] [] M
  rw [f9_thrown] at h
  refine zg_aload_n 0 dX9_thrown_0 rfl rfl ?_
  refine zg_geti fl_X9_3 zt_39 rfl dX9_thrown_1 ?_
  obtain rfl := z_ret1 h
  exact zg_iret dX9_thrown_4
set_option maxRecDepth 20000 in
set_option maxHeartbeats 4000000 in
theorem k_X9_refuse {M : zM} {r1 : Int32} {Mr : zM} (h : f9_refuse M = some (r1, Mr)) : zK ztops yX9_refuse cX9_refuse 1 (some .int) 0 [.ref 39] M (some (.int r1)) Mr := by
  refine zK_of pl_X9 (Nat.le_of_ble_eq_true rfl) ?_
  show zJ ztops RX9 cX9_refuse 1 _ 0 0 0 [(0, .ref 39)] [] M
  rw [f9_refuse] at h
  refine zg_aload_n 0 dX9_refuse_0 rfl rfl ?_
  refine zg_iconst dX9_refuse_1 zki_1 ?_
  refine zg_puti fp_X9_3 zt_39 rfl dX9_refuse_2 ?_
  refine zg_iconst dX9_refuse_5 zki_0 ?_
  obtain ⟨rfl, rfl⟩ := z_ret2 h
  exact zg_iret dX9_refuse_6
set_option maxRecDepth 20000 in
set_option maxHeartbeats 4000000 in
theorem k_X9_in {T : List zN} {v0 : Int64} {v2 : Int64} {v4 : Int64} {r1 : Int32} {M : zM} (h : f9_in v0 v2 v4 = some r1) : zK T yX9_in cX9_in 6 (some .boolean) 0 [.long v0, .long v2, .long v4] M (some (.int r1)) M := by
  refine zK_of pl_X9 (Nat.le_of_ble_eq_true rfl) ?_
  show zJ T RX9 cX9_in 6 _ 0 0 0 [(0, .long v0), (2, .long v2), (4, .long v4)] [] M
  rw [f9_in] at h
  refine zg_lload_n 0 dX9_in_0 rfl rfl ?_
  refine zg_lload_n 1 dX9_in_1 rfl rfl ?_
  refine zg_lcmp dX9_in_2 ?_
  suffices hj : zJ T RX9 cX9_in 6 (zBm T 0 (some .boolean) (some (.int r1)) M) 0 0 18 [(0, .long v0), (2, .long v2), (4, .long v4)] [.int (if (lg_cmp v0 v2) < 0 then (0 : Int32) else (if 0 < (lg_cmp v0 v4) then (0 : Int32) else (1 : Int32)))] M by
    refine zg_if_lt (tgt := 17) dX9_in_3 (by decide) (fun hc => ?_) (fun hc => ?_)
    · rw [show (if (lg_cmp v0 v2) < 0 then (0 : Int32) else (if 0 < (lg_cmp v0 v4) then (0 : Int32) else (1 : Int32))) = (0 : Int32) from if_pos hc] at hj
      refine zg_iconst dX9_in_17 zki_0 ?_
      exact hj
    · rw [show (if (lg_cmp v0 v2) < 0 then (0 : Int32) else (if 0 < (lg_cmp v0 v4) then (0 : Int32) else (1 : Int32))) = (if 0 < (lg_cmp v0 v4) then (0 : Int32) else (1 : Int32)) from if_neg hc] at hj
      refine zg_lload_n 0 dX9_in_6 rfl rfl ?_
      refine zg_lload 2 dX9_in_7 rfl ?_
      refine zg_lcmp dX9_in_9 ?_
      refine zg_if_gt (tgt := 17) dX9_in_10 (by decide) (fun hc => ?_) (fun hc => ?_)
      · rw [show (if 0 < (lg_cmp v0 v4) then (0 : Int32) else (1 : Int32)) = (0 : Int32) from if_pos hc] at hj
        refine zg_iconst dX9_in_17 zki_0 ?_
        exact hj
      · rw [show (if 0 < (lg_cmp v0 v4) then (0 : Int32) else (1 : Int32)) = (1 : Int32) from if_neg hc] at hj
        refine zg_iconst dX9_in_13 zki_1 ?_
        refine zg_goto (tgt := 18) dX9_in_14 (by decide) ?_
        exact hj
  obtain rfl := z_ret1 h
  exact zg_zret (zn_ite rfl (zn_ite rfl rfl)) dX9_in_18
set_option maxRecDepth 20000 in
set_option maxHeartbeats 4000000 in
theorem k_X9_has {T : List zN} {v0 : Int32} {v1 : Int32} {r1 : Int32} {M : zM} (h : f9_has v0 v1 = some r1) : zK T yX9_has cX9_has 2 (some .boolean) 0 [.int v0, .int v1] M (some (.int r1)) M := by
  refine zK_of pl_X9 (Nat.le_of_ble_eq_true rfl) ?_
  show zJ T RX9 cX9_has 2 _ 0 0 0 [(0, .int v0), (1, .int v1)] [] M
  rw [f9_has] at h
  refine zg_iload_n 0 dX9_has_0 rfl rfl ?_
  refine zg_iload_n 1 dX9_has_1 rfl rfl ?_
  refine zg_ishr dX9_has_2 ?_
  refine zg_iconst dX9_has_3 zki_1 ?_
  refine zg_iand dX9_has_4 ?_
  refine zg_iconst dX9_has_5 zki_1 ?_
  suffices hj : zJ T RX9 cX9_has 2 (zBm T 0 (some .boolean) (some (.int r1)) M) 0 0 14 [(0, .int v0), (1, .int v1)] [.int (if ((zshr v0 v1) &&& (1 : Int32)) = (1 : Int32) then (1 : Int32) else (0 : Int32))] M by
    refine zg_icmp_ne (tgt := 13) dX9_has_6 (by decide) (fun hc => ?_) (fun hc => ?_)
    · rw [show (if ((zshr v0 v1) &&& (1 : Int32)) = (1 : Int32) then (1 : Int32) else (0 : Int32)) = (0 : Int32) from if_neg hc] at hj
      refine zg_iconst dX9_has_13 zki_0 ?_
      exact hj
    · rw [show (if ((zshr v0 v1) &&& (1 : Int32)) = (1 : Int32) then (1 : Int32) else (0 : Int32)) = (1 : Int32) from if_pos hc] at hj
      refine zg_iconst dX9_has_9 zki_1 ?_
      refine zg_goto (tgt := 14) dX9_has_10 (by decide) ?_
      exact hj
  obtain rfl := z_ret1 h
  exact zg_zret (zn_ite rfl rfl) dX9_has_14
set_option maxRecDepth 20000 in
set_option maxHeartbeats 4000000 in
theorem k_X9_flag {T : List zN} {v0 : Int32} {r1 : Int32} {M : zM} (h : f9_flag v0 = some r1) : zK T yX9_flag cX9_flag 1 (some .int) 0 [.int v0] M (some (.int r1)) M := by
  refine zK_of pl_X9 (Nat.le_of_ble_eq_true rfl) ?_
  show zJ T RX9 cX9_flag 1 _ 0 0 0 [(0, .int v0)] [] M
  rw [f9_flag] at h
  refine zg_iload_n 0 dX9_flag_0 rfl rfl ?_
  suffices hj : zJ T RX9 cX9_flag 1 (zBm T 0 (some .int) (some (.int r1)) M) 0 0 9 [(0, .int v0)] [.int (if v0 = 0 then (0 : Int32) else (1 : Int32))] M by
    refine zg_if_eq (tgt := 8) dX9_flag_1 (by decide) (fun hc => ?_) (fun hc => ?_)
    · rw [show (if v0 = 0 then (0 : Int32) else (1 : Int32)) = (0 : Int32) from if_pos hc] at hj
      refine zg_iconst dX9_flag_8 zki_0 ?_
      exact hj
    · rw [show (if v0 = 0 then (0 : Int32) else (1 : Int32)) = (1 : Int32) from if_neg hc] at hj
      refine zg_iconst dX9_flag_4 zki_1 ?_
      refine zg_goto (tgt := 9) dX9_flag_5 (by decide) ?_
      exact hj
  obtain rfl := z_ret1 h
  exact zg_iret dX9_flag_9
set_option maxRecDepth 20000 in
set_option maxHeartbeats 4000000 in
theorem k_X9_common {T : List zN} {M : zM} : ∀ (n : Nat) {v0 v2 r1 : Int64}, f9_common n v0 v2 = some r1 → zK T yX9_common cX9_common 4 (some .long) n [.long v0, .long v2] M (some (.long r1)) M := by
  intro n
  induction n with
  | zero => intro v0 v2 r1 h; cases h
  | succ n ih =>
    intro v0 v2 r1 h
    have hdr : n < n + 1 := Nat.lt_succ_self n
    have hrec : ∀ {a b x : Int64}, f9_common n a b = some x → zK T yX9_common cX9_common 4 (some .long) n [.long a, .long b] M (some (.long x)) M := fun h => ih h
    refine zK_of pl_X9 (Nat.le_of_ble_eq_true rfl) ?_
    show zJ T RX9 cX9_common 4 _ 0 0 0 [(0, .long v0), (2, .long v2)] [] M
    rw [f9_common] at h
    refine zg_lload_n 1 dX9_common_0 rfl rfl ?_
    refine zg_lconst dX9_common_1 (v := 0) rfl ?_
    refine zg_lcmp dX9_common_2 ?_
    refine zg_if_ne (tgt := 10) dX9_common_3 (by decide) (fun hc => ?_) (fun hc => ?_)
    · replace h := (if_neg hc).symm.trans h
      refine zg_lload_n 1 dX9_common_10 rfl rfl ?_
      refine zg_lload_n 0 dX9_common_11 rfl rfl ?_
      refine zg_lload_n 1 dX9_common_12 rfl rfl ?_
      obtain ⟨x1, hx1, h⟩ := z_bind h
      refine zo_lrem hx1 dX9_common_13 ?_
      obtain ⟨x2, hx2, h⟩ := z_bind h
      refine zg_callS (st := []) (hrec hx2) zY_X9_common ls_X9_7 rfl (zfit_m hdr (by decide)) (Nat.le_of_ble_eq_true rfl) dX9_common_14 rfl ?_
      obtain rfl := z_ret1 h
      exact zg_lret dX9_common_17
    · replace h := (if_pos hc).symm.trans h
      refine zg_lload_n 0 dX9_common_6 rfl rfl ?_
      refine zg_goto (tgt := 17) dX9_common_7 (by decide) ?_
      obtain rfl := z_ret1 h
      exact zg_lret dX9_common_17
set_option maxRecDepth 20000 in
set_option maxHeartbeats 4000000 in
theorem k_X9_enters {v1 : Int64} {M : zM} {Mr : zM} (h : f9_enters v1 M = some Mr) : zK ztops yX9_enters cX9_enters 3 (none) 0 [.ref 39, .long v1] M none Mr := by
  refine zK_of pl_X9 (Nat.le_of_ble_eq_true rfl) ?_
  show zJ ztops RX9 cX9_enters 3 _ 0 0 0 [(0, .ref 39), (1, .long v1)] [] M
  rw [f9_enters] at h
  refine zg_aload_n 0 dX9_enters_0 rfl rfl ?_
  refine zo_getr 40 0 rfl fl_X9_11 zt_39 rfl dX9_enters_1 ?_
  refine zg_aload_n 0 dX9_enters_4 rfl rfl ?_
  refine zg_geti fl_X9_15 zt_39 rfl dX9_enters_5 ?_
  refine zg_lload_n 1 dX9_enters_8 rfl rfl ?_
  obtain ⟨M1, hM1, h⟩ := z_bind h
  refine zo_last zt_40 hM1 dX9_enters_9 ?_
  refine zg_aload_n 0 dX9_enters_10 rfl rfl ?_
  refine zg_dup dX9_enters_11 rfl ?_
  refine zg_geti fl_X9_15 zt_39 rfl dX9_enters_12 ?_
  refine zg_iconst dX9_enters_15 zki_1 ?_
  refine zg_iadd dX9_enters_16 ?_
  refine zg_puti fp_X9_15 zt_39 rfl dX9_enters_17 ?_
  obtain rfl := z_ret1 h
  exact zg_vret dX9_enters_20
set_option maxRecDepth 20000 in
set_option maxHeartbeats 4000000 in
theorem g9_copies_2 {T : List zN} {a0 : Nat} {a1 : Nat} (h0 : T[a0]? = some (.inl (0, 9))) (h1 : T[a1]? = some (.inl (0, 9))) {Mr : zM} : ∀ (n : Nat) (v2 : Int32) (M : zM), f9_copies_2 a0 a1 n v2 M = some Mr → zJ T RX9 cX9_copies 3 (zBm T 0 (none) none Mr) 0 0 2 [(0, .ref a0), (1, .ref a1), (2, .int v2)] [] M := by
  intro n
  induction n with
  | zero => intro v2 M h; cases h
  | succ n ih =>
    intro v2 M h
    rw [f9_copies_2] at h
    refine zg_iload_n 2 dX9_copies_2 rfl rfl ?_
    refine zg_bipush dX9_copies_3 zkb_9 ?_
    refine zg_icmp_ge (tgt := 20) dX9_copies_5 (by decide) (fun hc => ?_) (fun hc => ?_)
    · replace h := (if_pos hc).symm.trans h
      obtain rfl := z_ret1 h
      exact zg_vret dX9_copies_20
    · replace h := (if_neg hc).symm.trans h
      refine zg_aload_n 0 dX9_copies_8 rfl rfl ?_
      refine zg_iload_n 2 dX9_copies_9 rfl rfl ?_
      refine zg_aload_n 1 dX9_copies_10 rfl rfl ?_
      refine zg_iload_n 2 dX9_copies_11 rfl rfl ?_
      obtain ⟨x1, hx1, h⟩ := z_bind h
      refine zo_iald h1 hx1 dX9_copies_12 ?_
      obtain ⟨M2, hM2, h⟩ := z_bind h
      refine zo_iast h0 hM2 dX9_copies_13 ?_
      refine zg_iinc (ls' := [(0, .ref a0), (1, .ref a1), (2, .int (v2 + (1 : Int32)))]) 2 dX9_copies_14 rfl zki_1 (Nat.le_of_ble_eq_true rfl) rfl ?_
      refine zg_goto (tgt := 2) dX9_copies_17 (by decide) ?_
      exact ih _ _ h
set_option maxRecDepth 20000 in
set_option maxHeartbeats 4000000 in
theorem k_X9_copies {T : List zN} {a0 : Nat} {a1 : Nat} (h0 : T[a0]? = some (.inl (0, 9))) (h1 : T[a1]? = some (.inl (0, 9))) {M : zM} {Mr : zM} (h : f9_copies a0 a1 M = some Mr) : zK T yX9_copies cX9_copies 3 (none) 0 [.ref a0, .ref a1] M none Mr := by
  refine zK_of pl_X9 (Nat.le_of_ble_eq_true rfl) ?_
  show zJ T RX9 cX9_copies 3 _ 0 0 0 [(0, .ref a0), (1, .ref a1)] [] M
  rw [f9_copies] at h
  refine zg_iconst dX9_copies_0 zki_0 ?_
  refine zg_istore_n (ls' := [(0, .ref a0), (1, .ref a1), (2, .int (0 : Int32))]) dX9_copies_1 rfl (Nat.le_of_ble_eq_true rfl) rfl ?_
  exact g9_copies_2 h0 h1 zfuel _ _ h
set_option maxRecDepth 20000 in
set_option maxHeartbeats 4000000 in
theorem k_X9_manyOf {T : List zN} {a0 : Nat} (h0 : T[a0]? = some (.inl (0, 9))) {v1 : Int32} {r1 : Int32} {M : zM} (h : f9_manyOf a0 v1 M = some r1) : zK T yX9_manyOf cX9_manyOf 2 (some .int) 0 [.ref a0, .int v1] M (some (.int r1)) M := by
  refine zK_of pl_X9 (Nat.le_of_ble_eq_true rfl) ?_
  show zJ T RX9 cX9_manyOf 2 _ 0 0 0 [(0, .ref a0), (1, .int v1)] [] M
  rw [f9_manyOf] at h
  refine zg_aload_n 0 dX9_manyOf_0 rfl rfl ?_
  refine zg_bipush dX9_manyOf_1 zkb_6 ?_
  refine zg_iload_n 1 dX9_manyOf_3 rfl rfl ?_
  refine zg_iadd dX9_manyOf_4 ?_
  obtain ⟨x1, hx1, h⟩ := z_bind h
  refine zo_iald h0 hx1 dX9_manyOf_5 ?_
  obtain rfl := z_ret1 h
  exact zg_iret dX9_manyOf_6
set_option maxRecDepth 20000 in
set_option maxHeartbeats 4000000 in
theorem k_X9_cellsOf {T : List zN} {a0 : Nat} (h0 : T[a0]? = some (.inl (0, 9))) {v1 : Int32} {r1 : Int32} {M : zM} (h : f9_cellsOf a0 v1 M = some r1) : zK T yX9_cellsOf cX9_cellsOf 2 (some .int) 0 [.ref a0, .int v1] M (some (.int r1)) M := by
  refine zK_of pl_X9 (Nat.le_of_ble_eq_true rfl) ?_
  show zJ T RX9 cX9_cellsOf 2 _ 0 0 0 [(0, .ref a0), (1, .int v1)] [] M
  rw [f9_cellsOf] at h
  refine zg_aload_n 0 dX9_cellsOf_0 rfl rfl ?_
  refine zg_bipush dX9_cellsOf_1 zkb_7 ?_
  refine zg_iload_n 1 dX9_cellsOf_3 rfl rfl ?_
  refine zg_isub dX9_cellsOf_4 ?_
  obtain ⟨x1, hx1, h⟩ := z_bind h
  refine zo_iald h0 hx1 dX9_cellsOf_5 ?_
  obtain rfl := z_ret1 h
  exact zg_iret dX9_cellsOf_6
set_option maxRecDepth 20000 in
set_option maxHeartbeats 4000000 in
theorem k_X9_threadsOf {T : List zN} {a0 : Nat} (h0 : T[a0]? = some (.inl (0, 9))) {r1 : Int32} {M : zM} (h : f9_threadsOf a0 M = some r1) : zK T yX9_threadsOf cX9_threadsOf 1 (some .int) 0 [.ref a0] M (some (.int r1)) M := by
  refine zK_of pl_X9 (Nat.le_of_ble_eq_true rfl) ?_
  show zJ T RX9 cX9_threadsOf 1 _ 0 0 0 [(0, .ref a0)] [] M
  rw [f9_threadsOf] at h
  refine zg_aload_n 0 dX9_threadsOf_0 rfl rfl ?_
  refine zg_bipush dX9_threadsOf_1 zkb_6 ?_
  refine zo_ialdc 6 h0 (by decide) rfl dX9_threadsOf_3 ?_
  refine zg_aload_n 0 dX9_threadsOf_4 rfl rfl ?_
  refine zg_bipush dX9_threadsOf_5 zkb_7 ?_
  refine zo_ialdc 7 h0 (by decide) rfl dX9_threadsOf_7 ?_
  refine zg_iadd dX9_threadsOf_8 ?_
  obtain rfl := z_ret1 h
  exact zg_iret dX9_threadsOf_9
set_option maxRecDepth 20000 in
set_option maxHeartbeats 4000000 in
theorem k_X9_isThread {T : List zN} {a0 : Nat} (h0 : T[a0]? = some (.inl (0, 9))) {v1 : Int32} {v2 : Int32} {r1 : Int32} {M : zM} (h : f9_isThread a0 v1 v2 M = some r1) : zK T yX9_isThread cX9_isThread 3 (some .boolean) 2 [.ref a0, .int v1, .int v2] M (some (.int r1)) M := by
  refine zK_of pl_X9 (Nat.le_of_ble_eq_true rfl) ?_
  show zJ T RX9 cX9_isThread 3 _ 0 0 0 [(0, .ref a0), (1, .int v1), (2, .int v2)] [] M
  rw [f9_isThread] at h
  refine zg_iload_n 1 dX9_isThread_0 rfl rfl ?_
  refine zg_i2l dX9_isThread_1 ?_
  refine zg_lconst dX9_isThread_2 (v := 0) rfl ?_
  refine zg_lconst dX9_isThread_3 (v := 1) rfl ?_
  obtain ⟨x1, hx1, h⟩ := z_bind h
  refine zg_callS (st := []) (k_X9_in hx1) zY_X9_in ls_X9_104 rfl (zfit_m (by decide) (by decide)) (Nat.le_of_ble_eq_true rfl) dX9_isThread_4 rfl ?_
  refine zg_if_eq (tgt := 31) dX9_isThread_7 (by decide) (fun hc => ?_) (fun hc => ?_)
  · replace h := (if_pos hc).symm.trans h
    refine zg_iconst dX9_isThread_31 zki_0 ?_
    obtain rfl := z_ret1 h
    exact zg_zret rfl dX9_isThread_32
  · replace h := (if_neg hc).symm.trans h
    refine zg_iload_n 2 dX9_isThread_10 rfl rfl ?_
    refine zg_i2l dX9_isThread_11 ?_
    refine zg_lconst dX9_isThread_12 (v := 0) rfl ?_
    refine zg_aload_n 0 dX9_isThread_13 rfl rfl ?_
    refine zg_iload_n 1 dX9_isThread_14 rfl rfl ?_
    obtain ⟨x2, hx2, h⟩ := z_bind h
    refine zg_callS (st := [.long (0 : Int64), .long (Int32.toInt64 v2)]) (k_X9_manyOf h0 hx2) zY_X9_manyOf ls_X9_108 rfl (zfit_m (by decide) (by decide)) (Nat.le_of_ble_eq_true rfl) dX9_isThread_15 rfl ?_
    refine zg_iconst dX9_isThread_18 zki_1 ?_
    refine zg_isub dX9_isThread_19 ?_
    refine zg_i2l dX9_isThread_20 ?_
    obtain ⟨x3, hx3, h⟩ := z_bind h
    refine zg_callS (st := []) (k_X9_in hx3) zY_X9_in ls_X9_104 rfl (zfit_m (by decide) (by decide)) (Nat.le_of_ble_eq_true rfl) dX9_isThread_21 rfl ?_
    suffices hj : zJ T RX9 cX9_isThread 3 (zBm T 2 (some .boolean) (some (.int r1)) M) 0 0 32 [(0, .ref a0), (1, .int v1), (2, .int v2)] [.int (if x3 = 0 then (0 : Int32) else (1 : Int32))] M by
      refine zg_if_eq (tgt := 31) dX9_isThread_24 (by decide) (fun hc => ?_) (fun hc => ?_)
      · rw [show (if x3 = 0 then (0 : Int32) else (1 : Int32)) = (0 : Int32) from if_pos hc] at hj
        refine zg_iconst dX9_isThread_31 zki_0 ?_
        exact hj
      · rw [show (if x3 = 0 then (0 : Int32) else (1 : Int32)) = (1 : Int32) from if_neg hc] at hj
        refine zg_iconst dX9_isThread_27 zki_1 ?_
        refine zg_goto (tgt := 32) dX9_isThread_28 (by decide) ?_
        exact hj
    obtain rfl := z_ret1 h
    exact zg_zret (zn_ite rfl rfl) dX9_isThread_32
set_option maxRecDepth 20000 in
set_option maxHeartbeats 4000000 in
theorem k_X9_full {T : List zN} {v0 : Int32} {r1 : Int32} {M : zM} (h : f9_full v0 = some r1) : zK T yX9_full cX9_full 1 (some .int) 0 [.int v0] M (some (.int r1)) M := by
  refine zK_of pl_X9 (Nat.le_of_ble_eq_true rfl) ?_
  show zJ T RX9 cX9_full 1 _ 0 0 0 [(0, .int v0)] [] M
  rw [f9_full] at h
  refine zg_iconst dX9_full_0 zki_1 ?_
  refine zg_iload_n 0 dX9_full_1 rfl rfl ?_
  refine zg_ishl dX9_full_2 ?_
  refine zg_iconst dX9_full_3 zki_1 ?_
  refine zg_isub dX9_full_4 ?_
  obtain rfl := z_ret1 h
  exact zg_iret dX9_full_5
set_option maxRecDepth 20000 in
set_option maxHeartbeats 4000000 in
theorem g9_bitsOf_13 {T : List zN} {a0 : Nat} (h0 : T[a0]? = some (.inl (0, 9))) {r1 : Int32} {M : zM} : ∀ (n : Nat) (v2 : Int32) (v3 : Int32) (v4 : Int32), f9_bitsOf_13 a0 n v2 v3 v4 M = some r1 → zJ T RX9 cX9_bitsOf 5 (zBm T 2 (some .int) (some (.int r1)) M) 0 0 13 [(0, .ref a0), (2, .int v2), (3, .int v3), (4, .int v4)] [] M := by
  intro n
  induction n with
  | zero => intro v2 v3 v4 h; cases h
  | succ n ih =>
    intro v2 v3 v4 h
    rw [f9_bitsOf_13] at h
    refine zg_iload 3 dX9_bitsOf_13 rfl ?_
    refine zg_aload_n 0 dX9_bitsOf_15 rfl rfl ?_
    refine zg_bipush dX9_bitsOf_16 zkb_6 ?_
    refine zo_ialdc 6 h0 (by decide) rfl dX9_bitsOf_18 ?_
    refine zg_icmp_ge (tgt := 50) dX9_bitsOf_19 (by decide) (fun hc => ?_) (fun hc => ?_)
    · replace h := (if_pos hc).symm.trans h
      refine zg_iload_n 2 dX9_bitsOf_50 rfl rfl ?_
      obtain rfl := z_ret1 h
      exact zg_iret dX9_bitsOf_51
    · replace h := (if_neg hc).symm.trans h
      refine zg_iload_n 2 dX9_bitsOf_22 rfl rfl ?_
      refine zg_aload_n 0 dX9_bitsOf_23 rfl rfl ?_
      refine zg_iload 3 dX9_bitsOf_24 rfl ?_
      obtain ⟨x1, hx1, h⟩ := z_bind h
      refine zo_iald h0 hx1 dX9_bitsOf_26 ?_
      refine zg_iload_n 1 dX9_bitsOf_27 rfl rfl ?_
      obtain ⟨x2, hx2, h⟩ := z_bind h
      refine zg_callS (st := [.int v3]) (k_X9_has hx2) zY_X9_has ls_X9_112 rfl (zfit_m (by decide) (by decide)) (Nat.le_of_ble_eq_true rfl) dX9_bitsOf_28 rfl ?_
      suffices hj : zJ T RX9 cX9_bitsOf 5 (zBm T 2 (some .int) (some (.int r1)) M) 0 0 42 [(0, .ref a0), (2, .int v2), (3, .int v3), (4, .int v4)] [.int (if x2 = 0 then (zshl (1 : Int32) v4) else (0 : Int32)), .int v3] M by
        refine zg_if_eq (tgt := 38) dX9_bitsOf_31 (by decide) (fun hc => ?_) (fun hc => ?_)
        · rw [show (if x2 = 0 then (zshl (1 : Int32) v4) else (0 : Int32)) = (zshl (1 : Int32) v4) from if_pos hc] at hj
          refine zg_iconst dX9_bitsOf_38 zki_1 ?_
          refine zg_iload 3 dX9_bitsOf_39 rfl ?_
          refine zg_ishl dX9_bitsOf_41 ?_
          exact hj
        · rw [show (if x2 = 0 then (zshl (1 : Int32) v4) else (0 : Int32)) = (0 : Int32) from if_neg hc] at hj
          refine zg_iconst dX9_bitsOf_34 zki_0 ?_
          refine zg_goto (tgt := 42) dX9_bitsOf_35 (by decide) ?_
          exact hj
      refine zg_ior dX9_bitsOf_42 ?_
      refine zg_istore_n (ls' := [(0, .ref a0), (2, .int v2), (3, .int (v3 ||| (if x2 = 0 then (zshl (1 : Int32) v4) else (0 : Int32)))), (4, .int v4)]) dX9_bitsOf_43 rfl (Nat.le_of_ble_eq_true rfl) rfl ?_
      refine zg_iinc (ls' := [(0, .ref a0), (2, .int v2), (3, .int (v3 ||| (if x2 = 0 then (zshl (1 : Int32) v4) else (0 : Int32)))), (4, .int (v4 + (1 : Int32)))]) 3 dX9_bitsOf_44 rfl zki_1 (Nat.le_of_ble_eq_true rfl) rfl ?_
      refine zg_goto (tgt := 13) dX9_bitsOf_47 (by decide) ?_
      exact ih _ _ _ h
set_option maxRecDepth 20000 in
set_option maxHeartbeats 4000000 in
theorem k_X9_bitsOf {T : List zN} {a0 : Nat} (h0 : T[a0]? = some (.inl (0, 9))) {v1 : Int32} {v2 : Int32} {r1 : Int32} {M : zM} (h : f9_bitsOf a0 v1 v2 M = some r1) : zK T yX9_bitsOf cX9_bitsOf 5 (some .int) 2 [.ref a0, .int v1, .int v2] M (some (.int r1)) M := by
  refine zK_of pl_X9 (Nat.le_of_ble_eq_true rfl) ?_
  show zJ T RX9 cX9_bitsOf 5 _ 0 0 0 [(0, .ref a0), (1, .int v1), (2, .int v2)] [] M
  rw [f9_bitsOf] at h
  refine zg_iload_n 1 dX9_bitsOf_0 rfl rfl ?_
  refine zg_if_ne (tgt := 8) dX9_bitsOf_1 (by decide) (fun hc => ?_) (fun hc => ?_)
  · replace h := (if_neg hc).symm.trans h
    refine zg_iconst dX9_bitsOf_8 zki_0 ?_
    refine zg_istore_n (ls' := [(0, .ref a0), (1, .int v1), (2, .int v2), (3, .int (0 : Int32))]) dX9_bitsOf_9 rfl (Nat.le_of_ble_eq_true rfl) rfl ?_
    refine zg_iconst dX9_bitsOf_10 zki_0 ?_
    refine zg_istore (ls' := [(0, .ref a0), (1, .int v1), (2, .int v2), (3, .int (0 : Int32)), (4, .int (0 : Int32))]) dX9_bitsOf_11 (Nat.le_of_ble_eq_true rfl) rfl ?_
    refine zo_sub (ls' := [(0, .ref a0), (2, .int v2), (3, .int (0 : Int32)), (4, .int (0 : Int32))]) [0, 2, 3, 4] rfl ?_
    exact g9_bitsOf_13 h0 zfuel _ _ _ h
  · replace h := (if_pos hc).symm.trans h
    refine zg_aload_n 0 dX9_bitsOf_4 rfl rfl ?_
    refine zg_iload_n 2 dX9_bitsOf_5 rfl rfl ?_
    obtain ⟨x1, hx1, h⟩ := z_bind h
    refine zo_iald h0 hx1 dX9_bitsOf_6 ?_
    obtain rfl := z_ret1 h
    exact zg_iret dX9_bitsOf_7
set_option maxRecDepth 20000 in
set_option maxHeartbeats 4000000 in
theorem g9_changesOf_4 {T : List zN} {r1 : Int32} {M : zM} : ∀ (n : Nat) (v0 : Int32) (v1 : Int32) (v2 : Int32) (v3 : Int32), f9_changesOf_4 n v0 v1 v2 v3 = some r1 → zJ T RX9 cX9_changesOf 4 (zBm T 2 (some .int) (some (.int r1)) M) 0 0 4 [(0, .int v0), (1, .int v1), (2, .int v2), (3, .int v3)] [] M := by
  intro n
  induction n with
  | zero => intro v0 v1 v2 v3 h; cases h
  | succ n ih =>
    intro v0 v1 v2 v3 h
    rw [f9_changesOf_4] at h
    refine zg_iload_n 3 dX9_changesOf_4 rfl rfl ?_
    refine zg_iload_n 1 dX9_changesOf_5 rfl rfl ?_
    refine zg_icmp_ge (tgt := 41) dX9_changesOf_6 (by decide) (fun hc => ?_) (fun hc => ?_)
    · replace h := (if_pos hc).symm.trans h
      refine zg_iload_n 2 dX9_changesOf_41 rfl rfl ?_
      obtain rfl := z_ret1 h
      exact zg_iret dX9_changesOf_42
    · replace h := (if_neg hc).symm.trans h
      refine zg_iload_n 2 dX9_changesOf_9 rfl rfl ?_
      refine zg_iload_n 0 dX9_changesOf_10 rfl rfl ?_
      refine zg_iload_n 3 dX9_changesOf_11 rfl rfl ?_
      obtain ⟨x1, hx1, h⟩ := z_bind h
      refine zg_callS (st := [.int v2]) (k_X9_has hx1) zY_X9_has ls_X9_112 rfl (zfit_m (by decide) (by decide)) (Nat.le_of_ble_eq_true rfl) dX9_changesOf_12 rfl ?_
      refine zg_iload_n 0 dX9_changesOf_15 rfl rfl ?_
      refine zg_iload_n 3 dX9_changesOf_16 rfl rfl ?_
      refine zg_iconst dX9_changesOf_17 zki_1 ?_
      refine zg_isub dX9_changesOf_18 ?_
      obtain ⟨x2, hx2, h⟩ := z_bind h
      refine zg_callS (st := [.int x1, .int v2]) (k_X9_has hx2) zY_X9_has ls_X9_112 rfl (zfit_m (by decide) (by decide)) (Nat.le_of_ble_eq_true rfl) dX9_changesOf_19 rfl ?_
      suffices hj : zJ T RX9 cX9_changesOf 4 (zBm T 2 (some .int) (some (.int r1)) M) 0 0 30 [(0, .int v0), (1, .int v1), (2, .int v2), (3, .int v3)] [.int (if x1 = x2 then (0 : Int32) else (1 : Int32)), .int v2] M by
        refine zg_icmp_eq (tgt := 29) dX9_changesOf_22 (by decide) (fun hc => ?_) (fun hc => ?_)
        · rw [show (if x1 = x2 then (0 : Int32) else (1 : Int32)) = (0 : Int32) from if_pos hc] at hj
          refine zg_iconst dX9_changesOf_29 zki_0 ?_
          exact hj
        · rw [show (if x1 = x2 then (0 : Int32) else (1 : Int32)) = (1 : Int32) from if_neg hc] at hj
          refine zg_iconst dX9_changesOf_25 zki_1 ?_
          refine zg_goto (tgt := 30) dX9_changesOf_26 (by decide) ?_
          exact hj
      obtain ⟨x3, hx3, h⟩ := z_bind h
      refine zg_callS (st := [.int v2]) (k_X9_flag hx3) zY_X9_flag ls_X9_116 rfl (zfit_m (by decide) (by decide)) (Nat.le_of_ble_eq_true rfl) dX9_changesOf_30 rfl ?_
      refine zg_iadd dX9_changesOf_33 ?_
      refine zg_istore_n (ls' := [(0, .int v0), (1, .int v1), (2, .int (v2 + x3)), (3, .int v3)]) dX9_changesOf_34 rfl (Nat.le_of_ble_eq_true rfl) rfl ?_
      refine zg_iinc (ls' := [(0, .int v0), (1, .int v1), (2, .int (v2 + x3)), (3, .int (v3 + (1 : Int32)))]) 3 dX9_changesOf_35 rfl zki_1 (Nat.le_of_ble_eq_true rfl) rfl ?_
      refine zg_goto (tgt := 4) dX9_changesOf_38 (by decide) ?_
      exact ih _ _ _ _ h
set_option maxRecDepth 20000 in
set_option maxHeartbeats 4000000 in
theorem k_X9_changesOf {T : List zN} {v0 : Int32} {v1 : Int32} {r1 : Int32} {M : zM} (h : f9_changesOf v0 v1 = some r1) : zK T yX9_changesOf cX9_changesOf 4 (some .int) 2 [.int v0, .int v1] M (some (.int r1)) M := by
  refine zK_of pl_X9 (Nat.le_of_ble_eq_true rfl) ?_
  show zJ T RX9 cX9_changesOf 4 _ 0 0 0 [(0, .int v0), (1, .int v1)] [] M
  rw [f9_changesOf] at h
  refine zg_iconst dX9_changesOf_0 zki_0 ?_
  refine zg_istore_n (ls' := [(0, .int v0), (1, .int v1), (2, .int (0 : Int32))]) dX9_changesOf_1 rfl (Nat.le_of_ble_eq_true rfl) rfl ?_
  refine zg_iconst dX9_changesOf_2 zki_1 ?_
  refine zg_istore_n (ls' := [(0, .int v0), (1, .int v1), (2, .int (0 : Int32)), (3, .int (1 : Int32))]) dX9_changesOf_3 rfl (Nat.le_of_ble_eq_true rfl) rfl ?_
  exact g9_changesOf_4 zfuel _ _ _ _ h
set_option maxRecDepth 20000 in
set_option maxHeartbeats 4000000 in
theorem g9_alike_43 {T : List zN} {a0 : Nat} (h0 : T[a0]? = some (.inl (0, 9))) {r1 : Int32} {M : zM} {k5 : Int32 → Int32 → Int32 → Int32 → zM → Option Int32} (hk5 : ∀ (v1 : Int32) (v2 : Int32) (v3 : Int32) (v4 : Int32), k5 v1 v2 v3 v4 M = some r1 → zJ T RX9 cX9_alike 5 (zBm T 3 (some .int) (some (.int r1)) M) 0 0 5 [(0, .ref a0), (1, .int v1), (2, .int v2), (3, .int v3), (4, .int v4)] [] M) : ∀ (v1 : Int32) (v2 : Int32) (v4 : Int32) (s0 : Int32) (s1 : Int32), f9_alike_43 a0 k5 v1 v2 v4 s0 s1 M = some r1 → zJ T RX9 cX9_alike 5 (zBm T 3 (some .int) (some (.int r1)) M) 0 0 43 [(0, .ref a0), (1, .int v1), (2, .int v2), (4, .int v4)] [.int s1, .int s0] M := by
  intro v1 v2 v4 s0 s1 h
  rw [f9_alike_43] at h
  obtain ⟨x1, hx1, h⟩ := z_bind h
  refine zg_callS (st := [.int s0]) (k_X9_flag hx1) zY_X9_flag ls_X9_116 rfl (zfit_m (by decide) (by decide)) (Nat.le_of_ble_eq_true rfl) dX9_alike_43 rfl ?_
  refine zg_iadd dX9_alike_46 ?_
  refine zg_istore_n (ls' := [(0, .ref a0), (1, .int v1), (2, .int v2), (3, .int (s0 + x1)), (4, .int v4)]) dX9_alike_47 rfl (Nat.le_of_ble_eq_true rfl) rfl ?_
  refine zg_iinc (ls' := [(0, .ref a0), (1, .int v1), (2, .int v2), (3, .int (s0 + x1)), (4, .int (v4 + (1 : Int32)))]) 4 dX9_alike_48 rfl zki_1 (Nat.le_of_ble_eq_true rfl) rfl ?_
  refine zg_goto (tgt := 5) dX9_alike_51 (by decide) ?_
  exact hk5 _ _ _ _ h
set_option maxRecDepth 20000 in
set_option maxHeartbeats 4000000 in
theorem g9_alike_5 {T : List zN} {a0 : Nat} (h0 : T[a0]? = some (.inl (0, 9))) {r1 : Int32} {M : zM} : ∀ (n : Nat) (v1 : Int32) (v2 : Int32) (v3 : Int32) (v4 : Int32), f9_alike_5 a0 n v1 v2 v3 v4 M = some r1 → zJ T RX9 cX9_alike 5 (zBm T 3 (some .int) (some (.int r1)) M) 0 0 5 [(0, .ref a0), (1, .int v1), (2, .int v2), (3, .int v3), (4, .int v4)] [] M := by
  intro n
  induction n with
  | zero => intro v1 v2 v3 v4 h; cases h
  | succ n ih =>
    intro v1 v2 v3 v4 h
    rw [f9_alike_5] at h
    refine zg_iload 4 dX9_alike_5 rfl ?_
    refine zg_aload_n 0 dX9_alike_7 rfl rfl ?_
    refine zg_iload_n 1 dX9_alike_8 rfl rfl ?_
    obtain ⟨x1, hx1, h⟩ := z_bind h
    refine zg_callS (st := [.int v4]) (k_X9_manyOf h0 hx1) zY_X9_manyOf ls_X9_108 rfl (zfit_m (by decide) (by decide)) (Nat.le_of_ble_eq_true rfl) dX9_alike_9 rfl ?_
    refine zg_icmp_ge (tgt := 54) dX9_alike_12 (by decide) (fun hc => ?_) (fun hc => ?_)
    · replace h := (if_pos hc).symm.trans h
      refine zg_iload_n 3 dX9_alike_54 rfl rfl ?_
      obtain rfl := z_ret1 h
      exact zg_iret dX9_alike_55
    · replace h := (if_neg hc).symm.trans h
      refine zg_iload_n 3 dX9_alike_15 rfl rfl ?_
      refine zg_iload 4 dX9_alike_16 rfl ?_
      refine zg_iload_n 2 dX9_alike_18 rfl rfl ?_
      refine zg_icmp_eq (tgt := 42) dX9_alike_19 (by decide) (fun hc => ?_) (fun hc => ?_)
      · replace h := (if_pos hc).symm.trans h
        refine zg_iconst dX9_alike_42 zki_0 ?_
        refine zo_sub (ls' := [(0, .ref a0), (1, .int v1), (2, .int v2), (4, .int v4)]) [0, 1, 2, 4] rfl ?_
        exact g9_alike_43 h0 (fun u0 u1 u2 u3 h => ih u0 u1 u2 u3 h) _ _ _ _ _ h
      · replace h := (if_neg hc).symm.trans h
        refine zg_aload_n 0 dX9_alike_22 rfl rfl ?_
        refine zg_iload_n 1 dX9_alike_23 rfl rfl ?_
        refine zg_iload 4 dX9_alike_24 rfl ?_
        obtain ⟨x2, hx2, h⟩ := z_bind h
        refine zg_callS (st := [.int v3]) (k_X9_bitsOf h0 hx2) zY_X9_bitsOf ls_X9_120 rfl (zfit_m (by decide) (by decide)) (Nat.le_of_ble_eq_true rfl) dX9_alike_26 rfl ?_
        refine zg_aload_n 0 dX9_alike_29 rfl rfl ?_
        refine zg_iload_n 1 dX9_alike_30 rfl rfl ?_
        refine zg_iload_n 2 dX9_alike_31 rfl rfl ?_
        obtain ⟨x3, hx3, h⟩ := z_bind h
        refine zg_callS (st := [.int x2, .int v3]) (k_X9_bitsOf h0 hx3) zY_X9_bitsOf ls_X9_120 rfl (zfit_m (by decide) (by decide)) (Nat.le_of_ble_eq_true rfl) dX9_alike_32 rfl ?_
        suffices hj : zJ T RX9 cX9_alike 5 (zBm T 3 (some .int) (some (.int r1)) M) 0 0 43 [(0, .ref a0), (1, .int v1), (2, .int v2), (3, .int v3), (4, .int v4)] [.int (if x2 = x3 then (1 : Int32) else (0 : Int32)), .int v3] M by
          refine zg_icmp_ne (tgt := 42) dX9_alike_35 (by decide) (fun hc => ?_) (fun hc => ?_)
          · rw [show (if x2 = x3 then (1 : Int32) else (0 : Int32)) = (0 : Int32) from if_neg hc] at hj
            refine zg_iconst dX9_alike_42 zki_0 ?_
            exact hj
          · rw [show (if x2 = x3 then (1 : Int32) else (0 : Int32)) = (1 : Int32) from if_pos hc] at hj
            refine zg_iconst dX9_alike_38 zki_1 ?_
            refine zg_goto (tgt := 43) dX9_alike_39 (by decide) ?_
            exact hj
        refine zo_sub (ls' := [(0, .ref a0), (1, .int v1), (2, .int v2), (4, .int v4)]) [0, 1, 2, 4] rfl ?_
        exact g9_alike_43 h0 (fun u0 u1 u2 u3 h => ih u0 u1 u2 u3 h) _ _ _ _ _ h
set_option maxRecDepth 20000 in
set_option maxHeartbeats 4000000 in
theorem k_X9_alike {T : List zN} {a0 : Nat} (h0 : T[a0]? = some (.inl (0, 9))) {v1 : Int32} {v2 : Int32} {r1 : Int32} {M : zM} (h : f9_alike a0 v1 v2 M = some r1) : zK T yX9_alike cX9_alike 5 (some .int) 3 [.ref a0, .int v1, .int v2] M (some (.int r1)) M := by
  refine zK_of pl_X9 (Nat.le_of_ble_eq_true rfl) ?_
  show zJ T RX9 cX9_alike 5 _ 0 0 0 [(0, .ref a0), (1, .int v1), (2, .int v2)] [] M
  rw [f9_alike] at h
  refine zg_iconst dX9_alike_0 zki_0 ?_
  refine zg_istore_n (ls' := [(0, .ref a0), (1, .int v1), (2, .int v2), (3, .int (0 : Int32))]) dX9_alike_1 rfl (Nat.le_of_ble_eq_true rfl) rfl ?_
  refine zg_iconst dX9_alike_2 zki_0 ?_
  refine zg_istore (ls' := [(0, .ref a0), (1, .int v1), (2, .int v2), (3, .int (0 : Int32)), (4, .int (0 : Int32))]) dX9_alike_3 (Nat.le_of_ble_eq_true rfl) rfl ?_
  exact g9_alike_5 h0 zfuel _ _ _ _ h
set_option maxRecDepth 20000 in
set_option maxHeartbeats 4000000 in
theorem k_X9_isLoose {T : List zN} {a0 : Nat} (h0 : T[a0]? = some (.inl (0, 9))) {v1 : Int32} {v2 : Int32} {r1 : Int32} {M : zM} (h : f9_isLoose a0 v1 v2 M = some r1) : zK T yX9_isLoose cX9_isLoose 4 (some .boolean) 3 [.ref a0, .int v1, .int v2] M (some (.int r1)) M := by
  refine zK_of pl_X9 (Nat.le_of_ble_eq_true rfl) ?_
  show zJ T RX9 cX9_isLoose 4 _ 0 0 0 [(0, .ref a0), (1, .int v1), (2, .int v2)] [] M
  rw [f9_isLoose] at h
  refine zg_aload_n 0 dX9_isLoose_0 rfl rfl ?_
  refine zg_iload_n 1 dX9_isLoose_1 rfl rfl ?_
  refine zg_iload_n 2 dX9_isLoose_2 rfl rfl ?_
  obtain ⟨x1, hx1, h⟩ := z_bind h
  refine zg_callS (st := []) (k_X9_bitsOf h0 hx1) zY_X9_bitsOf ls_X9_120 rfl (zfit_m (by decide) (by decide)) (Nat.le_of_ble_eq_true rfl) dX9_isLoose_3 rfl ?_
  refine zg_istore_n (ls' := [(0, .ref a0), (1, .int v1), (2, .int v2), (3, .int x1)]) dX9_isLoose_6 rfl (Nat.le_of_ble_eq_true rfl) rfl ?_
  refine zg_iload_n 3 dX9_isLoose_7 rfl rfl ?_
  refine zg_if_eq (tgt := 23) dX9_isLoose_8 (by decide) (fun hc => ?_) (fun hc => ?_)
  · replace h := (if_pos hc).symm.trans h
    refine zg_iconst dX9_isLoose_23 zki_1 ?_
    refine zg_goto (tgt := 28) dX9_isLoose_24 (by decide) ?_
    obtain rfl := z_ret1 h
    exact zg_zret rfl dX9_isLoose_28
  · replace h := (if_neg hc).symm.trans h
    refine zg_iload_n 3 dX9_isLoose_11 rfl rfl ?_
    refine zg_aload_n 0 dX9_isLoose_12 rfl rfl ?_
    refine zg_iload_n 1 dX9_isLoose_13 rfl rfl ?_
    obtain ⟨x2, hx2, h⟩ := z_bind h
    refine zg_callS (st := [.int x1]) (k_X9_cellsOf h0 hx2) zY_X9_cellsOf ls_X9_124 rfl (zfit_m (by decide) (by decide)) (Nat.le_of_ble_eq_true rfl) dX9_isLoose_14 rfl ?_
    obtain ⟨x3, hx3, h⟩ := z_bind h
    refine zg_callS (st := [.int x1]) (k_X9_full hx3) zY_X9_full ls_X9_127 rfl (zfit_m (by decide) (by decide)) (Nat.le_of_ble_eq_true rfl) dX9_isLoose_17 rfl ?_
    suffices hj : zJ T RX9 cX9_isLoose 4 (zBm T 3 (some .boolean) (some (.int r1)) M) 0 0 28 [(0, .ref a0), (1, .int v1), (2, .int v2), (3, .int x1)] [.int (if x1 = x3 then (1 : Int32) else (0 : Int32))] M by
      refine zg_icmp_ne (tgt := 27) dX9_isLoose_20 (by decide) (fun hc => ?_) (fun hc => ?_)
      · rw [show (if x1 = x3 then (1 : Int32) else (0 : Int32)) = (0 : Int32) from if_neg hc] at hj
        refine zg_iconst dX9_isLoose_27 zki_0 ?_
        exact hj
      · rw [show (if x1 = x3 then (1 : Int32) else (0 : Int32)) = (1 : Int32) from if_pos hc] at hj
        refine zg_iconst dX9_isLoose_23 zki_1 ?_
        refine zg_goto (tgt := 28) dX9_isLoose_24 (by decide) ?_
        exact hj
    obtain rfl := z_ret1 h
    exact zg_zret (zn_ite rfl rfl) dX9_isLoose_28
set_option maxRecDepth 20000 in
set_option maxHeartbeats 4000000 in
theorem g9_overs_4 {T : List zN} {a0 : Nat} (h0 : T[a0]? = some (.inl (0, 9))) {r1 : Int32} {M : zM} : ∀ (n : Nat) (v1 : Int32) (v2 : Int32), f9_overs_4 a0 n v1 v2 M = some r1 → zJ T RX9 cX9_overs 3 (zBm T 2 (some .int) (some (.int r1)) M) 0 0 4 [(0, .ref a0), (1, .int v1), (2, .int v2)] [] M := by
  intro n
  induction n with
  | zero => intro v1 v2 h; cases h
  | succ n ih =>
    intro v1 v2 h
    rw [f9_overs_4] at h
    refine zg_iload_n 2 dX9_overs_4 rfl rfl ?_
    refine zg_aload_n 0 dX9_overs_5 rfl rfl ?_
    refine zg_bipush dX9_overs_6 zkb_6 ?_
    refine zo_ialdc 6 h0 (by decide) rfl dX9_overs_8 ?_
    refine zg_icmp_ge (tgt := 27) dX9_overs_9 (by decide) (fun hc => ?_) (fun hc => ?_)
    · replace h := (if_pos hc).symm.trans h
      refine zg_iload_n 1 dX9_overs_27 rfl rfl ?_
      obtain rfl := z_ret1 h
      exact zg_iret dX9_overs_28
    · replace h := (if_neg hc).symm.trans h
      refine zg_iload_n 1 dX9_overs_12 rfl rfl ?_
      refine zg_aload_n 0 dX9_overs_13 rfl rfl ?_
      refine zg_iload_n 2 dX9_overs_14 rfl rfl ?_
      obtain ⟨x1, hx1, h⟩ := z_bind h
      refine zo_iald h0 hx1 dX9_overs_15 ?_
      obtain ⟨x2, hx2, h⟩ := z_bind h
      refine zg_callS (st := [.int v1]) (k_J6_bitCount_0f7a4 hx2) zY_J6_bitCount_0f7a4 ls_X9_131 rfl (zfit_m (by decide) (by decide)) (Nat.le_of_ble_eq_true rfl) dX9_overs_16 rfl ?_
      refine zg_iadd dX9_overs_19 ?_
      refine zg_istore_n (ls' := [(0, .ref a0), (1, .int (v1 + x2)), (2, .int v2)]) dX9_overs_20 rfl (Nat.le_of_ble_eq_true rfl) rfl ?_
      refine zg_iinc (ls' := [(0, .ref a0), (1, .int (v1 + x2)), (2, .int (v2 + (1 : Int32)))]) 2 dX9_overs_21 rfl zki_1 (Nat.le_of_ble_eq_true rfl) rfl ?_
      refine zg_goto (tgt := 4) dX9_overs_24 (by decide) ?_
      exact ih _ _ h
set_option maxRecDepth 20000 in
set_option maxHeartbeats 4000000 in
theorem k_X9_overs {T : List zN} {a0 : Nat} (h0 : T[a0]? = some (.inl (0, 9))) {r1 : Int32} {M : zM} (h : f9_overs a0 M = some r1) : zK T yX9_overs cX9_overs 3 (some .int) 2 [.ref a0] M (some (.int r1)) M := by
  refine zK_of pl_X9 (Nat.le_of_ble_eq_true rfl) ?_
  show zJ T RX9 cX9_overs 3 _ 0 0 0 [(0, .ref a0)] [] M
  rw [f9_overs] at h
  refine zg_iconst dX9_overs_0 zki_0 ?_
  refine zg_istore_n (ls' := [(0, .ref a0), (1, .int (0 : Int32))]) dX9_overs_1 rfl (Nat.le_of_ble_eq_true rfl) rfl ?_
  refine zg_iconst dX9_overs_2 zki_0 ?_
  refine zg_istore_n (ls' := [(0, .ref a0), (1, .int (0 : Int32)), (2, .int (0 : Int32))]) dX9_overs_3 rfl (Nat.le_of_ble_eq_true rfl) rfl ?_
  exact g9_overs_4 h0 zfuel _ _ h
set_option maxRecDepth 20000 in
set_option maxHeartbeats 4000000 in
theorem g9_isAs_30 {T : List zN} {a0 : Nat} {a1 : Nat} (h0 : T[a0]? = some (.inl (0, 9))) (h1 : T[a1]? = some (.inl (0, 9))) {r1 : Int32} {M : zM} : ∀ (n : Nat) (v2 : Int32) (v3 : Int32), f9_isAs_30 a0 a1 n v2 v3 M = some r1 → zJ T RX9 cX9_isAs 4 (zBm T 0 (some .boolean) (some (.int r1)) M) 0 0 30 [(0, .ref a0), (1, .ref a1), (2, .int v2), (3, .int v3)] [] M := by
  intro n
  induction n with
  | zero => intro v2 v3 h; cases h
  | succ n ih =>
    intro v2 v3 h
    rw [f9_isAs_30] at h
    refine zg_iload_n 3 dX9_isAs_30 rfl rfl ?_
    refine zg_aload_n 0 dX9_isAs_31 rfl rfl ?_
    refine zg_bipush dX9_isAs_32 zkb_6 ?_
    refine zo_ialdc 6 h0 (by decide) rfl dX9_isAs_34 ?_
    refine zg_icmp_ge (tgt := 63) dX9_isAs_35 (by decide) (fun hc => ?_) (fun hc => ?_)
    · replace h := (if_pos hc).symm.trans h
      refine zg_iload_n 2 dX9_isAs_63 rfl rfl ?_
      obtain ⟨x1, hx1, h⟩ := z_bind h
      obtain ⟨rfl, hzx1⟩ := zbl_ok hx1
      obtain rfl := z_ret1 h
      exact zg_zret hzx1 dX9_isAs_64
    · replace h := (if_neg hc).symm.trans h
      refine zg_iload_n 2 dX9_isAs_38 rfl rfl ?_
      refine zg_if_eq (tgt := 63) dX9_isAs_39 (by decide) (fun hc => ?_) (fun hc => ?_)
      · replace h := (if_pos hc).symm.trans h
        refine zg_iload_n 2 dX9_isAs_63 rfl rfl ?_
        obtain ⟨x1, hx1, h⟩ := z_bind h
        obtain ⟨rfl, hzx1⟩ := zbl_ok hx1
        obtain rfl := z_ret1 h
        exact zg_zret hzx1 dX9_isAs_64
      · replace h := (if_neg hc).symm.trans h
        refine zg_aload_n 0 dX9_isAs_42 rfl rfl ?_
        refine zg_iload_n 3 dX9_isAs_43 rfl rfl ?_
        obtain ⟨x1, hx1, h⟩ := z_bind h
        refine zo_iald h0 hx1 dX9_isAs_44 ?_
        refine zg_aload_n 1 dX9_isAs_45 rfl rfl ?_
        refine zg_iload_n 3 dX9_isAs_46 rfl rfl ?_
        obtain ⟨x2, hx2, h⟩ := z_bind h
        refine zo_iald h1 hx2 dX9_isAs_47 ?_
        suffices hj : zJ T RX9 cX9_isAs 4 (zBm T 0 (some .boolean) (some (.int r1)) M) 0 0 56 [(0, .ref a0), (1, .ref a1), (2, .int v2), (3, .int v3)] [.int (if x1 = x2 then (1 : Int32) else (0 : Int32))] M by
          refine zg_icmp_ne (tgt := 55) dX9_isAs_48 (by decide) (fun hc => ?_) (fun hc => ?_)
          · rw [show (if x1 = x2 then (1 : Int32) else (0 : Int32)) = (0 : Int32) from if_neg hc] at hj
            refine zg_iconst dX9_isAs_55 zki_0 ?_
            exact hj
          · rw [show (if x1 = x2 then (1 : Int32) else (0 : Int32)) = (1 : Int32) from if_pos hc] at hj
            refine zg_iconst dX9_isAs_51 zki_1 ?_
            refine zg_goto (tgt := 56) dX9_isAs_52 (by decide) ?_
            exact hj
        refine zg_istore_n (ls' := [(0, .ref a0), (1, .ref a1), (2, .int (if x1 = x2 then (1 : Int32) else (0 : Int32))), (3, .int v3)]) dX9_isAs_56 rfl (Nat.le_of_ble_eq_true rfl) rfl ?_
        refine zg_iinc (ls' := [(0, .ref a0), (1, .ref a1), (2, .int (if x1 = x2 then (1 : Int32) else (0 : Int32))), (3, .int (v3 + (1 : Int32)))]) 3 dX9_isAs_57 rfl zki_1 (Nat.le_of_ble_eq_true rfl) rfl ?_
        refine zg_goto (tgt := 30) dX9_isAs_60 (by decide) ?_
        exact ih _ _ h
set_option maxRecDepth 20000 in
set_option maxHeartbeats 4000000 in
theorem k_X9_isAs {T : List zN} {a0 : Nat} {a1 : Nat} (h0 : T[a0]? = some (.inl (0, 9))) (h1 : T[a1]? = some (.inl (0, 9))) {r1 : Int32} {M : zM} (h : f9_isAs a0 a1 M = some r1) : zK T yX9_isAs cX9_isAs 4 (some .boolean) 0 [.ref a0, .ref a1] M (some (.int r1)) M := by
  refine zK_of pl_X9 (Nat.le_of_ble_eq_true rfl) ?_
  show zJ T RX9 cX9_isAs 4 _ 0 0 0 [(0, .ref a0), (1, .ref a1)] [] M
  rw [f9_isAs] at h
  refine zg_aload_n 0 dX9_isAs_0 rfl rfl ?_
  refine zg_bipush dX9_isAs_1 zkb_6 ?_
  refine zo_ialdc 6 h0 (by decide) rfl dX9_isAs_3 ?_
  refine zg_aload_n 1 dX9_isAs_4 rfl rfl ?_
  refine zg_bipush dX9_isAs_5 zkb_6 ?_
  refine zo_ialdc 6 h1 (by decide) rfl dX9_isAs_7 ?_
  suffices hj : zJ T RX9 cX9_isAs 4 (zBm T 0 (some .boolean) (some (.int r1)) M) 0 0 27 [(0, .ref a0), (1, .ref a1)] [.int (if (M.1 a0 6) = (M.1 a1 6) then (if (M.1 a0 7) = (M.1 a1 7) then (1 : Int32) else (0 : Int32)) else (0 : Int32))] M by
    refine zg_icmp_ne (tgt := 26) dX9_isAs_8 (by decide) (fun hc => ?_) (fun hc => ?_)
    · rw [show (if (M.1 a0 6) = (M.1 a1 6) then (if (M.1 a0 7) = (M.1 a1 7) then (1 : Int32) else (0 : Int32)) else (0 : Int32)) = (0 : Int32) from if_neg hc] at hj
      refine zg_iconst dX9_isAs_26 zki_0 ?_
      exact hj
    · rw [show (if (M.1 a0 6) = (M.1 a1 6) then (if (M.1 a0 7) = (M.1 a1 7) then (1 : Int32) else (0 : Int32)) else (0 : Int32)) = (if (M.1 a0 7) = (M.1 a1 7) then (1 : Int32) else (0 : Int32)) from if_pos hc] at hj
      refine zg_aload_n 0 dX9_isAs_11 rfl rfl ?_
      refine zg_bipush dX9_isAs_12 zkb_7 ?_
      refine zo_ialdc 7 h0 (by decide) rfl dX9_isAs_14 ?_
      refine zg_aload_n 1 dX9_isAs_15 rfl rfl ?_
      refine zg_bipush dX9_isAs_16 zkb_7 ?_
      refine zo_ialdc 7 h1 (by decide) rfl dX9_isAs_18 ?_
      refine zg_icmp_ne (tgt := 26) dX9_isAs_19 (by decide) (fun hc => ?_) (fun hc => ?_)
      · rw [show (if (M.1 a0 7) = (M.1 a1 7) then (1 : Int32) else (0 : Int32)) = (0 : Int32) from if_neg hc] at hj
        refine zg_iconst dX9_isAs_26 zki_0 ?_
        exact hj
      · rw [show (if (M.1 a0 7) = (M.1 a1 7) then (1 : Int32) else (0 : Int32)) = (1 : Int32) from if_pos hc] at hj
        refine zg_iconst dX9_isAs_22 zki_1 ?_
        refine zg_goto (tgt := 27) dX9_isAs_23 (by decide) ?_
        exact hj
  refine zg_istore_n (ls' := [(0, .ref a0), (1, .ref a1), (2, .int (if (M.1 a0 6) = (M.1 a1 6) then (if (M.1 a0 7) = (M.1 a1 7) then (1 : Int32) else (0 : Int32)) else (0 : Int32)))]) dX9_isAs_27 rfl (Nat.le_of_ble_eq_true rfl) rfl ?_
  refine zg_iconst dX9_isAs_28 zki_0 ?_
  refine zg_istore_n (ls' := [(0, .ref a0), (1, .ref a1), (2, .int (if (M.1 a0 6) = (M.1 a1 6) then (if (M.1 a0 7) = (M.1 a1 7) then (1 : Int32) else (0 : Int32)) else (0 : Int32))), (3, .int (0 : Int32))]) dX9_isAs_29 rfl (Nat.le_of_ble_eq_true rfl) rfl ?_
  exact g9_isAs_30 h0 h1 zfuel _ _ h
set_option maxRecDepth 20000 in
set_option maxHeartbeats 4000000 in
theorem k_X9_without {T : List zN} {v0 : Int32} {v1 : Int32} {r1 : Int32} {M : zM} (h : f9_without v0 v1 = some r1) : zK T yX9_without cX9_without 2 (some .int) 2 [.int v0, .int v1] M (some (.int r1)) M := by
  refine zK_of pl_X9 (Nat.le_of_ble_eq_true rfl) ?_
  show zJ T RX9 cX9_without 2 _ 0 0 0 [(0, .int v0), (1, .int v1)] [] M
  rw [f9_without] at h
  refine zg_iload_n 0 dX9_without_0 rfl rfl ?_
  refine zg_iload_n 1 dX9_without_1 rfl rfl ?_
  obtain ⟨x1, hx1, h⟩ := z_bind h
  refine zg_callS (st := [.int v0]) (k_X9_full hx1) zY_X9_full ls_X9_127 rfl (zfit_m (by decide) (by decide)) (Nat.le_of_ble_eq_true rfl) dX9_without_2 rfl ?_
  refine zg_iand dX9_without_5 ?_
  refine zg_iload_n 0 dX9_without_6 rfl rfl ?_
  refine zg_iload_n 1 dX9_without_7 rfl rfl ?_
  refine zg_iconst dX9_without_8 zki_1 ?_
  refine zg_iadd dX9_without_9 ?_
  refine zg_ishr dX9_without_10 ?_
  refine zg_iload_n 1 dX9_without_11 rfl rfl ?_
  refine zg_ishl dX9_without_12 ?_
  refine zg_ior dX9_without_13 ?_
  obtain rfl := z_ret1 h
  exact zg_iret dX9_without_14
set_option maxRecDepth 20000 in
set_option maxHeartbeats 4000000 in
theorem k_X9_with {T : List zN} {v0 : Int32} {v1 : Int32} {v2 : Int32} {r1 : Int32} {M : zM} (h : f9_with v0 v1 v2 = some r1) : zK T yX9_with cX9_with 3 (some .int) 2 [.int v0, .int v1, .int v2] M (some (.int r1)) M := by
  refine zK_of pl_X9 (Nat.le_of_ble_eq_true rfl) ?_
  show zJ T RX9 cX9_with 3 _ 0 0 0 [(0, .int v0), (1, .int v1), (2, .int v2)] [] M
  rw [f9_with] at h
  refine zg_iload_n 0 dX9_with_0 rfl rfl ?_
  refine zg_iload_n 1 dX9_with_1 rfl rfl ?_
  obtain ⟨x1, hx1, h⟩ := z_bind h
  refine zg_callS (st := [.int v0]) (k_X9_full hx1) zY_X9_full ls_X9_127 rfl (zfit_m (by decide) (by decide)) (Nat.le_of_ble_eq_true rfl) dX9_with_2 rfl ?_
  refine zg_iand dX9_with_5 ?_
  refine zg_iload_n 2 dX9_with_6 rfl rfl ?_
  refine zg_iload_n 1 dX9_with_7 rfl rfl ?_
  refine zg_ishl dX9_with_8 ?_
  refine zg_ior dX9_with_9 ?_
  refine zg_iload_n 0 dX9_with_10 rfl rfl ?_
  refine zg_iload_n 1 dX9_with_11 rfl rfl ?_
  refine zg_ishr dX9_with_12 ?_
  refine zg_iload_n 1 dX9_with_13 rfl rfl ?_
  refine zg_iconst dX9_with_14 zki_1 ?_
  refine zg_iadd dX9_with_15 ?_
  refine zg_ishl dX9_with_16 ?_
  refine zg_ior dX9_with_17 ?_
  obtain rfl := z_ret1 h
  exact zg_iret dX9_with_18
set_option maxRecDepth 20000 in
set_option maxHeartbeats 4000000 in
theorem g9_goes_59 {T : List zN} {a0 : Nat} (h0 : T[a0]? = some (.inl (0, 9))) {Mr : zM} : ∀ (v1 : Int32) (M : zM), f9_goes_59 a0 v1 M = some Mr → zJ T RX9 cX9_goes 4 (zBm T 3 (none) none Mr) 0 0 59 [(0, .ref a0), (1, .int v1)] [] M := by
  intro v1 M h
  rw [f9_goes_59] at h
  refine zg_aload_n 0 dX9_goes_59 rfl rfl ?_
  refine zg_bipush dX9_goes_60 zkb_6 ?_
  refine zg_iload_n 1 dX9_goes_62 rfl rfl ?_
  refine zg_iadd dX9_goes_63 ?_
  refine zg_dup2 dX9_goes_64 rfl rfl ?_
  obtain ⟨x1, hx1, h⟩ := z_bind h
  refine zo_iald h0 hx1 dX9_goes_65 ?_
  refine zg_iconst dX9_goes_66 zki_1 ?_
  refine zg_isub dX9_goes_67 ?_
  obtain ⟨M2, hM2, h⟩ := z_bind h
  refine zo_iast h0 hM2 dX9_goes_68 ?_
  obtain rfl := z_ret1 h
  exact zg_vret dX9_goes_69
set_option maxRecDepth 20000 in
set_option maxHeartbeats 4000000 in
theorem g9_goes_8 {T : List zN} {a0 : Nat} (h0 : T[a0]? = some (.inl (0, 9))) {Mr : zM} : ∀ (n : Nat) (v1 : Int32) (v3 : Int32) (M : zM), f9_goes_8 a0 n v1 v3 M = some Mr → zJ T RX9 cX9_goes 4 (zBm T 3 (none) none Mr) 0 0 8 [(0, .ref a0), (1, .int v1), (3, .int v3)] [] M := by
  intro n
  induction n with
  | zero => intro v1 v3 M h; cases h
  | succ n ih =>
    intro v1 v3 M h
    rw [f9_goes_8] at h
    refine zg_iload_n 2 dX9_goes_8 rfl rfl ?_
    refine zg_aload_n 0 dX9_goes_9 rfl rfl ?_
    refine zg_bipush dX9_goes_10 zkb_6 ?_
    refine zo_ialdc 6 h0 (by decide) rfl dX9_goes_12 ?_
    refine zg_icmp_ge (tgt := 30) dX9_goes_13 (by decide) (fun hc => ?_) (fun hc => ?_)
    · replace h := (if_pos hc).symm.trans h
      refine zg_goto (tgt := 59) dX9_goes_30 (by decide) ?_
      refine zo_sub (ls' := [(0, .ref a0), (1, .int v1)]) [0, 1] rfl ?_
      exact g9_goes_59 h0 _ _ h
    · replace h := (if_neg hc).symm.trans h
      refine zg_aload_n 0 dX9_goes_16 rfl rfl ?_
      refine zg_iload_n 2 dX9_goes_17 rfl rfl ?_
      refine zg_iconst dX9_goes_18 zki_1 ?_
      refine zg_isub dX9_goes_19 ?_
      refine zg_aload_n 0 dX9_goes_20 rfl rfl ?_
      refine zg_iload_n 2 dX9_goes_21 rfl rfl ?_
      obtain ⟨x1, hx1, h⟩ := z_bind h
      refine zo_iald h0 hx1 dX9_goes_22 ?_
      obtain ⟨M2, hM2, h⟩ := z_bind h
      refine zo_iast h0 hM2 dX9_goes_23 ?_
      refine zg_iinc (ls' := [(0, .ref a0), (1, .int v1), (3, .int (v3 + (1 : Int32)))]) 2 dX9_goes_24 rfl zki_1 (Nat.le_of_ble_eq_true rfl) rfl ?_
      refine zg_goto (tgt := 8) dX9_goes_27 (by decide) ?_
      exact ih _ _ _ h
set_option maxRecDepth 20000 in
set_option maxHeartbeats 4000000 in
theorem g9_goes_35 {T : List zN} {a0 : Nat} (h0 : T[a0]? = some (.inl (0, 9))) {Mr : zM} : ∀ (n : Nat) (v1 : Int32) (v2 : Int32) (v3 : Int32) (M : zM), f9_goes_35 a0 n v1 v2 v3 M = some Mr → zJ T RX9 cX9_goes 4 (zBm T 3 (none) none Mr) 0 0 35 [(0, .ref a0), (1, .int v1), (2, .int v2), (3, .int v3)] [] M := by
  intro n
  induction n with
  | zero => intro v1 v2 v3 M h; cases h
  | succ n ih =>
    intro v1 v2 v3 M h
    rw [f9_goes_35] at h
    refine zg_iload_n 3 dX9_goes_35 rfl rfl ?_
    refine zg_aload_n 0 dX9_goes_36 rfl rfl ?_
    refine zg_bipush dX9_goes_37 zkb_6 ?_
    refine zo_ialdc 6 h0 (by decide) rfl dX9_goes_39 ?_
    refine zg_icmp_ge (tgt := 59) dX9_goes_40 (by decide) (fun hc => ?_) (fun hc => ?_)
    · replace h := (if_pos hc).symm.trans h
      refine zo_sub (ls' := [(0, .ref a0), (1, .int v1)]) [0, 1] rfl ?_
      exact g9_goes_59 h0 _ _ h
    · replace h := (if_neg hc).symm.trans h
      refine zg_aload_n 0 dX9_goes_43 rfl rfl ?_
      refine zg_iload_n 3 dX9_goes_44 rfl rfl ?_
      refine zg_aload_n 0 dX9_goes_45 rfl rfl ?_
      refine zg_iload_n 3 dX9_goes_46 rfl rfl ?_
      obtain ⟨x1, hx1, h⟩ := z_bind h
      refine zo_iald h0 hx1 dX9_goes_47 ?_
      refine zg_iload_n 2 dX9_goes_48 rfl rfl ?_
      obtain ⟨x2, hx2, h⟩ := z_bind h
      refine zg_callS (st := [.int v3, .ref a0]) (k_X9_without hx2) zY_X9_without ls_X9_136 rfl (zfit_m (by decide) (by decide)) (Nat.le_of_ble_eq_true rfl) dX9_goes_49 rfl ?_
      obtain ⟨M3, hM3, h⟩ := z_bind h
      refine zo_iast h0 hM3 dX9_goes_52 ?_
      refine zg_iinc (ls' := [(0, .ref a0), (1, .int v1), (2, .int v2), (3, .int (v3 + (1 : Int32)))]) 3 dX9_goes_53 rfl zki_1 (Nat.le_of_ble_eq_true rfl) rfl ?_
      refine zg_goto (tgt := 35) dX9_goes_56 (by decide) ?_
      exact ih _ _ _ _ h
set_option maxRecDepth 20000 in
set_option maxHeartbeats 4000000 in
theorem k_X9_goes {T : List zN} {a0 : Nat} (h0 : T[a0]? = some (.inl (0, 9))) {v1 : Int32} {v2 : Int32} {M : zM} {Mr : zM} (h : f9_goes a0 v1 v2 M = some Mr) : zK T yX9_goes cX9_goes 4 (none) 3 [.ref a0, .int v1, .int v2] M none Mr := by
  refine zK_of pl_X9 (Nat.le_of_ble_eq_true rfl) ?_
  show zJ T RX9 cX9_goes 4 _ 0 0 0 [(0, .ref a0), (1, .int v1), (2, .int v2)] [] M
  rw [f9_goes] at h
  refine zg_iload_n 1 dX9_goes_0 rfl rfl ?_
  refine zg_if_ne (tgt := 33) dX9_goes_1 (by decide) (fun hc => ?_) (fun hc => ?_)
  · replace h := (if_neg hc).symm.trans h
    refine zg_iconst dX9_goes_33 zki_0 ?_
    refine zg_istore_n (ls' := [(0, .ref a0), (1, .int v1), (2, .int v2), (3, .int (0 : Int32))]) dX9_goes_34 rfl (Nat.le_of_ble_eq_true rfl) rfl ?_
    exact g9_goes_35 h0 zfuel _ _ _ _ h
  · replace h := (if_pos hc).symm.trans h
    refine zg_iload_n 2 dX9_goes_4 rfl rfl ?_
    refine zg_iconst dX9_goes_5 zki_1 ?_
    refine zg_iadd dX9_goes_6 ?_
    refine zg_istore_n (ls' := [(0, .ref a0), (1, .int v1), (2, .int v2), (3, .int (v2 + (1 : Int32)))]) dX9_goes_7 rfl (Nat.le_of_ble_eq_true rfl) rfl ?_
    refine zo_sub (ls' := [(0, .ref a0), (1, .int v1), (3, .int (v2 + (1 : Int32)))]) [0, 1, 3] rfl ?_
    exact g9_goes_8 h0 zfuel _ _ _ h
set_option maxRecDepth 20000 in
set_option maxHeartbeats 4000000 in
theorem g9_comes_86 {T : List zN} {a0 : Nat} (h0 : T[a0]? = some (.inl (0, 9))) {Mr : zM} : ∀ (v1 : Int32) (M : zM), f9_comes_86 a0 v1 M = some Mr → zJ T RX9 cX9_comes 5 (zBm T 3 (none) none Mr) 0 0 86 [(0, .ref a0), (1, .int v1)] [] M := by
  intro v1 M h
  rw [f9_comes_86] at h
  refine zg_aload_n 0 dX9_comes_86 rfl rfl ?_
  refine zg_bipush dX9_comes_87 zkb_6 ?_
  refine zg_iload_n 1 dX9_comes_89 rfl rfl ?_
  refine zg_iadd dX9_comes_90 ?_
  refine zg_dup2 dX9_comes_91 rfl rfl ?_
  obtain ⟨x1, hx1, h⟩ := z_bind h
  refine zo_iald h0 hx1 dX9_comes_92 ?_
  refine zg_iconst dX9_comes_93 zki_1 ?_
  refine zg_iadd dX9_comes_94 ?_
  obtain ⟨M2, hM2, h⟩ := z_bind h
  refine zo_iast h0 hM2 dX9_comes_95 ?_
  obtain rfl := z_ret1 h
  exact zg_vret dX9_comes_96
set_option maxRecDepth 20000 in
set_option maxHeartbeats 4000000 in
theorem g9_comes_10 {T : List zN} {a0 : Nat} (h0 : T[a0]? = some (.inl (0, 9))) {Mr : zM} : ∀ (n : Nat) (v1 : Int32) (v2 : Int32) (v3 : Int32) (v4 : Int32) (M : zM), f9_comes_10 a0 n v1 v2 v3 v4 M = some Mr → zJ T RX9 cX9_comes 5 (zBm T 3 (none) none Mr) 0 0 10 [(0, .ref a0), (1, .int v1), (2, .int v2), (3, .int v3), (4, .int v4)] [] M := by
  intro n
  induction n with
  | zero => intro v1 v2 v3 v4 M h; cases h
  | succ n ih =>
    intro v1 v2 v3 v4 M h
    rw [f9_comes_10] at h
    refine zg_iload 4 dX9_comes_10 rfl ?_
    refine zg_iload_n 2 dX9_comes_12 rfl rfl ?_
    refine zg_icmp_le (tgt := 32) dX9_comes_13 (by decide) (fun hc => ?_) (fun hc => ?_)
    · replace h := (if_pos hc).symm.trans h
      refine zg_aload_n 0 dX9_comes_32 rfl rfl ?_
      refine zg_iload_n 2 dX9_comes_33 rfl rfl ?_
      refine zg_iload_n 3 dX9_comes_34 rfl rfl ?_
      obtain ⟨M1, hM1, h⟩ := z_bind h
      refine zo_iast h0 hM1 dX9_comes_35 ?_
      refine zg_goto (tgt := 86) dX9_comes_36 (by decide) ?_
      refine zo_sub (ls' := [(0, .ref a0), (1, .int v1)]) [0, 1] rfl ?_
      exact g9_comes_86 h0 _ _ h
    · replace h := (if_neg hc).symm.trans h
      refine zg_aload_n 0 dX9_comes_16 rfl rfl ?_
      refine zg_iload 4 dX9_comes_17 rfl ?_
      refine zg_aload_n 0 dX9_comes_19 rfl rfl ?_
      refine zg_iload 4 dX9_comes_20 rfl ?_
      refine zg_iconst dX9_comes_22 zki_1 ?_
      refine zg_isub dX9_comes_23 ?_
      obtain ⟨x1, hx1, h⟩ := z_bind h
      refine zo_iald h0 hx1 dX9_comes_24 ?_
      obtain ⟨M2, hM2, h⟩ := z_bind h
      refine zo_iast h0 hM2 dX9_comes_25 ?_
      refine zg_iinc (ls' := [(0, .ref a0), (1, .int v1), (2, .int v2), (3, .int v3), (4, .int (v4 + (-1 : Int32)))]) 4 dX9_comes_26 rfl zki_m1 (Nat.le_of_ble_eq_true rfl) rfl ?_
      refine zg_goto (tgt := 10) dX9_comes_29 (by decide) ?_
      exact ih _ _ _ _ _ h
set_option maxRecDepth 20000 in
set_option maxHeartbeats 4000000 in
theorem g9_comes_42 {T : List zN} {a0 : Nat} (h0 : T[a0]? = some (.inl (0, 9))) {Mr : zM} : ∀ (n : Nat) (v1 : Int32) (v2 : Int32) (v3 : Int32) (v4 : Int32) (M : zM), f9_comes_42 a0 n v1 v2 v3 v4 M = some Mr → zJ T RX9 cX9_comes 5 (zBm T 3 (none) none Mr) 0 0 42 [(0, .ref a0), (1, .int v1), (2, .int v2), (3, .int v3), (4, .int v4)] [] M := by
  intro n
  induction n with
  | zero => intro v1 v2 v3 v4 M h; cases h
  | succ n ih =>
    intro v1 v2 v3 v4 M h
    rw [f9_comes_42] at h
    refine zg_iload 4 dX9_comes_42 rfl ?_
    refine zg_aload_n 0 dX9_comes_44 rfl rfl ?_
    refine zg_bipush dX9_comes_45 zkb_6 ?_
    refine zo_ialdc 6 h0 (by decide) rfl dX9_comes_47 ?_
    refine zg_icmp_ge (tgt := 86) dX9_comes_48 (by decide) (fun hc => ?_) (fun hc => ?_)
    · replace h := (if_pos hc).symm.trans h
      refine zo_sub (ls' := [(0, .ref a0), (1, .int v1)]) [0, 1] rfl ?_
      exact g9_comes_86 h0 _ _ h
    · replace h := (if_neg hc).symm.trans h
      refine zg_aload_n 0 dX9_comes_51 rfl rfl ?_
      refine zg_iload 4 dX9_comes_52 rfl ?_
      refine zg_aload_n 0 dX9_comes_54 rfl rfl ?_
      refine zg_iload 4 dX9_comes_55 rfl ?_
      obtain ⟨x1, hx1, h⟩ := z_bind h
      refine zo_iald h0 hx1 dX9_comes_57 ?_
      refine zg_iload_n 2 dX9_comes_58 rfl rfl ?_
      refine zg_iload_n 3 dX9_comes_59 rfl rfl ?_
      refine zg_iload 4 dX9_comes_60 rfl ?_
      obtain ⟨x2, hx2, h⟩ := z_bind h
      refine zg_callS (st := [.int v2, .int x1, .int v4, .ref a0]) (k_X9_has hx2) zY_X9_has ls_X9_112 rfl (zfit_m (by decide) (by decide)) (Nat.le_of_ble_eq_true rfl) dX9_comes_62 rfl ?_
      suffices hj : zJ T RX9 cX9_comes 5 (zBm T 3 (none) none Mr) 0 0 73 [(0, .ref a0), (1, .int v1), (2, .int v2), (3, .int v3), (4, .int v4)] [.int (if x2 = 0 then (1 : Int32) else (0 : Int32)), .int v2, .int x1, .int v4, .ref a0] M by
        refine zg_if_ne (tgt := 72) dX9_comes_65 (by decide) (fun hc => ?_) (fun hc => ?_)
        · rw [show (if x2 = 0 then (1 : Int32) else (0 : Int32)) = (0 : Int32) from if_neg hc] at hj
          refine zg_iconst dX9_comes_72 zki_0 ?_
          exact hj
        · rw [show (if x2 = 0 then (1 : Int32) else (0 : Int32)) = (1 : Int32) from if_pos hc] at hj
          refine zg_iconst dX9_comes_68 zki_1 ?_
          refine zg_goto (tgt := 73) dX9_comes_69 (by decide) ?_
          exact hj
      obtain ⟨x3, hx3, h⟩ := z_bind h
      refine zg_callS (st := [.int v2, .int x1, .int v4, .ref a0]) (k_X9_flag hx3) zY_X9_flag ls_X9_116 rfl (zfit_m (by decide) (by decide)) (Nat.le_of_ble_eq_true rfl) dX9_comes_73 rfl ?_
      obtain ⟨x4, hx4, h⟩ := z_bind h
      refine zg_callS (st := [.int v4, .ref a0]) (k_X9_with hx4) zY_X9_with ls_X9_140 rfl (zfit_m (by decide) (by decide)) (Nat.le_of_ble_eq_true rfl) dX9_comes_76 rfl ?_
      obtain ⟨M5, hM5, h⟩ := z_bind h
      refine zo_iast h0 hM5 dX9_comes_79 ?_
      refine zg_iinc (ls' := [(0, .ref a0), (1, .int v1), (2, .int v2), (3, .int v3), (4, .int (v4 + (1 : Int32)))]) 4 dX9_comes_80 rfl zki_1 (Nat.le_of_ble_eq_true rfl) rfl ?_
      refine zg_goto (tgt := 42) dX9_comes_83 (by decide) ?_
      exact ih _ _ _ _ _ h
set_option maxRecDepth 20000 in
set_option maxHeartbeats 4000000 in
theorem k_X9_comes {T : List zN} {a0 : Nat} (h0 : T[a0]? = some (.inl (0, 9))) {v1 : Int32} {v2 : Int32} {v3 : Int32} {M : zM} {Mr : zM} (h : f9_comes a0 v1 v2 v3 M = some Mr) : zK T yX9_comes cX9_comes 5 (none) 3 [.ref a0, .int v1, .int v2, .int v3] M none Mr := by
  refine zK_of pl_X9 (Nat.le_of_ble_eq_true rfl) ?_
  show zJ T RX9 cX9_comes 5 _ 0 0 0 [(0, .ref a0), (1, .int v1), (2, .int v2), (3, .int v3)] [] M
  rw [f9_comes] at h
  refine zg_iload_n 1 dX9_comes_0 rfl rfl ?_
  refine zg_if_ne (tgt := 39) dX9_comes_1 (by decide) (fun hc => ?_) (fun hc => ?_)
  · replace h := (if_neg hc).symm.trans h
    refine zg_iconst dX9_comes_39 zki_0 ?_
    refine zg_istore (ls' := [(0, .ref a0), (1, .int v1), (2, .int v2), (3, .int v3), (4, .int (0 : Int32))]) dX9_comes_40 (Nat.le_of_ble_eq_true rfl) rfl ?_
    exact g9_comes_42 h0 zfuel _ _ _ _ _ h
  · replace h := (if_pos hc).symm.trans h
    refine zg_aload_n 0 dX9_comes_4 rfl rfl ?_
    refine zg_bipush dX9_comes_5 zkb_6 ?_
    refine zo_ialdc 6 h0 (by decide) rfl dX9_comes_7 ?_
    refine zg_istore (ls' := [(0, .ref a0), (1, .int v1), (2, .int v2), (3, .int v3), (4, .int (M.1 a0 6))]) dX9_comes_8 (Nat.le_of_ble_eq_true rfl) rfl ?_
    exact g9_comes_10 h0 zfuel _ _ _ _ _ h
set_option maxRecDepth 20000 in
set_option maxHeartbeats 4000000 in
theorem g9_sign_18 {r1 : Int32} {Mr : zM} : ∀ (n : Nat) (v1 : Int32) (v2 : Int32) (M : zM), f9_sign_18 n v1 v2 M = some (r1, Mr) → zJ ztops RX9 cX9_sign 3 (zBm ztops 0 (some .int) (some (.int r1)) Mr) 0 0 18 [(0, .ref 39), (1, .int v1), (2, .int v2)] [] M := by
  intro n
  induction n with
  | zero => intro v1 v2 M h; cases h
  | succ n ih =>
    intro v1 v2 M h
    rw [f9_sign_18] at h
    refine zg_iload_n 2 dX9_sign_18 rfl rfl ?_
    refine zg_iconst dX9_sign_19 zki_4 ?_
    refine zg_icmp_ge (tgt := 53) dX9_sign_20 (by decide) (fun hc => ?_) (fun hc => ?_)
    · replace h := (if_pos hc).symm.trans h
      refine zg_aload_n 0 dX9_sign_53 rfl rfl ?_
      refine zg_dup dX9_sign_54 rfl ?_
      refine zg_geti fl_X9_144 zt_39 rfl dX9_sign_55 ?_
      refine zg_iconst dX9_sign_58 zki_4 ?_
      refine zg_iadd dX9_sign_59 ?_
      refine zg_puti fp_X9_144 zt_39 rfl dX9_sign_60 ?_
      refine zg_aload_n 0 dX9_sign_63 rfl rfl ?_
      refine zg_geti fl_X9_144 zt_39 rfl dX9_sign_64 ?_
      obtain ⟨rfl, rfl⟩ := z_ret2 h
      exact zg_iret dX9_sign_67
    · replace h := (if_neg hc).symm.trans h
      refine zg_aload_n 0 dX9_sign_23 rfl rfl ?_
      refine zo_getr 43 3 rfl fl_X9_31 zt_39 rfl dX9_sign_24 ?_
      refine zg_aload_n 0 dX9_sign_27 rfl rfl ?_
      refine zg_geti fl_X9_144 zt_39 rfl dX9_sign_28 ?_
      refine zg_iload_n 2 dX9_sign_31 rfl rfl ?_
      refine zg_iadd dX9_sign_32 ?_
      refine zg_iload_n 1 dX9_sign_33 rfl rfl ?_
      refine zg_bipush dX9_sign_34 zkb_24 ?_
      refine zg_bipush dX9_sign_36 zkb_8 ?_
      refine zg_iload_n 2 dX9_sign_38 rfl rfl ?_
      refine zg_imul dX9_sign_39 ?_
      refine zg_isub dX9_sign_40 ?_
      refine zg_ishr dX9_sign_41 ?_
      refine zg_sipush dX9_sign_42 zks_255 ?_
      refine zg_iand dX9_sign_45 ?_
      obtain ⟨M1, hM1, h⟩ := z_bind h
      refine zo_iast zt_43 hM1 dX9_sign_46 ?_
      refine zg_iinc (ls' := [(0, .ref 39), (1, .int v1), (2, .int (v2 + (1 : Int32)))]) 2 dX9_sign_47 rfl zki_1 (Nat.le_of_ble_eq_true rfl) rfl ?_
      refine zg_goto (tgt := 18) dX9_sign_50 (by decide) ?_
      exact ih _ _ _ h
set_option maxRecDepth 20000 in
set_option maxHeartbeats 4000000 in
theorem k_X9_sign {v1 : Int32} {M : zM} {r1 : Int32} {Mr : zM} (h : f9_sign v1 M = some (r1, Mr)) : zK ztops yX9_sign cX9_sign 3 (some .int) 0 [.ref 39, .int v1] M (some (.int r1)) Mr := by
  refine zK_of pl_X9 (Nat.le_of_ble_eq_true rfl) ?_
  show zJ ztops RX9 cX9_sign 3 _ 0 0 0 [(0, .ref 39), (1, .int v1)] [] M
  rw [f9_sign] at h
  refine zg_aload_n 0 dX9_sign_0 rfl rfl ?_
  refine zg_iconst dX9_sign_1 zki_0 ?_
  refine zg_puti fp_X9_3 zt_39 rfl dX9_sign_2 ?_
  refine zg_aload_n 0 dX9_sign_5 rfl rfl ?_
  refine zg_geti fl_X9_144 zt_39 rfl dX9_sign_6 ?_
  refine zg_bipush dX9_sign_9 zkb_76 ?_
  refine zg_icmp_le (tgt := 16) dX9_sign_11 (by decide) (fun hc => ?_) (fun hc => ?_)
  · replace h := (if_pos hc).symm.trans h
    refine zg_iconst dX9_sign_16 zki_0 ?_
    refine zg_istore_n (ls' := [(0, .ref 39), (1, .int v1), (2, .int (0 : Int32))]) dX9_sign_17 rfl (Nat.le_of_ble_eq_true rfl) rfl ?_
    exact g9_sign_18 zfuel _ _ _ h
  · replace h := (if_neg hc).symm.trans h
    refine zg_iconst dX9_sign_14 zki_m1 ?_
    obtain ⟨rfl, rfl⟩ := z_ret2 h
    exact zg_iret dX9_sign_15
set_option maxRecDepth 20000 in
set_option maxHeartbeats 4000000 in
theorem k_X9_end {v1 : Int32} {M : zM} {r1 : Int32} {Mr : zM} (h : f9_end v1 M = some (r1, Mr)) : zK ztops yX9_end cX9_end 2 (some .boolean) 2 [.ref 39, .int v1] M (some (.int r1)) Mr := by
  refine zK_of pl_X9 (Nat.le_of_ble_eq_true rfl) ?_
  show zJ ztops RX9 cX9_end 2 _ 0 0 0 [(0, .ref 39), (1, .int v1)] [] M
  rw [f9_end] at h
  refine zg_aload_n 0 dX9_end_0 rfl rfl ?_
  refine zg_iconst dX9_end_1 zki_0 ?_
  refine zg_puti fp_X9_3 zt_39 rfl dX9_end_2 ?_
  refine zg_iload_n 1 dX9_end_5 rfl rfl ?_
  refine zg_i2l dX9_end_6 ?_
  refine zg_lconst dX9_end_7 (v := 0) rfl ?_
  refine zg_aload_n 0 dX9_end_8 rfl rfl ?_
  refine zg_geti fl_X9_144 zt_39 rfl dX9_end_9 ?_
  refine zg_i2l dX9_end_12 ?_
  obtain ⟨x1, hx1, h⟩ := z_bind h
  refine zg_callS (st := []) (k_X9_in hx1) zY_X9_in ls_X9_104 rfl (zfit_m (by decide) (by decide)) (Nat.le_of_ble_eq_true rfl) dX9_end_13 rfl ?_
  refine zg_if_ne (tgt := 21) dX9_end_16 (by decide) (fun hc => ?_) (fun hc => ?_)
  · replace h := (if_neg hc).symm.trans h
    refine zg_aload_n 0 dX9_end_21 rfl rfl ?_
    refine zg_iload_n 1 dX9_end_22 rfl rfl ?_
    refine zg_puti fp_X9_144 zt_39 rfl dX9_end_23 ?_
    refine zg_iconst dX9_end_26 zki_1 ?_
    obtain ⟨rfl, rfl⟩ := z_ret2 h
    exact zg_zret rfl dX9_end_27
  · replace h := (if_pos hc).symm.trans h
    refine zg_iconst dX9_end_19 zki_0 ?_
    obtain ⟨rfl, rfl⟩ := z_ret2 h
    exact zg_zret rfl dX9_end_20
set_option maxRecDepth 20000 in
set_option maxHeartbeats 4000000 in
theorem k_X9_begins {v1 : Int32} {M : zM} {r1 : Int32} {Mr : zM} (h : f9_begins v1 M = some (r1, Mr)) : zK ztops yX9_begins cX9_begins 3 (some .int) 2 [.ref 39, .int v1] M (some (.int r1)) Mr := by
  refine zK_of pl_X9 (Nat.le_of_ble_eq_true rfl) ?_
  show zJ ztops RX9 cX9_begins 3 _ 0 0 0 [(0, .ref 39), (1, .int v1)] [] M
  rw [f9_begins] at h
  refine zg_aload_n 0 dX9_begins_0 rfl rfl ?_
  refine zg_geti fl_X9_144 zt_39 rfl dX9_begins_1 ?_
  refine zg_istore_n (ls' := [(0, .ref 39), (1, .int v1), (2, .int (M.1 39 7))]) dX9_begins_4 rfl (Nat.le_of_ble_eq_true rfl) rfl ?_
  refine zg_aload_n 0 dX9_begins_5 rfl rfl ?_
  refine zg_iconst dX9_begins_6 zki_0 ?_
  refine zg_puti fp_X9_144 zt_39 rfl dX9_begins_7 ?_
  refine zg_aload_n 0 dX9_begins_10 rfl rfl ?_
  refine zg_iconst dX9_begins_11 zki_0 ?_
  refine zg_puti fp_X9_147 zt_39 rfl dX9_begins_12 ?_
  refine zg_aload_n 0 dX9_begins_15 rfl rfl ?_
  refine zg_iconst dX9_begins_16 zki_0 ?_
  refine zg_puti fp_X9_150 zt_39 rfl dX9_begins_17 ?_
  refine zg_aload_n 0 dX9_begins_20 rfl rfl ?_
  refine zg_iload_n 2 dX9_begins_21 rfl rfl ?_
  refine zg_iload_n 1 dX9_begins_22 rfl rfl ?_
  refine zo_min ls_X9_153 ⟨Nat.le_of_ble_eq_true rfl, Nat.le_of_ble_eq_true rfl, Nat.le_refl _, Nat.le_refl _⟩ z_iM z_cmin dX9_begins_23 ?_
  refine zg_puti fp_X9_158 zt_39 rfl dX9_begins_26 ?_
  refine zg_iload_n 2 dX9_begins_29 rfl rfl ?_
  obtain ⟨rfl, rfl⟩ := z_ret2 h
  exact zg_iret dX9_begins_30
set_option maxRecDepth 20000 in
set_option maxHeartbeats 4000000 in
theorem g9_takes_29 {r1 : Int32} {Mr : zM} : ∀ (s0 : Int32) (M : zM), f9_takes_29 s0 M = some (r1, Mr) → zJ ztops RX9 cX9_takes 3 (zBm ztops 2 (some .boolean) (some (.int r1)) Mr) 0 0 29 [(0, .ref 39)] [.int s0] M := by
  intro s0 M h
  rw [f9_takes_29] at h
  refine zg_istore_n (ls' := [(0, .ref 39), (2, .int s0)]) dX9_takes_29 rfl (Nat.le_of_ble_eq_true rfl) rfl ?_
  refine zg_aload_n 0 dX9_takes_30 rfl rfl ?_
  refine zg_dup dX9_takes_31 rfl ?_
  refine zg_geti fl_X9_147 zt_39 rfl dX9_takes_32 ?_
  refine zg_iload_n 1 dX9_takes_35 rfl rfl ?_
  obtain ⟨x1, hx1, h⟩ := z_bind h
  refine zg_callS (st := [.int (M.1 39 8), .ref 39]) (k_X9_flag hx1) zY_X9_flag ls_X9_116 rfl (zfit_m (by decide) (by decide)) (Nat.le_of_ble_eq_true rfl) dX9_takes_36 rfl ?_
  refine zg_iadd dX9_takes_39 ?_
  refine zg_puti fp_X9_147 zt_39 rfl dX9_takes_40 ?_
  refine zg_iload_n 1 dX9_takes_43 rfl rfl ?_
  obtain ⟨x2, hx2, h⟩ := z_bind h
  obtain ⟨rfl, hzx2⟩ := zbl_ok hx2
  obtain ⟨rfl, rfl⟩ := z_ret2 h
  exact zg_zret hzx2 dX9_takes_44
set_option maxRecDepth 20000 in
set_option maxHeartbeats 4000000 in
theorem k_X9_takes {v1 : Int32} {M : zM} {r1 : Int32} {Mr : zM} (h : f9_takes v1 M = some (r1, Mr)) : zK ztops yX9_takes cX9_takes 3 (some .boolean) 2 [.ref 39, .int v1] M (some (.int r1)) Mr := by
  refine zK_of pl_X9 (Nat.le_of_ble_eq_true rfl) ?_
  show zJ ztops RX9 cX9_takes 3 _ 0 0 0 [(0, .ref 39), (1, .int v1)] [] M
  rw [f9_takes] at h
  refine zg_aload_n 0 dX9_takes_0 rfl rfl ?_
  refine zg_geti fl_X9_147 zt_39 rfl dX9_takes_1 ?_
  refine zg_aload_n 0 dX9_takes_4 rfl rfl ?_
  refine zg_geti fl_X9_158 zt_39 rfl dX9_takes_5 ?_
  refine zg_icmp_ge (tgt := 28) dX9_takes_8 (by decide) (fun hc => ?_) (fun hc => ?_)
  · replace h := (if_pos hc).symm.trans h
    refine zg_iconst dX9_takes_28 zki_0 ?_
    refine zo_sub (ls' := [(0, .ref 39)]) [0] rfl ?_
    exact g9_takes_29 _ _ h
  · replace h := (if_neg hc).symm.trans h
    refine zg_aload_n 0 dX9_takes_11 rfl rfl ?_
    refine zo_getr 43 3 rfl fl_X9_31 zt_39 rfl dX9_takes_12 ?_
    refine zg_aload_n 0 dX9_takes_15 rfl rfl ?_
    refine zg_geti fl_X9_147 zt_39 rfl dX9_takes_16 ?_
    obtain ⟨x1, hx1, h⟩ := z_bind h
    refine zo_iald zt_43 hx1 dX9_takes_19 ?_
    refine zg_iload_n 1 dX9_takes_20 rfl rfl ?_
    suffices hj : zJ ztops RX9 cX9_takes 3 (zBm ztops 2 (some .boolean) (some (.int r1)) Mr) 0 0 29 [(0, .ref 39), (1, .int v1)] [.int (if x1 = v1 then (1 : Int32) else (0 : Int32))] M by
      refine zg_icmp_ne (tgt := 28) dX9_takes_21 (by decide) (fun hc => ?_) (fun hc => ?_)
      · rw [show (if x1 = v1 then (1 : Int32) else (0 : Int32)) = (0 : Int32) from if_neg hc] at hj
        refine zg_iconst dX9_takes_28 zki_0 ?_
        exact hj
      · rw [show (if x1 = v1 then (1 : Int32) else (0 : Int32)) = (1 : Int32) from if_pos hc] at hj
        refine zg_iconst dX9_takes_24 zki_1 ?_
        refine zg_goto (tgt := 29) dX9_takes_25 (by decide) ?_
        exact hj
    refine zo_sub (ls' := [(0, .ref 39)]) [0] rfl ?_
    exact g9_takes_29 _ _ h
set_option maxRecDepth 20000 in
set_option maxHeartbeats 4000000 in
theorem k_X9_isDigit {r1 : Int32} {M : zM} (h : f9_isDigit M = some r1) : zK ztops yX9_isDigit cX9_isDigit 1 (some .boolean) 2 [.ref 39] M (some (.int r1)) M := by
  refine zK_of pl_X9 (Nat.le_of_ble_eq_true rfl) ?_
  show zJ ztops RX9 cX9_isDigit 1 _ 0 0 0 [(0, .ref 39)] [] M
  rw [f9_isDigit] at h
  refine zg_aload_n 0 dX9_isDigit_0 rfl rfl ?_
  refine zg_geti fl_X9_147 zt_39 rfl dX9_isDigit_1 ?_
  refine zg_aload_n 0 dX9_isDigit_4 rfl rfl ?_
  refine zg_geti fl_X9_158 zt_39 rfl dX9_isDigit_5 ?_
  refine zg_icmp_ge (tgt := 37) dX9_isDigit_8 (by decide) (fun hc => ?_) (fun hc => ?_)
  · replace h := (if_pos hc).symm.trans h
    refine zg_iconst dX9_isDigit_37 zki_0 ?_
    obtain rfl := z_ret1 h
    exact zg_zret rfl dX9_isDigit_38
  · replace h := (if_neg hc).symm.trans h
    refine zg_aload_n 0 dX9_isDigit_11 rfl rfl ?_
    refine zo_getr 43 3 rfl fl_X9_31 zt_39 rfl dX9_isDigit_12 ?_
    refine zg_aload_n 0 dX9_isDigit_15 rfl rfl ?_
    refine zg_geti fl_X9_147 zt_39 rfl dX9_isDigit_16 ?_
    obtain ⟨x1, hx1, h⟩ := z_bind h
    refine zo_iald zt_43 hx1 dX9_isDigit_19 ?_
    refine zg_i2l dX9_isDigit_20 ?_
    refine zg_ldc2 kc_X9_161 dX9_isDigit_21 ?_
    refine zg_ldc2 kc_X9_163 dX9_isDigit_24 ?_
    obtain ⟨x2, hx2, h⟩ := z_bind h
    refine zg_callS (st := []) (k_X9_in hx2) zY_X9_in ls_X9_104 rfl (zfit_m (by decide) (by decide)) (Nat.le_of_ble_eq_true rfl) dX9_isDigit_27 rfl ?_
    suffices hj : zJ ztops RX9 cX9_isDigit 1 (zBm ztops 2 (some .boolean) (some (.int r1)) M) 0 0 38 [(0, .ref 39)] [.int (if x2 = 0 then (0 : Int32) else (1 : Int32))] M by
      refine zg_if_eq (tgt := 37) dX9_isDigit_30 (by decide) (fun hc => ?_) (fun hc => ?_)
      · rw [show (if x2 = 0 then (0 : Int32) else (1 : Int32)) = (0 : Int32) from if_pos hc] at hj
        refine zg_iconst dX9_isDigit_37 zki_0 ?_
        exact hj
      · rw [show (if x2 = 0 then (0 : Int32) else (1 : Int32)) = (1 : Int32) from if_neg hc] at hj
        refine zg_iconst dX9_isDigit_33 zki_1 ?_
        refine zg_goto (tgt := 38) dX9_isDigit_34 (by decide) ?_
        exact hj
    obtain rfl := z_ret1 h
    exact zg_zret (zn_ite rfl rfl) dX9_isDigit_38
