set_option maxRecDepth 20000 in
set_option maxHeartbeats 4000000 in
theorem k_X8_nights {v1 : Int32} {M : zM} {r1 : Int32} {M1 : zM} (h : f8_nights v1 M = some (r1, M1)) : zK ztops yX8_nights cX8_nights 2 (some .int) 7 [.ref 0, .int v1] M (some (.int r1)) M1 := by
  refine zK_of pl_X8 (Nat.le_of_ble_eq_true rfl) ?_
  show zJ ztops RX8 cX8_nights 2 _ 0 0 0 [(0, .ref 0), (1, .int v1)] [] M
  rw [f8_nights] at h
  refine zg_iload_n 1 dX8_nights_0 rfl rfl ?_
  refine zg_if_lt (tgt := 10) dX8_nights_1 (by decide) (fun hc => ?_) (fun hc => ?_)
  · replace h := (if_pos hc).symm.trans h
    refine zg_iconst dX8_nights_10 zki_m1 ?_
    cases h
    exact zg_iret dX8_nights_11
  · replace h := (if_neg hc).symm.trans h
    refine zg_iload_n 1 dX8_nights_4 rfl rfl ?_
    refine zg_bipush dX8_nights_5 zkb_60 ?_
    refine zg_icmp_le (tgt := 12) dX8_nights_7 (by decide) (fun hc => ?_) (fun hc => ?_)
    · replace h := (if_pos hc).symm.trans h
      refine zg_aload_n 0 dX8_nights_12 rfl rfl ?_
      refine zo_getr 33 33 rfl fl_X8_72 zt_0 rfl dX8_nights_13 ?_
      refine zg_aload_n 0 dX8_nights_16 rfl rfl ?_
      refine zo_getr 1 1 rfl fl_X8_10 zt_0 rfl dX8_nights_17 ?_
      obtain ⟨x1, hx1, h⟩ := z_bind h
      refine zg_callV (st := [.ref 33]) (k_X7_shape zW_1 hx1) zY_X7_shape lv_X8_141 rfl zt_1 rfl (zfit_m (by decide) (by decide)) (Nat.le_of_ble_eq_true rfl) dX8_nights_20 rfl ?_
      refine zg_aload_n 0 dX8_nights_23 rfl rfl ?_
      refine zo_getr 1 1 rfl fl_X8_10 zt_0 rfl dX8_nights_24 ?_
      refine zg_geti fl_X8_145 zt_1 rfl dX8_nights_27 ?_
      obtain ⟨M2, hM2, h⟩ := z_bind h
      refine zg_callV (st := []) (k_X2_push zM_33 hM2) zY_X2_push lv_X8_148 rfl zt_33 rfl (zfit_m (by decide) (by decide)) (Nat.le_of_ble_eq_true rfl) dX8_nights_30 rfl ?_
      refine zg_aload_n 0 dX8_nights_33 rfl rfl ?_
      refine zg_iload_n 1 dX8_nights_34 rfl rfl ?_
      obtain ⟨p3, hp3, h⟩ := z_bind h
      refine zg_callV (st := []) (k_X8_passNights hp3) zY_X8_passNights lv_X8_152 rfl zt_0 rfl (zfit_m (by decide) (by decide)) (Nat.le_of_ble_eq_true rfl) dX8_nights_35 rfl ?_
      cases h
      exact zg_iret dX8_nights_38
    · replace h := (if_neg hc).symm.trans h
      refine zg_iconst dX8_nights_10 zki_m1 ?_
      cases h
      exact zg_iret dX8_nights_11
set_option maxRecDepth 20000 in
set_option maxHeartbeats 4000000 in
theorem g8_work_83 {r1 : Int32} {M1 : zM} {k48 : Int64 → Int32 → Int32 → Int32 → Int32 → zM → Option (Int32 × zM)} (hk48 : ∀ (v2 : Int64) (v4 : Int32) (v5 : Int32) (v6 : Int32) (v7 : Int32) (M : zM), k48 v2 v4 v5 v6 v7 M = some (r1, M1) → zJ ztops RX8 cX8_work 8 (zBm ztops 8 (some .int) (some (.int r1)) M1) 0 0 48 [(0, .ref 0), (2, .long v2), (4, .int v4), (5, .int v5), (6, .int v6), (7, .int v7)] [] M) : ∀ (v2 : Int64) (v4 : Int32) (v5 : Int32) (v6 : Int32) (v7 : Int32) (M : zM), f8_work_83 k48 v2 v4 v5 v6 v7 M = some (r1, M1) → zJ ztops RX8 cX8_work 8 (zBm ztops 8 (some .int) (some (.int r1)) M1) 0 0 83 [(0, .ref 0), (2, .long v2), (4, .int v4), (5, .int v5), (6, .int v6), (7, .int v7)] [] M := by
  intro v2 v4 v5 v6 v7 M h
  rw [f8_work_83] at h
  refine zg_iload 5 dX8_work_83 rfl ?_
  refine zg_iconst dX8_work_85 zki_1 ?_
  refine zg_aload_n 0 dX8_work_86 rfl rfl ?_
  refine zo_getr 7 7 rfl fl_X8_25 zt_0 rfl dX8_work_87 ?_
  refine zg_iload 5 dX8_work_90 rfl ?_
  obtain ⟨x1, hx1, h⟩ := z_bind h
  refine zg_callV (st := [.int (1 : Int32), .int v7]) (k_X6_at hx1) zY_X6_at lv_X8_179 rfl zt_7 rfl (zfit_m (by decide) (by decide)) (Nat.le_of_ble_eq_true rfl) dX8_work_92 rfl ?_
  obtain ⟨x2, hx2, h⟩ := z_bind h
  refine zg_callS (st := [.int (1 : Int32), .int v7]) (k_X8_digitsOf hx2) zY_X8_digitsOf ls_X8_182 rfl (zfit_m (by decide) (by decide)) (Nat.le_of_ble_eq_true rfl) dX8_work_95 rfl ?_
  obtain ⟨x3, hx3, h⟩ := z_bind h
  refine zo_slen (st := [.int (1 : Int32), .int v7]) (zfit_m (by decide) (by decide)) (Nat.le_of_ble_eq_true rfl) lv_X8_186 hx3 dX8_work_98 ?_
  refine zg_iadd dX8_work_101 ?_
  refine zg_iadd dX8_work_102 ?_
  refine zg_istore (ls' := [(0, .ref 0), (2, .long v2), (4, .int v4), (5, .int v5), (6, .int v6), (7, .int (v7 + ((1 : Int32) + x3)))]) dX8_work_103 (Nat.le_of_ble_eq_true rfl) rfl ?_
  refine zg_goto (tgt := 48) dX8_work_105 (by decide) ?_
  exact hk48 _ _ _ _ _ _ h
set_option maxRecDepth 20000 in
set_option maxHeartbeats 4000000 in
theorem g8_work_131 {r1 : Int32} {M1 : zM} : ∀ (v5 : Int32) (v6 : Int32) (M : zM), f8_work_131 v5 v6 M = some (r1, M1) → zJ ztops RX8 cX8_work 8 (zBm ztops 8 (some .int) (some (.int r1)) M1) 0 0 131 [(0, .ref 0), (5, .int v5), (6, .int v6)] [] M := by
  intro v5 v6 M h
  rw [f8_work_131] at h
  refine zg_aload_n 0 dX8_work_131 rfl rfl ?_
  refine zo_getr 9 9 rfl fl_X8_32 zt_0 rfl dX8_work_132 ?_
  refine zg_iload 2 dX8_work_135 rfl ?_
  refine zg_i2l dX8_work_137 ?_
  refine zg_aload_n 0 dX8_work_138 rfl rfl ?_
  refine zo_getr 1 1 rfl fl_X8_10 zt_0 rfl dX8_work_139 ?_
  obtain ⟨x1, hx1, h⟩ := z_bind h
  refine zg_callV (st := [.long (Int32.toInt64 v6), .ref 9]) (k_X7_threads zW_1 hx1) zY_X7_threads lv_X8_191 rfl zt_1 rfl (zfit_m (by decide) (by decide)) (Nat.le_of_ble_eq_true rfl) dX8_work_142 rfl ?_
  refine zg_i2l dX8_work_145 ?_
  obtain ⟨M2, hM2, h⟩ := z_bind h
  refine zg_callV (st := []) (k_X3_tell_ hM2) zY_X3_tell_ lv_X8_194 rfl zt_9 rfl (zfit_m (by decide) (by decide)) (Nat.le_of_ble_eq_true rfl) dX8_work_146 rfl ?_
  refine zg_iload 1 dX8_work_149 rfl ?_
  cases h
  exact zg_iret dX8_work_151
set_option maxRecDepth 20000 in
set_option maxHeartbeats 4000000 in
theorem g8_work_108 {r1 : Int32} {M1 : zM} : ∀ (v2 : Int64) (v4 : Int32) (v5 : Int32) (v6 : Int32) (M : zM), f8_work_108 v2 v4 v5 v6 M = some (r1, M1) → zJ ztops RX8 cX8_work 8 (zBm ztops 8 (some .int) (some (.int r1)) M1) 0 0 108 [(0, .ref 0), (2, .long v2), (4, .int v4), (5, .int v5), (6, .int v6)] [] M := by
  intro v2 v4 v5 v6 M h
  rw [f8_work_108] at h
  refine zg_aload_n 0 dX8_work_108 rfl rfl ?_
  refine zo_getr 7 7 rfl fl_X8_25 zt_0 rfl dX8_work_109 ?_
  refine zg_iconst dX8_work_112 zki_0 ?_
  refine zg_puti fp_X8_83 zt_7 rfl dX8_work_113 ?_
  refine zg_iload 3 dX8_work_116 rfl ?_
  refine zg_if_le (tgt := 131) dX8_work_118 (by decide) (fun hc => ?_) (fun hc => ?_)
  · replace h := (if_pos hc).symm.trans h
    refine zo_sub (ls' := [(0, .ref 0), (5, .int v5), (6, .int v6)]) [0, 3, 4] rfl ?_
    exact g8_work_131 _ _ _ h
  · replace h := (if_neg hc).symm.trans h
    refine zg_aload_n 0 dX8_work_121 rfl rfl ?_
    refine zo_getr 33 33 rfl fl_X8_72 zt_0 rfl dX8_work_122 ?_
    refine zg_lload_n 1 dX8_work_125 rfl rfl ?_
    refine zg_iload 2 dX8_work_126 rfl ?_
    obtain ⟨M1, hM1, h⟩ := z_bind h
    refine zg_callV (st := []) (k_X2_push zM_33 hM1) zY_X2_push lv_X8_148 rfl zt_33 rfl (zfit_m (by decide) (by decide)) (Nat.le_of_ble_eq_true rfl) dX8_work_128 rfl ?_
    refine zo_sub (ls' := [(0, .ref 0), (5, .int v5), (6, .int v6)]) [0, 3, 4] rfl ?_
    exact g8_work_131 _ _ _ h
set_option maxRecDepth 20000 in
set_option maxHeartbeats 4000000 in
theorem g8_work_48 {r1 : Int32} {M1 : zM} : ∀ (n : Nat) (v2 : Int64) (v4 : Int32) (v5 : Int32) (v6 : Int32) (v7 : Int32) (M : zM), f8_work_48 n v2 v4 v5 v6 v7 M = some (r1, M1) → zJ ztops RX8 cX8_work 8 (zBm ztops 8 (some .int) (some (.int r1)) M1) 0 0 48 [(0, .ref 0), (2, .long v2), (4, .int v4), (5, .int v5), (6, .int v6), (7, .int v7)] [] M := by
  intro n
  induction n with
  | zero => intro v2 v4 v5 v6 v7 M h; cases h
  | succ n ih =>
    intro v2 v4 v5 v6 v7 M h
    rw [f8_work_48] at h
    refine zg_iload 5 dX8_work_48 rfl ?_
    refine zg_aload_n 0 dX8_work_50 rfl rfl ?_
    refine zo_getr 7 7 rfl fl_X8_25 zt_0 rfl dX8_work_51 ?_
    refine zg_geti fl_X8_83 zt_7 rfl dX8_work_54 ?_
    refine zg_icmp_ge (tgt := 108) dX8_work_57 (by decide) (fun hc => ?_) (fun hc => ?_)
    · replace h := (if_pos hc).symm.trans h
      refine zo_sub (ls' := [(0, .ref 0), (2, .long v2), (4, .int v4), (5, .int v5), (6, .int v6)]) [0, 1, 2, 3, 4] rfl ?_
      exact g8_work_108 _ _ _ _ _ h
    · replace h := (if_neg hc).symm.trans h
      refine zg_iload 4 dX8_work_60 rfl ?_
      refine zg_if_ne (tgt := 108) dX8_work_62 (by decide) (fun hc => ?_) (fun hc => ?_)
      · replace h := (if_neg hc).symm.trans h
        refine zo_sub (ls' := [(0, .ref 0), (2, .long v2), (4, .int v4), (5, .int v5), (6, .int v6)]) [0, 1, 2, 3, 4] rfl ?_
        exact g8_work_108 _ _ _ _ _ h
      · replace h := (if_pos hc).symm.trans h
        refine zg_aload_n 0 dX8_work_65 rfl rfl ?_
        refine zg_iload 5 dX8_work_66 rfl ?_
        obtain ⟨p1, hp1, h⟩ := z_bind h
        refine zg_callV (st := []) (k_X8_actAt hp1) zY_X8_actAt lv_X8_176 rfl zt_0 rfl (zfit_m (by decide) (by decide)) (Nat.le_of_ble_eq_true rfl) dX8_work_68 rfl ?_
        refine zg_if_ge (tgt := 80) dX8_work_71 (by decide) (fun hc => ?_) (fun hc => ?_)
        · replace h := (if_pos hc).symm.trans h
          refine zg_iinc (ls' := [(0, .ref 0), (2, .long v2), (4, .int v4), (5, .int (v5 + (1 : Int32))), (6, .int v6), (7, .int v7)]) 3 dX8_work_80 rfl zki_1 (Nat.le_of_ble_eq_true rfl) rfl ?_
          exact g8_work_83 (fun u0 u1 u2 u3 u4 u5 h => ih u0 u1 u2 u3 u4 u5 h) _ _ _ _ _ _ h
        · replace h := (if_neg hc).symm.trans h
          refine zg_iconst dX8_work_74 zki_1 ?_
          refine zg_istore (ls' := [(0, .ref 0), (2, .long v2), (4, .int v4), (5, .int v5), (6, .int (1 : Int32)), (7, .int v7)]) dX8_work_75 (Nat.le_of_ble_eq_true rfl) rfl ?_
          refine zg_goto (tgt := 83) dX8_work_77 (by decide) ?_
          exact g8_work_83 (fun u0 u1 u2 u3 u4 u5 h => ih u0 u1 u2 u3 u4 u5 h) _ _ _ _ _ _ h
set_option maxRecDepth 20000 in
set_option maxHeartbeats 4000000 in
theorem k_X8_work {M : zM} {r1 : Int32} {M1 : zM} (h : f8_work M = some (r1, M1)) : zK ztops yX8_work cX8_work 8 (some .int) 8 [.ref 0] M (some (.int r1)) M1 := by
  refine zK_of pl_X8 (Nat.le_of_ble_eq_true rfl) ?_
  show zJ ztops RX8 cX8_work 8 _ 0 0 0 [(0, .ref 0)] [] M
  rw [f8_work] at h
  refine zg_aload_n 0 dX8_work_0 rfl rfl ?_
  obtain ⟨x1, hx1, h⟩ := z_bind h
  refine zg_callV (st := []) (k_X8_workFault hx1) zY_X8_workFault lv_X8_172 rfl zt_0 rfl (zfit_m (by decide) (by decide)) (Nat.le_of_ble_eq_true rfl) dX8_work_1 rfl ?_
  refine zg_istore_n (ls' := [(0, .ref 0), (1, .int x1)]) dX8_work_4 rfl (Nat.le_of_ble_eq_true rfl) rfl ?_
  refine zg_iload_n 1 dX8_work_5 rfl rfl ?_
  refine zg_iconst dX8_work_6 zki_m1 ?_
  refine zg_icmp_eq (tgt := 22) dX8_work_7 (by decide) (fun hc => ?_) (fun hc => ?_)
  · replace h := (if_pos hc).symm.trans h
    refine zg_aload_n 0 dX8_work_22 rfl rfl ?_
    refine zo_getr 1 1 rfl fl_X8_10 zt_0 rfl dX8_work_23 ?_
    obtain ⟨x2, hx2, h⟩ := z_bind h
    refine zg_callV (st := []) (k_X7_shape zW_1 hx2) zY_X7_shape lv_X8_141 rfl zt_1 rfl (zfit_m (by decide) (by decide)) (Nat.le_of_ble_eq_true rfl) dX8_work_26 rfl ?_
    refine zg_lstore_n (ls' := [(0, .ref 0), (1, .int x1), (2, .long x2)]) dX8_work_29 rfl (Nat.le_of_ble_eq_true rfl) rfl ?_
    refine zg_aload_n 0 dX8_work_30 rfl rfl ?_
    refine zo_getr 1 1 rfl fl_X8_10 zt_0 rfl dX8_work_31 ?_
    refine zg_geti fl_X8_145 zt_1 rfl dX8_work_34 ?_
    refine zg_istore (ls' := [(0, .ref 0), (1, .int x1), (2, .long x2), (4, .int (M.1 1 2))]) dX8_work_37 (Nat.le_of_ble_eq_true rfl) rfl ?_
    refine zg_iconst dX8_work_39 zki_0 ?_
    refine zg_istore (ls' := [(0, .ref 0), (1, .int x1), (2, .long x2), (4, .int (M.1 1 2)), (5, .int (0 : Int32))]) dX8_work_40 (Nat.le_of_ble_eq_true rfl) rfl ?_
    refine zg_iconst dX8_work_42 zki_0 ?_
    refine zg_istore (ls' := [(0, .ref 0), (1, .int x1), (2, .long x2), (4, .int (M.1 1 2)), (5, .int (0 : Int32)), (6, .int (0 : Int32))]) dX8_work_43 (Nat.le_of_ble_eq_true rfl) rfl ?_
    refine zg_iconst dX8_work_45 zki_0 ?_
    refine zg_istore (ls' := [(0, .ref 0), (1, .int x1), (2, .long x2), (4, .int (M.1 1 2)), (5, .int (0 : Int32)), (6, .int (0 : Int32)), (7, .int (0 : Int32))]) dX8_work_46 (Nat.le_of_ble_eq_true rfl) rfl ?_
    refine zo_sub (ls' := [(0, .ref 0), (2, .long x2), (4, .int (M.1 1 2)), (5, .int (0 : Int32)), (6, .int (0 : Int32)), (7, .int (0 : Int32))]) [0, 2, 3, 4, 5, 6] rfl ?_
    exact g8_work_48 zfuel _ _ _ _ _ _ h
  · replace h := (if_neg hc).symm.trans h
    refine zg_aload_n 0 dX8_work_10 rfl rfl ?_
    refine zo_getr 7 7 rfl fl_X8_25 zt_0 rfl dX8_work_11 ?_
    refine zg_iconst dX8_work_14 zki_0 ?_
    refine zg_puti fp_X8_83 zt_7 rfl dX8_work_15 ?_
    refine zg_iconst dX8_work_18 zki_m1 ?_
    refine zg_iload_n 1 dX8_work_19 rfl rfl ?_
    refine zg_isub dX8_work_20 ?_
    cases h
    exact zg_iret dX8_work_21
set_option maxRecDepth 20000 in
set_option maxHeartbeats 4000000 in
theorem g8_outlasts_44 {r1 : Int32} {M1 : zM} {k6 : Int32 → Int32 → Int32 → zM → Option (Int32 × zM)} (hk6 : ∀ (v1 : Int32) (v2 : Int32) (v3 : Int32) (M : zM), k6 v1 v2 v3 M = some (r1, M1) → zJ ztops RX8 cX8_outlasts 5 (zBm ztops 4 (some .int) (some (.int r1)) M1) 0 0 6 [(0, .ref 0), (1, .int v1), (2, .int v2), (3, .int v3)] [] M) : ∀ (v1 : Int32) (v2 : Int32) (v3 : Int32) (M : zM), f8_outlasts_44 k6 v1 v2 v3 M = some (r1, M1) → zJ ztops RX8 cX8_outlasts 5 (zBm ztops 4 (some .int) (some (.int r1)) M1) 0 0 44 [(0, .ref 0), (1, .int v1), (2, .int v2), (3, .int v3)] [] M := by
  intro v1 v2 v3 M h
  rw [f8_outlasts_44] at h
  refine zg_iinc (ls' := [(0, .ref 0), (1, .int v1), (2, .int v2), (3, .int (v3 + (1 : Int32)))]) 3 dX8_outlasts_44 rfl zki_1 (Nat.le_of_ble_eq_true rfl) rfl ?_
  refine zg_goto (tgt := 6) dX8_outlasts_47 (by decide) ?_
  exact hk6 _ _ _ _ h
set_option maxRecDepth 20000 in
set_option maxHeartbeats 4000000 in
theorem g8_outlasts_6 {r1 : Int32} {M1 : zM} : ∀ (n : Nat) (v1 : Int32) (v2 : Int32) (v3 : Int32) (M : zM), f8_outlasts_6 n v1 v2 v3 M = some (r1, M1) → zJ ztops RX8 cX8_outlasts 5 (zBm ztops 4 (some .int) (some (.int r1)) M1) 0 0 6 [(0, .ref 0), (1, .int v1), (2, .int v2), (3, .int v3)] [] M := by
  intro n
  induction n with
  | zero => intro v1 v2 v3 M h; cases h
  | succ n ih =>
    intro v1 v2 v3 M h
    rw [f8_outlasts_6] at h
    refine zg_iload_n 3 dX8_outlasts_6 rfl rfl ?_
    refine zg_iconst dX8_outlasts_7 zki_1 ?_
    refine zg_aload_n 0 dX8_outlasts_8 rfl rfl ?_
    refine zo_getr 1 1 rfl fl_X8_10 zt_0 rfl dX8_outlasts_9 ?_
    refine zg_geti fl_X8_100 zt_1 rfl dX8_outlasts_12 ?_
    refine zg_ishl dX8_outlasts_15 ?_
    refine zg_icmp_ge (tgt := 50) dX8_outlasts_16 (by decide) (fun hc => ?_) (fun hc => ?_)
    · replace h := (if_pos hc).symm.trans h
      refine zg_aload_n 0 dX8_outlasts_50 rfl rfl ?_
      refine zo_getr 9 9 rfl fl_X8_32 zt_0 rfl dX8_outlasts_51 ?_
      refine zg_iload_n 2 dX8_outlasts_54 rfl rfl ?_
      refine zg_i2l dX8_outlasts_55 ?_
      obtain ⟨M1, hM1, h⟩ := z_bind h
      refine zg_callV (st := []) (k_X3_tell hM1) zY_X3_tell lv_X8_207 rfl zt_9 rfl (zfit_m (by decide) (by decide)) (Nat.le_of_ble_eq_true rfl) dX8_outlasts_56 rfl ?_
      refine zg_iload_n 1 dX8_outlasts_59 rfl rfl ?_
      cases h
      exact zg_iret dX8_outlasts_60
    · replace h := (if_neg hc).symm.trans h
      refine zg_iload_n 3 dX8_outlasts_19 rfl rfl ?_
      obtain ⟨x1, hx1, h⟩ := z_bind h
      refine zg_callS (st := []) (k_J6_bitCount_0f7a4 hx1) zY_J6_bitCount_0f7a4 ls_X8_225 rfl (zfit_m (by decide) (by decide)) (Nat.le_of_ble_eq_true rfl) dX8_outlasts_20 rfl ?_
      refine zg_istore (ls' := [(0, .ref 0), (1, .int v1), (2, .int v2), (3, .int v3), (4, .int x1)]) dX8_outlasts_23 (Nat.le_of_ble_eq_true rfl) rfl ?_
      refine zg_iload 4 dX8_outlasts_25 rfl ?_
      refine zg_iload_n 1 dX8_outlasts_27 rfl rfl ?_
      refine zg_icmp_le (tgt := 44) dX8_outlasts_28 (by decide) (fun hc => ?_) (fun hc => ?_)
      · replace h := (if_pos hc).symm.trans h
        refine zo_sub (ls' := [(0, .ref 0), (1, .int v1), (2, .int v2), (3, .int v3)]) [0, 1, 2, 3] rfl ?_
        exact g8_outlasts_44 (fun u0 u1 u2 u3 h => ih u0 u1 u2 u3 h) _ _ _ _ h
      · replace h := (if_neg hc).symm.trans h
        refine zg_aload_n 0 dX8_outlasts_31 rfl rfl ?_
        refine zg_iload_n 3 dX8_outlasts_32 rfl rfl ?_
        obtain ⟨x2, hx2, h⟩ := z_bind h
        refine zg_callV (st := []) (k_X8_staysApart hx2) zY_X8_staysApart lv_X8_249 rfl zt_0 rfl (zfit_m (by decide) (by decide)) (Nat.le_of_ble_eq_true rfl) dX8_outlasts_33 rfl ?_
        refine zg_if_eq (tgt := 44) dX8_outlasts_36 (by decide) (fun hc => ?_) (fun hc => ?_)
        · replace h := (if_pos hc).symm.trans h
          refine zo_sub (ls' := [(0, .ref 0), (1, .int v1), (2, .int v2), (3, .int v3)]) [0, 1, 2, 3] rfl ?_
          exact g8_outlasts_44 (fun u0 u1 u2 u3 h => ih u0 u1 u2 u3 h) _ _ _ _ h
        · replace h := (if_neg hc).symm.trans h
          refine zg_iload 4 dX8_outlasts_39 rfl ?_
          refine zg_istore_n (ls' := [(0, .ref 0), (1, .int x1), (2, .int v2), (3, .int v3), (4, .int x1)]) dX8_outlasts_41 rfl (Nat.le_of_ble_eq_true rfl) rfl ?_
          refine zg_iload_n 3 dX8_outlasts_42 rfl rfl ?_
          refine zg_istore_n (ls' := [(0, .ref 0), (1, .int x1), (2, .int v3), (3, .int v3), (4, .int x1)]) dX8_outlasts_43 rfl (Nat.le_of_ble_eq_true rfl) rfl ?_
          refine zo_sub (ls' := [(0, .ref 0), (1, .int x1), (2, .int v3), (3, .int v3)]) [0, 1, 2, 3] rfl ?_
          exact g8_outlasts_44 (fun u0 u1 u2 u3 h => ih u0 u1 u2 u3 h) _ _ _ _ h
set_option maxRecDepth 20000 in
set_option maxHeartbeats 4000000 in
theorem k_X8_outlasts {M : zM} {r1 : Int32} {M1 : zM} (h : f8_outlasts M = some (r1, M1)) : zK ztops yX8_outlasts cX8_outlasts 5 (some .int) 4 [.ref 0] M (some (.int r1)) M1 := by
  refine zK_of pl_X8 (Nat.le_of_ble_eq_true rfl) ?_
  show zJ ztops RX8 cX8_outlasts 5 _ 0 0 0 [(0, .ref 0)] [] M
  rw [f8_outlasts] at h
  refine zg_iconst dX8_outlasts_0 zki_0 ?_
  refine zg_istore_n (ls' := [(0, .ref 0), (1, .int (0 : Int32))]) dX8_outlasts_1 rfl (Nat.le_of_ble_eq_true rfl) rfl ?_
  refine zg_iconst dX8_outlasts_2 zki_0 ?_
  refine zg_istore_n (ls' := [(0, .ref 0), (1, .int (0 : Int32)), (2, .int (0 : Int32))]) dX8_outlasts_3 rfl (Nat.le_of_ble_eq_true rfl) rfl ?_
  refine zg_iconst dX8_outlasts_4 zki_1 ?_
  refine zg_istore_n (ls' := [(0, .ref 0), (1, .int (0 : Int32)), (2, .int (0 : Int32)), (3, .int (1 : Int32))]) dX8_outlasts_5 rfl (Nat.le_of_ble_eq_true rfl) rfl ?_
  exact g8_outlasts_6 zfuel _ _ _ _ h
