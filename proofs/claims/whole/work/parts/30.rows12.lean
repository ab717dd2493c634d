set_option maxRecDepth 20000 in
set_option maxHeartbeats 4000000 in
theorem g8_differs_130 {r1 : Int32} {M1 : zM} {k92 : Int32 → Int32 → Int32 → Int32 → Int32 → zM → Option (Int32 × zM)} (hk92 : ∀ (v2 : Int32) (v3 : Int32) (v4 : Int32) (v5 : Int32) (v6 : Int32) (M : zM), k92 v2 v3 v4 v5 v6 M = some (r1, M1) → zJ ztops RX8 cX8_differs 8 (zBm ztops 6 (some .int) (some (.int r1)) M1) 0 0 92 [(0, .ref 0), (2, .int v2), (3, .int v3), (4, .int v4), (5, .int v5), (6, .int v6)] [] M) : ∀ (v2 : Int32) (v3 : Int32) (v4 : Int32) (v5 : Int32) (v6 : Int32) (M : zM), f8_differs_130 k92 v2 v3 v4 v5 v6 M = some (r1, M1) → zJ ztops RX8 cX8_differs 8 (zBm ztops 6 (some .int) (some (.int r1)) M1) 0 0 130 [(0, .ref 0), (2, .int v2), (3, .int v3), (4, .int v4), (5, .int v5), (6, .int v6)] [] M := by
  intro v2 v3 v4 v5 v6 M h
  rw [f8_differs_130] at h
  refine zg_iinc (ls' := [(0, .ref 0), (2, .int v2), (3, .int v3), (4, .int v4), (5, .int v5), (6, .int (v6 + (1 : Int32)))]) 5 dX8_differs_130 rfl zki_1 (Nat.le_of_ble_eq_true rfl) rfl ?_
  refine zg_goto (tgt := 92) dX8_differs_133 (by decide) ?_
  exact hk92 _ _ _ _ _ _ h
set_option maxRecDepth 20000 in
set_option maxHeartbeats 4000000 in
theorem g8_differs_92 {r1 : Int32} {M1 : zM} {k136 : Int32 → Int32 → Int32 → Int32 → zM → Option (Int32 × zM)} (hk136 : ∀ (v2 : Int32) (v3 : Int32) (v4 : Int32) (v5 : Int32) (M : zM), k136 v2 v3 v4 v5 M = some (r1, M1) → zJ ztops RX8 cX8_differs 8 (zBm ztops 6 (some .int) (some (.int r1)) M1) 0 0 136 [(0, .ref 0), (2, .int v2), (3, .int v3), (4, .int v4), (5, .int v5)] [] M) : ∀ (n : Nat) (v2 : Int32) (v3 : Int32) (v4 : Int32) (v5 : Int32) (v6 : Int32) (M : zM), f8_differs_92 k136 n v2 v3 v4 v5 v6 M = some (r1, M1) → zJ ztops RX8 cX8_differs 8 (zBm ztops 6 (some .int) (some (.int r1)) M1) 0 0 92 [(0, .ref 0), (2, .int v2), (3, .int v3), (4, .int v4), (5, .int v5), (6, .int v6)] [] M := by
  intro n
  induction n with
  | zero => intro v2 v3 v4 v5 v6 M h; cases h
  | succ n ih =>
    intro v2 v3 v4 v5 v6 M h
    rw [f8_differs_92] at h
    refine zg_iload 5 dX8_differs_92 rfl ?_
    refine zg_aload_n 0 dX8_differs_94 rfl rfl ?_
    refine zo_getr 1 1 rfl fl_X8_10 zt_0 rfl dX8_differs_95 ?_
    refine zg_geti fl_X8_213 zt_1 rfl dX8_differs_98 ?_
    refine zg_icmp_ge (tgt := 136) dX8_differs_101 (by decide) (fun hc => ?_) (fun hc => ?_)
    · replace h := (if_pos hc).symm.trans h
      refine zo_sub (ls' := [(0, .ref 0), (2, .int v2), (3, .int v3), (4, .int v4), (5, .int v5)]) [0, 1, 2, 3, 4] rfl ?_
      exact hk136 _ _ _ _ _ h
    · replace h := (if_neg hc).symm.trans h
      refine zg_aload_n 0 dX8_differs_104 rfl rfl ?_
      refine zg_iload 4 dX8_differs_105 rfl ?_
      refine zg_iload 5 dX8_differs_107 rfl ?_
      obtain ⟨x1, hx1, h⟩ := z_bind h
      refine zg_callV (st := []) (k_X8_differences hx1) zY_X8_differences lv_X8_300 rfl zt_0 rfl (zfit_m (by decide) (by decide)) (Nat.le_of_ble_eq_true rfl) dX8_differs_109 rfl ?_
      refine zg_istore (ls' := [(0, .ref 0), (2, .int v2), (3, .int v3), (4, .int v4), (5, .int v5), (6, .int v6), (7, .int x1)]) dX8_differs_112 (Nat.le_of_ble_eq_true rfl) rfl ?_
      refine zg_iload 6 dX8_differs_114 rfl ?_
      refine zg_iload_n 1 dX8_differs_116 rfl rfl ?_
      refine zg_icmp_ge (tgt := 130) dX8_differs_117 (by decide) (fun hc => ?_) (fun hc => ?_)
      · replace h := (if_pos hc).symm.trans h
        refine zo_sub (ls' := [(0, .ref 0), (2, .int v2), (3, .int v3), (4, .int v4), (5, .int v5), (6, .int v6)]) [0, 1, 2, 3, 4, 5] rfl ?_
        exact g8_differs_130 (fun u0 u1 u2 u3 u4 u5 h => ih u0 u1 u2 u3 u4 u5 h) _ _ _ _ _ _ h
      · replace h := (if_neg hc).symm.trans h
        refine zg_iload 6 dX8_differs_120 rfl ?_
        refine zg_istore_n (ls' := [(0, .ref 0), (2, .int x1), (3, .int v3), (4, .int v4), (5, .int v5), (6, .int v6), (7, .int x1)]) dX8_differs_122 rfl (Nat.le_of_ble_eq_true rfl) rfl ?_
        refine zg_iload 4 dX8_differs_123 rfl ?_
        refine zg_istore_n (ls' := [(0, .ref 0), (2, .int x1), (3, .int v5), (4, .int v4), (5, .int v5), (6, .int v6), (7, .int x1)]) dX8_differs_125 rfl (Nat.le_of_ble_eq_true rfl) rfl ?_
        refine zg_iload 5 dX8_differs_126 rfl ?_
        refine zg_istore (ls' := [(0, .ref 0), (2, .int x1), (3, .int v5), (4, .int v6), (5, .int v5), (6, .int v6), (7, .int x1)]) dX8_differs_128 (Nat.le_of_ble_eq_true rfl) rfl ?_
        refine zo_sub (ls' := [(0, .ref 0), (2, .int x1), (3, .int v5), (4, .int v6), (5, .int v5), (6, .int v6)]) [0, 1, 2, 3, 4, 5] rfl ?_
        exact g8_differs_130 (fun u0 u1 u2 u3 u4 u5 h => ih u0 u1 u2 u3 u4 u5 h) _ _ _ _ _ _ h
set_option maxRecDepth 20000 in
set_option maxHeartbeats 4000000 in
theorem g8_differs_77 {r1 : Int32} {M1 : zM} {k136 : Int32 → Int32 → Int32 → Int32 → zM → Option (Int32 × zM)} (hk136 : ∀ (v2 : Int32) (v3 : Int32) (v4 : Int32) (v5 : Int32) (M : zM), k136 v2 v3 v4 v5 M = some (r1, M1) → zJ ztops RX8 cX8_differs 8 (zBm ztops 6 (some .int) (some (.int r1)) M1) 0 0 136 [(0, .ref 0), (2, .int v2), (3, .int v3), (4, .int v4), (5, .int v5)] [] M) : ∀ (n : Nat) (v2 : Int32) (v3 : Int32) (v4 : Int32) (v5 : Int32) (M : zM), f8_differs_77 k136 n v2 v3 v4 v5 M = some (r1, M1) → zJ ztops RX8 cX8_differs 8 (zBm ztops 6 (some .int) (some (.int r1)) M1) 0 0 77 [(0, .ref 0), (2, .int v2), (3, .int v3), (4, .int v4), (5, .int v5)] [] M := by
  intro n
  induction n with
  | zero => intro v2 v3 v4 v5 M h; cases h
  | succ n ih =>
    intro v2 v3 v4 v5 M h
    rw [f8_differs_77] at h
    refine zg_iload 4 dX8_differs_77 rfl ?_
    refine zg_aload_n 0 dX8_differs_79 rfl rfl ?_
    refine zo_getr 1 1 rfl fl_X8_10 zt_0 rfl dX8_differs_80 ?_
    refine zg_geti fl_X8_100 zt_1 rfl dX8_differs_83 ?_
    refine zg_icmp_ge (tgt := 142) dX8_differs_86 (by decide) (fun hc => ?_) (fun hc => ?_)
    · replace h := (if_pos hc).symm.trans h
      refine zg_aload_n 0 dX8_differs_142 rfl rfl ?_
      refine zo_getr 9 9 rfl fl_X8_32 zt_0 rfl dX8_differs_143 ?_
      refine zg_iload_n 1 dX8_differs_146 rfl rfl ?_
      refine zg_i2l dX8_differs_147 ?_
      refine zg_iload_n 2 dX8_differs_148 rfl rfl ?_
      refine zg_i2l dX8_differs_149 ?_
      obtain ⟨M1, hM1, h⟩ := z_bind h
      refine zg_callV (st := []) (k_X3_tell_ hM1) zY_X3_tell_ lv_X8_194 rfl zt_9 rfl (zfit_m (by decide) (by decide)) (Nat.le_of_ble_eq_true rfl) dX8_differs_150 rfl ?_
      refine zg_aload_n 0 dX8_differs_153 rfl rfl ?_
      refine zo_getr 9 9 rfl fl_X8_32 zt_0 rfl dX8_differs_154 ?_
      refine zg_iload 3 dX8_differs_157 rfl ?_
      refine zg_i2l dX8_differs_159 ?_
      obtain ⟨M2, hM2, h⟩ := z_bind h
      refine zg_callV (st := []) (k_X3_add hM2) zY_X3_add lv_X8_216 rfl zt_9 rfl (zfit_m (by decide) (by decide)) (Nat.le_of_ble_eq_true rfl) dX8_differs_160 rfl ?_
      refine zg_aload_n 0 dX8_differs_163 rfl rfl ?_
      refine zg_iconst dX8_differs_164 zki_0 ?_
      refine zg_iconst dX8_differs_165 zki_0 ?_
      obtain ⟨x3, hx3, h⟩ := z_bind h
      refine zg_callV (st := []) (k_X8_differences hx3) zY_X8_differences lv_X8_300 rfl zt_0 rfl (zfit_m (by decide) (by decide)) (Nat.le_of_ble_eq_true rfl) dX8_differs_166 rfl ?_
      cases h
      exact zg_iret dX8_differs_169
    · replace h := (if_neg hc).symm.trans h
      refine zg_iconst dX8_differs_89 zki_0 ?_
      refine zg_istore (ls' := [(0, .ref 0), (2, .int v2), (3, .int v3), (4, .int v4), (5, .int v5), (6, .int (0 : Int32))]) dX8_differs_90 (Nat.le_of_ble_eq_true rfl) rfl ?_
      exact g8_differs_92 (fun u0 u1 u2 u3 u4 h => g8_differs_136 (fun u0 u1 u2 u3 u4 h => ih u0 u1 u2 u3 u4 h) u0 u1 u2 u3 u4 h) zfuel _ _ _ _ _ _ h
set_option maxRecDepth 20000 in
set_option maxHeartbeats 4000000 in
theorem g8_differs_136 {r1 : Int32} {M1 : zM} {k77 : Int32 → Int32 → Int32 → Int32 → zM → Option (Int32 × zM)} (hk77 : ∀ (v2 : Int32) (v3 : Int32) (v4 : Int32) (v5 : Int32) (M : zM), k77 v2 v3 v4 v5 M = some (r1, M1) → zJ ztops RX8 cX8_differs 8 (zBm ztops 6 (some .int) (some (.int r1)) M1) 0 0 77 [(0, .ref 0), (2, .int v2), (3, .int v3), (4, .int v4), (5, .int v5)] [] M) : ∀ (v2 : Int32) (v3 : Int32) (v4 : Int32) (v5 : Int32) (M : zM), f8_differs_136 k77 v2 v3 v4 v5 M = some (r1, M1) → zJ ztops RX8 cX8_differs 8 (zBm ztops 6 (some .int) (some (.int r1)) M1) 0 0 136 [(0, .ref 0), (2, .int v2), (3, .int v3), (4, .int v4), (5, .int v5)] [] M := by
  intro v2 v3 v4 v5 M h
  rw [f8_differs_136] at h
  refine zg_iinc (ls' := [(0, .ref 0), (2, .int v2), (3, .int v3), (4, .int v4), (5, .int (v5 + (1 : Int32)))]) 4 dX8_differs_136 rfl zki_1 (Nat.le_of_ble_eq_true rfl) rfl ?_
  refine zg_goto (tgt := 77) dX8_differs_139 (by decide) ?_
  exact hk77 _ _ _ _ _ h
set_option maxRecDepth 20000 in
set_option maxHeartbeats 4000000 in
theorem k_X8_differs {M : zM} {r1 : Int32} {M1 : zM} (h : f8_differs M = some (r1, M1)) : zK ztops yX8_differs cX8_differs 8 (some .int) 6 [.ref 0] M (some (.int r1)) M1 := by
  refine zK_of pl_X8 (Nat.le_of_ble_eq_true rfl) ?_
  show zJ ztops RX8 cX8_differs 8 _ 0 0 0 [(0, .ref 0)] [] M
  rw [f8_differs] at h
  refine zg_aload_n 0 dX8_differs_0 rfl rfl ?_
  refine zo_getr 3 3 rfl fl_X8_16 zt_0 rfl dX8_differs_1 ?_
  refine zg_aload_n 0 dX8_differs_4 rfl rfl ?_
  refine zo_getr 7 7 rfl fl_X8_25 zt_0 rfl dX8_differs_5 ?_
  obtain ⟨p1, hp1, h⟩ := z_bind h
  refine zg_callV (st := []) (k_X7_readFrom zW_3 hp1) zY_X7_readFrom lv_X8_89 rfl zt_3 rfl (zfit_m (by decide) (by decide)) (Nat.le_of_ble_eq_true rfl) dX8_differs_8 rfl ?_
  refine zg_istore_n (ls' := [(0, .ref 0), (1, .int p1.1)]) dX8_differs_11 rfl (Nat.le_of_ble_eq_true rfl) rfl ?_
  refine zg_aload_n 0 dX8_differs_12 rfl rfl ?_
  refine zo_getr 7 7 rfl fl_X8_25 zt_0 rfl dX8_differs_13 ?_
  refine zg_iconst dX8_differs_16 zki_0 ?_
  refine zg_puti fp_X8_83 zt_7 rfl dX8_differs_17 ?_
  refine zg_iload_n 1 dX8_differs_20 rfl rfl ?_
  refine zg_iconst dX8_differs_21 zki_m1 ?_
  refine zg_icmp_eq (tgt := 29) dX8_differs_22 (by decide) (fun hc => ?_) (fun hc => ?_)
  · replace h := (if_pos hc).symm.trans h
    refine zg_aload_n 0 dX8_differs_29 rfl rfl ?_
    refine zo_getr 3 3 rfl fl_X8_16 zt_0 rfl dX8_differs_30 ?_
    refine zg_geti fl_X8_100 zt_3 rfl dX8_differs_33 ?_
    refine zg_aload_n 0 dX8_differs_36 rfl rfl ?_
    refine zo_getr 1 1 rfl fl_X8_10 zt_0 rfl dX8_differs_37 ?_
    refine zg_geti fl_X8_100 zt_1 rfl dX8_differs_40 ?_
    refine zg_icmp_ne (tgt := 63) dX8_differs_43 (by decide) (fun hc => ?_) (fun hc => ?_)
    · replace h := (if_neg hc).symm.trans h
      refine zg_bipush dX8_differs_63 zkb_m100 ?_
      cases h
      exact zg_iret dX8_differs_65
    · replace h := (if_pos hc).symm.trans h
      refine zg_aload_n 0 dX8_differs_46 rfl rfl ?_
      refine zo_getr 3 3 rfl fl_X8_16 zt_0 rfl dX8_differs_47 ?_
      refine zg_geti fl_X8_213 zt_3 rfl dX8_differs_50 ?_
      refine zg_aload_n 0 dX8_differs_53 rfl rfl ?_
      refine zo_getr 1 1 rfl fl_X8_10 zt_0 rfl dX8_differs_54 ?_
      refine zg_geti fl_X8_213 zt_1 rfl dX8_differs_57 ?_
      refine zg_icmp_eq (tgt := 66) dX8_differs_60 (by decide) (fun hc => ?_) (fun hc => ?_)
      · replace h := (if_pos hc).symm.trans h
        refine zg_bipush dX8_differs_66 zkb_37 ?_
        refine zg_istore_n (ls' := [(0, .ref 0), (1, .int p1.1), (2, .int (37 : Int32))]) dX8_differs_68 rfl (Nat.le_of_ble_eq_true rfl) rfl ?_
        refine zg_iconst dX8_differs_69 zki_0 ?_
        refine zg_istore_n (ls' := [(0, .ref 0), (1, .int p1.1), (2, .int (37 : Int32)), (3, .int (0 : Int32))]) dX8_differs_70 rfl (Nat.le_of_ble_eq_true rfl) rfl ?_
        refine zg_iconst dX8_differs_71 zki_0 ?_
        refine zg_istore (ls' := [(0, .ref 0), (1, .int p1.1), (2, .int (37 : Int32)), (3, .int (0 : Int32)), (4, .int (0 : Int32))]) dX8_differs_72 (Nat.le_of_ble_eq_true rfl) rfl ?_
        refine zg_iconst dX8_differs_74 zki_0 ?_
        refine zg_istore (ls' := [(0, .ref 0), (1, .int p1.1), (2, .int (37 : Int32)), (3, .int (0 : Int32)), (4, .int (0 : Int32)), (5, .int (0 : Int32))]) dX8_differs_75 (Nat.le_of_ble_eq_true rfl) rfl ?_
        refine zo_sub (ls' := [(0, .ref 0), (2, .int (37 : Int32)), (3, .int (0 : Int32)), (4, .int (0 : Int32)), (5, .int (0 : Int32))]) [0, 2, 3, 4, 5] rfl ?_
        exact g8_differs_77 hk136 zfuel _ _ _ _ _ h
      · replace h := (if_neg hc).symm.trans h
        refine zg_bipush dX8_differs_63 zkb_m100 ?_
        cases h
        exact zg_iret dX8_differs_65
  · replace h := (if_neg hc).symm.trans h
    refine zg_iconst dX8_differs_25 zki_m1 ?_
    refine zg_iload_n 1 dX8_differs_26 rfl rfl ?_
    refine zg_isub dX8_differs_27 ?_
    cases h
    exact zg_iret dX8_differs_28
set_option maxRecDepth 20000 in
set_option maxHeartbeats 4000000 in
theorem g8_looks_46 {r1 : Int32} {M1 : zM} : ∀ (v1 : Int32) (v2 : Int32) (v3 : Int32) (s0 : Int32) (M : zM), f8_looks_46 v1 v2 v3 s0 M = some (r1, M1) → zJ ztops RX8 cX8_looks 5 (zBm ztops 6 (some .int) (some (.int r1)) M1) 0 0 46 [(0, .ref 0), (1, .int v1), (2, .int v2), (3, .int v3)] [.int s0] M := by
  intro v1 v2 v3 s0 M h
  rw [f8_looks_46] at h
  refine zg_istore (ls' := [(0, .ref 0), (1, .int v1), (2, .int v2), (3, .int v3), (4, .int s0)]) dX8_looks_46 (Nat.le_of_ble_eq_true rfl) rfl ?_
  refine zg_aload_n 0 dX8_looks_48 rfl rfl ?_
  refine zo_getr 9 9 rfl fl_X8_32 zt_0 rfl dX8_looks_49 ?_
  refine zg_iload_n 1 dX8_looks_52 rfl rfl ?_
  refine zg_i2l dX8_looks_53 ?_
  refine zg_iload_n 2 dX8_looks_54 rfl rfl ?_
  refine zg_i2l dX8_looks_55 ?_
  obtain ⟨M1, hM1, h⟩ := z_bind h
  refine zg_callV (st := []) (k_X3_tell_ hM1) zY_X3_tell_ lv_X8_194 rfl zt_9 rfl (zfit_m (by decide) (by decide)) (Nat.le_of_ble_eq_true rfl) dX8_looks_56 rfl ?_
  refine zg_aload_n 0 dX8_looks_59 rfl rfl ?_
  refine zo_getr 9 9 rfl fl_X8_32 zt_0 rfl dX8_looks_60 ?_
  refine zg_iload_n 3 dX8_looks_63 rfl rfl ?_
  refine zg_i2l dX8_looks_64 ?_
  obtain ⟨M2, hM2, h⟩ := z_bind h
  refine zg_callV (st := []) (k_X3_add hM2) zY_X3_add lv_X8_216 rfl zt_9 rfl (zfit_m (by decide) (by decide)) (Nat.le_of_ble_eq_true rfl) dX8_looks_65 rfl ?_
  refine zg_aload_n 0 dX8_looks_68 rfl rfl ?_
  refine zo_getr 9 9 rfl fl_X8_32 zt_0 rfl dX8_looks_69 ?_
  refine zg_iload 4 dX8_looks_72 rfl ?_
  refine zg_i2l dX8_looks_74 ?_
  obtain ⟨M3, hM3, h⟩ := z_bind h
  refine zg_callV (st := []) (k_X3_add hM3) zY_X3_add lv_X8_216 rfl zt_9 rfl (zfit_m (by decide) (by decide)) (Nat.le_of_ble_eq_true rfl) dX8_looks_75 rfl ?_
  refine zg_iload_n 1 dX8_looks_78 rfl rfl ?_
  suffices hj : zJ ztops RX8 cX8_looks 5 (zBm ztops 6 (some .int) (some (.int r1)) M1) 0 0 87 [(0, .ref 0), (1, .int v1), (2, .int v2), (3, .int v3), (4, .int s0)] [.int (if v1 = 0 then (1 : Int32) else (0 : Int32))] M3 by
    refine zg_if_ne (tgt := 86) dX8_looks_79 (by decide) (fun hc => ?_) (fun hc => ?_)
    · rw [if_neg hc] at hj
      refine zg_iconst dX8_looks_86 zki_0 ?_
      exact hj
    · rw [if_pos hc] at hj
      refine zg_iconst dX8_looks_82 zki_1 ?_
      refine zg_goto (tgt := 87) dX8_looks_83 (by decide) ?_
      exact hj
  refine zg_iload_n 2 dX8_looks_87 rfl rfl ?_
  suffices hj : zJ ztops RX8 cX8_looks 5 (zBm ztops 6 (some .int) (some (.int r1)) M1) 0 0 96 [(0, .ref 0), (1, .int v1), (2, .int v2), (3, .int v3), (4, .int s0)] [.int (if v2 = 0 then (2 : Int32) else (0 : Int32)), .int (if v1 = 0 then (1 : Int32) else (0 : Int32))] M3 by
    refine zg_if_ne (tgt := 95) dX8_looks_88 (by decide) (fun hc => ?_) (fun hc => ?_)
    · rw [if_neg hc] at hj
      refine zg_iconst dX8_looks_95 zki_0 ?_
      exact hj
    · rw [if_pos hc] at hj
      refine zg_iconst dX8_looks_91 zki_2 ?_
      refine zg_goto (tgt := 96) dX8_looks_92 (by decide) ?_
      exact hj
  refine zg_iadd dX8_looks_96 ?_
  refine zg_iload_n 3 dX8_looks_97 rfl rfl ?_
  suffices hj : zJ ztops RX8 cX8_looks 5 (zBm ztops 6 (some .int) (some (.int r1)) M1) 0 0 106 [(0, .ref 0), (1, .int v1), (2, .int v2), (3, .int v3), (4, .int s0)] [.int (if v3 = 0 then (4 : Int32) else (0 : Int32)), .int ((if v1 = 0 then (1 : Int32) else (0 : Int32)) + (if v2 = 0 then (2 : Int32) else (0 : Int32)))] M3 by
    refine zg_if_ne (tgt := 105) dX8_looks_98 (by decide) (fun hc => ?_) (fun hc => ?_)
    · rw [if_neg hc] at hj
      refine zg_iconst dX8_looks_105 zki_0 ?_
      exact hj
    · rw [if_pos hc] at hj
      refine zg_iconst dX8_looks_101 zki_4 ?_
      refine zg_goto (tgt := 106) dX8_looks_102 (by decide) ?_
      exact hj
  refine zg_iadd dX8_looks_106 ?_
  refine zg_iload 4 dX8_looks_107 rfl ?_
  suffices hj : zJ ztops RX8 cX8_looks 5 (zBm ztops 6 (some .int) (some (.int r1)) M1) 0 0 118 [(0, .ref 0), (1, .int v1), (2, .int v2), (3, .int v3), (4, .int s0)] [.int (if s0 = 0 then (8 : Int32) else (0 : Int32)), .int (((if v1 = 0 then (1 : Int32) else (0 : Int32)) + (if v2 = 0 then (2 : Int32) else (0 : Int32))) + (if v3 = 0 then (4 : Int32) else (0 : Int32)))] M3 by
    refine zg_if_ne (tgt := 117) dX8_looks_109 (by decide) (fun hc => ?_) (fun hc => ?_)
    · rw [if_neg hc] at hj
      refine zg_iconst dX8_looks_117 zki_0 ?_
      exact hj
    · rw [if_pos hc] at hj
      refine zg_bipush dX8_looks_112 zkb_8 ?_
      refine zg_goto (tgt := 118) dX8_looks_114 (by decide) ?_
      exact hj
  refine zg_iadd dX8_looks_118 ?_
  cases h
  exact zg_iret dX8_looks_119
set_option maxRecDepth 20000 in
set_option maxHeartbeats 4000000 in
theorem k_X8_looks {M : zM} {r1 : Int32} {M1 : zM} (h : f8_looks M = some (r1, M1)) : zK ztops yX8_looks cX8_looks 5 (some .int) 6 [.ref 0] M (some (.int r1)) M1 := by
  refine zK_of pl_X8 (Nat.le_of_ble_eq_true rfl) ?_
  show zJ ztops RX8 cX8_looks 5 _ 0 0 0 [(0, .ref 0)] [] M
  rw [f8_looks] at h
  refine zg_aload_n 0 dX8_looks_0 rfl rfl ?_
  refine zg_iconst dX8_looks_1 zki_1 ?_
  refine zg_iconst dX8_looks_2 zki_0 ?_
  obtain ⟨x1, hx1, h⟩ := z_bind h
  refine zg_callV (st := []) (k_X8_otherwise hx1) zY_X8_otherwise lv_X8_303 rfl zt_0 rfl (zfit_m (by decide) (by decide)) (Nat.le_of_ble_eq_true rfl) dX8_looks_3 rfl ?_
  refine zg_istore_n (ls' := [(0, .ref 0), (1, .int x1)]) dX8_looks_6 rfl (Nat.le_of_ble_eq_true rfl) rfl ?_
  refine zg_aload_n 0 dX8_looks_7 rfl rfl ?_
  refine zg_iconst dX8_looks_8 zki_0 ?_
  refine zg_iconst dX8_looks_9 zki_1 ?_
  obtain ⟨x2, hx2, h⟩ := z_bind h
  refine zg_callV (st := []) (k_X8_otherwise hx2) zY_X8_otherwise lv_X8_303 rfl zt_0 rfl (zfit_m (by decide) (by decide)) (Nat.le_of_ble_eq_true rfl) dX8_looks_10 rfl ?_
  refine zg_istore_n (ls' := [(0, .ref 0), (1, .int x1), (2, .int x2)]) dX8_looks_13 rfl (Nat.le_of_ble_eq_true rfl) rfl ?_
  refine zg_aload_n 0 dX8_looks_14 rfl rfl ?_
  refine zg_iconst dX8_looks_15 zki_1 ?_
  refine zg_iconst dX8_looks_16 zki_1 ?_
  obtain ⟨x3, hx3, h⟩ := z_bind h
  refine zg_callV (st := []) (k_X8_otherwise hx3) zY_X8_otherwise lv_X8_303 rfl zt_0 rfl (zfit_m (by decide) (by decide)) (Nat.le_of_ble_eq_true rfl) dX8_looks_17 rfl ?_
  refine zg_istore_n (ls' := [(0, .ref 0), (1, .int x1), (2, .int x2), (3, .int x3)]) dX8_looks_20 rfl (Nat.le_of_ble_eq_true rfl) rfl ?_
  refine zg_aload_n 0 dX8_looks_21 rfl rfl ?_
  refine zo_getr 1 1 rfl fl_X8_10 zt_0 rfl dX8_looks_22 ?_
  refine zg_geti fl_X8_100 zt_1 rfl dX8_looks_25 ?_
  refine zg_aload_n 0 dX8_looks_28 rfl rfl ?_
  refine zo_getr 1 1 rfl fl_X8_10 zt_0 rfl dX8_looks_29 ?_
  refine zg_geti fl_X8_213 zt_1 rfl dX8_looks_32 ?_
  refine zg_icmp_ne (tgt := 45) dX8_looks_35 (by decide) (fun hc => ?_) (fun hc => ?_)
  · replace h := (if_neg hc).symm.trans h
    refine zg_iconst dX8_looks_45 zki_m1 ?_
    exact g8_looks_46 _ _ _ _ _ h
  · replace h := (if_pos hc).symm.trans h
    refine zg_aload_n 0 dX8_looks_38 rfl rfl ?_
    obtain ⟨x4, hx4, h⟩ := z_bind h
    refine zg_callV (st := []) (k_X8_otherwiseAcross hx4) zY_X8_otherwiseAcross lv_X8_307 rfl zt_0 rfl (zfit_m (by decide) (by decide)) (Nat.le_of_ble_eq_true rfl) dX8_looks_39 rfl ?_
    refine zg_goto (tgt := 46) dX8_looks_42 (by decide) ?_
    exact g8_looks_46 _ _ _ _ _ h
set_option maxRecDepth 20000 in
set_option maxHeartbeats 4000000 in
theorem g8_game_45 {r1 : Int32} {M1 : zM} : ∀ (s0 : Int32) (M : zM), f8_game_45 s0 M = some (r1, M1) → zJ ztops RX8 cX8_game 3 (zBm ztops 5 (some .int) (some (.int r1)) M1) 0 0 45 [(0, .ref 0)] [.int s0] M := by
  intro s0 M h
  rw [f8_game_45] at h
  refine zg_istore_n (ls' := [(0, .ref 0), (2, .int s0)]) dX8_game_45 rfl (Nat.le_of_ble_eq_true rfl) rfl ?_
  refine zg_aload_n 0 dX8_game_46 rfl rfl ?_
  refine zo_getr 9 9 rfl fl_X8_32 zt_0 rfl dX8_game_47 ?_
  obtain ⟨M1, hM1, h⟩ := z_bind h
  refine zg_callV (st := []) (k_X3_clear hM1) zY_X3_clear lv_X8_222 rfl zt_9 rfl (zfit_m (by decide) (by decide)) (Nat.le_of_ble_eq_true rfl) dX8_game_50 rfl ?_
  refine zg_iload_n 1 dX8_game_53 rfl rfl ?_
  refine zg_iconst dX8_game_54 zki_m1 ?_
  refine zg_icmp_ne (tgt := 60) dX8_game_55 (by decide) (fun hc => ?_) (fun hc => ?_)
  · replace h := (if_neg hc).symm.trans h
    refine zg_aload_n 0 dX8_game_60 rfl rfl ?_
    refine zo_getr 9 9 rfl fl_X8_32 zt_0 rfl dX8_game_61 ?_
    refine zg_iload_n 1 dX8_game_64 rfl rfl ?_
    refine zg_i2l dX8_game_65 ?_
    obtain ⟨M2, hM2, h⟩ := z_bind h
    refine zg_callV (st := []) (k_X3_tell hM2) zY_X3_tell lv_X8_207 rfl zt_9 rfl (zfit_m (by decide) (by decide)) (Nat.le_of_ble_eq_true rfl) dX8_game_66 rfl ?_
    refine zg_iconst dX8_game_69 zki_1 ?_
    cases h
    exact zg_iret dX8_game_70
  · replace h := (if_pos hc).symm.trans h
    refine zg_iconst dX8_game_58 zki_0 ?_
    cases h
    exact zg_iret dX8_game_59
set_option maxRecDepth 20000 in
set_option maxHeartbeats 4000000 in
theorem k_X8_game {M : zM} {r1 : Int32} {M1 : zM} (h : f8_game M = some (r1, M1)) : zK ztops yX8_game cX8_game 3 (some .int) 5 [.ref 0] M (some (.int r1)) M1 := by
  refine zK_of pl_X8 (Nat.le_of_ble_eq_true rfl) ?_
  show zJ ztops RX8 cX8_game 3 _ 0 0 0 [(0, .ref 0)] [] M
  rw [f8_game] at h
  refine zg_aload_n 0 dX8_game_0 rfl rfl ?_
  refine zo_getr 21 21 rfl fl_X8_49 zt_0 rfl dX8_game_1 ?_
  refine zg_aload_n 0 dX8_game_4 rfl rfl ?_
  refine zo_getr 1 1 rfl fl_X8_10 zt_0 rfl dX8_game_5 ?_
  obtain ⟨M1, hM1, h⟩ := z_bind h
  refine zg_callV (st := []) (k_X0_tabulate zW_1 hM1) zY_X0_tabulate lv_X8_286 rfl zt_21 rfl (zfit_m (by decide) (by decide)) (Nat.le_of_ble_eq_true rfl) dX8_game_8 rfl ?_
  refine zg_aload_n 0 dX8_game_11 rfl rfl ?_
  refine zo_getr 1 1 rfl fl_X8_10 zt_0 rfl dX8_game_12 ?_
  obtain ⟨x2, hx2, h⟩ := z_bind h
  refine zg_callV (st := []) (k_X7_all zW_1 hx2) zY_X7_all lv_X8_256 rfl zt_1 rfl (zfit_m (by decide) (by decide)) (Nat.le_of_ble_eq_true rfl) dX8_game_15 rfl ?_
  refine zg_istore_n (ls' := [(0, .ref 0), (1, .int x2)]) dX8_game_18 rfl (Nat.le_of_ble_eq_true rfl) rfl ?_
  refine zg_aload_n 0 dX8_game_19 rfl rfl ?_
  refine zo_getr 21 21 rfl fl_X8_49 zt_0 rfl dX8_game_20 ?_
  refine zo_getr 24 3 rfl fl_X8_289 zt_21 rfl dX8_game_23 ?_
  refine zg_iload_n 1 dX8_game_26 rfl rfl ?_
  obtain ⟨x3, hx3, h⟩ := z_bind h
  refine zg_callS (st := []) (k_X0_isIn zt_24 hx3) zY_X0_isIn ls_X8_293 rfl (zfit_m (by decide) (by decide)) (Nat.le_of_ble_eq_true rfl) dX8_game_27 rfl ?_
  refine zg_if_eq (tgt := 44) dX8_game_30 (by decide) (fun hc => ?_) (fun hc => ?_)
  · replace h := (if_pos hc).symm.trans h
    refine zg_iconst dX8_game_44 zki_m1 ?_
    refine zo_sub (ls' := [(0, .ref 0)]) [0] rfl ?_
    exact g8_game_45 _ _ h
  · replace h := (if_neg hc).symm.trans h
    refine zg_aload_n 0 dX8_game_33 rfl rfl ?_
    refine zo_getr 21 21 rfl fl_X8_49 zt_0 rfl dX8_game_34 ?_
    refine zg_iload_n 1 dX8_game_37 rfl rfl ?_
    obtain ⟨p4, hp4, h⟩ := z_bind h
    refine zg_callV (st := []) (k_X0_winningTake hp4) zY_X0_winningTake lv_X8_322 rfl zt_21 rfl (zfit_m (by decide) (by decide)) (Nat.le_of_ble_eq_true rfl) dX8_game_38 rfl ?_
    refine zg_goto (tgt := 45) dX8_game_41 (by decide) ?_
    refine zo_sub (ls' := [(0, .ref 0)]) [0] rfl ?_
    exact g8_game_45 _ _ h
set_option maxRecDepth 20000 in
set_option maxHeartbeats 4000000 in
theorem g8_odds_36 {r1 : Int32} {M1 : zM} : ∀ (n : Nat) (v1 : Int32) (v2 : Int32) (v3 : Int64) (v5 : Int32) (M : zM), f8_odds_36 n v1 v2 v3 v5 M = some (r1, M1) → zJ ztops RX8 cX8_odds 9 (zBm ztops 5 (some .int) (some (.int r1)) M1) 0 0 36 [(0, .ref 0), (1, .int v1), (2, .int v2), (3, .long v3), (5, .int v5)] [] M := by
  intro n
  induction n with
  | zero => intro v1 v2 v3 v5 M h; cases h
  | succ n ih =>
    intro v1 v2 v3 v5 M h
    rw [f8_odds_36] at h
    refine zg_iload 4 dX8_odds_36 rfl ?_
    refine zg_iload_n 2 dX8_odds_38 rfl rfl ?_
    refine zg_icmp_gt (tgt := 80) dX8_odds_39 (by decide) (fun hc => ?_) (fun hc => ?_)
    · replace h := (if_pos hc).symm.trans h
      refine zg_bipush dX8_odds_80 zkb_10 ?_
      refine zg_iload_n 2 dX8_odds_82 rfl rfl ?_
      obtain ⟨x1, hx1, h⟩ := z_bind h
      refine zg_callS (st := []) (k_X8_power hx1) zY_X8_power ls_X8_346 rfl (zfit_m (by decide) (by decide)) (Nat.le_of_ble_eq_true rfl) dX8_odds_83 rfl ?_
      refine zg_lstore (ls' := [(0, .ref 0), (1, .int v1), (2, .int v2), (3, .long v3), (5, .long x1)]) dX8_odds_86 (Nat.le_of_ble_eq_true rfl) rfl ?_
      refine zg_lload_n 3 dX8_odds_88 rfl rfl ?_
      refine zg_lload 4 dX8_odds_89 rfl ?_
      obtain ⟨x2, hx2, h⟩ := z_bind h
      refine zg_callS (st := []) (k_X8_commonDivisor hx2) zY_X8_commonDivisor ls_X8_350 rfl (zfit_m (by decide) (by decide)) (Nat.le_of_ble_eq_true rfl) dX8_odds_91 rfl ?_
      refine zg_lstore (ls' := [(0, .ref 0), (1, .int v1), (2, .int v2), (3, .long v3), (5, .long x1), (7, .long x2)]) dX8_odds_94 (Nat.le_of_ble_eq_true rfl) rfl ?_
      refine zg_lload 5 dX8_odds_96 rfl ?_
      refine zg_lconst dX8_odds_98 (v := 0) rfl ?_
      refine zg_lcmp dX8_odds_99 ?_
      refine zg_if_le (tgt := 119) dX8_odds_100 (by decide) (fun hc => ?_) (fun hc => ?_)
      · replace h := (if_pos hc).symm.trans h
        refine zg_iconst dX8_odds_119 zki_0 ?_
        cases h
        exact zg_iret dX8_odds_120
      · replace h := (if_neg hc).symm.trans h
        refine zg_aload_n 0 dX8_odds_103 rfl rfl ?_
        refine zo_getr 9 9 rfl fl_X8_32 zt_0 rfl dX8_odds_104 ?_
        refine zg_lload_n 3 dX8_odds_107 rfl rfl ?_
        refine zg_lload 5 dX8_odds_108 rfl ?_
        obtain ⟨x3, hx3, h⟩ := z_bind h
        refine zo_ldiv hx3 dX8_odds_110 ?_
        refine zg_lload 4 dX8_odds_111 rfl ?_
        refine zg_lload 5 dX8_odds_113 rfl ?_
        obtain ⟨x4, hx4, h⟩ := z_bind h
        refine zo_ldiv hx4 dX8_odds_115 ?_
        obtain ⟨M5, hM5, h⟩ := z_bind h
        refine zg_callV (st := []) (k_X3_tell_ hM5) zY_X3_tell_ lv_X8_194 rfl zt_9 rfl (zfit_m (by decide) (by decide)) (Nat.le_of_ble_eq_true rfl) dX8_odds_116 rfl ?_
        refine zg_iconst dX8_odds_119 zki_0 ?_
        cases h
        exact zg_iret dX8_odds_120
    · replace h := (if_neg hc).symm.trans h
      refine zg_lload_n 3 dX8_odds_42 rfl rfl ?_
      refine zg_aload_n 0 dX8_odds_43 rfl rfl ?_
      refine zo_getr 21 21 rfl fl_X8_49 zt_0 rfl dX8_odds_44 ?_
      refine zg_iload 4 dX8_odds_47 rfl ?_
      obtain ⟨x1, hx1, h⟩ := z_bind h
      refine zg_callV (st := [.long v3]) (k_X0_holdingOf hx1) zY_X0_holdingOf lv_X8_343 rfl zt_21 rfl (zfit_m (by decide) (by decide)) (Nat.le_of_ble_eq_true rfl) dX8_odds_49 rfl ?_
      refine zg_i2l dX8_odds_52 ?_
      refine zg_bipush dX8_odds_53 zkb_10 ?_
      refine zg_iload_n 1 dX8_odds_55 rfl rfl ?_
      refine zg_isub dX8_odds_56 ?_
      refine zg_iload 4 dX8_odds_57 rfl ?_
      obtain ⟨x2, hx2, h⟩ := z_bind h
      refine zg_callS (st := [.long (Int32.toInt64 x1), .long v3]) (k_X8_power hx2) zY_X8_power ls_X8_346 rfl (zfit_m (by decide) (by decide)) (Nat.le_of_ble_eq_true rfl) dX8_odds_59 rfl ?_
      refine zg_lmul dX8_odds_62 ?_
      refine zg_iload_n 1 dX8_odds_63 rfl rfl ?_
      refine zg_iload_n 2 dX8_odds_64 rfl rfl ?_
      refine zg_iload 4 dX8_odds_65 rfl ?_
      refine zg_isub dX8_odds_67 ?_
      obtain ⟨x3, hx3, h⟩ := z_bind h
      refine zg_callS (st := [.long ((Int32.toInt64 x1) * x2), .long v3]) (k_X8_power hx3) zY_X8_power ls_X8_346 rfl (zfit_m (by decide) (by decide)) (Nat.le_of_ble_eq_true rfl) dX8_odds_68 rfl ?_
      refine zg_lmul dX8_odds_71 ?_
      refine zg_ladd dX8_odds_72 ?_
      refine zg_lstore_n (ls' := [(0, .ref 0), (1, .int v1), (2, .int v2), (3, .long (v3 + (((Int32.toInt64 x1) * x2) * x3))), (5, .int v5)]) dX8_odds_73 rfl (Nat.le_of_ble_eq_true rfl) rfl ?_
      refine zg_iinc (ls' := [(0, .ref 0), (1, .int v1), (2, .int v2), (3, .long (v3 + (((Int32.toInt64 x1) * x2) * x3))), (5, .int (v5 + (1 : Int32)))]) 4 dX8_odds_74 rfl zki_1 (Nat.le_of_ble_eq_true rfl) rfl ?_
      refine zg_goto (tgt := 36) dX8_odds_77 (by decide) ?_
      exact ih _ _ _ _ _ h
set_option maxRecDepth 20000 in
set_option maxHeartbeats 4000000 in
theorem k_X8_odds {v1 : Int32} {M : zM} {r1 : Int32} {M1 : zM} (h : f8_odds v1 M = some (r1, M1)) : zK ztops yX8_odds cX8_odds 9 (some .int) 5 [.ref 0, .int v1] M (some (.int r1)) M1 := by
  refine zK_of pl_X8 (Nat.le_of_ble_eq_true rfl) ?_
  show zJ ztops RX8 cX8_odds 9 _ 0 0 0 [(0, .ref 0), (1, .int v1)] [] M
  rw [f8_odds] at h
  refine zg_iload_n 1 dX8_odds_0 rfl rfl ?_
  refine zg_if_lt (tgt := 10) dX8_odds_1 (by decide) (fun hc => ?_) (fun hc => ?_)
  · replace h := (if_pos hc).symm.trans h
    refine zg_iconst dX8_odds_10 zki_m1 ?_
    cases h
    exact zg_iret dX8_odds_11
  · replace h := (if_neg hc).symm.trans h
    refine zg_iload_n 1 dX8_odds_4 rfl rfl ?_
    refine zg_bipush dX8_odds_5 zkb_10 ?_
    refine zg_icmp_le (tgt := 12) dX8_odds_7 (by decide) (fun hc => ?_) (fun hc => ?_)
    · replace h := (if_pos hc).symm.trans h
      refine zg_aload_n 0 dX8_odds_12 rfl rfl ?_
      refine zo_getr 21 21 rfl fl_X8_49 zt_0 rfl dX8_odds_13 ?_
      refine zg_aload_n 0 dX8_odds_16 rfl rfl ?_
      refine zo_getr 1 1 rfl fl_X8_10 zt_0 rfl dX8_odds_17 ?_
      obtain ⟨M1, hM1, h⟩ := z_bind h
      refine zg_callV (st := []) (k_X0_tabulate zW_1 hM1) zY_X0_tabulate lv_X8_286 rfl zt_21 rfl (zfit_m (by decide) (by decide)) (Nat.le_of_ble_eq_true rfl) dX8_odds_20 rfl ?_
      refine zg_aload_n 0 dX8_odds_23 rfl rfl ?_
      refine zo_getr 1 1 rfl fl_X8_10 zt_0 rfl dX8_odds_24 ?_
      obtain ⟨x2, hx2, h⟩ := z_bind h
      refine zg_callV (st := []) (k_X7_threads zW_1 hx2) zY_X7_threads lv_X8_191 rfl zt_1 rfl (zfit_m (by decide) (by decide)) (Nat.le_of_ble_eq_true rfl) dX8_odds_27 rfl ?_
      refine zg_istore_n (ls' := [(0, .ref 0), (1, .int v1), (2, .int x2)]) dX8_odds_30 rfl (Nat.le_of_ble_eq_true rfl) rfl ?_
      refine zg_lconst dX8_odds_31 (v := 0) rfl ?_
      refine zg_lstore_n (ls' := [(0, .ref 0), (1, .int v1), (2, .int x2), (3, .long (0 : Int64))]) dX8_odds_32 rfl (Nat.le_of_ble_eq_true rfl) rfl ?_
      refine zg_iconst dX8_odds_33 zki_0 ?_
      refine zg_istore (ls' := [(0, .ref 0), (1, .int v1), (2, .int x2), (3, .long (0 : Int64)), (5, .int (0 : Int32))]) dX8_odds_34 (Nat.le_of_ble_eq_true rfl) rfl ?_
      exact g8_odds_36 zfuel _ _ _ _ _ h
    · replace h := (if_neg hc).symm.trans h
      refine zg_iconst dX8_odds_10 zki_m1 ?_
      cases h
      exact zg_iret dX8_odds_11
set_option maxRecDepth 20000 in
set_option maxHeartbeats 4000000 in
theorem g8_rests_78 {r1 : Int32} {M1 : zM} {k32 : Int32 → Int32 → Int32 → Int32 → zM → Option (Int32 × zM)} (hk32 : ∀ (v1 : Int32) (v2 : Int32) (v3 : Int32) (v4 : Int32) (M : zM), k32 v1 v2 v3 v4 M = some (r1, M1) → zJ ztops RX8 cX8_rests 5 (zBm ztops 4 (some .int) (some (.int r1)) M1) 0 0 32 [(0, .ref 0), (1, .int v1), (2, .int v2), (3, .int v3), (4, .int v4)] [] M) : ∀ (v1 : Int32) (v2 : Int32) (v3 : Int32) (v4 : Int32) (M : zM), f8_rests_78 k32 v1 v2 v3 v4 M = some (r1, M1) → zJ ztops RX8 cX8_rests 5 (zBm ztops 4 (some .int) (some (.int r1)) M1) 0 0 78 [(0, .ref 0), (1, .int v1), (2, .int v2), (3, .int v3), (4, .int v4)] [] M := by
  intro v1 v2 v3 v4 M h
  rw [f8_rests_78] at h
  refine zg_iinc (ls' := [(0, .ref 0), (1, .int v1), (2, .int v2), (3, .int v3), (4, .int (v4 + (1 : Int32)))]) 4 dX8_rests_78 rfl zki_1 (Nat.le_of_ble_eq_true rfl) rfl ?_
  refine zg_goto (tgt := 32) dX8_rests_81 (by decide) ?_
  exact hk32 _ _ _ _ _ h
set_option maxRecDepth 20000 in
set_option maxHeartbeats 4000000 in
theorem g8_rests_75 {r1 : Int32} {M1 : zM} {k32 : Int32 → Int32 → Int32 → Int32 → zM → Option (Int32 × zM)} (hk32 : ∀ (v1 : Int32) (v2 : Int32) (v3 : Int32) (v4 : Int32) (M : zM), k32 v1 v2 v3 v4 M = some (r1, M1) → zJ ztops RX8 cX8_rests 5 (zBm ztops 4 (some .int) (some (.int r1)) M1) 0 0 32 [(0, .ref 0), (1, .int v1), (2, .int v2), (3, .int v3), (4, .int v4)] [] M) : ∀ (v1 : Int32) (v2 : Int32) (v3 : Int32) (v4 : Int32) (M : zM), f8_rests_75 k32 v1 v2 v3 v4 M = some (r1, M1) → zJ ztops RX8 cX8_rests 5 (zBm ztops 4 (some .int) (some (.int r1)) M1) 0 0 75 [(0, .ref 0), (1, .int v1), (2, .int v2), (3, .int v3), (4, .int v4)] [] M := by
  intro v1 v2 v3 v4 M h
  rw [f8_rests_75] at h
  refine zg_iinc (ls' := [(0, .ref 0), (1, .int v1), (2, .int (v2 + (1 : Int32))), (3, .int v3), (4, .int v4)]) 2 dX8_rests_75 rfl zki_1 (Nat.le_of_ble_eq_true rfl) rfl ?_
  exact g8_rests_78 hk32 _ _ _ _ _ h
set_option maxRecDepth 20000 in
set_option maxHeartbeats 4000000 in
theorem g8_rests_32 {r1 : Int32} {M1 : zM} {k84 : Int32 → Int32 → Int32 → zM → Option (Int32 × zM)} (hk84 : ∀ (v1 : Int32) (v2 : Int32) (v3 : Int32) (M : zM), k84 v1 v2 v3 M = some (r1, M1) → zJ ztops RX8 cX8_rests 5 (zBm ztops 4 (some .int) (some (.int r1)) M1) 0 0 84 [(0, .ref 0), (1, .int v1), (2, .int v2), (3, .int v3)] [] M) : ∀ (n : Nat) (v1 : Int32) (v2 : Int32) (v3 : Int32) (v4 : Int32) (M : zM), f8_rests_32 k84 n v1 v2 v3 v4 M = some (r1, M1) → zJ ztops RX8 cX8_rests 5 (zBm ztops 4 (some .int) (some (.int r1)) M1) 0 0 32 [(0, .ref 0), (1, .int v1), (2, .int v2), (3, .int v3), (4, .int v4)] [] M := by
  intro n
  induction n with
  | zero => intro v1 v2 v3 v4 M h; cases h
  | succ n ih =>
    intro v1 v2 v3 v4 M h
    rw [f8_rests_32] at h
    refine zg_iload 4 dX8_rests_32 rfl ?_
    refine zg_bipush dX8_rests_34 zkb_9 ?_
    refine zg_icmp_gt (tgt := 84) dX8_rests_36 (by decide) (fun hc => ?_) (fun hc => ?_)
    · replace h := (if_pos hc).symm.trans h
      refine zo_sub (ls' := [(0, .ref 0), (1, .int v1), (2, .int v2), (3, .int v3)]) [0, 1, 2, 3] rfl ?_
      exact hk84 _ _ _ _ h
    · replace h := (if_neg hc).symm.trans h
      refine zg_iload_n 3 dX8_rests_39 rfl rfl ?_
      refine zg_iload 4 dX8_rests_40 rfl ?_
      refine zg_iload_n 1 dX8_rests_42 rfl rfl ?_
      obtain ⟨x1, hx1, h⟩ := z_bind h
      refine zg_callS (st := []) (k_X8_isBestAgainst hx1) zY_X8_isBestAgainst ls_X8_354 rfl (zfit_m (by decide) (by decide)) (Nat.le_of_ble_eq_true rfl) dX8_rests_43 rfl ?_
      refine zg_if_eq (tgt := 78) dX8_rests_46 (by decide) (fun hc => ?_) (fun hc => ?_)
      · replace h := (if_pos hc).symm.trans h
        exact g8_rests_78 (fun u0 u1 u2 u3 u4 h => ih u0 u1 u2 u3 u4 h) _ _ _ _ _ h
      · replace h := (if_neg hc).symm.trans h
        refine zg_iload 4 dX8_rests_49 rfl ?_
        refine zg_iload_n 3 dX8_rests_51 rfl rfl ?_
        refine zg_iload_n 1 dX8_rests_52 rfl rfl ?_
        obtain ⟨x2, hx2, h⟩ := z_bind h
        refine zg_callS (st := []) (k_X8_isBestAgainst hx2) zY_X8_isBestAgainst ls_X8_354 rfl (zfit_m (by decide) (by decide)) (Nat.le_of_ble_eq_true rfl) dX8_rests_53 rfl ?_
        refine zg_if_eq (tgt := 78) dX8_rests_56 (by decide) (fun hc => ?_) (fun hc => ?_)
        · replace h := (if_pos hc).symm.trans h
          exact g8_rests_78 (fun u0 u1 u2 u3 u4 h => ih u0 u1 u2 u3 u4 h) _ _ _ _ _ h
        · replace h := (if_neg hc).symm.trans h
          refine zg_iload_n 2 dX8_rests_59 rfl rfl ?_
          refine zg_if_ne (tgt := 75) dX8_rests_60 (by decide) (fun hc => ?_) (fun hc => ?_)
          · replace h := (if_neg hc).symm.trans h
            exact g8_rests_75 (fun u0 u1 u2 u3 u4 h => ih u0 u1 u2 u3 u4 h) _ _ _ _ _ h
          · replace h := (if_pos hc).symm.trans h
            refine zg_aload_n 0 dX8_rests_63 rfl rfl ?_
            refine zo_getr 9 9 rfl fl_X8_32 zt_0 rfl dX8_rests_64 ?_
            refine zg_iload_n 3 dX8_rests_67 rfl rfl ?_
            refine zg_i2l dX8_rests_68 ?_
            refine zg_iload 4 dX8_rests_69 rfl ?_
            refine zg_i2l dX8_rests_71 ?_
            obtain ⟨M3, hM3, h⟩ := z_bind h
            refine zg_callV (st := []) (k_X3_tell_ hM3) zY_X3_tell_ lv_X8_194 rfl zt_9 rfl (zfit_m (by decide) (by decide)) (Nat.le_of_ble_eq_true rfl) dX8_rests_72 rfl ?_
            exact g8_rests_75 (fun u0 u1 u2 u3 u4 h => ih u0 u1 u2 u3 u4 h) _ _ _ _ _ h
set_option maxRecDepth 20000 in
set_option maxHeartbeats 4000000 in
theorem g8_rests_23 {r1 : Int32} {M1 : zM} {k84 : Int32 → Int32 → Int32 → zM → Option (Int32 × zM)} (hk84 : ∀ (v1 : Int32) (v2 : Int32) (v3 : Int32) (M : zM), k84 v1 v2 v3 M = some (r1, M1) → zJ ztops RX8 cX8_rests 5 (zBm ztops 4 (some .int) (some (.int r1)) M1) 0 0 84 [(0, .ref 0), (1, .int v1), (2, .int v2), (3, .int v3)] [] M) : ∀ (n : Nat) (v1 : Int32) (v2 : Int32) (v3 : Int32) (M : zM), f8_rests_23 k84 n v1 v2 v3 M = some (r1, M1) → zJ ztops RX8 cX8_rests 5 (zBm ztops 4 (some .int) (some (.int r1)) M1) 0 0 23 [(0, .ref 0), (1, .int v1), (2, .int v2), (3, .int v3)] [] M := by
  intro n
  induction n with
  | zero => intro v1 v2 v3 M h; cases h
  | succ n ih =>
    intro v1 v2 v3 M h
    rw [f8_rests_23] at h
    refine zg_iload_n 3 dX8_rests_23 rfl rfl ?_
    refine zg_bipush dX8_rests_24 zkb_9 ?_
    refine zg_icmp_gt (tgt := 90) dX8_rests_26 (by decide) (fun hc => ?_) (fun hc => ?_)
    · replace h := (if_pos hc).symm.trans h
      refine zg_iload_n 2 dX8_rests_90 rfl rfl ?_
      cases h
      exact zg_iret dX8_rests_91
    · replace h := (if_neg hc).symm.trans h
      refine zg_iconst dX8_rests_29 zki_0 ?_
      refine zg_istore (ls' := [(0, .ref 0), (1, .int v1), (2, .int v2), (3, .int v3), (4, .int (0 : Int32))]) dX8_rests_30 (Nat.le_of_ble_eq_true rfl) rfl ?_
      exact g8_rests_32 (fun u0 u1 u2 u3 h => g8_rests_84 (fun u0 u1 u2 u3 h => ih u0 u1 u2 u3 h) u0 u1 u2 u3 h) zfuel _ _ _ _ _ h
set_option maxRecDepth 20000 in
set_option maxHeartbeats 4000000 in
theorem g8_rests_84 {r1 : Int32} {M1 : zM} {k23 : Int32 → Int32 → Int32 → zM → Option (Int32 × zM)} (hk23 : ∀ (v1 : Int32) (v2 : Int32) (v3 : Int32) (M : zM), k23 v1 v2 v3 M = some (r1, M1) → zJ ztops RX8 cX8_rests 5 (zBm ztops 4 (some .int) (some (.int r1)) M1) 0 0 23 [(0, .ref 0), (1, .int v1), (2, .int v2), (3, .int v3)] [] M) : ∀ (v1 : Int32) (v2 : Int32) (v3 : Int32) (M : zM), f8_rests_84 k23 v1 v2 v3 M = some (r1, M1) → zJ ztops RX8 cX8_rests 5 (zBm ztops 4 (some .int) (some (.int r1)) M1) 0 0 84 [(0, .ref 0), (1, .int v1), (2, .int v2), (3, .int v3)] [] M := by
  intro v1 v2 v3 M h
  rw [f8_rests_84] at h
  refine zg_iinc (ls' := [(0, .ref 0), (1, .int v1), (2, .int v2), (3, .int (v3 + (1 : Int32)))]) 3 dX8_rests_84 rfl zki_1 (Nat.le_of_ble_eq_true rfl) rfl ?_
  refine zg_goto (tgt := 23) dX8_rests_87 (by decide) ?_
  exact hk23 _ _ _ _ h
set_option maxRecDepth 20000 in
set_option maxHeartbeats 4000000 in
theorem k_X8_rests {v1 : Int32} {M : zM} {r1 : Int32} {M1 : zM} (h : f8_rests v1 M = some (r1, M1)) : zK ztops yX8_rests cX8_rests 5 (some .int) 4 [.ref 0, .int v1] M (some (.int r1)) M1 := by
  refine zK_of pl_X8 (Nat.le_of_ble_eq_true rfl) ?_
  show zJ ztops RX8 cX8_rests 5 _ 0 0 0 [(0, .ref 0), (1, .int v1)] [] M
  rw [f8_rests] at h
  refine zg_iload_n 1 dX8_rests_0 rfl rfl ?_
  refine zg_if_lt (tgt := 10) dX8_rests_1 (by decide) (fun hc => ?_) (fun hc => ?_)
  · replace h := (if_pos hc).symm.trans h
    refine zg_iconst dX8_rests_10 zki_m1 ?_
    cases h
    exact zg_iret dX8_rests_11
  · replace h := (if_neg hc).symm.trans h
    refine zg_iload_n 1 dX8_rests_4 rfl rfl ?_
    refine zg_bipush dX8_rests_5 zkb_20 ?_
    refine zg_icmp_le (tgt := 12) dX8_rests_7 (by decide) (fun hc => ?_) (fun hc => ?_)
    · replace h := (if_pos hc).symm.trans h
      refine zg_aload_n 0 dX8_rests_12 rfl rfl ?_
      refine zo_getr 9 9 rfl fl_X8_32 zt_0 rfl dX8_rests_13 ?_
      obtain ⟨M1, hM1, h⟩ := z_bind h
      refine zg_callV (st := []) (k_X3_clear hM1) zY_X3_clear lv_X8_222 rfl zt_9 rfl (zfit_m (by decide) (by decide)) (Nat.le_of_ble_eq_true rfl) dX8_rests_16 rfl ?_
      refine zg_iconst dX8_rests_19 zki_0 ?_
      refine zg_istore_n (ls' := [(0, .ref 0), (1, .int v1), (2, .int (0 : Int32))]) dX8_rests_20 rfl (Nat.le_of_ble_eq_true rfl) rfl ?_
      refine zg_iconst dX8_rests_21 zki_0 ?_
      refine zg_istore_n (ls' := [(0, .ref 0), (1, .int v1), (2, .int (0 : Int32)), (3, .int (0 : Int32))]) dX8_rests_22 rfl (Nat.le_of_ble_eq_true rfl) rfl ?_
      exact g8_rests_23 hk84 zfuel _ _ _ _ h
    · replace h := (if_neg hc).symm.trans h
      refine zg_iconst dX8_rests_10 zki_m1 ?_
      cases h
      exact zg_iret dX8_rests_11
set_option maxRecDepth 20000 in
set_option maxHeartbeats 4000000 in
theorem k_X8_again {v1 : Int32} {M : zM} {r1 : Int32} {M1 : zM} (h : f8_again v1 M = some (r1, M1)) : zK ztops yX8_again cX8_again 2 (some .boolean) 4 [.ref 0, .int v1] M (some (.int r1)) M1 := by
  refine zK_of pl_X8 (Nat.le_of_ble_eq_true rfl) ?_
  show zJ ztops RX8 cX8_again 2 _ 0 0 0 [(0, .ref 0), (1, .int v1)] [] M
  rw [f8_again] at h
  refine zg_aload_n 0 dX8_again_0 rfl rfl ?_
  refine zo_getr 36 36 rfl fl_X8_76 zt_0 rfl dX8_again_1 ?_
  refine zg_iload_n 1 dX8_again_4 rfl rfl ?_
  obtain ⟨x1, hx1, h⟩ := z_bind h
  refine zg_callV (st := []) (k_X2_holds zM_36 hx1) zY_X2_holds lv_X8_371 rfl zt_36 rfl (zfit_m (by decide) (by decide)) (Nat.le_of_ble_eq_true rfl) dX8_again_5 rfl ?_
  refine zg_if_ne (tgt := 13) dX8_again_8 (by decide) (fun hc => ?_) (fun hc => ?_)
  · replace h := (if_neg hc).symm.trans h
    refine zg_aload_n 0 dX8_again_13 rfl rfl ?_
    refine zo_getr 36 36 rfl fl_X8_76 zt_0 rfl dX8_again_14 ?_
    refine zg_iload_n 1 dX8_again_17 rfl rfl ?_
    refine zg_aload_n 0 dX8_again_18 rfl rfl ?_
    refine zo_getr 1 1 rfl fl_X8_10 zt_0 rfl dX8_again_19 ?_
    obtain ⟨M2, hM2, h⟩ := z_bind h
    refine zg_callV (st := []) (k_X2_bringBack zM_36 zW_1 hM2) zY_X2_bringBack lv_X8_199 rfl zt_36 rfl (zfit_m (by decide) (by decide)) (Nat.le_of_ble_eq_true rfl) dX8_again_22 rfl ?_
    refine zg_aload_n 0 dX8_again_25 rfl rfl ?_
    refine zo_getr 33 33 rfl fl_X8_72 zt_0 rfl dX8_again_26 ?_
    obtain ⟨M3, hM3, h⟩ := z_bind h
    refine zg_callV (st := []) (k_X2_empty zM_33 hM3) zY_X2_empty lv_X8_97 rfl zt_33 rfl (zfit_m (by decide) (by decide)) (Nat.le_of_ble_eq_true rfl) dX8_again_29 rfl ?_
    refine zg_iconst dX8_again_32 zki_1 ?_
    cases h
    exact zg_zret rfl dX8_again_33
  · replace h := (if_pos hc).symm.trans h
    refine zg_iconst dX8_again_11 zki_0 ?_
    cases h
    exact zg_zret rfl dX8_again_12
set_option maxRecDepth 20000 in
set_option maxHeartbeats 4000000 in
theorem k_X8_noted {v1 : Int32} {v2 : Int64} {v4 : Int32} {M : zM} {r1 : Int32} {M1 : zM} (h : f8_noted v1 v2 v4 M = some (r1, M1)) : zK ztops yX8_noted cX8_noted 5 (some .int) 3 [.ref 0, .int v1, .long v2, .int v4] M (some (.int r1)) M1 := by
  refine zK_of pl_X8 (Nat.le_of_ble_eq_true rfl) ?_
  show zJ ztops RX8 cX8_noted 5 _ 0 0 0 [(0, .ref 0), (1, .int v1), (2, .long v2), (4, .int v4)] [] M
  rw [f8_noted] at h
  refine zg_iload_n 1 dX8_noted_0 rfl rfl ?_
  refine zg_if_lt (tgt := 14) dX8_noted_1 (by decide) (fun hc => ?_) (fun hc => ?_)
  · replace h := (if_pos hc).symm.trans h
    refine zg_iload_n 1 dX8_noted_14 rfl rfl ?_
    cases h
    exact zg_iret dX8_noted_15
  · replace h := (if_neg hc).symm.trans h
    refine zg_aload_n 0 dX8_noted_4 rfl rfl ?_
    refine zo_getr 33 33 rfl fl_X8_72 zt_0 rfl dX8_noted_5 ?_
    refine zg_lload_n 2 dX8_noted_8 rfl rfl ?_
    refine zg_iload 3 dX8_noted_9 rfl ?_
    obtain ⟨M1, hM1, h⟩ := z_bind h
    refine zg_callV (st := []) (k_X2_push zM_33 hM1) zY_X2_push lv_X8_148 rfl zt_33 rfl (zfit_m (by decide) (by decide)) (Nat.le_of_ble_eq_true rfl) dX8_noted_11 rfl ?_
    refine zg_iload_n 1 dX8_noted_14 rfl rfl ?_
    cases h
    exact zg_iret dX8_noted_15
set_option maxRecDepth 20000 in
set_option maxHeartbeats 4000000 in
theorem g8_ragsWithout_85 {r1 : Int32} {M1 : zM} {k26 : Int32 → Int32 → Int64 → Int32 → Int32 → zM → Option (Int32 × zM)} (hk26 : ∀ (v1 : Int32) (v2 : Int32) (v3 : Int64) (v5 : Int32) (v6 : Int32) (M : zM), k26 v1 v2 v3 v5 v6 M = some (r1, M1) → zJ ztops RX8 cX8_ragsWithout 7 (zBm ztops 3 (some .int) (some (.int r1)) M1) 0 0 26 [(0, .ref 0), (1, .int v1), (2, .int v2), (3, .long v3), (5, .int v5), (6, .int v6)] [] M) : ∀ (v1 : Int32) (v2 : Int32) (v3 : Int64) (v5 : Int32) (v6 : Int32) (M : zM), f8_ragsWithout_85 k26 v1 v2 v3 v5 v6 M = some (r1, M1) → zJ ztops RX8 cX8_ragsWithout 7 (zBm ztops 3 (some .int) (some (.int r1)) M1) 0 0 85 [(0, .ref 0), (1, .int v1), (2, .int v2), (3, .long v3), (5, .int v5), (6, .int v6)] [] M := by
  intro v1 v2 v3 v5 v6 M h
  rw [f8_ragsWithout_85] at h
  refine zg_iinc (ls' := [(0, .ref 0), (1, .int v1), (2, .int v2), (3, .long v3), (5, .int v5), (6, .int (v6 + (1 : Int32)))]) 5 dX8_ragsWithout_85 rfl zki_1 (Nat.le_of_ble_eq_true rfl) rfl ?_
  refine zg_goto (tgt := 26) dX8_ragsWithout_88 (by decide) ?_
  exact hk26 _ _ _ _ _ _ h
set_option maxRecDepth 20000 in
set_option maxHeartbeats 4000000 in
theorem g8_ragsWithout_82 {r1 : Int32} {M1 : zM} {k26 : Int32 → Int32 → Int64 → Int32 → Int32 → zM → Option (Int32 × zM)} (hk26 : ∀ (v1 : Int32) (v2 : Int32) (v3 : Int64) (v5 : Int32) (v6 : Int32) (M : zM), k26 v1 v2 v3 v5 v6 M = some (r1, M1) → zJ ztops RX8 cX8_ragsWithout 7 (zBm ztops 3 (some .int) (some (.int r1)) M1) 0 0 26 [(0, .ref 0), (1, .int v1), (2, .int v2), (3, .long v3), (5, .int v5), (6, .int v6)] [] M) : ∀ (v1 : Int32) (v2 : Int32) (v3 : Int64) (v5 : Int32) (v6 : Int32) (M : zM), f8_ragsWithout_82 k26 v1 v2 v3 v5 v6 M = some (r1, M1) → zJ ztops RX8 cX8_ragsWithout 7 (zBm ztops 3 (some .int) (some (.int r1)) M1) 0 0 82 [(0, .ref 0), (1, .int v1), (2, .int v2), (3, .long v3), (5, .int v5), (6, .int v6)] [] M := by
  intro v1 v2 v3 v5 v6 M h
  rw [f8_ragsWithout_82] at h
  refine zg_iinc (ls' := [(0, .ref 0), (1, .int v1), (2, .int v2), (3, .long v3), (5, .int (v5 + (1 : Int32))), (6, .int v6)]) 4 dX8_ragsWithout_82 rfl zki_1 (Nat.le_of_ble_eq_true rfl) rfl ?_
  exact g8_ragsWithout_85 hk26 _ _ _ _ _ _ h
set_option maxRecDepth 20000 in
set_option maxHeartbeats 4000000 in
theorem g8_ragsWithout_26 {r1 : Int32} {M1 : zM} : ∀ (n : Nat) (v1 : Int32) (v2 : Int32) (v3 : Int64) (v5 : Int32) (v6 : Int32) (M : zM), f8_ragsWithout_26 n v1 v2 v3 v5 v6 M = some (r1, M1) → zJ ztops RX8 cX8_ragsWithout 7 (zBm ztops 3 (some .int) (some (.int r1)) M1) 0 0 26 [(0, .ref 0), (1, .int v1), (2, .int v2), (3, .long v3), (5, .int v5), (6, .int v6)] [] M := by
  intro n
  induction n with
  | zero => intro v1 v2 v3 v5 v6 M h; cases h
  | succ n ih =>
    intro v1 v2 v3 v5 v6 M h
    rw [f8_ragsWithout_26] at h
    refine zg_iload 5 dX8_ragsWithout_26 rfl ?_
    refine zg_iconst dX8_ragsWithout_28 zki_1 ?_
    refine zg_aload_n 0 dX8_ragsWithout_29 rfl rfl ?_
    refine zo_getr 1 1 rfl fl_X8_10 zt_0 rfl dX8_ragsWithout_30 ?_
    refine zg_geti fl_X8_100 zt_1 rfl dX8_ragsWithout_33 ?_
    refine zg_ishl dX8_ragsWithout_36 ?_
    refine zg_icmp_ge (tgt := 91) dX8_ragsWithout_37 (by decide) (fun hc => ?_) (fun hc => ?_)
    · replace h := (if_pos hc).symm.trans h
      refine zg_iload 4 dX8_ragsWithout_91 rfl ?_
      cases h
      exact zg_iret dX8_ragsWithout_93
    · replace h := (if_neg hc).symm.trans h
      refine zg_aload_n 0 dX8_ragsWithout_40 rfl rfl ?_
      refine zo_getr 27 27 rfl fl_X8_56 zt_0 rfl dX8_ragsWithout_41 ?_
      refine zg_aload_n 0 dX8_ragsWithout_44 rfl rfl ?_
      refine zo_getr 1 1 rfl fl_X8_10 zt_0 rfl dX8_ragsWithout_45 ?_
      refine zg_iload 5 dX8_ragsWithout_48 rfl ?_
      obtain ⟨x1, hx1, h⟩ := z_bind h
      refine zg_callV (st := []) (k_X1_shapeWithout zW_1 hx1) zY_X1_shapeWithout lv_X8_241 rfl zt_27 rfl (zfit_m (by decide) (by decide)) (Nat.le_of_ble_eq_true rfl) dX8_ragsWithout_50 rfl ?_
      refine zg_lload_n 3 dX8_ragsWithout_53 rfl rfl ?_
      refine zg_lcmp dX8_ragsWithout_54 ?_
      refine zg_if_ne (tgt := 85) dX8_ragsWithout_55 (by decide) (fun hc => ?_) (fun hc => ?_)
      · replace h := (if_neg hc).symm.trans h
        exact g8_ragsWithout_85 (fun u0 u1 u2 u3 u4 u5 h => ih u0 u1 u2 u3 u4 u5 h) _ _ _ _ _ _ h
      · replace h := (if_pos hc).symm.trans h
        refine zg_iload_n 2 dX8_ragsWithout_58 rfl rfl ?_
        refine zg_if_eq (tgt := 82) dX8_ragsWithout_59 (by decide) (fun hc => ?_) (fun hc => ?_)
        · replace h := (if_pos hc).symm.trans h
          exact g8_ragsWithout_82 (fun u0 u1 u2 u3 u4 u5 h => ih u0 u1 u2 u3 u4 u5 h) _ _ _ _ _ _ h
        · replace h := (if_neg hc).symm.trans h
          refine zg_iload 4 dX8_ragsWithout_62 rfl ?_
          refine zg_if_ne (tgt := 82) dX8_ragsWithout_64 (by decide) (fun hc => ?_) (fun hc => ?_)
          · replace h := (if_neg hc).symm.trans h
            exact g8_ragsWithout_82 (fun u0 u1 u2 u3 u4 u5 h => ih u0 u1 u2 u3 u4 u5 h) _ _ _ _ _ _ h
          · replace h := (if_pos hc).symm.trans h
            refine zg_aload_n 0 dX8_ragsWithout_67 rfl rfl ?_
            refine zo_getr 9 9 rfl fl_X8_32 zt_0 rfl dX8_ragsWithout_68 ?_
            refine zg_iload 5 dX8_ragsWithout_71 rfl ?_
            refine zg_iload_n 1 dX8_ragsWithout_73 rfl rfl ?_
            refine zg_bipush dX8_ragsWithout_74 zkb_6 ?_
            refine zg_ishl dX8_ragsWithout_76 ?_
            refine zg_ior dX8_ragsWithout_77 ?_
            refine zg_i2l dX8_ragsWithout_78 ?_
            obtain ⟨M2, hM2, h⟩ := z_bind h
            refine zg_callV (st := []) (k_X3_tell hM2) zY_X3_tell lv_X8_207 rfl zt_9 rfl (zfit_m (by decide) (by decide)) (Nat.le_of_ble_eq_true rfl) dX8_ragsWithout_79 rfl ?_
            exact g8_ragsWithout_82 (fun u0 u1 u2 u3 u4 u5 h => ih u0 u1 u2 u3 u4 u5 h) _ _ _ _ _ _ h
set_option maxRecDepth 20000 in
set_option maxHeartbeats 4000000 in
theorem k_X8_ragsWithout {v1 : Int32} {v2 : Int32} {M : zM} {r1 : Int32} {M1 : zM} (h : f8_ragsWithout v1 v2 M = some (r1, M1)) : zK ztops yX8_ragsWithout cX8_ragsWithout 7 (some .int) 3 [.ref 0, .int v1, .int v2] M (some (.int r1)) M1 := by
  refine zK_of pl_X8 (Nat.le_of_ble_eq_true rfl) ?_
  show zJ ztops RX8 cX8_ragsWithout 7 _ 0 0 0 [(0, .ref 0), (1, .int v1), (2, .int v2)] [] M
  rw [f8_ragsWithout] at h
  refine zg_aload_n 0 dX8_ragsWithout_0 rfl rfl ?_
  refine zo_getr 27 27 rfl fl_X8_56 zt_0 rfl dX8_ragsWithout_1 ?_
  refine zg_aload_n 0 dX8_ragsWithout_4 rfl rfl ?_
  refine zo_getr 1 1 rfl fl_X8_10 zt_0 rfl dX8_ragsWithout_5 ?_
  refine zg_iload_n 1 dX8_ragsWithout_8 rfl rfl ?_
  obtain ⟨M1, hM1, h⟩ := z_bind h
  refine zg_callV (st := []) (k_X1_narrow zW_1 hM1) zY_X1_narrow lv_X8_237 rfl zt_27 rfl (zfit_m (by decide) (by decide)) (Nat.le_of_ble_eq_true rfl) dX8_ragsWithout_9 rfl ?_
  refine zg_aload_n 0 dX8_ragsWithout_12 rfl rfl ?_
  refine zo_getr 3 3 rfl fl_X8_16 zt_0 rfl dX8_ragsWithout_13 ?_
  obtain ⟨x2, hx2, h⟩ := z_bind h
  refine zg_callV (st := []) (k_X7_shape zW_3 hx2) zY_X7_shape lv_X8_141 rfl zt_3 rfl (zfit_m (by decide) (by decide)) (Nat.le_of_ble_eq_true rfl) dX8_ragsWithout_16 rfl ?_
  refine zg_lstore_n (ls' := [(0, .ref 0), (1, .int v1), (2, .int v2), (3, .long x2)]) dX8_ragsWithout_19 rfl (Nat.le_of_ble_eq_true rfl) rfl ?_
  refine zg_iconst dX8_ragsWithout_20 zki_0 ?_
  refine zg_istore (ls' := [(0, .ref 0), (1, .int v1), (2, .int v2), (3, .long x2), (5, .int (0 : Int32))]) dX8_ragsWithout_21 (Nat.le_of_ble_eq_true rfl) rfl ?_
  refine zg_iconst dX8_ragsWithout_23 zki_0 ?_
  refine zg_istore (ls' := [(0, .ref 0), (1, .int v1), (2, .int v2), (3, .long x2), (5, .int (0 : Int32)), (6, .int (0 : Int32))]) dX8_ragsWithout_24 (Nat.le_of_ble_eq_true rfl) rfl ?_
  exact g8_ragsWithout_26 zfuel _ _ _ _ _ _ h
set_option maxRecDepth 20000 in
set_option maxHeartbeats 4000000 in
theorem g8_canBeAlike_31 {r1 : Int32} {M : zM} {k70 : Int32 → Int32 → Int32 → zM → Option Int32} (hk70 : ∀ (v1 : Int32) (v2 : Int32) (v3 : Int32), k70 v1 v2 v3 M = some r1 → zJ ztops RX8 cX8_canBeAlike 6 (zBm ztops 2 (some .boolean) (some (.int r1)) M) 0 0 70 [(0, .ref 0), (1, .int v1), (2, .int v2), (3, .int v3)] [] M) : ∀ (n : Nat) (v1 : Int32) (v2 : Int32) (v3 : Int32) (v4 : Int32) (v5 : Int32), f8_canBeAlike_31 k70 n v1 v2 v3 v4 v5 M = some r1 → zJ ztops RX8 cX8_canBeAlike 6 (zBm ztops 2 (some .boolean) (some (.int r1)) M) 0 0 31 [(0, .ref 0), (1, .int v1), (2, .int v2), (3, .int v3), (4, .int v4), (5, .int v5)] [] M := by
  intro n
  induction n with
  | zero => intro v1 v2 v3 v4 v5 h; cases h
  | succ n ih =>
    intro v1 v2 v3 v4 v5 h
    rw [f8_canBeAlike_31] at h
    refine zg_iload 5 dX8_canBeAlike_31 rfl ?_
    refine zg_aload_n 0 dX8_canBeAlike_33 rfl rfl ?_
    refine zo_getr 1 1 rfl fl_X8_10 zt_0 rfl dX8_canBeAlike_34 ?_
    refine zg_geti fl_X8_213 zt_1 rfl dX8_canBeAlike_37 ?_
    refine zg_icmp_ge (tgt := 70) dX8_canBeAlike_40 (by decide) (fun hc => ?_) (fun hc => ?_)
    · replace h := (if_pos hc).symm.trans h
      refine zo_sub (ls' := [(0, .ref 0), (1, .int v1), (2, .int v2), (3, .int v3)]) [0, 1, 2, 3] rfl ?_
      exact hk70 _ _ _ h
    · replace h := (if_neg hc).symm.trans h
      refine zg_iload 4 dX8_canBeAlike_43 rfl ?_
      refine zg_aload_n 0 dX8_canBeAlike_45 rfl rfl ?_
      refine zo_getr 1 1 rfl fl_X8_10 zt_0 rfl dX8_canBeAlike_46 ?_
      refine zg_iconst dX8_canBeAlike_49 zki_0 ?_
      refine zg_iload_n 2 dX8_canBeAlike_50 rfl rfl ?_
      obtain ⟨x1, hx1, h⟩ := z_bind h
      refine zg_callV (st := [.int v4]) (k_X7_cellsOf zW_1 hx1) zY_X7_cellsOf lv_X8_121 rfl zt_1 rfl (zfit_m (by decide) (by decide)) (Nat.le_of_ble_eq_true rfl) dX8_canBeAlike_51 rfl ?_
      refine zg_iload 5 dX8_canBeAlike_54 rfl ?_
      obtain ⟨x2, hx2, h⟩ := z_bind h
      refine zg_callS (st := [.int v4]) (k_X8_without hx2) zY_X8_without ls_X8_407 rfl (zfit_m (by decide) (by decide)) (Nat.le_of_ble_eq_true rfl) dX8_canBeAlike_56 rfl ?_
      refine zg_icmp_ne (tgt := 64) dX8_canBeAlike_59 (by decide) (fun hc => ?_) (fun hc => ?_)
      · replace h := (if_neg hc).symm.trans h
        refine zg_iinc (ls' := [(0, .ref 0), (1, .int v1), (2, .int v2), (3, .int v3), (4, .int v4), (5, .int (v5 + (1 : Int32)))]) 5 dX8_canBeAlike_64 rfl zki_1 (Nat.le_of_ble_eq_true rfl) rfl ?_
        refine zg_goto (tgt := 31) dX8_canBeAlike_67 (by decide) ?_
        exact ih _ _ _ _ _ h
      · replace h := (if_pos hc).symm.trans h
        refine zg_iconst dX8_canBeAlike_62 zki_1 ?_
        cases h
        exact zg_zret rfl dX8_canBeAlike_63
set_option maxRecDepth 20000 in
set_option maxHeartbeats 4000000 in
theorem g8_canBeAlike_2 {r1 : Int32} {M : zM} {k70 : Int32 → Int32 → Int32 → zM → Option Int32} (hk70 : ∀ (v1 : Int32) (v2 : Int32) (v3 : Int32), k70 v1 v2 v3 M = some r1 → zJ ztops RX8 cX8_canBeAlike 6 (zBm ztops 2 (some .boolean) (some (.int r1)) M) 0 0 70 [(0, .ref 0), (1, .int v1), (2, .int v2), (3, .int v3)] [] M) : ∀ (n : Nat) (v1 : Int32) (v2 : Int32) (v3 : Int32), f8_canBeAlike_2 k70 n v1 v2 v3 M = some r1 → zJ ztops RX8 cX8_canBeAlike 6 (zBm ztops 2 (some .boolean) (some (.int r1)) M) 0 0 2 [(0, .ref 0), (1, .int v1), (2, .int v2), (3, .int v3)] [] M := by
  intro n
  induction n with
  | zero => intro v1 v2 v3 h; cases h
  | succ n ih =>
    intro v1 v2 v3 h
    rw [f8_canBeAlike_2] at h
    refine zg_iload_n 3 dX8_canBeAlike_2 rfl rfl ?_
    refine zg_aload_n 0 dX8_canBeAlike_3 rfl rfl ?_
    refine zo_getr 1 1 rfl fl_X8_10 zt_0 rfl dX8_canBeAlike_4 ?_
    refine zg_geti fl_X8_213 zt_1 rfl dX8_canBeAlike_7 ?_
    refine zg_icmp_ge (tgt := 76) dX8_canBeAlike_10 (by decide) (fun hc => ?_) (fun hc => ?_)
    · replace h := (if_pos hc).symm.trans h
      refine zg_iconst dX8_canBeAlike_76 zki_0 ?_
      cases h
      exact zg_zret rfl dX8_canBeAlike_77
    · replace h := (if_neg hc).symm.trans h
      refine zg_aload_n 0 dX8_canBeAlike_13 rfl rfl ?_
      refine zo_getr 1 1 rfl fl_X8_10 zt_0 rfl dX8_canBeAlike_14 ?_
      refine zg_iconst dX8_canBeAlike_17 zki_0 ?_
      refine zg_iload_n 1 dX8_canBeAlike_18 rfl rfl ?_
      obtain ⟨x1, hx1, h⟩ := z_bind h
      refine zg_callV (st := []) (k_X7_cellsOf zW_1 hx1) zY_X7_cellsOf lv_X8_121 rfl zt_1 rfl (zfit_m (by decide) (by decide)) (Nat.le_of_ble_eq_true rfl) dX8_canBeAlike_19 rfl ?_
      refine zg_iload_n 3 dX8_canBeAlike_22 rfl rfl ?_
      obtain ⟨x2, hx2, h⟩ := z_bind h
      refine zg_callS (st := []) (k_X8_without hx2) zY_X8_without ls_X8_407 rfl (zfit_m (by decide) (by decide)) (Nat.le_of_ble_eq_true rfl) dX8_canBeAlike_23 rfl ?_
      refine zg_istore (ls' := [(0, .ref 0), (1, .int v1), (2, .int v2), (3, .int v3), (4, .int x2)]) dX8_canBeAlike_26 (Nat.le_of_ble_eq_true rfl) rfl ?_
      refine zg_iconst dX8_canBeAlike_28 zki_0 ?_
      refine zg_istore (ls' := [(0, .ref 0), (1, .int v1), (2, .int v2), (3, .int v3), (4, .int x2), (5, .int (0 : Int32))]) dX8_canBeAlike_29 (Nat.le_of_ble_eq_true rfl) rfl ?_
      exact g8_canBeAlike_31 (fun u0 u1 u2 h => g8_canBeAlike_70 (fun u0 u1 u2 h => ih u0 u1 u2 h) u0 u1 u2 h) zfuel _ _ _ _ _ h
set_option maxRecDepth 20000 in
set_option maxHeartbeats 4000000 in
theorem g8_canBeAlike_70 {r1 : Int32} {M : zM} {k2 : Int32 → Int32 → Int32 → zM → Option Int32} (hk2 : ∀ (v1 : Int32) (v2 : Int32) (v3 : Int32), k2 v1 v2 v3 M = some r1 → zJ ztops RX8 cX8_canBeAlike 6 (zBm ztops 2 (some .boolean) (some (.int r1)) M) 0 0 2 [(0, .ref 0), (1, .int v1), (2, .int v2), (3, .int v3)] [] M) : ∀ (v1 : Int32) (v2 : Int32) (v3 : Int32), f8_canBeAlike_70 k2 v1 v2 v3 M = some r1 → zJ ztops RX8 cX8_canBeAlike 6 (zBm ztops 2 (some .boolean) (some (.int r1)) M) 0 0 70 [(0, .ref 0), (1, .int v1), (2, .int v2), (3, .int v3)] [] M := by
  intro v1 v2 v3 h
  rw [f8_canBeAlike_70] at h
  refine zg_iinc (ls' := [(0, .ref 0), (1, .int v1), (2, .int v2), (3, .int (v3 + (1 : Int32)))]) 3 dX8_canBeAlike_70 rfl zki_1 (Nat.le_of_ble_eq_true rfl) rfl ?_
  refine zg_goto (tgt := 2) dX8_canBeAlike_73 (by decide) ?_
  exact hk2 _ _ _ h
set_option maxRecDepth 20000 in
set_option maxHeartbeats 4000000 in
theorem k_X8_canBeAlike {v1 : Int32} {v2 : Int32} {r1 : Int32} {M : zM} (h : f8_canBeAlike v1 v2 M = some r1) : zK ztops yX8_canBeAlike cX8_canBeAlike 6 (some .boolean) 2 [.ref 0, .int v1, .int v2] M (some (.int r1)) M := by
  refine zK_of pl_X8 (Nat.le_of_ble_eq_true rfl) ?_
  show zJ ztops RX8 cX8_canBeAlike 6 _ 0 0 0 [(0, .ref 0), (1, .int v1), (2, .int v2)] [] M
  rw [f8_canBeAlike] at h
  refine zg_iconst dX8_canBeAlike_0 zki_0 ?_
  refine zg_istore_n (ls' := [(0, .ref 0), (1, .int v1), (2, .int v2), (3, .int (0 : Int32))]) dX8_canBeAlike_1 rfl (Nat.le_of_ble_eq_true rfl) rfl ?_
  exact g8_canBeAlike_2 hk70 zfuel _ _ _ h
set_option maxRecDepth 20000 in
set_option maxHeartbeats 4000000 in
theorem k_X8_weaveDrawn {M : zM} {M1 : zM} (h : f8_weaveDrawn M = some M1) : zK ztops yX8_weaveDrawn cX8_weaveDrawn 4 (none) 3 [.ref 0] M none M1 := by
  refine zK_of pl_X8 (Nat.le_of_ble_eq_true rfl) ?_
  show zJ ztops RX8 cX8_weaveDrawn 4 _ 0 0 0 [(0, .ref 0)] [] M
  rw [f8_weaveDrawn] at h
  refine zg_aload_n 0 dX8_weaveDrawn_0 rfl rfl ?_
  refine zg_iconst dX8_weaveDrawn_1 zki_2 ?_
  obtain ⟨p1, hp1, h⟩ := z_bind h
  refine zg_callV (st := []) (k_X8_drawnBelow hp1) zY_X8_drawnBelow lv_X8_358 rfl zt_0 rfl (zfit_m (by decide) (by decide)) (Nat.le_of_ble_eq_true rfl) dX8_weaveDrawn_2 rfl ?_
  refine zg_istore_n (ls' := [(0, .ref 0), (1, .int p1.1)]) dX8_weaveDrawn_5 rfl (Nat.le_of_ble_eq_true rfl) rfl ?_
  refine zg_aload_n 0 dX8_weaveDrawn_6 rfl rfl ?_
  refine zg_aload_n 0 dX8_weaveDrawn_7 rfl rfl ?_
  refine zo_getr 3 3 rfl fl_X8_16 zt_0 rfl dX8_weaveDrawn_8 ?_
  refine zg_iload_n 1 dX8_weaveDrawn_11 rfl rfl ?_
  obtain ⟨x2, hx2, h⟩ := z_bind h
  refine zg_callV (st := [.ref 0]) (k_X7_sizeOf zW_3 hx2) zY_X7_sizeOf lv_X8_414 rfl zt_3 rfl (zfit_m (by decide) (by decide)) (Nat.le_of_ble_eq_true rfl) dX8_weaveDrawn_12 rfl ?_
  refine zg_iconst dX8_weaveDrawn_15 zki_1 ?_
  refine zg_iadd dX8_weaveDrawn_16 ?_
  obtain ⟨p3, hp3, h⟩ := z_bind h
  refine zg_callV (st := []) (k_X8_drawnBelow hp3) zY_X8_drawnBelow lv_X8_358 rfl zt_0 rfl (zfit_m (by decide) (by decide)) (Nat.le_of_ble_eq_true rfl) dX8_weaveDrawn_17 rfl ?_
  refine zg_istore_n (ls' := [(0, .ref 0), (1, .int p1.1), (2, .int p3.1)]) dX8_weaveDrawn_20 rfl (Nat.le_of_ble_eq_true rfl) rfl ?_
  refine zg_aload_n 0 dX8_weaveDrawn_21 rfl rfl ?_
  refine zg_bipush dX8_weaveDrawn_22 zkb_64 ?_
  obtain ⟨p4, hp4, h⟩ := z_bind h
  refine zg_callV (st := []) (k_X8_drawnBelow hp4) zY_X8_drawnBelow lv_X8_358 rfl zt_0 rfl (zfit_m (by decide) (by decide)) (Nat.le_of_ble_eq_true rfl) dX8_weaveDrawn_24 rfl ?_
  refine zg_aload_n 0 dX8_weaveDrawn_27 rfl rfl ?_
  refine zo_getr 3 3 rfl fl_X8_16 zt_0 rfl dX8_weaveDrawn_28 ?_
  refine zg_iload_n 1 dX8_weaveDrawn_31 rfl rfl ?_
  obtain ⟨x5, hx5, h⟩ := z_bind h
  refine zg_callV (st := [.int p4.1]) (k_X7_fullOf zW_3 hx5) zY_X7_fullOf lv_X8_417 rfl zt_3 rfl (zfit_m (by decide) (by decide)) (Nat.le_of_ble_eq_true rfl) dX8_weaveDrawn_32 rfl ?_
  refine zg_iand dX8_weaveDrawn_35 ?_
  refine zg_istore_n (ls' := [(0, .ref 0), (1, .int p1.1), (2, .int p3.1), (3, .int (p4.1 &&& x5))]) dX8_weaveDrawn_36 rfl (Nat.le_of_ble_eq_true rfl) rfl ?_
  refine zg_aload_n 0 dX8_weaveDrawn_37 rfl rfl ?_
  refine zo_getr 3 3 rfl fl_X8_16 zt_0 rfl dX8_weaveDrawn_38 ?_
  refine zg_iload_n 1 dX8_weaveDrawn_41 rfl rfl ?_
  refine zg_iload_n 2 dX8_weaveDrawn_42 rfl rfl ?_
  refine zg_iload_n 3 dX8_weaveDrawn_43 rfl rfl ?_
  obtain ⟨p6, hp6, h⟩ := z_bind h
  refine zg_callV (st := []) (k_X7_weaveIn zW_3 hp6) zY_X7_weaveIn lv_X8_156 rfl zt_3 rfl (zfit_m (by decide) (by decide)) (Nat.le_of_ble_eq_true rfl) dX8_weaveDrawn_44 rfl ?_
  refine zg_pop dX8_weaveDrawn_47 rfl ?_
  cases h
  exact zg_vret dX8_weaveDrawn_48
set_option maxRecDepth 20000 in
set_option maxHeartbeats 4000000 in
theorem g4_readFrom_94 {a0 : Nat} (h0 : zRu ztops a0) {r1 : Int32} {M1 : zM} {k52 : Int32 → Int32 → zM → Option (Int32 × zM)} (hk52 : ∀ (v2 : Int32) (v3 : Int32) (M : zM), k52 v2 v3 M = some (r1, M1) → zJ ztops RX4 cX4_readFrom 5 (zBm ztops 4 (some .int) (some (.int r1)) M1) 0 0 52 [(0, .ref a0), (1, .ref 7), (2, .int v2), (3, .int v3)] [] M) : ∀ (v2 : Int32) (v3 : Int32) (M : zM), f4_readFrom_94 a0 k52 v2 v3 M = some (r1, M1) → zJ ztops RX4 cX4_readFrom 5 (zBm ztops 4 (some .int) (some (.int r1)) M1) 0 0 94 [(0, .ref a0), (1, .ref 7), (2, .int v2), (3, .int v3)] [] M := by
  intro v2 v3 M h
  rw [f4_readFrom_94] at h
  refine zg_iinc (ls' := [(0, .ref a0), (1, .ref 7), (2, .int v2), (3, .int (v3 + (1 : Int32)))]) 3 dX4_readFrom_94 rfl zki_1 (Nat.le_of_ble_eq_true rfl) rfl ?_
  refine zg_goto (tgt := 52) dX4_readFrom_97 (by decide) ?_
  exact hk52 _ _ _ h
set_option maxRecDepth 20000 in
set_option maxHeartbeats 4000000 in
theorem g4_readFrom_52 {a0 : Nat} (h0 : zRu ztops a0) {r1 : Int32} {M1 : zM} : ∀ (n : Nat) (v2 : Int32) (v3 : Int32) (M : zM), f4_readFrom_52 a0 n v2 v3 M = some (r1, M1) → zJ ztops RX4 cX4_readFrom 5 (zBm ztops 4 (some .int) (some (.int r1)) M1) 0 0 52 [(0, .ref a0), (1, .ref 7), (2, .int v2), (3, .int v3)] [] M := by
  intro n
  induction n with
  | zero => intro v2 v3 M h; cases h
  | succ n ih =>
    intro v2 v3 M h
    rw [f4_readFrom_52] at h
    refine zg_iload_n 3 dX4_readFrom_52 rfl rfl ?_
    refine zg_iload_n 2 dX4_readFrom_53 rfl rfl ?_
    refine zg_icmp_ge (tgt := 100) dX4_readFrom_54 (by decide) (fun hc => ?_) (fun hc => ?_)
    · replace h := (if_pos hc).symm.trans h
      refine zg_aload_n 1 dX4_readFrom_100 rfl rfl ?_
      refine zg_geti fl_X4_48 zt_7 rfl dX4_readFrom_101 ?_
      refine zg_bipush dX4_readFrom_104 zkb_40 ?_
      refine zg_icmp_le (tgt := 112) dX4_readFrom_106 (by decide) (fun hc => ?_) (fun hc => ?_)
      · replace h := (if_pos hc).symm.trans h
        refine zg_aload_n 0 dX4_readFrom_112 rfl rfl ?_
        refine zg_geti fl_X4_44 h0.1 rfl dX4_readFrom_113 ?_
        refine zg_if_ne (tgt := 126) dX4_readFrom_116 (by decide) (fun hc => ?_) (fun hc => ?_)
        · replace h := (if_neg hc).symm.trans h
          refine zg_aload_n 1 dX4_readFrom_126 rfl rfl ?_
          refine zg_geti fl_X4_48 zt_7 rfl dX4_readFrom_127 ?_
          cases h
          exact zg_iret dX4_readFrom_130
        · replace h := (if_pos hc).symm.trans h
          refine zg_aload_n 0 dX4_readFrom_119 rfl rfl ?_
          refine zg_geti fl_X4_41 h0.1 rfl dX4_readFrom_120 ?_
          refine zg_if_le (tgt := 131) dX4_readFrom_123 (by decide) (fun hc => ?_) (fun hc => ?_)
          · replace h := (if_pos hc).symm.trans h
            refine zg_aload_n 0 dX4_readFrom_131 rfl rfl ?_
            refine zg_iconst dX4_readFrom_132 zki_1 ?_
            obtain ⟨M1, hM1, h⟩ := z_bind h
            refine zg_callV (st := []) (k_X4_release h0 hM1) zY_X4_release lv_X4_68 rfl h0.1 rfl (zfit_m (by decide) (by decide)) (Nat.le_of_ble_eq_true rfl) dX4_readFrom_133 rfl ?_
            refine zg_iconst dX4_readFrom_136 zki_m1 ?_
            cases h
            exact zg_iret dX4_readFrom_137
          · replace h := (if_neg hc).symm.trans h
            refine zg_aload_n 1 dX4_readFrom_126 rfl rfl ?_
            refine zg_geti fl_X4_48 zt_7 rfl dX4_readFrom_127 ?_
            cases h
            exact zg_iret dX4_readFrom_130
      · replace h := (if_neg hc).symm.trans h
        refine zg_bipush dX4_readFrom_109 zkb_40 ?_
        cases h
        exact zg_iret dX4_readFrom_111
    · replace h := (if_neg hc).symm.trans h
      refine zg_aload_n 1 dX4_readFrom_57 rfl rfl ?_
      refine zg_iload_n 3 dX4_readFrom_58 rfl rfl ?_
      obtain ⟨x1, hx1, h⟩ := z_bind h
      refine zg_callV (st := []) (k_X6_at hx1) zY_X6_at lv_X4_57 rfl zt_7 rfl (zfit_m (by decide) (by decide)) (Nat.le_of_ble_eq_true rfl) dX4_readFrom_59 rfl ?_
      refine zg_istore (ls' := [(0, .ref a0), (1, .ref 7), (2, .int v2), (3, .int v3), (4, .int x1)]) dX4_readFrom_62 (Nat.le_of_ble_eq_true rfl) rfl ?_
      refine zg_aload_n 0 dX4_readFrom_64 rfl rfl ?_
      refine zg_geti fl_X4_44 h0.1 rfl dX4_readFrom_65 ?_
      refine zg_if_eq (tgt := 83) dX4_readFrom_68 (by decide) (fun hc => ?_) (fun hc => ?_)
      · replace h := (if_pos hc).symm.trans h
        refine zg_aload_n 0 dX4_readFrom_83 rfl rfl ?_
        refine zg_iload 4 dX4_readFrom_84 rfl ?_
        obtain ⟨p2, hp2, h⟩ := z_bind h
        refine zg_callV (st := []) (k_X4_takesJoin h0 hp2) zY_X4_takesJoin lv_X4_65 rfl h0.1 rfl (zfit_m (by decide) (by decide)) (Nat.le_of_ble_eq_true rfl) dX4_readFrom_86 rfl ?_
        refine zg_if_ne (tgt := 94) dX4_readFrom_89 (by decide) (fun hc => ?_) (fun hc => ?_)
        · replace h := (if_neg hc).symm.trans h
          refine zo_sub (ls' := [(0, .ref a0), (1, .ref 7), (2, .int v2), (3, .int v3)]) [0, 1, 2, 3] rfl ?_
          exact g4_readFrom_94 h0 (fun u0 u1 u2 h => ih u0 u1 u2 h) _ _ _ h
        · replace h := (if_pos hc).symm.trans h
          refine zg_iload_n 3 dX4_readFrom_92 rfl rfl ?_
          cases h
          exact zg_iret dX4_readFrom_93
      · replace h := (if_neg hc).symm.trans h
        refine zg_aload_n 0 dX4_readFrom_71 rfl rfl ?_
        refine zg_iload 4 dX4_readFrom_72 rfl ?_
        obtain ⟨p2, hp2, h⟩ := z_bind h
        refine zg_callV (st := []) (k_X4_takesThing h0 hp2) zY_X4_takesThing lv_X4_61 rfl h0.1 rfl (zfit_m (by decide) (by decide)) (Nat.le_of_ble_eq_true rfl) dX4_readFrom_74 rfl ?_
        refine zg_if_ne (tgt := 94) dX4_readFrom_77 (by decide) (fun hc => ?_) (fun hc => ?_)
        · replace h := (if_neg hc).symm.trans h
          refine zo_sub (ls' := [(0, .ref a0), (1, .ref 7), (2, .int v2), (3, .int v3)]) [0, 1, 2, 3] rfl ?_
          exact g4_readFrom_94 h0 (fun u0 u1 u2 h => ih u0 u1 u2 h) _ _ _ h
        · replace h := (if_pos hc).symm.trans h
          refine zg_goto (tgt := 92) dX4_readFrom_80 (by decide) ?_
          refine zg_iload_n 3 dX4_readFrom_92 rfl rfl ?_
          cases h
          exact zg_iret dX4_readFrom_93
set_option maxRecDepth 20000 in
set_option maxHeartbeats 4000000 in
theorem k_X4_readFrom {a0 : Nat} (h0 : zRu ztops a0) {M : zM} {r1 : Int32} {M1 : zM} (h : f4_readFrom a0 M = some (r1, M1)) : zK ztops yX4_readFrom cX4_readFrom 5 (some .int) 4 [.ref a0, .ref 7] M (some (.int r1)) M1 := by
  refine zK_of pl_X4 (Nat.le_of_ble_eq_true rfl) ?_
  show zJ ztops RX4 cX4_readFrom 5 _ 0 0 0 [(0, .ref a0), (1, .ref 7)] [] M
  rw [f4_readFrom] at h
  refine zg_aload_n 0 dX4_readFrom_0 rfl rfl ?_
  refine zg_iconst dX4_readFrom_1 zki_0 ?_
  refine zg_puti fp_X4_15 h0.1 rfl dX4_readFrom_2 ?_
  refine zg_aload_n 0 dX4_readFrom_5 rfl rfl ?_
  refine zg_iconst dX4_readFrom_6 zki_0 ?_
  refine zg_puti fp_X4_38 h0.1 rfl dX4_readFrom_7 ?_
  refine zg_aload_n 0 dX4_readFrom_10 rfl rfl ?_
  refine zg_iconst dX4_readFrom_11 zki_0 ?_
  refine zg_puti fp_X4_41 h0.1 rfl dX4_readFrom_12 ?_
  refine zg_aload_n 0 dX4_readFrom_15 rfl rfl ?_
  refine zo_getr (a0 + 3) 3 rfl fl_X4_22 h0.1 rfl dX4_readFrom_16 ?_
  refine zg_iconst dX4_readFrom_19 zki_0 ?_
  refine zg_iconst dX4_readFrom_20 zki_0 ?_
  obtain ⟨M1, hM1, h⟩ := z_bind h
  refine zo_zast h0.2.2.2.1 hM1 dX4_readFrom_21 ?_
  refine zg_aload_n 0 dX4_readFrom_22 rfl rfl ?_
  refine zg_iconst dX4_readFrom_23 zki_1 ?_
  refine zg_putz fp_X4_44 rfl h0.1 rfl dX4_readFrom_24 ?_
  refine zg_aload_n 1 dX4_readFrom_27 rfl rfl ?_
  refine zg_geti fl_X4_48 zt_7 rfl dX4_readFrom_28 ?_
  refine zg_if_ne (tgt := 40) dX4_readFrom_31 (by decide) (fun hc => ?_) (fun hc => ?_)
  · replace h := (if_neg hc).symm.trans h
    refine zg_aload_n 1 dX4_readFrom_40 rfl rfl ?_
    refine zg_geti fl_X4_48 zt_7 rfl dX4_readFrom_41 ?_
    refine zg_bipush dX4_readFrom_44 zkb_40 ?_
    refine zo_min ls_X4_51 ⟨Nat.le_of_ble_eq_true rfl, Nat.le_of_ble_eq_true rfl, Nat.le_refl _, Nat.le_refl _⟩ z_iM z_cmin dX4_readFrom_46 ?_
    refine zg_istore_n (ls' := [(0, .ref a0), (1, .ref 7), (2, .int (zmin ((zsi M1 a0 7 (1 : Int32)).1 7 1) (40 : Int32)))]) dX4_readFrom_49 rfl (Nat.le_of_ble_eq_true rfl) rfl ?_
    refine zg_iconst dX4_readFrom_50 zki_0 ?_
    refine zg_istore_n (ls' := [(0, .ref a0), (1, .ref 7), (2, .int (zmin ((zsi M1 a0 7 (1 : Int32)).1 7 1) (40 : Int32))), (3, .int (0 : Int32))]) dX4_readFrom_51 rfl (Nat.le_of_ble_eq_true rfl) rfl ?_
    exact g4_readFrom_52 h0 zfuel _ _ _ h
  · replace h := (if_pos hc).symm.trans h
    refine zg_aload_n 0 dX4_readFrom_34 rfl rfl ?_
    obtain ⟨M2, hM2, h⟩ := z_bind h
    refine zg_callV (st := []) (k_X4_putPlainRule h0 hM2) zY_X4_putPlainRule lv_X4_29 rfl h0.1 rfl (zfit_m (by decide) (by decide)) (Nat.le_of_ble_eq_true rfl) dX4_readFrom_35 rfl ?_
    refine zg_iconst dX4_readFrom_38 zki_m1 ?_
    cases h
    exact zg_iret dX4_readFrom_39
set_option maxRecDepth 20000 in
set_option maxHeartbeats 4000000 in
theorem g4_pullOf_163 {T : List zN} {a0 : Nat} {a1 : Nat} (h0 : zRu T a0) (h1 : zWv T a1) {r1 : Int32} {M1 : zM} {k6 : Int32 → Int32 → Int32 → Int32 → zM → Option (Int32 × zM)} (hk6 : ∀ (v2 : Int32) (v3 : Int32) (v4 : Int32) (v5 : Int32) (M : zM), k6 v2 v3 v4 v5 M = some (r1, M1) → zJ T RX4 cX4_pullOf 8 (zBm T 4 (some .int) (some (.int r1)) M1) 0 0 6 [(0, .ref a0), (1, .ref a1), (2, .int v2), (3, .int v3), (4, .int v4), (5, .int v5)] [] M) : ∀ (v2 : Int32) (v3 : Int32) (v4 : Int32) (v5 : Int32) (M : zM), f4_pullOf_163 a0 a1 k6 v2 v3 v4 v5 M = some (r1, M1) → zJ T RX4 cX4_pullOf 8 (zBm T 4 (some .int) (some (.int r1)) M1) 0 0 163 [(0, .ref a0), (1, .ref a1), (2, .int v2), (3, .int v3), (4, .int v4), (5, .int v5)] [] M := by
  intro v2 v3 v4 v5 M h
  rw [f4_pullOf_163] at h
  refine zg_iinc (ls' := [(0, .ref a0), (1, .ref a1), (2, .int v2), (3, .int v3), (4, .int v4), (5, .int (v5 + (1 : Int32)))]) 5 dX4_pullOf_163 rfl zki_1 (Nat.le_of_ble_eq_true rfl) rfl ?_
  refine zg_goto (tgt := 6) dX4_pullOf_166 (by decide) ?_
  exact hk6 _ _ _ _ _ h
set_option maxRecDepth 20000 in
set_option maxHeartbeats 4000000 in
theorem g4_pullOf_77 {T : List zN} {a0 : Nat} {a1 : Nat} (h0 : zRu T a0) (h1 : zWv T a1) {r1 : Int32} {M1 : zM} {k6 : Int32 → Int32 → Int32 → Int32 → zM → Option (Int32 × zM)} (hk6 : ∀ (v2 : Int32) (v3 : Int32) (v4 : Int32) (v5 : Int32) (M : zM), k6 v2 v3 v4 v5 M = some (r1, M1) → zJ T RX4 cX4_pullOf 8 (zBm T 4 (some .int) (some (.int r1)) M1) 0 0 6 [(0, .ref a0), (1, .ref a1), (2, .int v2), (3, .int v3), (4, .int v4), (5, .int v5)] [] M) : ∀ (v2 : Int32) (v3 : Int32) (v4 : Int32) (v5 : Int32) (s1 : Int32) (s2 : Int32) (M : zM), f4_pullOf_77 a0 a1 k6 v2 v3 v4 v5 s1 s2 M = some (r1, M1) → zJ T RX4 cX4_pullOf 8 (zBm T 4 (some .int) (some (.int r1)) M1) 0 0 77 [(0, .ref a0), (1, .ref a1), (2, .int v2), (3, .int v3), (4, .int v4), (5, .int v5)] [.int s2, .int s1, .ref (a0 + 4)] M := by
  intro v2 v3 v4 v5 s1 s2 M h
  rw [f4_pullOf_77] at h
  obtain ⟨M1, hM1, h⟩ := z_bind h
  refine zo_iast h0.2.2.2.2 hM1 dX4_pullOf_77 ?_
  refine zg_iinc (ls' := [(0, .ref a0), (1, .ref a1), (2, .int v2), (3, .int v3), (4, .int (v4 + (1 : Int32))), (5, .int v5)]) 4 dX4_pullOf_78 rfl zki_1 (Nat.le_of_ble_eq_true rfl) rfl ?_
  refine zg_goto (tgt := 163) dX4_pullOf_81 (by decide) ?_
  exact g4_pullOf_163 h0 h1 hk6 _ _ _ _ _ h
set_option maxRecDepth 20000 in
set_option maxHeartbeats 4000000 in
theorem g4_pullOf_120 {T : List zN} {a0 : Nat} {a1 : Nat} (h0 : zRu T a0) (h1 : zWv T a1) {r1 : Int32} {M1 : zM} {k6 : Int32 → Int32 → Int32 → Int32 → zM → Option (Int32 × zM)} (hk6 : ∀ (v2 : Int32) (v3 : Int32) (v4 : Int32) (v5 : Int32) (M : zM), k6 v2 v3 v4 v5 M = some (r1, M1) → zJ T RX4 cX4_pullOf 8 (zBm T 4 (some .int) (some (.int r1)) M1) 0 0 6 [(0, .ref a0), (1, .ref a1), (2, .int v2), (3, .int v3), (4, .int v4), (5, .int v5)] [] M) : ∀ (v2 : Int32) (v3 : Int32) (v4 : Int32) (v5 : Int32) (v6 : Int32) (M : zM), f4_pullOf_120 a0 a1 k6 v2 v3 v4 v5 v6 M = some (r1, M1) → zJ T RX4 cX4_pullOf 8 (zBm T 4 (some .int) (some (.int r1)) M1) 0 0 120 [(0, .ref a0), (1, .ref a1), (2, .int v2), (3, .int v3), (4, .int v4), (5, .int v5), (6, .int v6)] [] M := by
  intro v2 v3 v4 v5 v6 M h
  rw [f4_pullOf_120] at h
  refine zg_iload 4 dX4_pullOf_120 rfl ?_
  refine zg_iconst dX4_pullOf_122 zki_2 ?_
  refine zg_icmp_lt (tgt := 163) dX4_pullOf_123 (by decide) (fun hc => ?_) (fun hc => ?_)
  · replace h := (if_pos hc).symm.trans h
    refine zo_sub (ls' := [(0, .ref a0), (1, .ref a1), (2, .int v2), (3, .int v3), (4, .int v4), (5, .int v5)]) [0, 1, 2, 3, 4, 5] rfl ?_
    exact g4_pullOf_163 h0 h1 hk6 _ _ _ _ _ h
  · replace h := (if_neg hc).symm.trans h
    refine zg_iinc (ls' := [(0, .ref a0), (1, .ref a1), (2, .int v2), (3, .int v3), (4, .int (v4 + (-1 : Int32))), (5, .int v5), (6, .int v6)]) 4 dX4_pullOf_126 rfl zki_m1 (Nat.le_of_ble_eq_true rfl) rfl ?_
    refine zg_aload_n 0 dX4_pullOf_129 rfl rfl ?_
    refine zo_getr (a0 + 4) 4 rfl fl_X4_26 h0.1 rfl dX4_pullOf_130 ?_
    refine zg_iload 4 dX4_pullOf_133 rfl ?_
    refine zg_iconst dX4_pullOf_135 zki_1 ?_
    refine zg_isub dX4_pullOf_136 ?_
    refine zg_iload 6 dX4_pullOf_137 rfl ?_
    refine zg_sipush dX4_pullOf_139 zks_1000 ?_
    refine zg_isub dX4_pullOf_142 ?_
    refine zg_aload_n 0 dX4_pullOf_143 rfl rfl ?_
    refine zo_getr (a0 + 4) 4 rfl fl_X4_26 h0.1 rfl dX4_pullOf_144 ?_
    refine zg_iload 4 dX4_pullOf_147 rfl ?_
    refine zg_iconst dX4_pullOf_149 zki_1 ?_
    refine zg_isub dX4_pullOf_150 ?_
    obtain ⟨x1, hx1, h⟩ := z_bind h
    refine zo_iald h0.2.2.2.2 hx1 dX4_pullOf_151 ?_
    refine zg_aload_n 0 dX4_pullOf_152 rfl rfl ?_
    refine zo_getr (a0 + 4) 4 rfl fl_X4_26 h0.1 rfl dX4_pullOf_153 ?_
    refine zg_iload 4 dX4_pullOf_156 rfl ?_
    obtain ⟨x2, hx2, h⟩ := z_bind h
    refine zo_iald h0.2.2.2.2 hx2 dX4_pullOf_158 ?_
    obtain ⟨x3, hx3, h⟩ := z_bind h
    refine zg_callS (st := [.int ((v4 + (-1 : Int32)) - (1 : Int32)), .ref (a0 + 4)]) (k_X4_joined hx3) zY_X4_joined ls_X4_91 rfl (zfit_m (by decide) (by decide)) (Nat.le_of_ble_eq_true rfl) dX4_pullOf_159 rfl ?_
    obtain ⟨M4, hM4, h⟩ := z_bind h
    refine zo_iast h0.2.2.2.2 hM4 dX4_pullOf_162 ?_
    refine zo_sub (ls' := [(0, .ref a0), (1, .ref a1), (2, .int v2), (3, .int v3), (4, .int (v4 + (-1 : Int32))), (5, .int v5)]) [0, 1, 2, 3, 4, 5] rfl ?_
    exact g4_pullOf_163 h0 h1 hk6 _ _ _ _ _ h
set_option maxRecDepth 20000 in
set_option maxHeartbeats 4000000 in
theorem g4_pullOf_84 {T : List zN} {a0 : Nat} {a1 : Nat} (h0 : zRu T a0) (h1 : zWv T a1) {r1 : Int32} {M1 : zM} {k6 : Int32 → Int32 → Int32 → Int32 → zM → Option (Int32 × zM)} (hk6 : ∀ (v2 : Int32) (v3 : Int32) (v4 : Int32) (v5 : Int32) (M : zM), k6 v2 v3 v4 v5 M = some (r1, M1) → zJ T RX4 cX4_pullOf 8 (zBm T 4 (some .int) (some (.int r1)) M1) 0 0 6 [(0, .ref a0), (1, .ref a1), (2, .int v2), (3, .int v3), (4, .int v4), (5, .int v5)] [] M) : ∀ (v2 : Int32) (v3 : Int32) (v4 : Int32) (v5 : Int32) (v6 : Int32) (M : zM), f4_pullOf_84 a0 a1 k6 v2 v3 v4 v5 v6 M = some (r1, M1) → zJ T RX4 cX4_pullOf 8 (zBm T 4 (some .int) (some (.int r1)) M1) 0 0 84 [(0, .ref a0), (1, .ref a1), (2, .int v2), (3, .int v3), (4, .int v4), (5, .int v5), (6, .int v6)] [] M := by
  intro v2 v3 v4 v5 v6 M h
  rw [f4_pullOf_84] at h
  refine zg_iload 6 dX4_pullOf_84 rfl ?_
  refine zg_sipush dX4_pullOf_86 zks_1126 ?_
  refine zg_icmp_ne (tgt := 120) dX4_pullOf_89 (by decide) (fun hc => ?_) (fun hc => ?_)
  · replace h := (if_neg hc).symm.trans h
    exact g4_pullOf_120 h0 h1 hk6 _ _ _ _ _ _ h
  · replace h := (if_pos hc).symm.trans h
    refine zg_iload 4 dX4_pullOf_92 rfl ?_
    refine zg_iconst dX4_pullOf_94 zki_1 ?_
    refine zg_icmp_lt (tgt := 120) dX4_pullOf_95 (by decide) (fun hc => ?_) (fun hc => ?_)
    · replace h := (if_pos hc).symm.trans h
      exact g4_pullOf_120 h0 h1 hk6 _ _ _ _ _ _ h
    · replace h := (if_neg hc).symm.trans h
      refine zg_aload_n 0 dX4_pullOf_98 rfl rfl ?_
      refine zo_getr (a0 + 4) 4 rfl fl_X4_26 h0.1 rfl dX4_pullOf_99 ?_
      refine zg_iload 4 dX4_pullOf_102 rfl ?_
      refine zg_iconst dX4_pullOf_104 zki_1 ?_
      refine zg_isub dX4_pullOf_105 ?_
      refine zg_aload_n 0 dX4_pullOf_106 rfl rfl ?_
      refine zo_getr (a0 + 4) 4 rfl fl_X4_26 h0.1 rfl dX4_pullOf_107 ?_
      refine zg_iload 4 dX4_pullOf_110 rfl ?_
      refine zg_iconst dX4_pullOf_112 zki_1 ?_
      refine zg_isub dX4_pullOf_113 ?_
      obtain ⟨x1, hx1, h⟩ := z_bind h
      refine zo_iald h0.2.2.2.2 hx1 dX4_pullOf_114 ?_
      refine zg_ineg dX4_pullOf_115 ?_
      obtain ⟨M2, hM2, h⟩ := z_bind h
      refine zo_iast h0.2.2.2.2 hM2 dX4_pullOf_116 ?_
      refine zg_goto (tgt := 163) dX4_pullOf_117 (by decide) ?_
      refine zo_sub (ls' := [(0, .ref a0), (1, .ref a1), (2, .int v2), (3, .int v3), (4, .int v4), (5, .int v5)]) [0, 1, 2, 3, 4, 5] rfl ?_
      exact g4_pullOf_163 h0 h1 hk6 _ _ _ _ _ h
set_option maxRecDepth 20000 in
set_option maxHeartbeats 4000000 in
theorem g4_pullOf_6 {T : List zN} {a0 : Nat} {a1 : Nat} (h0 : zRu T a0) (h1 : zWv T a1) {r1 : Int32} {M1 : zM} : ∀ (n : Nat) (v2 : Int32) (v3 : Int32) (v4 : Int32) (v5 : Int32) (M : zM), f4_pullOf_6 a0 a1 n v2 v3 v4 v5 M = some (r1, M1) → zJ T RX4 cX4_pullOf 8 (zBm T 4 (some .int) (some (.int r1)) M1) 0 0 6 [(0, .ref a0), (1, .ref a1), (2, .int v2), (3, .int v3), (4, .int v4), (5, .int v5)] [] M := by
  intro n
  induction n with
  | zero => intro v2 v3 v4 v5 M h; cases h
  | succ n ih =>
    intro v2 v3 v4 v5 M h
    rw [f4_pullOf_6] at h
    refine zg_iload 5 dX4_pullOf_6 rfl ?_
    refine zg_aload_n 0 dX4_pullOf_8 rfl rfl ?_
    refine zg_geti fl_X4_15 h0.1 rfl dX4_pullOf_9 ?_
    refine zg_icmp_ge (tgt := 169) dX4_pullOf_12 (by decide) (fun hc => ?_) (fun hc => ?_)
    · replace h := (if_pos hc).symm.trans h
      refine zg_bipush dX4_pullOf_169 zkb_m99 ?_
      refine zg_bipush dX4_pullOf_171 zkb_99 ?_
      refine zg_aload_n 0 dX4_pullOf_173 rfl rfl ?_
      refine zo_getr (a0 + 4) 4 rfl fl_X4_26 h0.1 rfl dX4_pullOf_174 ?_
      refine zg_iconst dX4_pullOf_177 zki_0 ?_
      refine zo_ialdc 0 h0.2.2.2.2 (by decide) rfl dX4_pullOf_178 ?_
      refine zo_min ls_X4_51 ⟨Nat.le_of_ble_eq_true rfl, Nat.le_of_ble_eq_true rfl, Nat.le_refl _, Nat.le_refl _⟩ z_iM z_cmin dX4_pullOf_179 ?_
      refine zo_max ls_X4_95 ⟨Nat.le_of_ble_eq_true rfl, Nat.le_of_ble_eq_true rfl, Nat.le_refl _, Nat.le_refl _⟩ z_iM z_cmax dX4_pullOf_182 ?_
      cases h
      exact zg_iret dX4_pullOf_185
    · replace h := (if_neg hc).symm.trans h
      refine zg_aload_n 0 dX4_pullOf_15 rfl rfl ?_
      refine zo_getr (a0 + 1) 1 rfl fl_X4_11 h0.1 rfl dX4_pullOf_16 ?_
      refine zg_iload 5 dX4_pullOf_19 rfl ?_
      obtain ⟨x1, hx1, h⟩ := z_bind h
      refine zo_iald h0.2.1 hx1 dX4_pullOf_21 ?_
      refine zg_istore (ls' := [(0, .ref a0), (1, .ref a1), (2, .int v2), (3, .int v3), (4, .int v4), (5, .int v5), (6, .int x1)]) dX4_pullOf_22 (Nat.le_of_ble_eq_true rfl) rfl ?_
      refine zg_iload 6 dX4_pullOf_24 rfl ?_
      obtain ⟨x2, hx2, h⟩ := z_bind h
      refine zg_callS (st := []) (k_X4_bindingOf hx2) zY_X4_bindingOf ls_X4_84 rfl (zfit_m (by decide) (by decide)) (Nat.le_of_ble_eq_true rfl) dX4_pullOf_26 rfl ?_
      refine zg_istore (ls' := [(0, .ref a0), (1, .ref a1), (2, .int v2), (3, .int v3), (4, .int v4), (5, .int v5), (6, .int x1), (7, .int x2)]) dX4_pullOf_29 (Nat.le_of_ble_eq_true rfl) rfl ?_
      refine zg_iload 7 dX4_pullOf_31 rfl ?_
      refine zg_if_ne (tgt := 84) dX4_pullOf_33 (by decide) (fun hc => ?_) (fun hc => ?_)
      · replace h := (if_neg hc).symm.trans h
        refine zo_sub (ls' := [(0, .ref a0), (1, .ref a1), (2, .int v2), (3, .int v3), (4, .int v4), (5, .int v5), (6, .int x1)]) [0, 1, 2, 3, 4, 5, 6] rfl ?_
        exact g4_pullOf_84 h0 h1 (fun u0 u1 u2 u3 u4 h => ih u0 u1 u2 u3 u4 h) _ _ _ _ _ _ h
      · replace h := (if_pos hc).symm.trans h
        refine zg_iload 4 dX4_pullOf_36 rfl ?_
        refine zg_aload_n 0 dX4_pullOf_38 rfl rfl ?_
        refine zo_getr (a0 + 4) 4 rfl fl_X4_26 h0.1 rfl dX4_pullOf_39 ?_
        refine zg_alen (v := (40 : Int32)) h0.2.2.2.2 (by decide) rfl dX4_pullOf_42 ?_
        refine zg_icmp_ge (tgt := 84) dX4_pullOf_43 (by decide) (fun hc => ?_) (fun hc => ?_)
        · replace h := (if_pos hc).symm.trans h
          refine zo_sub (ls' := [(0, .ref a0), (1, .ref a1), (2, .int v2), (3, .int v3), (4, .int v4), (5, .int v5), (6, .int x1)]) [0, 1, 2, 3, 4, 5, 6] rfl ?_
          exact g4_pullOf_84 h0 h1 (fun u0 u1 u2 u3 u4 h => ih u0 u1 u2 u3 u4 h) _ _ _ _ _ _ h
        · replace h := (if_neg hc).symm.trans h
          refine zg_aload_n 0 dX4_pullOf_46 rfl rfl ?_
          refine zo_getr (a0 + 4) 4 rfl fl_X4_26 h0.1 rfl dX4_pullOf_47 ?_
          refine zg_iload 4 dX4_pullOf_50 rfl ?_
          refine zg_iload 6 dX4_pullOf_52 rfl ?_
          refine zg_sipush dX4_pullOf_54 zks_1000 ?_
          refine zg_icmp_ge (tgt := 65) dX4_pullOf_57 (by decide) (fun hc => ?_) (fun hc => ?_)
          · replace h := (if_pos hc).symm.trans h
            refine zg_iload 6 dX4_pullOf_65 rfl ?_
            refine zg_sipush dX4_pullOf_67 zks_1000 ?_
            refine zg_isub dX4_pullOf_70 ?_
            refine zg_aload_n 1 dX4_pullOf_71 rfl rfl ?_
            refine zg_iload_n 2 dX4_pullOf_72 rfl rfl ?_
            refine zg_iload_n 3 dX4_pullOf_73 rfl rfl ?_
            obtain ⟨x3, hx3, h⟩ := z_bind h
            refine zg_callS (st := [.int v4, .ref (a0 + 4)]) (k_X4_traitOf h1 hx3) zY_X4_traitOf ls_X4_87 rfl (zfit_m (by decide) (by decide)) (Nat.le_of_ble_eq_true rfl) dX4_pullOf_74 rfl ?_
            refine zo_sub (ls' := [(0, .ref a0), (1, .ref a1), (2, .int v2), (3, .int v3), (4, .int v4), (5, .int v5)]) [0, 1, 2, 3, 4, 5] rfl ?_
            exact g4_pullOf_77 h0 h1 (fun u0 u1 u2 u3 u4 h => ih u0 u1 u2 u3 u4 h) _ _ _ _ _ _ _ h
          · replace h := (if_neg hc).symm.trans h
            refine zg_iload 6 dX4_pullOf_60 rfl ?_
            refine zg_goto (tgt := 77) dX4_pullOf_62 (by decide) ?_
            refine zo_sub (ls' := [(0, .ref a0), (1, .ref a1), (2, .int v2), (3, .int v3), (4, .int v4), (5, .int v5)]) [0, 1, 2, 3, 4, 5] rfl ?_
            exact g4_pullOf_77 h0 h1 (fun u0 u1 u2 u3 u4 h => ih u0 u1 u2 u3 u4 h) _ _ _ _ _ _ _ h
set_option maxRecDepth 20000 in
set_option maxHeartbeats 4000000 in
theorem k_X4_pullOf {T : List zN} {a0 : Nat} {a1 : Nat} (h0 : zRu T a0) (h1 : zWv T a1) {v2 : Int32} {v3 : Int32} {M : zM} {r1 : Int32} {M1 : zM} (h : f4_pullOf a0 a1 v2 v3 M = some (r1, M1)) : zK T yX4_pullOf cX4_pullOf 8 (some .int) 4 [.ref a0, .ref a1, .int v2, .int v3] M (some (.int r1)) M1 := by
  refine zK_of pl_X4 (Nat.le_of_ble_eq_true rfl) ?_
  show zJ T RX4 cX4_pullOf 8 _ 0 0 0 [(0, .ref a0), (1, .ref a1), (2, .int v2), (3, .int v3)] [] M
  rw [f4_pullOf] at h
  refine zg_iconst dX4_pullOf_0 zki_0 ?_
  refine zg_istore (ls' := [(0, .ref a0), (1, .ref a1), (2, .int v2), (3, .int v3), (4, .int (0 : Int32))]) dX4_pullOf_1 (Nat.le_of_ble_eq_true rfl) rfl ?_
  refine zg_iconst dX4_pullOf_3 zki_0 ?_
  refine zg_istore (ls' := [(0, .ref a0), (1, .ref a1), (2, .int v2), (3, .int v3), (4, .int (0 : Int32)), (5, .int (0 : Int32))]) dX4_pullOf_4 (Nat.le_of_ble_eq_true rfl) rfl ?_
  exact g4_pullOf_6 h0 h1 zfuel _ _ _ _ _ h
set_option maxRecDepth 20000 in
set_option maxHeartbeats 4000000 in
theorem g4_goesOf_57 {T : List zN} {a0 : Nat} {a1 : Nat} (h0 : zRu T a0) (h1 : zWv T a1) {r1 : Int32} {M1 : zM} {k17 : Int32 → Int32 → Int32 → Int32 → zM → Option (Int32 × zM)} (hk17 : ∀ (v2 : Int32) (v3 : Int32) (v4 : Int32) (v5 : Int32) (M : zM), k17 v2 v3 v4 v5 M = some (r1, M1) → zJ T RX4 cX4_goesOf 7 (zBm T 5 (some .int) (some (.int r1)) M1) 0 0 17 [(0, .ref a0), (1, .ref a1), (2, .int v2), (3, .int v3), (4, .int v4), (5, .int v5)] [] M) : ∀ (v2 : Int32) (v3 : Int32) (v4 : Int32) (v5 : Int32) (M : zM), f4_goesOf_57 a0 a1 k17 v2 v3 v4 v5 M = some (r1, M1) → zJ T RX4 cX4_goesOf 7 (zBm T 5 (some .int) (some (.int r1)) M1) 0 0 57 [(0, .ref a0), (1, .ref a1), (2, .int v2), (3, .int v3), (4, .int v4), (5, .int v5)] [] M := by
  intro v2 v3 v4 v5 M h
  rw [f4_goesOf_57] at h
  refine zg_iinc (ls' := [(0, .ref a0), (1, .ref a1), (2, .int v2), (3, .int v3), (4, .int v4), (5, .int (v5 + (1 : Int32)))]) 5 dX4_goesOf_57 rfl zki_1 (Nat.le_of_ble_eq_true rfl) rfl ?_
  refine zg_goto (tgt := 17) dX4_goesOf_60 (by decide) ?_
  exact hk17 _ _ _ _ _ h
set_option maxRecDepth 20000 in
set_option maxHeartbeats 4000000 in
theorem g4_goesOf_17 {T : List zN} {a0 : Nat} {a1 : Nat} (h0 : zRu T a0) (h1 : zWv T a1) {r1 : Int32} {M1 : zM} {k63 : Int32 → Int32 → Int32 → zM → Option (Int32 × zM)} (hk63 : ∀ (v2 : Int32) (v3 : Int32) (v4 : Int32) (M : zM), k63 v2 v3 v4 M = some (r1, M1) → zJ T RX4 cX4_goesOf 7 (zBm T 5 (some .int) (some (.int r1)) M1) 0 0 63 [(0, .ref a0), (1, .ref a1), (2, .int v2), (3, .int v3), (4, .int v4)] [] M) : ∀ (n : Nat) (v2 : Int32) (v3 : Int32) (v4 : Int32) (v5 : Int32) (M : zM), f4_goesOf_17 a0 a1 k63 n v2 v3 v4 v5 M = some (r1, M1) → zJ T RX4 cX4_goesOf 7 (zBm T 5 (some .int) (some (.int r1)) M1) 0 0 17 [(0, .ref a0), (1, .ref a1), (2, .int v2), (3, .int v3), (4, .int v4), (5, .int v5)] [] M := by
  intro n
  induction n with
  | zero => intro v2 v3 v4 v5 M h; cases h
  | succ n ih =>
    intro v2 v3 v4 v5 M h
    rw [f4_goesOf_17] at h
    refine zg_iload 5 dX4_goesOf_17 rfl ?_
    refine zg_aload_n 1 dX4_goesOf_19 rfl rfl ?_
    refine zg_iload 4 dX4_goesOf_20 rfl ?_
    obtain ⟨x1, hx1, h⟩ := z_bind h
    refine zg_callV (st := [.int v5]) (k_X7_sizeOf h1 hx1) zY_X7_sizeOf lv_X4_111 rfl h1.1 rfl (zfit_m (by decide) (by decide)) (Nat.le_of_ble_eq_true rfl) dX4_goesOf_22 rfl ?_
    refine zg_icmp_ge (tgt := 63) dX4_goesOf_25 (by decide) (fun hc => ?_) (fun hc => ?_)
    · replace h := (if_pos hc).symm.trans h
      refine zo_sub (ls' := [(0, .ref a0), (1, .ref a1), (2, .int v2), (3, .int v3), (4, .int v4)]) [0, 1, 2, 3, 4] rfl ?_
      exact hk63 _ _ _ _ h
    · replace h := (if_neg hc).symm.trans h
      refine zg_aload_n 0 dX4_goesOf_28 rfl rfl ?_
      refine zg_aload_n 1 dX4_goesOf_29 rfl rfl ?_
      refine zg_iload 4 dX4_goesOf_30 rfl ?_
      refine zg_iload 5 dX4_goesOf_32 rfl ?_
      obtain ⟨p2, hp2, h⟩ := z_bind h
      refine zg_callV (st := []) (k_X4_pullOf h0 h1 hp2) zY_X4_pullOf lv_X4_120 rfl h0.1 rfl (zfit_m (by decide) (by decide)) (Nat.le_of_ble_eq_true rfl) dX4_goesOf_34 rfl ?_
      refine zg_istore (ls' := [(0, .ref a0), (1, .ref a1), (2, .int v2), (3, .int v3), (4, .int v4), (5, .int v5), (6, .int p2.1)]) dX4_goesOf_37 (Nat.le_of_ble_eq_true rfl) rfl ?_
      refine zg_iload 6 dX4_goesOf_39 rfl ?_
      refine zg_iload_n 2 dX4_goesOf_41 rfl rfl ?_
      refine zg_icmp_le (tgt := 57) dX4_goesOf_42 (by decide) (fun hc => ?_) (fun hc => ?_)
      · replace h := (if_pos hc).symm.trans h
        refine zo_sub (ls' := [(0, .ref a0), (1, .ref a1), (2, .int v2), (3, .int v3), (4, .int v4), (5, .int v5)]) [0, 1, 2, 3, 4, 5] rfl ?_
        exact g4_goesOf_57 h0 h1 (fun u0 u1 u2 u3 u4 h => ih u0 u1 u2 u3 u4 h) _ _ _ _ _ h
      · replace h := (if_neg hc).symm.trans h
        refine zg_iload 6 dX4_goesOf_45 rfl ?_
        refine zg_istore_n (ls' := [(0, .ref a0), (1, .ref a1), (2, .int p2.1), (3, .int v3), (4, .int v4), (5, .int v5), (6, .int p2.1)]) dX4_goesOf_47 rfl (Nat.le_of_ble_eq_true rfl) rfl ?_
        refine zg_bipush dX4_goesOf_48 zkb_6 ?_
        refine zg_iload 4 dX4_goesOf_50 rfl ?_
        refine zg_imul dX4_goesOf_52 ?_
        refine zg_iload 5 dX4_goesOf_53 rfl ?_
        refine zg_iadd dX4_goesOf_55 ?_
        refine zg_istore_n (ls' := [(0, .ref a0), (1, .ref a1), (2, .int p2.1), (3, .int (((6 : Int32) * v4) + v5)), (4, .int v4), (5, .int v5), (6, .int p2.1)]) dX4_goesOf_56 rfl (Nat.le_of_ble_eq_true rfl) rfl ?_
        refine zo_sub (ls' := [(0, .ref a0), (1, .ref a1), (2, .int p2.1), (3, .int (((6 : Int32) * v4) + v5)), (4, .int v4), (5, .int v5)]) [0, 1, 2, 3, 4, 5] rfl ?_
        exact g4_goesOf_57 h0 h1 (fun u0 u1 u2 u3 u4 h => ih u0 u1 u2 u3 u4 h) _ _ _ _ _ h
set_option maxRecDepth 20000 in
set_option maxHeartbeats 4000000 in
theorem g4_goesOf_8 {T : List zN} {a0 : Nat} {a1 : Nat} (h0 : zRu T a0) (h1 : zWv T a1) {r1 : Int32} {M1 : zM} {k63 : Int32 → Int32 → Int32 → zM → Option (Int32 × zM)} (hk63 : ∀ (v2 : Int32) (v3 : Int32) (v4 : Int32) (M : zM), k63 v2 v3 v4 M = some (r1, M1) → zJ T RX4 cX4_goesOf 7 (zBm T 5 (some .int) (some (.int r1)) M1) 0 0 63 [(0, .ref a0), (1, .ref a1), (2, .int v2), (3, .int v3), (4, .int v4)] [] M) : ∀ (n : Nat) (v2 : Int32) (v3 : Int32) (v4 : Int32) (M : zM), f4_goesOf_8 a0 a1 k63 n v2 v3 v4 M = some (r1, M1) → zJ T RX4 cX4_goesOf 7 (zBm T 5 (some .int) (some (.int r1)) M1) 0 0 8 [(0, .ref a0), (1, .ref a1), (2, .int v2), (3, .int v3), (4, .int v4)] [] M := by
  intro n
  induction n with
  | zero => intro v2 v3 v4 M h; cases h
  | succ n ih =>
    intro v2 v3 v4 M h
    rw [f4_goesOf_8] at h
    refine zg_iload 4 dX4_goesOf_8 rfl ?_
    refine zg_iconst dX4_goesOf_10 zki_1 ?_
    refine zg_icmp_gt (tgt := 69) dX4_goesOf_11 (by decide) (fun hc => ?_) (fun hc => ?_)
    · replace h := (if_pos hc).symm.trans h
      refine zg_aload_n 1 dX4_goesOf_69 rfl rfl ?_
      refine zg_iload_n 3 dX4_goesOf_70 rfl rfl ?_
      refine zg_bipush dX4_goesOf_71 zkb_6 ?_
      refine zg_idiv (by decide) dX4_goesOf_73 ?_
      obtain ⟨x1, hx1, h⟩ := z_bind h
      refine zg_callV (st := []) (k_X7_sizeOf h1 hx1) zY_X7_sizeOf lv_X4_111 rfl h1.1 rfl (zfit_m (by decide) (by decide)) (Nat.le_of_ble_eq_true rfl) dX4_goesOf_74 rfl ?_
      refine zg_iconst dX4_goesOf_77 zki_1 ?_
      suffices hj : zJ T RX4 cX4_goesOf 7 (zBm T 5 (some .int) (some (.int r1)) M1) 0 0 87 [(0, .ref a0), (1, .ref a1), (2, .int v2), (3, .int v3), (4, .int v4)] [.int (if x1 ≤ (1 : Int32) then (-2 : Int32) else v3)] M by
        refine zg_icmp_le (tgt := 85) dX4_goesOf_78 (by decide) (fun hc => ?_) (fun hc => ?_)
        · rw [if_pos hc] at hj
          refine zg_bipush dX4_goesOf_85 zkb_m2 ?_
          exact hj
        · rw [if_neg hc] at hj
          refine zg_iload_n 3 dX4_goesOf_81 rfl rfl ?_
          refine zg_goto (tgt := 87) dX4_goesOf_82 (by decide) ?_
          exact hj
      cases h
      exact zg_iret dX4_goesOf_87
    · replace h := (if_neg hc).symm.trans h
      refine zg_iconst dX4_goesOf_14 zki_0 ?_
      refine zg_istore (ls' := [(0, .ref a0), (1, .ref a1), (2, .int v2), (3, .int v3), (4, .int v4), (5, .int (0 : Int32))]) dX4_goesOf_15 (Nat.le_of_ble_eq_true rfl) rfl ?_
      exact g4_goesOf_17 h0 h1 (fun u0 u1 u2 u3 h => g4_goesOf_63 h0 h1 (fun u0 u1 u2 u3 h => ih u0 u1 u2 u3 h) u0 u1 u2 u3 h) zfuel _ _ _ _ _ h
set_option maxRecDepth 20000 in
set_option maxHeartbeats 4000000 in
theorem g4_goesOf_63 {T : List zN} {a0 : Nat} {a1 : Nat} (h0 : zRu T a0) (h1 : zWv T a1) {r1 : Int32} {M1 : zM} {k8 : Int32 → Int32 → Int32 → zM → Option (Int32 × zM)} (hk8 : ∀ (v2 : Int32) (v3 : Int32) (v4 : Int32) (M : zM), k8 v2 v3 v4 M = some (r1, M1) → zJ T RX4 cX4_goesOf 7 (zBm T 5 (some .int) (some (.int r1)) M1) 0 0 8 [(0, .ref a0), (1, .ref a1), (2, .int v2), (3, .int v3), (4, .int v4)] [] M) : ∀ (v2 : Int32) (v3 : Int32) (v4 : Int32) (M : zM), f4_goesOf_63 a0 a1 k8 v2 v3 v4 M = some (r1, M1) → zJ T RX4 cX4_goesOf 7 (zBm T 5 (some .int) (some (.int r1)) M1) 0 0 63 [(0, .ref a0), (1, .ref a1), (2, .int v2), (3, .int v3), (4, .int v4)] [] M := by
  intro v2 v3 v4 M h
  rw [f4_goesOf_63] at h
  refine zg_iinc (ls' := [(0, .ref a0), (1, .ref a1), (2, .int v2), (3, .int v3), (4, .int (v4 + (1 : Int32)))]) 4 dX4_goesOf_63 rfl zki_1 (Nat.le_of_ble_eq_true rfl) rfl ?_
  refine zg_goto (tgt := 8) dX4_goesOf_66 (by decide) ?_
  exact hk8 _ _ _ _ h
set_option maxRecDepth 20000 in
set_option maxHeartbeats 4000000 in
theorem k_X4_goesOf {T : List zN} {a0 : Nat} {a1 : Nat} (h0 : zRu T a0) (h1 : zWv T a1) {M : zM} {r1 : Int32} {M1 : zM} (h : f4_goesOf a0 a1 M = some (r1, M1)) : zK T yX4_goesOf cX4_goesOf 7 (some .int) 5 [.ref a0, .ref a1] M (some (.int r1)) M1 := by
  refine zK_of pl_X4 (Nat.le_of_ble_eq_true rfl) ?_
  show zJ T RX4 cX4_goesOf 7 _ 0 0 0 [(0, .ref a0), (1, .ref a1)] [] M
  rw [f4_goesOf] at h
  refine zg_bipush dX4_goesOf_0 zkb_m100 ?_
  refine zg_istore_n (ls' := [(0, .ref a0), (1, .ref a1), (2, .int (-100 : Int32))]) dX4_goesOf_2 rfl (Nat.le_of_ble_eq_true rfl) rfl ?_
  refine zg_iconst dX4_goesOf_3 zki_0 ?_
  refine zg_istore_n (ls' := [(0, .ref a0), (1, .ref a1), (2, .int (-100 : Int32)), (3, .int (0 : Int32))]) dX4_goesOf_4 rfl (Nat.le_of_ble_eq_true rfl) rfl ?_
  refine zg_iconst dX4_goesOf_5 zki_0 ?_
  refine zg_istore (ls' := [(0, .ref a0), (1, .ref a1), (2, .int (-100 : Int32)), (3, .int (0 : Int32)), (4, .int (0 : Int32))]) dX4_goesOf_6 (Nat.le_of_ble_eq_true rfl) rfl ?_
  exact g4_goesOf_8 h0 h1 hk63 zfuel _ _ _ _ h
