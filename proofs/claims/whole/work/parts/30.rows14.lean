set_option maxRecDepth 20000 in
set_option maxHeartbeats 4000000 in
theorem g8_law_57 {r1 : Int32} {Mr : zM} : ∀ (n : Nat) (v2 : Int32) (v3 : Int32) (M : zM), f8_law_57 n v2 v3 M = some (r1, Mr) → zJ ztops RX8 cX8_law 6 (zBm ztops 6 (some .int) (some (.int r1)) Mr) 0 0 57 [(0, .ref 0), (2, .int v2), (3, .int v3)] [] M := by
  intro n
  induction n with
  | zero => intro v2 v3 M h; cases h
  | succ n ih =>
    intro v2 v3 M h
    rw [f8_law_57] at h
    refine zg_iload_n 2 dX8_law_57 rfl rfl ?_
    refine zg_bipush dX8_law_58 zkb_10 ?_
    refine zg_icmp_ge (tgt := 128) dX8_law_60 (by decide) (fun hc => ?_) (fun hc => ?_)
    · replace h := (if_pos hc).symm.trans h
      refine zg_aload_n 0 dX8_law_128 rfl rfl ?_
      refine zo_getr 9 8 rfl fl_X8_32 zt_0 rfl dX8_law_129 ?_
      refine zg_aload_n 0 dX8_law_132 rfl rfl ?_
      refine zo_getr 3 2 rfl fl_X8_16 zt_0 rfl dX8_law_133 ?_
      obtain ⟨x1, hx1, h⟩ := z_bind h
      refine zg_callV (st := [.ref 9]) (k_X7_threads zW_3 hx1) zY_X7_threads lv_X8_191 rfl zt_3 rfl (zfit_m (by decide) (by decide)) (Nat.le_of_ble_eq_true rfl) dX8_law_136 rfl ?_
      refine zg_i2l dX8_law_139 ?_
      refine zg_aload_n 0 dX8_law_140 rfl rfl ?_
      refine zo_getr 5 4 rfl fl_X8_19 zt_0 rfl dX8_law_141 ?_
      obtain ⟨x2, hx2, h⟩ := z_bind h
      refine zg_callV (st := [.long (Int32.toInt64 x1), .ref 9]) (k_X7_threads zW_5 hx2) zY_X7_threads lv_X8_191 rfl zt_5 rfl (zfit_m (by decide) (by decide)) (Nat.le_of_ble_eq_true rfl) dX8_law_144 rfl ?_
      refine zg_i2l dX8_law_147 ?_
      obtain ⟨M3, hM3, h⟩ := z_bind h
      refine zg_callV (st := []) (k_X3_tell_ hM3) zY_X3_tell_ lv_X8_194 rfl zt_9 rfl (zfit_m (by decide) (by decide)) (Nat.le_of_ble_eq_true rfl) dX8_law_148 rfl ?_
      refine zg_iload_n 1 dX8_law_151 rfl rfl ?_
      obtain ⟨rfl, rfl⟩ := z_ret2 h
      exact zg_iret dX8_law_152
    · replace h := (if_neg hc).symm.trans h
      refine zg_aload_n 0 dX8_law_63 rfl rfl ?_
      refine zo_getr 16 15 rfl fl_X8_43 zt_0 rfl dX8_law_64 ?_
      refine zg_aload_n 0 dX8_law_67 rfl rfl ?_
      refine zo_getr 3 2 rfl fl_X8_16 zt_0 rfl dX8_law_68 ?_
      obtain ⟨p1, hp1, h⟩ := z_bind h
      refine zg_callV (st := []) (k_X4_goesOf zR_16 zW_3 hp1) zY_X4_goesOf lv_X8_203 rfl zt_16 rfl (zfit_m (by decide) (by decide)) (Nat.le_of_ble_eq_true rfl) dX8_law_71 rfl ?_
      refine zg_istore (ls' := [(0, .ref 0), (2, .int v2), (3, .int v3), (4, .int p1.1)]) dX8_law_74 (Nat.le_of_ble_eq_true rfl) rfl ?_
      refine zg_aload_n 0 dX8_law_76 rfl rfl ?_
      refine zo_getr 11 10 rfl fl_X8_39 zt_0 rfl dX8_law_77 ?_
      refine zg_aload_n 0 dX8_law_80 rfl rfl ?_
      refine zo_getr 5 4 rfl fl_X8_19 zt_0 rfl dX8_law_81 ?_
      obtain ⟨p2, hp2, h⟩ := z_bind h
      refine zg_callV (st := []) (k_X4_goesOf zR_11 zW_5 hp2) zY_X4_goesOf lv_X8_203 rfl zt_11 rfl (zfit_m (by decide) (by decide)) (Nat.le_of_ble_eq_true rfl) dX8_law_84 rfl ?_
      refine zg_istore (ls' := [(0, .ref 0), (2, .int v2), (3, .int v3), (4, .int p1.1), (5, .int p2.1)]) dX8_law_87 (Nat.le_of_ble_eq_true rfl) rfl ?_
      refine zg_iload_n 1 dX8_law_89 rfl rfl ?_
      refine zg_iload 3 dX8_law_90 rfl ?_
      refine zg_iload 4 dX8_law_92 rfl ?_
      suffices hj : zJ ztops RX8 cX8_law 6 (zBm ztops 6 (some .int) (some (.int r1)) Mr) 0 0 102 [(0, .ref 0), (2, .int v2), (3, .int v3), (4, .int p1.1), (5, .int p2.1)] [.int (if p1.1 = p2.1 then (0 : Int32) else (1 : Int32)), .int v2] p2.2 by
        refine zg_icmp_ne (tgt := 101) dX8_law_94 (by decide) (fun hc => ?_) (fun hc => ?_)
        · rw [show (if p1.1 = p2.1 then (0 : Int32) else (1 : Int32)) = (1 : Int32) from if_neg hc] at hj
          refine zg_iconst dX8_law_101 zki_1 ?_
          exact hj
        · rw [show (if p1.1 = p2.1 then (0 : Int32) else (1 : Int32)) = (0 : Int32) from if_pos hc] at hj
          refine zg_iconst dX8_law_97 zki_0 ?_
          refine zg_goto (tgt := 102) dX8_law_98 (by decide) ?_
          exact hj
      refine zg_iadd dX8_law_102 ?_
      refine zg_istore_n (ls' := [(0, .ref 0), (2, .int (v2 + (if p1.1 = p2.1 then (0 : Int32) else (1 : Int32)))), (3, .int v3), (4, .int p1.1), (5, .int p2.1)]) dX8_law_103 rfl (Nat.le_of_ble_eq_true rfl) rfl ?_
      refine zg_aload_n 0 dX8_law_104 rfl rfl ?_
      refine zo_getr 3 2 rfl fl_X8_16 zt_0 rfl dX8_law_105 ?_
      refine zg_iload 3 dX8_law_108 rfl ?_
      obtain ⟨M3, hM3, h⟩ := z_bind h
      refine zg_callV (st := []) (k_X7_passNight zW_3 hM3) zY_X7_passNight lv_X8_210 rfl zt_3 rfl (zfit_m (by decide) (by decide)) (Nat.le_of_ble_eq_true rfl) dX8_law_110 rfl ?_
      refine zg_aload_n 0 dX8_law_113 rfl rfl ?_
      refine zo_getr 5 4 rfl fl_X8_19 zt_0 rfl dX8_law_114 ?_
      refine zg_iload 4 dX8_law_117 rfl ?_
      obtain ⟨M4, hM4, h⟩ := z_bind h
      refine zg_callV (st := []) (k_X7_passNight zW_5 hM4) zY_X7_passNight lv_X8_210 rfl zt_5 rfl (zfit_m (by decide) (by decide)) (Nat.le_of_ble_eq_true rfl) dX8_law_119 rfl ?_
      refine zg_iinc (ls' := [(0, .ref 0), (2, .int (v2 + (if p1.1 = p2.1 then (0 : Int32) else (1 : Int32)))), (3, .int (v3 + (1 : Int32))), (4, .int p1.1), (5, .int p2.1)]) 2 dX8_law_122 rfl zki_1 (Nat.le_of_ble_eq_true rfl) rfl ?_
      refine zg_goto (tgt := 57) dX8_law_125 (by decide) ?_
      refine zo_sub (ls' := [(0, .ref 0), (2, .int (v2 + (if p1.1 = p2.1 then (0 : Int32) else (1 : Int32)))), (3, .int (v3 + (1 : Int32)))]) [0, 1, 2] rfl ?_
      exact ih _ _ _ h
set_option maxRecDepth 20000 in
set_option maxHeartbeats 4000000 in
theorem k_X8_law {M : zM} {r1 : Int32} {Mr : zM} (h : f8_law M = some (r1, Mr)) : zK ztops yX8_law cX8_law 6 (some .int) 6 [.ref 0] M (some (.int r1)) Mr := by
  refine zK_of pl_X8 (Nat.le_of_ble_eq_true rfl) ?_
  show zJ ztops RX8 cX8_law 6 _ 0 0 0 [(0, .ref 0)] [] M
  rw [f8_law] at h
  refine zg_aload_n 0 dX8_law_0 rfl rfl ?_
  refine zo_getr 16 15 rfl fl_X8_43 zt_0 rfl dX8_law_1 ?_
  refine zg_aload_n 0 dX8_law_4 rfl rfl ?_
  refine zo_getr 7 6 rfl fl_X8_25 zt_0 rfl dX8_law_5 ?_
  obtain ⟨p1, hp1, h⟩ := z_bind h
  refine zg_callV (st := []) (k_X4_readFrom zR_16 hp1) zY_X4_readFrom lv_X8_103 rfl zt_16 rfl (zfit_m (by decide) (by decide)) (Nat.le_of_ble_eq_true rfl) dX8_law_8 rfl ?_
  refine zg_istore_n (ls' := [(0, .ref 0), (1, .int p1.1)]) dX8_law_11 rfl (Nat.le_of_ble_eq_true rfl) rfl ?_
  refine zg_aload_n 0 dX8_law_12 rfl rfl ?_
  refine zo_getr 7 6 rfl fl_X8_25 zt_0 rfl dX8_law_13 ?_
  refine zg_iconst dX8_law_16 zki_0 ?_
  refine zg_puti fp_X8_83 zt_7 rfl dX8_law_17 ?_
  refine zg_iload_n 1 dX8_law_20 rfl rfl ?_
  refine zg_iconst dX8_law_21 zki_m1 ?_
  refine zg_icmp_eq (tgt := 31) dX8_law_22 (by decide) (fun hc => ?_) (fun hc => ?_)
  · replace h := (if_pos hc).symm.trans h
    refine zg_aload_n 0 dX8_law_31 rfl rfl ?_
    refine zo_getr 3 2 rfl fl_X8_16 zt_0 rfl dX8_law_32 ?_
    refine zg_aload_n 0 dX8_law_35 rfl rfl ?_
    refine zo_getr 1 0 rfl fl_X8_10 zt_0 rfl dX8_law_36 ?_
    obtain ⟨M2, hM2, h⟩ := z_bind h
    refine zg_callV (st := []) (k_X7_become zW_3 zW_1 hM2) zY_X7_become lv_X8_93 rfl zt_3 rfl (zfit_m (by decide) (by decide)) (Nat.le_of_ble_eq_true rfl) dX8_law_39 rfl ?_
    refine zg_aload_n 0 dX8_law_42 rfl rfl ?_
    refine zo_getr 5 4 rfl fl_X8_19 zt_0 rfl dX8_law_43 ?_
    refine zg_aload_n 0 dX8_law_46 rfl rfl ?_
    refine zo_getr 1 0 rfl fl_X8_10 zt_0 rfl dX8_law_47 ?_
    obtain ⟨M3, hM3, h⟩ := z_bind h
    refine zg_callV (st := []) (k_X7_become zW_5 zW_1 hM3) zY_X7_become lv_X8_93 rfl zt_5 rfl (zfit_m (by decide) (by decide)) (Nat.le_of_ble_eq_true rfl) dX8_law_50 rfl ?_
    refine zg_iconst dX8_law_53 zki_0 ?_
    refine zg_istore_n (ls' := [(0, .ref 0), (1, .int p1.1), (2, .int (0 : Int32))]) dX8_law_54 rfl (Nat.le_of_ble_eq_true rfl) rfl ?_
    refine zg_iconst dX8_law_55 zki_0 ?_
    refine zg_istore_n (ls' := [(0, .ref 0), (1, .int p1.1), (2, .int (0 : Int32)), (3, .int (0 : Int32))]) dX8_law_56 rfl (Nat.le_of_ble_eq_true rfl) rfl ?_
    refine zo_sub (ls' := [(0, .ref 0), (2, .int (0 : Int32)), (3, .int (0 : Int32))]) [0, 2, 3] rfl ?_
    exact g8_law_57 zfuel _ _ _ h
  · replace h := (if_neg hc).symm.trans h
    refine zg_sipush dX8_law_25 zks_m10000 ?_
    refine zg_iload_n 1 dX8_law_28 rfl rfl ?_
    refine zg_isub dX8_law_29 ?_
    obtain ⟨rfl, rfl⟩ := z_ret2 h
    exact zg_iret dX8_law_30
set_option maxRecDepth 20000 in
set_option maxHeartbeats 4000000 in
theorem g8_years_121 {r1 : Int32} {Mr : zM} {k31 : Int32 → Int32 → zM → Option (Int32 × zM)} (hk31 : ∀ (v2 : Int32) (v3 : Int32) (M : zM), k31 v2 v3 M = some (r1, Mr) → zJ ztops RX8 cX8_years 7 (zBm ztops 6 (some .int) (some (.int r1)) Mr) 0 0 31 [(0, .ref 0), (2, .int v2), (3, .int v3)] [] M) : ∀ (v2 : Int32) (v3 : Int32) (M : zM), f8_years_121 k31 v2 v3 M = some (r1, Mr) → zJ ztops RX8 cX8_years 7 (zBm ztops 6 (some .int) (some (.int r1)) Mr) 0 0 121 [(0, .ref 0), (2, .int v2), (3, .int v3)] [] M := by
  intro v2 v3 M h
  rw [f8_years_121] at h
  refine zg_iinc (ls' := [(0, .ref 0), (2, .int v2), (3, .int (v3 + (1 : Int32)))]) 2 dX8_years_121 rfl zki_1 (Nat.le_of_ble_eq_true rfl) rfl ?_
  refine zg_goto (tgt := 31) dX8_years_124 (by decide) ?_
  exact hk31 _ _ _ h
set_option maxRecDepth 20000 in
set_option maxHeartbeats 4000000 in
theorem g8_years_31 {r1 : Int32} {Mr : zM} : ∀ (n : Nat) (v2 : Int32) (v3 : Int32) (M : zM), f8_years_31 n v2 v3 M = some (r1, Mr) → zJ ztops RX8 cX8_years 7 (zBm ztops 6 (some .int) (some (.int r1)) Mr) 0 0 31 [(0, .ref 0), (2, .int v2), (3, .int v3)] [] M := by
  intro n
  induction n with
  | zero => intro v2 v3 M h; cases h
  | succ n ih =>
    intro v2 v3 M h
    rw [f8_years_31] at h
    refine zg_iload_n 2 dX8_years_31 rfl rfl ?_
    refine zg_iload_n 1 dX8_years_32 rfl rfl ?_
    refine zg_icmp_ge (tgt := 127) dX8_years_33 (by decide) (fun hc => ?_) (fun hc => ?_)
    · replace h := (if_pos hc).symm.trans h
      refine zg_aload_n 0 dX8_years_127 rfl rfl ?_
      refine zo_getr 9 8 rfl fl_X8_32 zt_0 rfl dX8_years_128 ?_
      refine zg_aload_n 0 dX8_years_131 rfl rfl ?_
      refine zo_getr 3 2 rfl fl_X8_16 zt_0 rfl dX8_years_132 ?_
      obtain ⟨x1, hx1, h⟩ := z_bind h
      refine zg_callV (st := [.ref 9]) (k_X7_overs zW_3 hx1) zY_X7_overs lv_X8_364 rfl zt_3 rfl (zfit_m (by decide) (by decide)) (Nat.le_of_ble_eq_true rfl) dX8_years_135 rfl ?_
      refine zg_i2l dX8_years_138 ?_
      refine zg_aload_n 0 dX8_years_139 rfl rfl ?_
      refine zo_getr 21 20 rfl fl_X8_49 zt_0 rfl dX8_years_140 ?_
      refine zg_aload_n 0 dX8_years_143 rfl rfl ?_
      refine zo_getr 3 2 rfl fl_X8_16 zt_0 rfl dX8_years_144 ?_
      obtain ⟨p2, hp2, h⟩ := z_bind h
      refine zg_callV (st := [.long (Int32.toInt64 x1), .ref 9]) (k_X0_isTogether zW_3 hp2) zY_X0_isTogether lv_X8_218 rfl zt_21 rfl (zfit_m (by decide) (by decide)) (Nat.le_of_ble_eq_true rfl) dX8_years_147 rfl ?_
      suffices hj : zJ ztops RX8 cX8_years 7 (zBm ztops 6 (some .int) (some (.int r1)) Mr) 0 0 158 [(0, .ref 0), (2, .int v2), (3, .int v3)] [.long (if p2.1 = 0 then (0 : Int64) else (1 : Int64)), .long (Int32.toInt64 x1), .ref 9] p2.2 by
        refine zg_if_eq (tgt := 157) dX8_years_150 (by decide) (fun hc => ?_) (fun hc => ?_)
        · rw [show (if p2.1 = 0 then (0 : Int64) else (1 : Int64)) = (0 : Int64) from if_pos hc] at hj
          refine zg_lconst dX8_years_157 (v := 0) rfl ?_
          exact hj
        · rw [show (if p2.1 = 0 then (0 : Int64) else (1 : Int64)) = (1 : Int64) from if_neg hc] at hj
          refine zg_lconst dX8_years_153 (v := 1) rfl ?_
          refine zg_goto (tgt := 158) dX8_years_154 (by decide) ?_
          exact hj
      obtain ⟨M3, hM3, h⟩ := z_bind h
      refine zg_callV (st := []) (k_X3_tell_ hM3) zY_X3_tell_ lv_X8_194 rfl zt_9 rfl (zfit_m (by decide) (by decide)) (Nat.le_of_ble_eq_true rfl) dX8_years_158 rfl ?_
      refine zg_aload_n 0 dX8_years_161 rfl rfl ?_
      refine zo_getr 3 2 rfl fl_X8_16 zt_0 rfl dX8_years_162 ?_
      obtain ⟨x4, hx4, h⟩ := z_bind h
      refine zg_callV (st := []) (k_X7_threads zW_3 hx4) zY_X7_threads lv_X8_191 rfl zt_3 rfl (zfit_m (by decide) (by decide)) (Nat.le_of_ble_eq_true rfl) dX8_years_165 rfl ?_
      obtain ⟨rfl, rfl⟩ := z_ret2 h
      exact zg_iret dX8_years_168
    · replace h := (if_neg hc).symm.trans h
      refine zg_aload_n 0 dX8_years_36 rfl rfl ?_
      refine zg_iconst dX8_years_37 zki_4 ?_
      obtain ⟨p1, hp1, h⟩ := z_bind h
      refine zg_callV (st := []) (k_X8_drawnBelow hp1) zY_X8_drawnBelow lv_X8_358 rfl zt_0 rfl (zfit_m (by decide) (by decide)) (Nat.le_of_ble_eq_true rfl) dX8_years_38 rfl ?_
      refine zg_istore (ls' := [(0, .ref 0), (2, .int v2), (3, .int v3), (4, .int p1.1)]) dX8_years_41 (Nat.le_of_ble_eq_true rfl) rfl ?_
      refine zg_iload 3 dX8_years_43 rfl ?_
      refine zg_iconst dX8_years_45 zki_2 ?_
      refine zg_icmp_ge (tgt := 70) dX8_years_46 (by decide) (fun hc => ?_) (fun hc => ?_)
      · replace h := (if_pos hc).symm.trans h
        refine zg_iload 3 dX8_years_70 rfl ?_
        refine zg_iconst dX8_years_72 zki_2 ?_
        refine zg_icmp_ne (tgt := 117) dX8_years_73 (by decide) (fun hc => ?_) (fun hc => ?_)
        · replace h := (if_neg hc).symm.trans h
          refine zg_aload_n 0 dX8_years_117 rfl rfl ?_
          obtain ⟨M2, hM2, h⟩ := z_bind h
          refine zg_callV (st := []) (k_X8_weaveDrawn hM2) zY_X8_weaveDrawn lv_X8_361 rfl zt_0 rfl (zfit_m (by decide) (by decide)) (Nat.le_of_ble_eq_true rfl) dX8_years_118 rfl ?_
          refine zo_sub (ls' := [(0, .ref 0), (2, .int v2), (3, .int v3)]) [0, 1, 2] rfl ?_
          exact g8_years_121 (fun u0 u1 u2 h => ih u0 u1 u2 h) _ _ _ h
        · replace h := (if_pos hc).symm.trans h
          refine zg_aload_n 0 dX8_years_76 rfl rfl ?_
          refine zg_aload_n 0 dX8_years_77 rfl rfl ?_
          refine zo_getr 3 2 rfl fl_X8_16 zt_0 rfl dX8_years_78 ?_
          refine zg_geti fl_X8_100 zt_3 rfl dX8_years_81 ?_
          obtain ⟨p2, hp2, h⟩ := z_bind h
          refine zg_callV (st := []) (k_X8_drawnBelow hp2) zY_X8_drawnBelow lv_X8_358 rfl zt_0 rfl (zfit_m (by decide) (by decide)) (Nat.le_of_ble_eq_true rfl) dX8_years_84 rfl ?_
          refine zg_istore (ls' := [(0, .ref 0), (2, .int v2), (3, .int v3), (4, .int p1.1), (5, .int p2.1)]) dX8_years_87 (Nat.le_of_ble_eq_true rfl) rfl ?_
          refine zg_aload_n 0 dX8_years_89 rfl rfl ?_
          refine zg_aload_n 0 dX8_years_90 rfl rfl ?_
          refine zo_getr 3 2 rfl fl_X8_16 zt_0 rfl dX8_years_91 ?_
          refine zg_geti fl_X8_213 zt_3 rfl dX8_years_94 ?_
          obtain ⟨p3, hp3, h⟩ := z_bind h
          refine zg_callV (st := []) (k_X8_drawnBelow hp3) zY_X8_drawnBelow lv_X8_358 rfl zt_0 rfl (zfit_m (by decide) (by decide)) (Nat.le_of_ble_eq_true rfl) dX8_years_97 rfl ?_
          refine zg_istore (ls' := [(0, .ref 0), (2, .int v2), (3, .int v3), (4, .int p1.1), (5, .int p2.1), (6, .int p3.1)]) dX8_years_100 (Nat.le_of_ble_eq_true rfl) rfl ?_
          refine zg_aload_n 0 dX8_years_102 rfl rfl ?_
          refine zo_getr 3 2 rfl fl_X8_16 zt_0 rfl dX8_years_103 ?_
          refine zg_iload 4 dX8_years_106 rfl ?_
          refine zg_iload 5 dX8_years_108 rfl ?_
          obtain ⟨p4, hp4, h⟩ := z_bind h
          refine zg_callV (st := []) (k_X7_turnCell zW_3 hp4) zY_X7_turnCell lv_X8_166 rfl zt_3 rfl (zfit_m (by decide) (by decide)) (Nat.le_of_ble_eq_true rfl) dX8_years_110 rfl ?_
          refine zg_pop dX8_years_113 rfl ?_
          refine zg_goto (tgt := 121) dX8_years_114 (by decide) ?_
          refine zo_sub (ls' := [(0, .ref 0), (2, .int v2), (3, .int v3)]) [0, 1, 2] rfl ?_
          exact g8_years_121 (fun u0 u1 u2 h => ih u0 u1 u2 h) _ _ _ h
      · replace h := (if_neg hc).symm.trans h
        refine zg_aload_n 0 dX8_years_49 rfl rfl ?_
        refine zo_getr 3 2 rfl fl_X8_16 zt_0 rfl dX8_years_50 ?_
        refine zg_aload_n 0 dX8_years_53 rfl rfl ?_
        refine zo_getr 11 10 rfl fl_X8_39 zt_0 rfl dX8_years_54 ?_
        refine zg_aload_n 0 dX8_years_57 rfl rfl ?_
        refine zo_getr 3 2 rfl fl_X8_16 zt_0 rfl dX8_years_58 ?_
        obtain ⟨p2, hp2, h⟩ := z_bind h
        refine zg_callV (st := [.ref 3]) (k_X4_goesOf zR_11 zW_3 hp2) zY_X4_goesOf lv_X8_203 rfl zt_11 rfl (zfit_m (by decide) (by decide)) (Nat.le_of_ble_eq_true rfl) dX8_years_61 rfl ?_
        obtain ⟨M3, hM3, h⟩ := z_bind h
        refine zg_callV (st := []) (k_X7_passNight zW_3 hM3) zY_X7_passNight lv_X8_210 rfl zt_3 rfl (zfit_m (by decide) (by decide)) (Nat.le_of_ble_eq_true rfl) dX8_years_64 rfl ?_
        refine zg_goto (tgt := 121) dX8_years_67 (by decide) ?_
        refine zo_sub (ls' := [(0, .ref 0), (2, .int v2), (3, .int v3)]) [0, 1, 2] rfl ?_
        exact g8_years_121 (fun u0 u1 u2 h => ih u0 u1 u2 h) _ _ _ h
set_option maxRecDepth 20000 in
set_option maxHeartbeats 4000000 in
theorem k_X8_years {v1 : Int32} {v2 : Int32} {M : zM} {r1 : Int32} {Mr : zM} (h : f8_years v1 v2 M = some (r1, Mr)) : zK ztops yX8_years cX8_years 7 (some .int) 6 [.ref 0, .int v1, .int v2] M (some (.int r1)) Mr := by
  refine zK_of pl_X8 (Nat.le_of_ble_eq_true rfl) ?_
  show zJ ztops RX8 cX8_years 7 _ 0 0 0 [(0, .ref 0), (1, .int v1), (2, .int v2)] [] M
  rw [f8_years] at h
  refine zg_iload_n 2 dX8_years_0 rfl rfl ?_
  refine zg_iconst dX8_years_1 zki_1 ?_
  refine zg_icmp_lt (tgt := 11) dX8_years_2 (by decide) (fun hc => ?_) (fun hc => ?_)
  · replace h := (if_pos hc).symm.trans h
    refine zg_iconst dX8_years_11 zki_m1 ?_
    obtain ⟨rfl, rfl⟩ := z_ret2 h
    exact zg_iret dX8_years_12
  · replace h := (if_neg hc).symm.trans h
    refine zg_iload_n 2 dX8_years_5 rfl rfl ?_
    refine zg_bipush dX8_years_6 zkb_60 ?_
    refine zg_icmp_le (tgt := 13) dX8_years_8 (by decide) (fun hc => ?_) (fun hc => ?_)
    · replace h := (if_pos hc).symm.trans h
      refine zg_aload_n 0 dX8_years_13 rfl rfl ?_
      refine zg_iload_n 1 dX8_years_14 rfl rfl ?_
      refine zg_puti fp_X8_79 zt_0 rfl dX8_years_15 ?_
      refine zg_aload_n 0 dX8_years_18 rfl rfl ?_
      refine zo_getr 3 2 rfl fl_X8_16 zt_0 rfl dX8_years_19 ?_
      refine zg_aload_n 0 dX8_years_22 rfl rfl ?_
      refine zo_getr 1 0 rfl fl_X8_10 zt_0 rfl dX8_years_23 ?_
      obtain ⟨M1, hM1, h⟩ := z_bind h
      refine zg_callV (st := []) (k_X7_become zW_3 zW_1 hM1) zY_X7_become lv_X8_93 rfl zt_3 rfl (zfit_m (by decide) (by decide)) (Nat.le_of_ble_eq_true rfl) dX8_years_26 rfl ?_
      refine zg_iconst dX8_years_29 zki_0 ?_
      refine zg_istore_n (ls' := [(0, .ref 0), (1, .int v1), (2, .int v2), (3, .int (0 : Int32))]) dX8_years_30 rfl (Nat.le_of_ble_eq_true rfl) rfl ?_
      refine zo_sub (ls' := [(0, .ref 0), (2, .int v2), (3, .int (0 : Int32))]) [0, 2, 3] rfl ?_
      exact g8_years_31 zfuel _ _ _ h
    · replace h := (if_neg hc).symm.trans h
      refine zg_iconst dX8_years_11 zki_m1 ?_
      obtain ⟨rfl, rfl⟩ := z_ret2 h
      exact zg_iret dX8_years_12
set_option maxRecDepth 20000 in
set_option maxHeartbeats 4000000 in
theorem g8_passNights_19 {r1 : Int32} {Mr : zM} : ∀ (n : Nat) (v1 : Int32) (v2 : Int32) (v3 : Int32) (v4 : Int32) (M : zM), f8_passNights_19 n v1 v2 v3 v4 M = some (r1, Mr) → zJ ztops RX8 cX8_passNights 5 (zBm ztops 6 (some .int) (some (.int r1)) Mr) 0 0 19 [(0, .ref 0), (1, .int v1), (2, .int v2), (3, .int v3), (4, .int v4)] [] M := by
  intro n
  induction n with
  | zero => intro v1 v2 v3 v4 M h; cases h
  | succ n ih =>
    intro v1 v2 v3 v4 M h
    rw [f8_passNights_19] at h
    refine zg_iload 4 dX8_passNights_19 rfl ?_
    refine zg_iload_n 1 dX8_passNights_21 rfl rfl ?_
    refine zg_icmp_ge (tgt := 49) dX8_passNights_22 (by decide) (fun hc => ?_) (fun hc => ?_)
    · replace h := (if_pos hc).symm.trans h
      refine zg_aload_n 0 dX8_passNights_49 rfl rfl ?_
      refine zo_getr 9 8 rfl fl_X8_32 zt_0 rfl dX8_passNights_50 ?_
      refine zg_iload_n 2 dX8_passNights_53 rfl rfl ?_
      refine zg_aload_n 0 dX8_passNights_54 rfl rfl ?_
      refine zo_getr 1 0 rfl fl_X8_10 zt_0 rfl dX8_passNights_55 ?_
      refine zg_geti fl_X8_100 zt_1 rfl dX8_passNights_58 ?_
      refine zg_isub dX8_passNights_61 ?_
      refine zg_i2l dX8_passNights_62 ?_
      refine zg_iload_n 3 dX8_passNights_63 rfl rfl ?_
      refine zg_aload_n 0 dX8_passNights_64 rfl rfl ?_
      refine zo_getr 1 0 rfl fl_X8_10 zt_0 rfl dX8_passNights_65 ?_
      refine zg_geti fl_X8_213 zt_1 rfl dX8_passNights_68 ?_
      refine zg_isub dX8_passNights_71 ?_
      refine zg_i2l dX8_passNights_72 ?_
      obtain ⟨M1, hM1, h⟩ := z_bind h
      refine zg_callV (st := []) (k_X3_tell_ hM1) zY_X3_tell_ lv_X8_194 rfl zt_9 rfl (zfit_m (by decide) (by decide)) (Nat.le_of_ble_eq_true rfl) dX8_passNights_73 rfl ?_
      refine zg_aload_n 0 dX8_passNights_76 rfl rfl ?_
      refine zo_getr 1 0 rfl fl_X8_10 zt_0 rfl dX8_passNights_77 ?_
      obtain ⟨x2, hx2, h⟩ := z_bind h
      refine zg_callV (st := []) (k_X7_threads zW_1 hx2) zY_X7_threads lv_X8_191 rfl zt_1 rfl (zfit_m (by decide) (by decide)) (Nat.le_of_ble_eq_true rfl) dX8_passNights_80 rfl ?_
      obtain ⟨rfl, rfl⟩ := z_ret2 h
      exact zg_iret dX8_passNights_83
    · replace h := (if_neg hc).symm.trans h
      refine zg_aload_n 0 dX8_passNights_25 rfl rfl ?_
      refine zo_getr 1 0 rfl fl_X8_10 zt_0 rfl dX8_passNights_26 ?_
      refine zg_aload_n 0 dX8_passNights_29 rfl rfl ?_
      refine zo_getr 11 10 rfl fl_X8_39 zt_0 rfl dX8_passNights_30 ?_
      refine zg_aload_n 0 dX8_passNights_33 rfl rfl ?_
      refine zo_getr 1 0 rfl fl_X8_10 zt_0 rfl dX8_passNights_34 ?_
      obtain ⟨p1, hp1, h⟩ := z_bind h
      refine zg_callV (st := [.ref 1]) (k_X4_goesOf zR_11 zW_1 hp1) zY_X4_goesOf lv_X8_203 rfl zt_11 rfl (zfit_m (by decide) (by decide)) (Nat.le_of_ble_eq_true rfl) dX8_passNights_37 rfl ?_
      obtain ⟨M2, hM2, h⟩ := z_bind h
      refine zg_callV (st := []) (k_X7_passNight zW_1 hM2) zY_X7_passNight lv_X8_210 rfl zt_1 rfl (zfit_m (by decide) (by decide)) (Nat.le_of_ble_eq_true rfl) dX8_passNights_40 rfl ?_
      refine zg_iinc (ls' := [(0, .ref 0), (1, .int v1), (2, .int v2), (3, .int v3), (4, .int (v4 + (1 : Int32)))]) 4 dX8_passNights_43 rfl zki_1 (Nat.le_of_ble_eq_true rfl) rfl ?_
      refine zg_goto (tgt := 19) dX8_passNights_46 (by decide) ?_
      exact ih _ _ _ _ _ h
set_option maxRecDepth 20000 in
set_option maxHeartbeats 4000000 in
theorem k_X8_passNights {v1 : Int32} {M : zM} {r1 : Int32} {Mr : zM} (h : f8_passNights v1 M = some (r1, Mr)) : zK ztops yX8_passNights cX8_passNights 5 (some .int) 6 [.ref 0, .int v1] M (some (.int r1)) Mr := by
  refine zK_of pl_X8 (Nat.le_of_ble_eq_true rfl) ?_
  show zJ ztops RX8 cX8_passNights 5 _ 0 0 0 [(0, .ref 0), (1, .int v1)] [] M
  rw [f8_passNights] at h
  refine zg_aload_n 0 dX8_passNights_0 rfl rfl ?_
  refine zo_getr 1 0 rfl fl_X8_10 zt_0 rfl dX8_passNights_1 ?_
  refine zg_geti fl_X8_100 zt_1 rfl dX8_passNights_4 ?_
  refine zg_istore_n (ls' := [(0, .ref 0), (1, .int v1), (2, .int (M.1 1 0))]) dX8_passNights_7 rfl (Nat.le_of_ble_eq_true rfl) rfl ?_
  refine zg_aload_n 0 dX8_passNights_8 rfl rfl ?_
  refine zo_getr 1 0 rfl fl_X8_10 zt_0 rfl dX8_passNights_9 ?_
  refine zg_geti fl_X8_213 zt_1 rfl dX8_passNights_12 ?_
  refine zg_istore_n (ls' := [(0, .ref 0), (1, .int v1), (2, .int (M.1 1 0)), (3, .int (M.1 1 1))]) dX8_passNights_15 rfl (Nat.le_of_ble_eq_true rfl) rfl ?_
  refine zg_iconst dX8_passNights_16 zki_0 ?_
  refine zg_istore (ls' := [(0, .ref 0), (1, .int v1), (2, .int (M.1 1 0)), (3, .int (M.1 1 1)), (4, .int (0 : Int32))]) dX8_passNights_17 (Nat.le_of_ble_eq_true rfl) rfl ?_
  exact g8_passNights_19 zfuel _ _ _ _ _ h
set_option maxRecDepth 20000 in
set_option maxHeartbeats 4000000 in
theorem k_X8_actAt {v1 : Int32} {M : zM} {r1 : Int32} {Mr : zM} (h : f8_actAt v1 M = some (r1, Mr)) : zK ztops yX8_actAt cX8_actAt 4 (some .int) 7 [.ref 0, .int v1] M (some (.int r1)) Mr := by
  refine zK_of pl_X8 (Nat.le_of_ble_eq_true rfl) ?_
  show zJ ztops RX8 cX8_actAt 4 _ 0 0 0 [(0, .ref 0), (1, .int v1)] [] M
  rw [f8_actAt] at h
  refine zg_aload_n 0 dX8_actAt_0 rfl rfl ?_
  refine zo_getr 7 6 rfl fl_X8_25 zt_0 rfl dX8_actAt_1 ?_
  refine zg_iload_n 1 dX8_actAt_4 rfl rfl ?_
  refine zg_iconst dX8_actAt_5 zki_1 ?_
  refine zg_iadd dX8_actAt_6 ?_
  obtain ⟨x1, hx1, h⟩ := z_bind h
  refine zg_callV (st := []) (k_X6_digit hx1) zY_X6_digit lv_X8_401 rfl zt_7 rfl (zfit_m (by decide) (by decide)) (Nat.le_of_ble_eq_true rfl) dX8_actAt_7 rfl ?_
  refine zg_istore_n (ls' := [(0, .ref 0), (1, .int v1), (2, .int x1)]) dX8_actAt_10 rfl (Nat.le_of_ble_eq_true rfl) rfl ?_
  refine zg_aload_n 0 dX8_actAt_11 rfl rfl ?_
  refine zo_getr 7 6 rfl fl_X8_25 zt_0 rfl dX8_actAt_12 ?_
  refine zg_iload_n 1 dX8_actAt_15 rfl rfl ?_
  refine zg_iconst dX8_actAt_16 zki_2 ?_
  refine zg_iadd dX8_actAt_17 ?_
  obtain ⟨x2, hx2, h⟩ := z_bind h
  refine zg_callV (st := []) (k_X6_digit hx2) zY_X6_digit lv_X8_401 rfl zt_7 rfl (zfit_m (by decide) (by decide)) (Nat.le_of_ble_eq_true rfl) dX8_actAt_18 rfl ?_
  refine zg_istore_n (ls' := [(0, .ref 0), (1, .int v1), (2, .int x1), (3, .int x2)]) dX8_actAt_21 rfl (Nat.le_of_ble_eq_true rfl) rfl ?_
  refine zg_aload_n 0 dX8_actAt_22 rfl rfl ?_
  refine zo_getr 7 6 rfl fl_X8_25 zt_0 rfl dX8_actAt_23 ?_
  refine zg_iload_n 1 dX8_actAt_26 rfl rfl ?_
  obtain ⟨x3, hx3, h⟩ := z_bind h
  refine zg_callV (st := []) (k_X6_at hx3) zY_X6_at lv_X8_179 rfl zt_7 rfl (zfit_m (by decide) (by decide)) (Nat.le_of_ble_eq_true rfl) dX8_actAt_27 rfl ?_
  by_cases hc1 : x3 = (100 : Int32)
  · replace h := (if_pos hc1).symm.trans h
    refine zg_lookEq (k := 100) (off := 82) (tgt := 112) dX8_actAt_30 (by decide) hc1 (by decide) (by decide) ?_
    refine zg_aload_n 0 dX8_actAt_112 rfl rfl ?_
    refine zo_getr 1 0 rfl fl_X8_10 zt_0 rfl dX8_actAt_113 ?_
    refine zg_iload_n 2 dX8_actAt_116 rfl rfl ?_
    refine zg_iload_n 3 dX8_actAt_117 rfl rfl ?_
    obtain ⟨p4, hp4, h⟩ := z_bind h
    refine zg_callV (st := []) (k_X7_drawOut zW_1 hp4) zY_X7_drawOut lv_X8_163 rfl zt_1 rfl (zfit_m (by decide) (by decide)) (Nat.le_of_ble_eq_true rfl) dX8_actAt_118 rfl ?_
    obtain ⟨rfl, rfl⟩ := z_ret2 h
    exact zg_iret dX8_actAt_121
  replace h := (if_neg hc1).symm.trans h
  by_cases hc2 : x3 = (110 : Int32)
  · replace h := (if_pos hc2).symm.trans h
    refine zg_lookEq (k := 110) (off := 42) (tgt := 72) dX8_actAt_30 (by decide) hc2 (by decide) (by decide) ?_
    refine zg_aload_n 0 dX8_actAt_72 rfl rfl ?_
    refine zg_iload_n 2 dX8_actAt_73 rfl rfl ?_
    obtain ⟨p4, hp4, h⟩ := z_bind h
    refine zg_callV (st := []) (k_X8_passNights hp4) zY_X8_passNights lv_X8_152 rfl zt_0 rfl (zfit_m (by decide) (by decide)) (Nat.le_of_ble_eq_true rfl) dX8_actAt_74 rfl ?_
    obtain ⟨rfl, rfl⟩ := z_ret2 h
    exact zg_iret dX8_actAt_77
  replace h := (if_neg hc2).symm.trans h
  by_cases hc3 : x3 = (116 : Int32)
  · replace h := (if_pos hc3).symm.trans h
    refine zg_lookEq (k := 116) (off := 92) (tgt := 122) dX8_actAt_30 (by decide) hc3 (by decide) (by decide) ?_
    refine zg_aload_n 0 dX8_actAt_122 rfl rfl ?_
    refine zo_getr 1 0 rfl fl_X8_10 zt_0 rfl dX8_actAt_123 ?_
    refine zg_iload_n 2 dX8_actAt_126 rfl rfl ?_
    refine zg_iload_n 3 dX8_actAt_127 rfl rfl ?_
    obtain ⟨p4, hp4, h⟩ := z_bind h
    refine zg_callV (st := []) (k_X7_turnCell zW_1 hp4) zY_X7_turnCell lv_X8_166 rfl zt_1 rfl (zfit_m (by decide) (by decide)) (Nat.le_of_ble_eq_true rfl) dX8_actAt_128 rfl ?_
    obtain ⟨rfl, rfl⟩ := z_ret2 h
    exact zg_iret dX8_actAt_131
  replace h := (if_neg hc3).symm.trans h
  by_cases hc4 : x3 = (119 : Int32)
  · replace h := (if_pos hc4).symm.trans h
    refine zg_lookEq (k := 119) (off := 48) (tgt := 78) dX8_actAt_30 (by decide) hc4 (by decide) (by decide) ?_
    refine zg_aload_n 0 dX8_actAt_78 rfl rfl ?_
    refine zo_getr 1 0 rfl fl_X8_10 zt_0 rfl dX8_actAt_79 ?_
    refine zg_iload_n 2 dX8_actAt_82 rfl rfl ?_
    refine zg_iload_n 3 dX8_actAt_83 rfl rfl ?_
    refine zg_bipush dX8_actAt_84 zkb_10 ?_
    refine zg_aload_n 0 dX8_actAt_86 rfl rfl ?_
    refine zo_getr 7 6 rfl fl_X8_25 zt_0 rfl dX8_actAt_87 ?_
    refine zg_iload_n 1 dX8_actAt_90 rfl rfl ?_
    refine zg_iconst dX8_actAt_91 zki_3 ?_
    refine zg_iadd dX8_actAt_92 ?_
    obtain ⟨x4, hx4, h⟩ := z_bind h
    refine zg_callV (st := [.int (10 : Int32), .int x2, .int x1, .ref 1]) (k_X6_digit hx4) zY_X6_digit lv_X8_401 rfl zt_7 rfl (zfit_m (by decide) (by decide)) (Nat.le_of_ble_eq_true rfl) dX8_actAt_93 rfl ?_
    refine zg_imul dX8_actAt_96 ?_
    refine zg_aload_n 0 dX8_actAt_97 rfl rfl ?_
    refine zo_getr 7 6 rfl fl_X8_25 zt_0 rfl dX8_actAt_98 ?_
    refine zg_iload_n 1 dX8_actAt_101 rfl rfl ?_
    refine zg_iconst dX8_actAt_102 zki_4 ?_
    refine zg_iadd dX8_actAt_103 ?_
    obtain ⟨x5, hx5, h⟩ := z_bind h
    refine zg_callV (st := [.int ((10 : Int32) * x4), .int x2, .int x1, .ref 1]) (k_X6_digit hx5) zY_X6_digit lv_X8_401 rfl zt_7 rfl (zfit_m (by decide) (by decide)) (Nat.le_of_ble_eq_true rfl) dX8_actAt_104 rfl ?_
    refine zg_iadd dX8_actAt_107 ?_
    obtain ⟨p6, hp6, h⟩ := z_bind h
    refine zg_callV (st := []) (k_X7_weaveIn zW_1 hp6) zY_X7_weaveIn lv_X8_156 rfl zt_1 rfl (zfit_m (by decide) (by decide)) (Nat.le_of_ble_eq_true rfl) dX8_actAt_108 rfl ?_
    obtain ⟨rfl, rfl⟩ := z_ret2 h
    exact zg_iret dX8_actAt_111
  replace h := (if_neg hc4).symm.trans h
  refine zg_lookup (off := 102) (tgt := 132) dX8_actAt_30 (by decide) ((lv_osw hc1 (by decide)).trans ((lv_osw hc2 (by decide)).trans ((lv_osw hc3 (by decide)).trans ((lv_osw hc4 (by decide)).trans (rfl))))) (by decide) ?_
  refine zg_aload_n 0 dX8_actAt_132 rfl rfl ?_
  refine zo_getr 1 0 rfl fl_X8_10 zt_0 rfl dX8_actAt_133 ?_
  refine zg_iload_n 2 dX8_actAt_136 rfl rfl ?_
  obtain ⟨p4, hp4, h⟩ := z_bind h
  refine zg_callV (st := []) (k_X7_turnRound zW_1 hp4) zY_X7_turnRound lv_X8_169 rfl zt_1 rfl (zfit_m (by decide) (by decide)) (Nat.le_of_ble_eq_true rfl) dX8_actAt_137 rfl ?_
  obtain ⟨rfl, rfl⟩ := z_ret2 h
  exact zg_iret dX8_actAt_140
set_option maxRecDepth 20000 in
set_option maxHeartbeats 4000000 in
theorem g8_staysApart_51 {r1 : Int32} {M : zM} {k17 : Int32 → Int32 → Int32 → zM → Option Int32} (hk17 : ∀ (v1 : Int32) (v2 : Int32) (v3 : Int32), k17 v1 v2 v3 M = some r1 → zJ ztops RX8 cX8_staysApart 4 (zBm ztops 3 (some .boolean) (some (.int r1)) M) 0 0 17 [(0, .ref 0), (1, .int v1), (2, .int v2), (3, .int v3)] [] M) : ∀ (v1 : Int32) (v2 : Int32) (v3 : Int32), f8_staysApart_51 k17 v1 v2 v3 M = some r1 → zJ ztops RX8 cX8_staysApart 4 (zBm ztops 3 (some .boolean) (some (.int r1)) M) 0 0 51 [(0, .ref 0), (1, .int v1), (2, .int v2), (3, .int v3)] [] M := by
  intro v1 v2 v3 h
  rw [f8_staysApart_51] at h
  refine zg_iinc (ls' := [(0, .ref 0), (1, .int v1), (2, .int v2), (3, .int (v3 + (1 : Int32)))]) 3 dX8_staysApart_51 rfl zki_1 (Nat.le_of_ble_eq_true rfl) rfl ?_
  refine zg_goto (tgt := 17) dX8_staysApart_54 (by decide) ?_
  exact hk17 _ _ _ h
set_option maxRecDepth 20000 in
set_option maxHeartbeats 4000000 in
theorem g8_staysApart_17 {r1 : Int32} {M : zM} {k57 : Int32 → Int32 → zM → Option Int32} (hk57 : ∀ (v1 : Int32) (v2 : Int32), k57 v1 v2 M = some r1 → zJ ztops RX8 cX8_staysApart 4 (zBm ztops 3 (some .boolean) (some (.int r1)) M) 0 0 57 [(0, .ref 0), (1, .int v1), (2, .int v2)] [] M) : ∀ (n : Nat) (v1 : Int32) (v2 : Int32) (v3 : Int32), f8_staysApart_17 k57 n v1 v2 v3 M = some r1 → zJ ztops RX8 cX8_staysApart 4 (zBm ztops 3 (some .boolean) (some (.int r1)) M) 0 0 17 [(0, .ref 0), (1, .int v1), (2, .int v2), (3, .int v3)] [] M := by
  intro n
  induction n with
  | zero => intro v1 v2 v3 h; cases h
  | succ n ih =>
    intro v1 v2 v3 h
    rw [f8_staysApart_17] at h
    refine zg_iload_n 3 dX8_staysApart_17 rfl rfl ?_
    refine zg_aload_n 0 dX8_staysApart_18 rfl rfl ?_
    refine zo_getr 1 0 rfl fl_X8_10 zt_0 rfl dX8_staysApart_19 ?_
    refine zg_geti fl_X8_100 zt_1 rfl dX8_staysApart_22 ?_
    refine zg_icmp_ge (tgt := 57) dX8_staysApart_25 (by decide) (fun hc => ?_) (fun hc => ?_)
    · replace h := (if_pos hc).symm.trans h
      refine zo_sub (ls' := [(0, .ref 0), (1, .int v1), (2, .int v2)]) [0, 1, 2] rfl ?_
      exact hk57 _ _ h
    · replace h := (if_neg hc).symm.trans h
      refine zg_iload_n 1 dX8_staysApart_28 rfl rfl ?_
      refine zg_iload_n 2 dX8_staysApart_29 rfl rfl ?_
      refine zg_iushr dX8_staysApart_30 ?_
      refine zg_iload_n 1 dX8_staysApart_31 rfl rfl ?_
      refine zg_iload_n 3 dX8_staysApart_32 rfl rfl ?_
      refine zg_iushr dX8_staysApart_33 ?_
      refine zg_iand dX8_staysApart_34 ?_
      refine zg_iconst dX8_staysApart_35 zki_1 ?_
      refine zg_iand dX8_staysApart_36 ?_
      refine zg_if_eq (tgt := 51) dX8_staysApart_37 (by decide) (fun hc => ?_) (fun hc => ?_)
      · replace h := (if_pos hc).symm.trans h
        exact g8_staysApart_51 (fun u0 u1 u2 h => ih u0 u1 u2 h) _ _ _ h
      · replace h := (if_neg hc).symm.trans h
        refine zg_aload_n 0 dX8_staysApart_40 rfl rfl ?_
        refine zg_iload_n 2 dX8_staysApart_41 rfl rfl ?_
        refine zg_iload_n 3 dX8_staysApart_42 rfl rfl ?_
        obtain ⟨x1, hx1, h⟩ := z_bind h
        refine zg_callV (st := []) (k_X8_canBeAlike hx1) zY_X8_canBeAlike lv_X8_404 rfl zt_0 rfl (zfit_m (by decide) (by decide)) (Nat.le_of_ble_eq_true rfl) dX8_staysApart_43 rfl ?_
        refine zg_if_eq (tgt := 51) dX8_staysApart_46 (by decide) (fun hc => ?_) (fun hc => ?_)
        · replace h := (if_pos hc).symm.trans h
          exact g8_staysApart_51 (fun u0 u1 u2 h => ih u0 u1 u2 h) _ _ _ h
        · replace h := (if_neg hc).symm.trans h
          refine zg_iconst dX8_staysApart_49 zki_0 ?_
          obtain rfl := z_ret1 h
          exact zg_zret rfl dX8_staysApart_50
set_option maxRecDepth 20000 in
set_option maxHeartbeats 4000000 in
theorem g8_staysApart_57 {r1 : Int32} {M : zM} {k2 : Int32 → Int32 → zM → Option Int32} (hk2 : ∀ (v1 : Int32) (v2 : Int32), k2 v1 v2 M = some r1 → zJ ztops RX8 cX8_staysApart 4 (zBm ztops 3 (some .boolean) (some (.int r1)) M) 0 0 2 [(0, .ref 0), (1, .int v1), (2, .int v2)] [] M) : ∀ (v1 : Int32) (v2 : Int32), f8_staysApart_57 k2 v1 v2 M = some r1 → zJ ztops RX8 cX8_staysApart 4 (zBm ztops 3 (some .boolean) (some (.int r1)) M) 0 0 57 [(0, .ref 0), (1, .int v1), (2, .int v2)] [] M := by
  intro v1 v2 h
  rw [f8_staysApart_57] at h
  refine zg_iinc (ls' := [(0, .ref 0), (1, .int v1), (2, .int (v2 + (1 : Int32)))]) 2 dX8_staysApart_57 rfl zki_1 (Nat.le_of_ble_eq_true rfl) rfl ?_
  refine zg_goto (tgt := 2) dX8_staysApart_60 (by decide) ?_
  exact hk2 _ _ h
set_option maxRecDepth 20000 in
set_option maxHeartbeats 4000000 in
theorem g8_staysApart_2 {r1 : Int32} {M : zM} : ∀ (n : Nat) (v1 : Int32) (v2 : Int32), f8_staysApart_2 n v1 v2 M = some r1 → zJ ztops RX8 cX8_staysApart 4 (zBm ztops 3 (some .boolean) (some (.int r1)) M) 0 0 2 [(0, .ref 0), (1, .int v1), (2, .int v2)] [] M := by
  intro n
  induction n with
  | zero => intro v1 v2 h; cases h
  | succ n ih =>
    intro v1 v2 h
    rw [f8_staysApart_2] at h
    refine zg_iload_n 2 dX8_staysApart_2 rfl rfl ?_
    refine zg_aload_n 0 dX8_staysApart_3 rfl rfl ?_
    refine zo_getr 1 0 rfl fl_X8_10 zt_0 rfl dX8_staysApart_4 ?_
    refine zg_geti fl_X8_100 zt_1 rfl dX8_staysApart_7 ?_
    refine zg_icmp_ge (tgt := 63) dX8_staysApart_10 (by decide) (fun hc => ?_) (fun hc => ?_)
    · replace h := (if_pos hc).symm.trans h
      refine zg_iconst dX8_staysApart_63 zki_1 ?_
      obtain rfl := z_ret1 h
      exact zg_zret rfl dX8_staysApart_64
    · replace h := (if_neg hc).symm.trans h
      refine zg_iload_n 2 dX8_staysApart_13 rfl rfl ?_
      refine zg_iconst dX8_staysApart_14 zki_1 ?_
      refine zg_iadd dX8_staysApart_15 ?_
      refine zg_istore_n (ls' := [(0, .ref 0), (1, .int v1), (2, .int v2), (3, .int (v2 + (1 : Int32)))]) dX8_staysApart_16 rfl (Nat.le_of_ble_eq_true rfl) rfl ?_
      exact g8_staysApart_17 (fun u0 u1 h => g8_staysApart_57 (fun u0 u1 h => ih u0 u1 h) u0 u1 h) zfuel _ _ _ h
set_option maxRecDepth 20000 in
set_option maxHeartbeats 4000000 in
theorem k_X8_staysApart {v1 : Int32} {r1 : Int32} {M : zM} (h : f8_staysApart v1 M = some r1) : zK ztops yX8_staysApart cX8_staysApart 4 (some .boolean) 3 [.ref 0, .int v1] M (some (.int r1)) M := by
  refine zK_of pl_X8 (Nat.le_of_ble_eq_true rfl) ?_
  show zJ ztops RX8 cX8_staysApart 4 _ 0 0 0 [(0, .ref 0), (1, .int v1)] [] M
  rw [f8_staysApart] at h
  refine zg_iconst dX8_staysApart_0 zki_0 ?_
  refine zg_istore_n (ls' := [(0, .ref 0), (1, .int v1), (2, .int (0 : Int32))]) dX8_staysApart_1 rfl (Nat.le_of_ble_eq_true rfl) rfl ?_
  exact g8_staysApart_2 zfuel _ _ h
set_option maxRecDepth 20000 in
set_option maxHeartbeats 4000000 in
theorem k_X8_nights {v1 : Int32} {M : zM} {r1 : Int32} {Mr : zM} (h : f8_nights v1 M = some (r1, Mr)) : zK ztops yX8_nights cX8_nights 2 (some .int) 7 [.ref 0, .int v1] M (some (.int r1)) Mr := by
  refine zK_of pl_X8 (Nat.le_of_ble_eq_true rfl) ?_
  show zJ ztops RX8 cX8_nights 2 _ 0 0 0 [(0, .ref 0), (1, .int v1)] [] M
  rw [f8_nights] at h
  refine zg_iload_n 1 dX8_nights_0 rfl rfl ?_
  refine zg_if_lt (tgt := 10) dX8_nights_1 (by decide) (fun hc => ?_) (fun hc => ?_)
  · replace h := (if_pos hc).symm.trans h
    refine zg_iconst dX8_nights_10 zki_m1 ?_
    obtain ⟨rfl, rfl⟩ := z_ret2 h
    exact zg_iret dX8_nights_11
  · replace h := (if_neg hc).symm.trans h
    refine zg_iload_n 1 dX8_nights_4 rfl rfl ?_
    refine zg_bipush dX8_nights_5 zkb_60 ?_
    refine zg_icmp_le (tgt := 12) dX8_nights_7 (by decide) (fun hc => ?_) (fun hc => ?_)
    · replace h := (if_pos hc).symm.trans h
      refine zg_aload_n 0 dX8_nights_12 rfl rfl ?_
      refine zo_getr 33 32 rfl fl_X8_72 zt_0 rfl dX8_nights_13 ?_
      refine zg_aload_n 0 dX8_nights_16 rfl rfl ?_
      refine zo_getr 1 0 rfl fl_X8_10 zt_0 rfl dX8_nights_17 ?_
      obtain ⟨x1, hx1, h⟩ := z_bind h
      refine zg_callV (st := [.ref 33]) (k_X7_shape zW_1 hx1) zY_X7_shape lv_X8_141 rfl zt_1 rfl (zfit_m (by decide) (by decide)) (Nat.le_of_ble_eq_true rfl) dX8_nights_20 rfl ?_
      refine zg_aload_n 0 dX8_nights_23 rfl rfl ?_
      refine zo_getr 1 0 rfl fl_X8_10 zt_0 rfl dX8_nights_24 ?_
      refine zg_geti fl_X8_145 zt_1 rfl dX8_nights_27 ?_
      obtain ⟨M2, hM2, h⟩ := z_bind h
      refine zg_callV (st := []) (k_X2_push zM_33 hM2) zY_X2_push lv_X8_148 rfl zt_33 rfl (zfit_m (by decide) (by decide)) (Nat.le_of_ble_eq_true rfl) dX8_nights_30 rfl ?_
      refine zg_aload_n 0 dX8_nights_33 rfl rfl ?_
      refine zg_iload_n 1 dX8_nights_34 rfl rfl ?_
      obtain ⟨p3, hp3, h⟩ := z_bind h
      refine zg_callV (st := []) (k_X8_passNights hp3) zY_X8_passNights lv_X8_152 rfl zt_0 rfl (zfit_m (by decide) (by decide)) (Nat.le_of_ble_eq_true rfl) dX8_nights_35 rfl ?_
      obtain ⟨rfl, rfl⟩ := z_ret2 h
      exact zg_iret dX8_nights_38
    · replace h := (if_neg hc).symm.trans h
      refine zg_iconst dX8_nights_10 zki_m1 ?_
      obtain ⟨rfl, rfl⟩ := z_ret2 h
      exact zg_iret dX8_nights_11
set_option maxRecDepth 20000 in
set_option maxHeartbeats 4000000 in
theorem g8_work_131 {r1 : Int32} {Mr : zM} : ∀ (v5 : Int32) (v6 : Int32) (M : zM), f8_work_131 v5 v6 M = some (r1, Mr) → zJ ztops RX8 cX8_work 8 (zBm ztops 8 (some .int) (some (.int r1)) Mr) 0 0 131 [(0, .ref 0), (5, .int v5), (6, .int v6)] [] M := by
  intro v5 v6 M h
  rw [f8_work_131] at h
  refine zg_aload_n 0 dX8_work_131 rfl rfl ?_
  refine zo_getr 9 8 rfl fl_X8_32 zt_0 rfl dX8_work_132 ?_
  refine zg_iload 2 dX8_work_135 rfl ?_
  refine zg_i2l dX8_work_137 ?_
  refine zg_aload_n 0 dX8_work_138 rfl rfl ?_
  refine zo_getr 1 0 rfl fl_X8_10 zt_0 rfl dX8_work_139 ?_
  obtain ⟨x1, hx1, h⟩ := z_bind h
  refine zg_callV (st := [.long (Int32.toInt64 v6), .ref 9]) (k_X7_threads zW_1 hx1) zY_X7_threads lv_X8_191 rfl zt_1 rfl (zfit_m (by decide) (by decide)) (Nat.le_of_ble_eq_true rfl) dX8_work_142 rfl ?_
  refine zg_i2l dX8_work_145 ?_
  obtain ⟨M2, hM2, h⟩ := z_bind h
  refine zg_callV (st := []) (k_X3_tell_ hM2) zY_X3_tell_ lv_X8_194 rfl zt_9 rfl (zfit_m (by decide) (by decide)) (Nat.le_of_ble_eq_true rfl) dX8_work_146 rfl ?_
  refine zg_iload 1 dX8_work_149 rfl ?_
  obtain ⟨rfl, rfl⟩ := z_ret2 h
  exact zg_iret dX8_work_151
set_option maxRecDepth 20000 in
set_option maxHeartbeats 4000000 in
theorem g8_work_108 {r1 : Int32} {Mr : zM} : ∀ (v2 : Int64) (v4 : Int32) (v5 : Int32) (v6 : Int32) (M : zM), f8_work_108 v2 v4 v5 v6 M = some (r1, Mr) → zJ ztops RX8 cX8_work 8 (zBm ztops 8 (some .int) (some (.int r1)) Mr) 0 0 108 [(0, .ref 0), (2, .long v2), (4, .int v4), (5, .int v5), (6, .int v6)] [] M := by
  intro v2 v4 v5 v6 M h
  rw [f8_work_108] at h
  refine zg_aload_n 0 dX8_work_108 rfl rfl ?_
  refine zo_getr 7 6 rfl fl_X8_25 zt_0 rfl dX8_work_109 ?_
  refine zg_iconst dX8_work_112 zki_0 ?_
  refine zg_puti fp_X8_83 zt_7 rfl dX8_work_113 ?_
  refine zg_iload 3 dX8_work_116 rfl ?_
  refine zg_if_le (tgt := 131) dX8_work_118 (by decide) (fun hc => ?_) (fun hc => ?_)
  · replace h := (if_pos hc).symm.trans h
    refine zo_sub (ls' := [(0, .ref 0), (5, .int v5), (6, .int v6)]) [0, 3, 4] rfl ?_
    exact g8_work_131 _ _ _ h
  · replace h := (if_neg hc).symm.trans h
    refine zg_aload_n 0 dX8_work_121 rfl rfl ?_
    refine zo_getr 33 32 rfl fl_X8_72 zt_0 rfl dX8_work_122 ?_
    refine zg_lload_n 1 dX8_work_125 rfl rfl ?_
    refine zg_iload 2 dX8_work_126 rfl ?_
    obtain ⟨M1, hM1, h⟩ := z_bind h
    refine zg_callV (st := []) (k_X2_push zM_33 hM1) zY_X2_push lv_X8_148 rfl zt_33 rfl (zfit_m (by decide) (by decide)) (Nat.le_of_ble_eq_true rfl) dX8_work_128 rfl ?_
    refine zo_sub (ls' := [(0, .ref 0), (5, .int v5), (6, .int v6)]) [0, 3, 4] rfl ?_
    exact g8_work_131 _ _ _ h
set_option maxRecDepth 20000 in
set_option maxHeartbeats 4000000 in
theorem g8_work_83 {r1 : Int32} {Mr : zM} {k48 : Int64 → Int32 → Int32 → Int32 → Int32 → zM → Option (Int32 × zM)} (hk48 : ∀ (v2 : Int64) (v4 : Int32) (v5 : Int32) (v6 : Int32) (v7 : Int32) (M : zM), k48 v2 v4 v5 v6 v7 M = some (r1, Mr) → zJ ztops RX8 cX8_work 8 (zBm ztops 8 (some .int) (some (.int r1)) Mr) 0 0 48 [(0, .ref 0), (2, .long v2), (4, .int v4), (5, .int v5), (6, .int v6), (7, .int v7)] [] M) : ∀ (v2 : Int64) (v4 : Int32) (v5 : Int32) (v6 : Int32) (v7 : Int32) (M : zM), f8_work_83 k48 v2 v4 v5 v6 v7 M = some (r1, Mr) → zJ ztops RX8 cX8_work 8 (zBm ztops 8 (some .int) (some (.int r1)) Mr) 0 0 83 [(0, .ref 0), (2, .long v2), (4, .int v4), (5, .int v5), (6, .int v6), (7, .int v7)] [] M := by
  intro v2 v4 v5 v6 v7 M h
  rw [f8_work_83] at h
  refine zg_iload 5 dX8_work_83 rfl ?_
  refine zg_iconst dX8_work_85 zki_1 ?_
  refine zg_aload_n 0 dX8_work_86 rfl rfl ?_
  refine zo_getr 7 6 rfl fl_X8_25 zt_0 rfl dX8_work_87 ?_
  refine zg_iload 5 dX8_work_90 rfl ?_
  obtain ⟨x1, hx1, h⟩ := z_bind h
  refine zg_callV (st := [.int (1 : Int32), .int v7]) (k_X6_at hx1) zY_X6_at lv_X8_179 rfl zt_7 rfl (zfit_m (by decide) (by decide)) (Nat.le_of_ble_eq_true rfl) dX8_work_92 rfl ?_
  obtain ⟨x2, hx2, h⟩ := z_bind h
  refine zg_callS (st := [.int (1 : Int32), .int v7]) (k_X8_digitsOf hx2) zY_X8_digitsOf ls_X8_182 rfl (zfit_m (by decide) (by decide)) (Nat.le_of_ble_eq_true rfl) dX8_work_95 rfl ?_
  obtain ⟨x3, hx3, h⟩ := z_bind h
  refine zo_slen (st := [.int (1 : Int32), .int v7]) (zfit_m (by decide) (by decide)) (Nat.le_of_ble_eq_true rfl) lv_X8_186 hx3 dX8_work_98 ?_
  refine zg_iadd dX8_work_101 ?_
  refine zg_iadd dX8_work_102 ?_
  refine zg_istore (ls' := [(0, .ref 0), (2, .long v2), (4, .int v4), (5, .int v5), (6, .int v6), (7, .int (v7 + ((1 : Int32) + x3)))]) dX8_work_103 (Nat.le_of_ble_eq_true rfl) rfl ?_
  refine zg_goto (tgt := 48) dX8_work_105 (by decide) ?_
  exact hk48 _ _ _ _ _ _ h
set_option maxRecDepth 20000 in
set_option maxHeartbeats 4000000 in
theorem g8_work_48 {r1 : Int32} {Mr : zM} : ∀ (n : Nat) (v2 : Int64) (v4 : Int32) (v5 : Int32) (v6 : Int32) (v7 : Int32) (M : zM), f8_work_48 n v2 v4 v5 v6 v7 M = some (r1, Mr) → zJ ztops RX8 cX8_work 8 (zBm ztops 8 (some .int) (some (.int r1)) Mr) 0 0 48 [(0, .ref 0), (2, .long v2), (4, .int v4), (5, .int v5), (6, .int v6), (7, .int v7)] [] M := by
  intro n
  induction n with
  | zero => intro v2 v4 v5 v6 v7 M h; cases h
  | succ n ih =>
    intro v2 v4 v5 v6 v7 M h
    rw [f8_work_48] at h
    refine zg_iload 5 dX8_work_48 rfl ?_
    refine zg_aload_n 0 dX8_work_50 rfl rfl ?_
    refine zo_getr 7 6 rfl fl_X8_25 zt_0 rfl dX8_work_51 ?_
    refine zg_geti fl_X8_83 zt_7 rfl dX8_work_54 ?_
    refine zg_icmp_ge (tgt := 108) dX8_work_57 (by decide) (fun hc => ?_) (fun hc => ?_)
    · replace h := (if_pos hc).symm.trans h
      refine zo_sub (ls' := [(0, .ref 0), (2, .long v2), (4, .int v4), (5, .int v5), (6, .int v6)]) [0, 1, 2, 3, 4] rfl ?_
      exact g8_work_108 _ _ _ _ _ h
    · replace h := (if_neg hc).symm.trans h
      refine zg_iload 4 dX8_work_60 rfl ?_
      refine zg_if_ne (tgt := 108) dX8_work_62 (by decide) (fun hc => ?_) (fun hc => ?_)
      · replace h := (if_neg hc).symm.trans h
        refine zo_sub (ls' := [(0, .ref 0), (2, .long v2), (4, .int v4), (5, .int v5), (6, .int v6)]) [0, 1, 2, 3, 4] rfl ?_
        exact g8_work_108 _ _ _ _ _ h
      · replace h := (if_pos hc).symm.trans h
        refine zg_aload_n 0 dX8_work_65 rfl rfl ?_
        refine zg_iload 5 dX8_work_66 rfl ?_
        obtain ⟨p1, hp1, h⟩ := z_bind h
        refine zg_callV (st := []) (k_X8_actAt hp1) zY_X8_actAt lv_X8_176 rfl zt_0 rfl (zfit_m (by decide) (by decide)) (Nat.le_of_ble_eq_true rfl) dX8_work_68 rfl ?_
        refine zg_if_ge (tgt := 80) dX8_work_71 (by decide) (fun hc => ?_) (fun hc => ?_)
        · replace h := (if_pos hc).symm.trans h
          refine zg_iinc (ls' := [(0, .ref 0), (2, .long v2), (4, .int v4), (5, .int (v5 + (1 : Int32))), (6, .int v6), (7, .int v7)]) 3 dX8_work_80 rfl zki_1 (Nat.le_of_ble_eq_true rfl) rfl ?_
          exact g8_work_83 (fun u0 u1 u2 u3 u4 u5 h => ih u0 u1 u2 u3 u4 u5 h) _ _ _ _ _ _ h
        · replace h := (if_neg hc).symm.trans h
          refine zg_iconst dX8_work_74 zki_1 ?_
          refine zg_istore (ls' := [(0, .ref 0), (2, .long v2), (4, .int v4), (5, .int v5), (6, .int (1 : Int32)), (7, .int v7)]) dX8_work_75 (Nat.le_of_ble_eq_true rfl) rfl ?_
          refine zg_goto (tgt := 83) dX8_work_77 (by decide) ?_
          exact g8_work_83 (fun u0 u1 u2 u3 u4 u5 h => ih u0 u1 u2 u3 u4 u5 h) _ _ _ _ _ _ h
set_option maxRecDepth 20000 in
set_option maxHeartbeats 4000000 in
theorem k_X8_work {M : zM} {r1 : Int32} {Mr : zM} (h : f8_work M = some (r1, Mr)) : zK ztops yX8_work cX8_work 8 (some .int) 8 [.ref 0] M (some (.int r1)) Mr := by
  refine zK_of pl_X8 (Nat.le_of_ble_eq_true rfl) ?_
  show zJ ztops RX8 cX8_work 8 _ 0 0 0 [(0, .ref 0)] [] M
  rw [f8_work] at h
  refine zg_aload_n 0 dX8_work_0 rfl rfl ?_
  obtain ⟨x1, hx1, h⟩ := z_bind h
  refine zg_callV (st := []) (k_X8_workFault hx1) zY_X8_workFault lv_X8_172 rfl zt_0 rfl (zfit_m (by decide) (by decide)) (Nat.le_of_ble_eq_true rfl) dX8_work_1 rfl ?_
  refine zg_istore_n (ls' := [(0, .ref 0), (1, .int x1)]) dX8_work_4 rfl (Nat.le_of_ble_eq_true rfl) rfl ?_
  refine zg_iload_n 1 dX8_work_5 rfl rfl ?_
  refine zg_iconst dX8_work_6 zki_m1 ?_
  refine zg_icmp_eq (tgt := 22) dX8_work_7 (by decide) (fun hc => ?_) (fun hc => ?_)
  · replace h := (if_pos hc).symm.trans h
    refine zg_aload_n 0 dX8_work_22 rfl rfl ?_
    refine zo_getr 1 0 rfl fl_X8_10 zt_0 rfl dX8_work_23 ?_
    obtain ⟨x2, hx2, h⟩ := z_bind h
    refine zg_callV (st := []) (k_X7_shape zW_1 hx2) zY_X7_shape lv_X8_141 rfl zt_1 rfl (zfit_m (by decide) (by decide)) (Nat.le_of_ble_eq_true rfl) dX8_work_26 rfl ?_
    refine zg_lstore_n (ls' := [(0, .ref 0), (1, .int x1), (2, .long x2)]) dX8_work_29 rfl (Nat.le_of_ble_eq_true rfl) rfl ?_
    refine zg_aload_n 0 dX8_work_30 rfl rfl ?_
    refine zo_getr 1 0 rfl fl_X8_10 zt_0 rfl dX8_work_31 ?_
    refine zg_geti fl_X8_145 zt_1 rfl dX8_work_34 ?_
    refine zg_istore (ls' := [(0, .ref 0), (1, .int x1), (2, .long x2), (4, .int (M.1 1 2))]) dX8_work_37 (Nat.le_of_ble_eq_true rfl) rfl ?_
    refine zg_iconst dX8_work_39 zki_0 ?_
    refine zg_istore (ls' := [(0, .ref 0), (1, .int x1), (2, .long x2), (4, .int (M.1 1 2)), (5, .int (0 : Int32))]) dX8_work_40 (Nat.le_of_ble_eq_true rfl) rfl ?_
    refine zg_iconst dX8_work_42 zki_0 ?_
    refine zg_istore (ls' := [(0, .ref 0), (1, .int x1), (2, .long x2), (4, .int (M.1 1 2)), (5, .int (0 : Int32)), (6, .int (0 : Int32))]) dX8_work_43 (Nat.le_of_ble_eq_true rfl) rfl ?_
    refine zg_iconst dX8_work_45 zki_0 ?_
    refine zg_istore (ls' := [(0, .ref 0), (1, .int x1), (2, .long x2), (4, .int (M.1 1 2)), (5, .int (0 : Int32)), (6, .int (0 : Int32)), (7, .int (0 : Int32))]) dX8_work_46 (Nat.le_of_ble_eq_true rfl) rfl ?_
    refine zo_sub (ls' := [(0, .ref 0), (2, .long x2), (4, .int (M.1 1 2)), (5, .int (0 : Int32)), (6, .int (0 : Int32)), (7, .int (0 : Int32))]) [0, 2, 3, 4, 5, 6] rfl ?_
    exact g8_work_48 zfuel _ _ _ _ _ _ h
  · replace h := (if_neg hc).symm.trans h
    refine zg_aload_n 0 dX8_work_10 rfl rfl ?_
    refine zo_getr 7 6 rfl fl_X8_25 zt_0 rfl dX8_work_11 ?_
    refine zg_iconst dX8_work_14 zki_0 ?_
    refine zg_puti fp_X8_83 zt_7 rfl dX8_work_15 ?_
    refine zg_iconst dX8_work_18 zki_m1 ?_
    refine zg_iload_n 1 dX8_work_19 rfl rfl ?_
    refine zg_isub dX8_work_20 ?_
    obtain ⟨rfl, rfl⟩ := z_ret2 h
    exact zg_iret dX8_work_21
set_option maxRecDepth 20000 in
set_option maxHeartbeats 4000000 in
theorem g8_outlasts_44 {r1 : Int32} {Mr : zM} {k6 : Int32 → Int32 → Int32 → zM → Option (Int32 × zM)} (hk6 : ∀ (v1 : Int32) (v2 : Int32) (v3 : Int32) (M : zM), k6 v1 v2 v3 M = some (r1, Mr) → zJ ztops RX8 cX8_outlasts 5 (zBm ztops 4 (some .int) (some (.int r1)) Mr) 0 0 6 [(0, .ref 0), (1, .int v1), (2, .int v2), (3, .int v3)] [] M) : ∀ (v1 : Int32) (v2 : Int32) (v3 : Int32) (M : zM), f8_outlasts_44 k6 v1 v2 v3 M = some (r1, Mr) → zJ ztops RX8 cX8_outlasts 5 (zBm ztops 4 (some .int) (some (.int r1)) Mr) 0 0 44 [(0, .ref 0), (1, .int v1), (2, .int v2), (3, .int v3)] [] M := by
  intro v1 v2 v3 M h
  rw [f8_outlasts_44] at h
  refine zg_iinc (ls' := [(0, .ref 0), (1, .int v1), (2, .int v2), (3, .int (v3 + (1 : Int32)))]) 3 dX8_outlasts_44 rfl zki_1 (Nat.le_of_ble_eq_true rfl) rfl ?_
  refine zg_goto (tgt := 6) dX8_outlasts_47 (by decide) ?_
  exact hk6 _ _ _ _ h
set_option maxRecDepth 20000 in
set_option maxHeartbeats 4000000 in
theorem g8_outlasts_6 {r1 : Int32} {Mr : zM} : ∀ (n : Nat) (v1 : Int32) (v2 : Int32) (v3 : Int32) (M : zM), f8_outlasts_6 n v1 v2 v3 M = some (r1, Mr) → zJ ztops RX8 cX8_outlasts 5 (zBm ztops 4 (some .int) (some (.int r1)) Mr) 0 0 6 [(0, .ref 0), (1, .int v1), (2, .int v2), (3, .int v3)] [] M := by
  intro n
  induction n with
  | zero => intro v1 v2 v3 M h; cases h
  | succ n ih =>
    intro v1 v2 v3 M h
    rw [f8_outlasts_6] at h
    refine zg_iload_n 3 dX8_outlasts_6 rfl rfl ?_
    refine zg_iconst dX8_outlasts_7 zki_1 ?_
    refine zg_aload_n 0 dX8_outlasts_8 rfl rfl ?_
    refine zo_getr 1 0 rfl fl_X8_10 zt_0 rfl dX8_outlasts_9 ?_
    refine zg_geti fl_X8_100 zt_1 rfl dX8_outlasts_12 ?_
    refine zg_ishl dX8_outlasts_15 ?_
    refine zg_icmp_ge (tgt := 50) dX8_outlasts_16 (by decide) (fun hc => ?_) (fun hc => ?_)
    · replace h := (if_pos hc).symm.trans h
      refine zg_aload_n 0 dX8_outlasts_50 rfl rfl ?_
      refine zo_getr 9 8 rfl fl_X8_32 zt_0 rfl dX8_outlasts_51 ?_
      refine zg_iload_n 2 dX8_outlasts_54 rfl rfl ?_
      refine zg_i2l dX8_outlasts_55 ?_
      obtain ⟨M1, hM1, h⟩ := z_bind h
      refine zg_callV (st := []) (k_X3_tell hM1) zY_X3_tell lv_X8_207 rfl zt_9 rfl (zfit_m (by decide) (by decide)) (Nat.le_of_ble_eq_true rfl) dX8_outlasts_56 rfl ?_
      refine zg_iload_n 1 dX8_outlasts_59 rfl rfl ?_
      obtain ⟨rfl, rfl⟩ := z_ret2 h
      exact zg_iret dX8_outlasts_60
    · replace h := (if_neg hc).symm.trans h
      refine zg_iload_n 3 dX8_outlasts_19 rfl rfl ?_
      obtain ⟨x1, hx1, h⟩ := z_bind h
      refine zg_callS (st := []) (k_J6_bitCount_0f7a4 hx1) zY_J6_bitCount_0f7a4 ls_X8_225 rfl (zfit_m (by decide) (by decide)) (Nat.le_of_ble_eq_true rfl) dX8_outlasts_20 rfl ?_
      refine zg_istore (ls' := [(0, .ref 0), (1, .int v1), (2, .int v2), (3, .int v3), (4, .int x1)]) dX8_outlasts_23 (Nat.le_of_ble_eq_true rfl) rfl ?_
      refine zg_iload 4 dX8_outlasts_25 rfl ?_
      refine zg_iload_n 1 dX8_outlasts_27 rfl rfl ?_
      refine zg_icmp_le (tgt := 44) dX8_outlasts_28 (by decide) (fun hc => ?_) (fun hc => ?_)
      · replace h := (if_pos hc).symm.trans h
        refine zo_sub (ls' := [(0, .ref 0), (1, .int v1), (2, .int v2), (3, .int v3)]) [0, 1, 2, 3] rfl ?_
        exact g8_outlasts_44 (fun u0 u1 u2 u3 h => ih u0 u1 u2 u3 h) _ _ _ _ h
      · replace h := (if_neg hc).symm.trans h
        refine zg_aload_n 0 dX8_outlasts_31 rfl rfl ?_
        refine zg_iload_n 3 dX8_outlasts_32 rfl rfl ?_
        obtain ⟨x2, hx2, h⟩ := z_bind h
        refine zg_callV (st := []) (k_X8_staysApart hx2) zY_X8_staysApart lv_X8_249 rfl zt_0 rfl (zfit_m (by decide) (by decide)) (Nat.le_of_ble_eq_true rfl) dX8_outlasts_33 rfl ?_
        refine zg_if_eq (tgt := 44) dX8_outlasts_36 (by decide) (fun hc => ?_) (fun hc => ?_)
        · replace h := (if_pos hc).symm.trans h
          refine zo_sub (ls' := [(0, .ref 0), (1, .int v1), (2, .int v2), (3, .int v3)]) [0, 1, 2, 3] rfl ?_
          exact g8_outlasts_44 (fun u0 u1 u2 u3 h => ih u0 u1 u2 u3 h) _ _ _ _ h
        · replace h := (if_neg hc).symm.trans h
          refine zg_iload 4 dX8_outlasts_39 rfl ?_
          refine zg_istore_n (ls' := [(0, .ref 0), (1, .int x1), (2, .int v2), (3, .int v3), (4, .int x1)]) dX8_outlasts_41 rfl (Nat.le_of_ble_eq_true rfl) rfl ?_
          refine zg_iload_n 3 dX8_outlasts_42 rfl rfl ?_
          refine zg_istore_n (ls' := [(0, .ref 0), (1, .int x1), (2, .int v3), (3, .int v3), (4, .int x1)]) dX8_outlasts_43 rfl (Nat.le_of_ble_eq_true rfl) rfl ?_
          refine zo_sub (ls' := [(0, .ref 0), (1, .int x1), (2, .int v3), (3, .int v3)]) [0, 1, 2, 3] rfl ?_
          exact g8_outlasts_44 (fun u0 u1 u2 u3 h => ih u0 u1 u2 u3 h) _ _ _ _ h
set_option maxRecDepth 20000 in
set_option maxHeartbeats 4000000 in
theorem k_X8_outlasts {M : zM} {r1 : Int32} {Mr : zM} (h : f8_outlasts M = some (r1, Mr)) : zK ztops yX8_outlasts cX8_outlasts 5 (some .int) 4 [.ref 0] M (some (.int r1)) Mr := by
  refine zK_of pl_X8 (Nat.le_of_ble_eq_true rfl) ?_
  show zJ ztops RX8 cX8_outlasts 5 _ 0 0 0 [(0, .ref 0)] [] M
  rw [f8_outlasts] at h
  refine zg_iconst dX8_outlasts_0 zki_0 ?_
  refine zg_istore_n (ls' := [(0, .ref 0), (1, .int (0 : Int32))]) dX8_outlasts_1 rfl (Nat.le_of_ble_eq_true rfl) rfl ?_
  refine zg_iconst dX8_outlasts_2 zki_0 ?_
  refine zg_istore_n (ls' := [(0, .ref 0), (1, .int (0 : Int32)), (2, .int (0 : Int32))]) dX8_outlasts_3 rfl (Nat.le_of_ble_eq_true rfl) rfl ?_
  refine zg_iconst dX8_outlasts_4 zki_1 ?_
  refine zg_istore_n (ls' := [(0, .ref 0), (1, .int (0 : Int32)), (2, .int (0 : Int32)), (3, .int (1 : Int32))]) dX8_outlasts_5 rfl (Nat.le_of_ble_eq_true rfl) rfl ?_
  exact g8_outlasts_6 zfuel _ _ _ _ h
set_option maxRecDepth 20000 in
set_option maxHeartbeats 4000000 in
theorem kx_X8_cell {v1 : Int32} {v2 : Int32} {M : zM} (h : gx8_cell v1 v2 M = some ()) : zKx ztops yX8_cell cX8_cell 3 (some .int) 8 [.ref 0, .int v1, .int v2] M := by
  refine zKx_of pl_X8 (Nat.le_of_ble_eq_true rfl) ?_
  show zJ ztops RX8 cX8_cell 3 _ 0 0 0 [(0, .ref 0), (1, .int v1), (2, .int v2)] [] M
  rw [gx8_cell] at h
  refine zg_aload_n 0 dX8_cell_0 rfl rfl ?_
  refine zo_getr 1 0 rfl fl_X8_10 zt_0 rfl dX8_cell_1 ?_
  refine zg_iload_n 1 dX8_cell_4 rfl rfl ?_
  refine zg_iload_n 2 dX8_cell_5 rfl rfl ?_
  obtain ⟨x1, hx1, h⟩ := z_bind h
  refine zg_callV (st := []) (k_X7_crosses zW_1 hx1) zY_X7_crosses lv_X8_107 rfl zt_1 rfl (zfit_c (by decide) (by decide)) (Nat.le_of_ble_eq_true rfl) dX8_cell_6 rfl ?_
  refine zg_if_ne (tgt := 20) dX8_cell_9 (by decide) (fun hc => ?_) (fun hc => ?_)
  · replace h := (if_neg hc).symm.trans h
    cases h
  · replace h := (if_pos hc).symm.trans h
    exact zg_throw (by decide) (Nat.le_of_ble_eq_true rfl) dX8_cell_12 dX8_cell_15 dX8_cell_16 dX8_cell_19
set_option maxRecDepth 20000 in
set_option maxHeartbeats 4000000 in
theorem kx_X8_thread {v1 : Int32} {v2 : Int32} {v3 : Int32} {M : zM} (h : gx8_thread v1 v2 v3 M = some ()) : zKx ztops yX8_thread cX8_thread 4 (some .int) 8 [.ref 0, .int v1, .int v2, .int v3] M := by
  refine zKx_of pl_X8 (Nat.le_of_ble_eq_true rfl) ?_
  show zJ ztops RX8 cX8_thread 4 _ 0 0 0 [(0, .ref 0), (1, .int v1), (2, .int v2), (3, .int v3)] [] M
  rw [gx8_thread] at h
  refine zg_aload_n 0 dX8_thread_0 rfl rfl ?_
  refine zo_getr 1 0 rfl fl_X8_10 zt_0 rfl dX8_thread_1 ?_
  refine zg_iload_n 1 dX8_thread_4 rfl rfl ?_
  refine zg_iload_n 2 dX8_thread_5 rfl rfl ?_
  obtain ⟨x1, hx1, h⟩ := z_bind h
  refine zg_callV (st := []) (k_X7_has zW_1 hx1) zY_X7_has lv_X8_118 rfl zt_1 rfl (zfit_c (by decide) (by decide)) (Nat.le_of_ble_eq_true rfl) dX8_thread_6 rfl ?_
  refine zg_if_eq (tgt := 21) dX8_thread_9 (by decide) (fun hc => ?_) (fun hc => ?_)
  · replace h := (if_pos hc).symm.trans h
    exact zg_throw (by decide) (Nat.le_of_ble_eq_true rfl) dX8_thread_21 dX8_thread_24 dX8_thread_25 dX8_thread_28
  · replace h := (if_neg hc).symm.trans h
    refine zg_iload_n 3 dX8_thread_12 rfl rfl ?_
    refine zg_if_lt (tgt := 21) dX8_thread_13 (by decide) (fun hc => ?_) (fun hc => ?_)
    · replace h := (if_pos hc).symm.trans h
      exact zg_throw (by decide) (Nat.le_of_ble_eq_true rfl) dX8_thread_21 dX8_thread_24 dX8_thread_25 dX8_thread_28
    · replace h := (if_neg hc).symm.trans h
      refine zg_iload_n 3 dX8_thread_16 rfl rfl ?_
      refine zg_iconst dX8_thread_17 zki_4 ?_
      refine zg_icmp_le (tgt := 29) dX8_thread_18 (by decide) (fun hc => ?_) (fun hc => ?_)
      · replace h := (if_pos hc).symm.trans h
        cases h
      · replace h := (if_neg hc).symm.trans h
        exact zg_throw (by decide) (Nat.le_of_ble_eq_true rfl) dX8_thread_21 dX8_thread_24 dX8_thread_25 dX8_thread_28
set_option maxRecDepth 20000 in
set_option maxHeartbeats 4000000 in
theorem kx_X8_row {v1 : Int32} {M : zM} (h : gx8_row v1 M = some ()) : zKx ztops yX8_row cX8_row 2 (some .long) 8 [.ref 0, .int v1] M := by
  refine zKx_of pl_X8 (Nat.le_of_ble_eq_true rfl) ?_
  show zJ ztops RX8 cX8_row 2 _ 0 0 0 [(0, .ref 0), (1, .int v1)] [] M
  rw [gx8_row] at h
  refine zg_iload_n 1 dX8_row_0 rfl rfl ?_
  refine zg_if_lt (tgt := 15) dX8_row_1 (by decide) (fun hc => ?_) (fun hc => ?_)
  · replace h := (if_pos hc).symm.trans h
    exact zg_throw (by decide) (Nat.le_of_ble_eq_true rfl) dX8_row_15 dX8_row_18 dX8_row_19 dX8_row_22
  · replace h := (if_neg hc).symm.trans h
    refine zg_iload_n 1 dX8_row_4 rfl rfl ?_
    refine zg_aload_n 0 dX8_row_5 rfl rfl ?_
    refine zo_getr 9 8 rfl fl_X8_32 zt_0 rfl dX8_row_6 ?_
    refine zg_geti fl_X8_374 zt_9 rfl dX8_row_9 ?_
    refine zg_icmp_lt (tgt := 23) dX8_row_12 (by decide) (fun hc => ?_) (fun hc => ?_)
    · replace h := (if_pos hc).symm.trans h
      cases h
    · replace h := (if_neg hc).symm.trans h
      exact zg_throw (by decide) (Nat.le_of_ble_eq_true rfl) dX8_row_15 dX8_row_18 dX8_row_19 dX8_row_22

theorem kh_cell_ret {v1 v2 : Int32} {M : zM} {r : Int32} (h : f8_cell v1 v2 M = some r) : zKh ztops yL_cell cL_cell 5 [(0, 10, 13, 13)] 20 [.ref 0, .int v1, .int v2, .ref 67] M (some (.int 0)) (zsj M 67 0 r.toInt64) := by
  refine zKh_of pl_L (Nat.le_of_ble_eq_true rfl) ?_
  show zJ ztops RL cL_cell 5 _ 0 0 0 [(0, .ref 0), (1, .int v1), (2, .int v2), (3, .ref 67)] [] M
  refine zg_aload_n 3 dL_cell_0 rfl rfl ?_
  refine zg_iconst dL_cell_1 zki_0 ?_
  refine zg_aload_n 0 dL_cell_2 rfl rfl ?_
  refine zg_iload_n 1 dL_cell_3 rfl rfl ?_
  refine zg_iload_n 2 dL_cell_4 rfl rfl ?_
  refine zg_callV (st := [.int 0, .ref 67]) (k_X8_cell h) zY_X8_cell lv_L_7 rfl zt_0 rfl (zfit_c (by decide) (by decide)) (Nat.le_of_ble_eq_true rfl) dL_cell_5 rfl ?_
  refine zg_i2l dL_cell_8 ?_
  refine zo_last zt_67 (zpJ0 _ _) dL_cell_9 ?_
  refine zg_goto (tgt := 17) dL_cell_10 (by decide) ?_
  refine zg_iconst dL_cell_17 zki_0 ?_
  exact zg_hret dL_cell_18
theorem kh_cell_thr {v1 v2 : Int32} {M : zM} (h : gx8_cell v1 v2 M = some ()) : zKh ztops yL_cell cL_cell 5 [(0, 10, 13, 13)] 20 [.ref 0, .int v1, .int v2, .ref 67] M (some (.int 1)) M := by
  refine zKh_of pl_L (Nat.le_of_ble_eq_true rfl) ?_
  show zJ ztops RL cL_cell 5 _ 0 0 0 [(0, .ref 0), (1, .int v1), (2, .int v2), (3, .ref 67)] [] M
  refine zg_aload_n 3 dL_cell_0 rfl rfl ?_
  refine zg_iconst dL_cell_1 zki_0 ?_
  refine zg_aload_n 0 dL_cell_2 rfl rfl ?_
  refine zg_iload_n 1 dL_cell_3 rfl rfl ?_
  refine zg_iload_n 2 dL_cell_4 rfl rfl ?_
  exact zg_callX (st := [.int 0, .ref 67]) (kx_X8_cell h) zY_X8_cell lv_L_7 rfl zt_0 rfl ⟨by decide, by decide⟩ (Nat.le_of_ble_eq_true rfl) dL_cell_5 rfl (by decide) ⟨_, rfl⟩ ⟨2, dL_cell_15, dL_cell_16, Or.inl ⟨4, by decide, rfl, dL_cell_13⟩⟩
theorem kh_thread_ret {v1 v2 v3 : Int32} {M : zM} {r : Int32} {Mr : zM} (h : f8_thread v1 v2 v3 M = some (r, Mr)) : zKh ztops yL_thread cL_thread 6 [(0, 12, 15, 13)] 20 [.ref 0, .int v1, .int v2, .int v3, .ref 67] M (some (.int 0)) (zsj Mr 67 0 r.toInt64) := by
  refine zKh_of pl_L (Nat.le_of_ble_eq_true rfl) ?_
  show zJ ztops RL cL_thread 6 _ 0 0 0 [(0, .ref 0), (1, .int v1), (2, .int v2), (3, .int v3), (4, .ref 67)] [] M
  refine zg_aload 4 dL_thread_0 rfl ?_
  refine zg_iconst dL_thread_2 zki_0 ?_
  refine zg_aload_n 0 dL_thread_3 rfl rfl ?_
  refine zg_iload_n 1 dL_thread_4 rfl rfl ?_
  refine zg_iload_n 2 dL_thread_5 rfl rfl ?_
  refine zg_iload_n 3 dL_thread_6 rfl rfl ?_
  refine zg_callV (st := [.int 0, .ref 67]) (k_X8_thread h) zY_X8_thread lv_L_15 rfl zt_0 rfl (zfit_c (by decide) (by decide)) (Nat.le_of_ble_eq_true rfl) dL_thread_7 rfl ?_
  refine zg_i2l dL_thread_10 ?_
  refine zo_last zt_67 (zpJ0 _ _) dL_thread_11 ?_
  refine zg_goto (tgt := 19) dL_thread_12 (by decide) ?_
  refine zg_iconst dL_thread_19 zki_0 ?_
  exact zg_hret dL_thread_20
theorem kh_thread_thr {v1 v2 v3 : Int32} {M : zM} (h : gx8_thread v1 v2 v3 M = some ()) : zKh ztops yL_thread cL_thread 6 [(0, 12, 15, 13)] 20 [.ref 0, .int v1, .int v2, .int v3, .ref 67] M (some (.int 1)) M := by
  refine zKh_of pl_L (Nat.le_of_ble_eq_true rfl) ?_
  show zJ ztops RL cL_thread 6 _ 0 0 0 [(0, .ref 0), (1, .int v1), (2, .int v2), (3, .int v3), (4, .ref 67)] [] M
  refine zg_aload 4 dL_thread_0 rfl ?_
  refine zg_iconst dL_thread_2 zki_0 ?_
  refine zg_aload_n 0 dL_thread_3 rfl rfl ?_
  refine zg_iload_n 1 dL_thread_4 rfl rfl ?_
  refine zg_iload_n 2 dL_thread_5 rfl rfl ?_
  refine zg_iload_n 3 dL_thread_6 rfl rfl ?_
  exact zg_callX (st := [.int 0, .ref 67]) (kx_X8_thread h) zY_X8_thread lv_L_15 rfl zt_0 rfl ⟨by decide, by decide⟩ (Nat.le_of_ble_eq_true rfl) dL_thread_7 rfl (by decide) ⟨_, rfl⟩ ⟨2, dL_thread_17, dL_thread_18, Or.inl ⟨5, by decide, rfl, dL_thread_15⟩⟩
theorem kh_row_ret {v1 : Int32} {M : zM} {r : Int64} (h : f8_row v1 M = some r) : zKh ztops yL_row cL_row 4 [(0, 8, 11, 13)] 20 [.ref 0, .int v1, .ref 67] M (some (.int 0)) (zsj M 67 0 r) := by
  refine zKh_of pl_L (Nat.le_of_ble_eq_true rfl) ?_
  show zJ ztops RL cL_row 4 _ 0 0 0 [(0, .ref 0), (1, .int v1), (2, .ref 67)] [] M
  refine zg_aload_n 2 dL_row_0 rfl rfl ?_
  refine zg_iconst dL_row_1 zki_0 ?_
  refine zg_aload_n 0 dL_row_2 rfl rfl ?_
  refine zg_iload_n 1 dL_row_3 rfl rfl ?_
  refine zg_callV (st := [.int 0, .ref 67]) (k_X8_row h) zY_X8_row lv_L_19 rfl zt_0 rfl (zfit_c (by decide) (by decide)) (Nat.le_of_ble_eq_true rfl) dL_row_4 rfl ?_
  refine zo_last zt_67 (zpJ0 _ _) dL_row_7 ?_
  refine zg_goto (tgt := 14) dL_row_8 (by decide) ?_
  refine zg_iconst dL_row_14 zki_0 ?_
  exact zg_hret dL_row_15
theorem kh_row_thr {v1 : Int32} {M : zM} (h : gx8_row v1 M = some ()) : zKh ztops yL_row cL_row 4 [(0, 8, 11, 13)] 20 [.ref 0, .int v1, .ref 67] M (some (.int 1)) M := by
  refine zKh_of pl_L (Nat.le_of_ble_eq_true rfl) ?_
  show zJ ztops RL cL_row 4 _ 0 0 0 [(0, .ref 0), (1, .int v1), (2, .ref 67)] [] M
  refine zg_aload_n 2 dL_row_0 rfl rfl ?_
  refine zg_iconst dL_row_1 zki_0 ?_
  refine zg_aload_n 0 dL_row_2 rfl rfl ?_
  refine zg_iload_n 1 dL_row_3 rfl rfl ?_
  exact zg_callX (st := [.int 0, .ref 67]) (kx_X8_row h) zY_X8_row lv_L_19 rfl zt_0 rfl ⟨by decide, by decide⟩ (Nat.le_of_ble_eq_true rfl) dL_row_4 rfl (by decide) ⟨_, rfl⟩ ⟨1, dL_row_12, dL_row_13, Or.inr ⟨3, by decide, rfl, dL_row_11⟩⟩
