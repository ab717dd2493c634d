set_option maxRecDepth 20000 in
set_option maxHeartbeats 4000000 in
theorem g8_hangs_110 {r1 : Int32} {Mr : zM} : ∀ (v3 : Int32) (v4 : Int32) (M : zM), f8_hangs_110 v3 v4 M = some (r1, Mr) → zJ ztops RX8 cX8_hangs 9 (zBm ztops 3 (some .int) (some (.int r1)) Mr) 0 0 110 [(0, .ref 0), (3, .int v3), (4, .int v4)] [] M := by
  intro v3 v4 M h
  rw [f8_hangs_110] at h
  refine zg_aload_n 0 dX8_hangs_110 rfl rfl ?_
  refine zo_getr 9 8 rfl fl_X8_32 zt_0 rfl dX8_hangs_111 ?_
  refine zg_iload_n 1 dX8_hangs_114 rfl rfl ?_
  refine zg_i2l dX8_hangs_115 ?_
  refine zg_iload 2 dX8_hangs_116 rfl ?_
  refine zg_i2l dX8_hangs_118 ?_
  obtain ⟨M1, hM1, h⟩ := z_bind h
  refine zg_callV (st := []) (k_X3_tell_ hM1) zY_X3_tell_ lv_X8_194 rfl zt_9 rfl (zfit_m (by decide) (by decide)) (Nat.le_of_ble_eq_true rfl) dX8_hangs_119 rfl ?_
  refine zg_iload_n 1 dX8_hangs_122 rfl rfl ?_
  refine zg_iconst dX8_hangs_123 zki_1 ?_
  suffices hj : zJ ztops RX8 cX8_hangs 9 (zBm ztops 3 (some .int) (some (.int r1)) Mr) 0 0 132 [(0, .ref 0), (3, .int v3), (4, .int v4)] [.int (if v3 = (1 : Int32) then (1 : Int32) else (0 : Int32))] M1 by
    refine zg_icmp_ne (tgt := 131) dX8_hangs_124 (by decide) (fun hc => ?_) (fun hc => ?_)
    · rw [show (if v3 = (1 : Int32) then (1 : Int32) else (0 : Int32)) = (0 : Int32) from if_neg hc] at hj
      refine zg_iconst dX8_hangs_131 zki_0 ?_
      exact hj
    · rw [show (if v3 = (1 : Int32) then (1 : Int32) else (0 : Int32)) = (1 : Int32) from if_pos hc] at hj
      refine zg_iconst dX8_hangs_127 zki_1 ?_
      refine zg_goto (tgt := 132) dX8_hangs_128 (by decide) ?_
      exact hj
  obtain ⟨rfl, rfl⟩ := z_ret2 h
  exact zg_iret dX8_hangs_132
set_option maxRecDepth 20000 in
set_option maxHeartbeats 4000000 in
theorem g8_hangs_29 {r1 : Int32} {Mr : zM} : ∀ (n : Nat) (v1 : Int32) (v2 : Int32) (v3 : Int32) (v4 : Int32) (v5 : Int32) (M : zM), f8_hangs_29 n v1 v2 v3 v4 v5 M = some (r1, Mr) → zJ ztops RX8 cX8_hangs 9 (zBm ztops 3 (some .int) (some (.int r1)) Mr) 0 0 29 [(0, .ref 0), (1, .int v1), (2, .int v2), (3, .int v3), (4, .int v4), (5, .int v5)] [] M := by
  intro n
  induction n with
  | zero => intro v1 v2 v3 v4 v5 M h; cases h
  | succ n ih =>
    intro v1 v2 v3 v4 v5 M h
    rw [f8_hangs_29] at h
    refine zg_iload 5 dX8_hangs_29 rfl ?_
    refine zg_bipush dX8_hangs_31 zkb_12 ?_
    refine zg_icmp_ge (tgt := 110) dX8_hangs_33 (by decide) (fun hc => ?_) (fun hc => ?_)
    · replace h := (if_pos hc).symm.trans h
      refine zo_sub (ls' := [(0, .ref 0), (3, .int v3), (4, .int v4)]) [0, 3, 4] rfl ?_
      exact g8_hangs_110 _ _ _ h
    · replace h := (if_neg hc).symm.trans h
      refine zg_iload_n 2 dX8_hangs_36 rfl rfl ?_
      refine zg_if_eq (tgt := 110) dX8_hangs_37 (by decide) (fun hc => ?_) (fun hc => ?_)
      · replace h := (if_pos hc).symm.trans h
        refine zo_sub (ls' := [(0, .ref 0), (3, .int v3), (4, .int v4)]) [0, 3, 4] rfl ?_
        exact g8_hangs_110 _ _ _ h
      · replace h := (if_neg hc).symm.trans h
        refine zg_iload_n 2 dX8_hangs_40 rfl rfl ?_
        refine zg_iload_n 2 dX8_hangs_41 rfl rfl ?_
        refine zg_ineg dX8_hangs_42 ?_
        refine zg_iand dX8_hangs_43 ?_
        refine zg_istore (ls' := [(0, .ref 0), (1, .int v1), (2, .int v2), (3, .int v3), (4, .int v4), (5, .int v5), (6, .int (v2 &&& (-v2)))]) dX8_hangs_44 (Nat.le_of_ble_eq_true rfl) rfl ?_
        refine zg_iload 6 dX8_hangs_46 rfl ?_
        refine zg_iload_n 1 dX8_hangs_48 rfl rfl ?_
        refine zg_aload_n 0 dX8_hangs_49 rfl rfl ?_
        refine zo_getr 21 20 rfl fl_X8_49 zt_0 rfl dX8_hangs_50 ?_
        refine zo_getr 22 0 rfl fl_X8_265 zt_21 rfl dX8_hangs_53 ?_
        obtain ⟨x1, hx1, h⟩ := z_bind h
        refine zg_callS (st := []) (k_X0_reached zt_22 hx1) zY_X0_reached ls_X8_269 rfl (zfit_m (by decide) (by decide)) (Nat.le_of_ble_eq_true rfl) dX8_hangs_56 rfl ?_
        refine zg_istore (ls' := [(0, .ref 0), (1, .int v1), (2, .int v2), (3, .int v3), (4, .int v4), (5, .int v5), (6, .int (v2 &&& (-v2))), (7, .int x1)]) dX8_hangs_59 (Nat.le_of_ble_eq_true rfl) rfl ?_
        refine zg_iload 7 dX8_hangs_61 rfl ?_
        refine zg_iload 6 dX8_hangs_63 rfl ?_
        refine zg_iload_n 1 dX8_hangs_65 rfl rfl ?_
        refine zg_aload_n 0 dX8_hangs_66 rfl rfl ?_
        refine zo_getr 21 20 rfl fl_X8_49 zt_0 rfl dX8_hangs_67 ?_
        refine zo_getr 23 1 rfl fl_X8_273 zt_21 rfl dX8_hangs_70 ?_
        obtain ⟨x2, hx2, h⟩ := z_bind h
        refine zg_callS (st := [.int x1]) (k_X0_reached zt_23 hx2) zY_X0_reached ls_X8_269 rfl (zfit_m (by decide) (by decide)) (Nat.le_of_ble_eq_true rfl) dX8_hangs_73 rfl ?_
        refine zg_iand dX8_hangs_76 ?_
        refine zg_istore (ls' := [(0, .ref 0), (1, .int v1), (2, .int v2), (3, .int v3), (4, .int v4), (5, .int v5), (6, .int (v2 &&& (-v2))), (7, .int x1), (8, .int (x1 &&& x2))]) dX8_hangs_77 (Nat.le_of_ble_eq_true rfl) rfl ?_
        refine zg_iinc (ls' := [(0, .ref 0), (1, .int v1), (2, .int v2), (3, .int (v3 + (1 : Int32))), (4, .int v4), (5, .int v5), (6, .int (v2 &&& (-v2))), (7, .int x1), (8, .int (x1 &&& x2))]) 3 dX8_hangs_79 rfl zki_1 (Nat.le_of_ble_eq_true rfl) rfl ?_
        refine zg_iload 7 dX8_hangs_82 rfl ?_
        refine zg_iload_n 1 dX8_hangs_84 rfl rfl ?_
        suffices hj : zJ ztops RX8 cX8_hangs 9 (zBm ztops 3 (some .int) (some (.int r1)) Mr) 0 0 95 [(0, .ref 0), (1, .int v1), (2, .int v2), (3, .int (v3 + (1 : Int32))), (4, .int v4), (5, .int v5), (6, .int (v2 &&& (-v2))), (7, .int x1), (8, .int (x1 &&& x2))] [.int (if x1 = v1 then (x1 &&& x2) else v4)] M by
          refine zg_icmp_ne (tgt := 93) dX8_hangs_85 (by decide) (fun hc => ?_) (fun hc => ?_)
          · rw [show (if x1 = v1 then (x1 &&& x2) else v4) = v4 from if_neg hc] at hj
            refine zg_iload 4 dX8_hangs_93 rfl ?_
            exact hj
          · rw [show (if x1 = v1 then (x1 &&& x2) else v4) = (x1 &&& x2) from if_pos hc] at hj
            refine zg_iload 8 dX8_hangs_88 rfl ?_
            refine zg_goto (tgt := 95) dX8_hangs_90 (by decide) ?_
            exact hj
        refine zg_istore (ls' := [(0, .ref 0), (1, .int v1), (2, .int v2), (3, .int (v3 + (1 : Int32))), (4, .int (if x1 = v1 then (x1 &&& x2) else v4)), (5, .int v5), (6, .int (v2 &&& (-v2))), (7, .int x1), (8, .int (x1 &&& x2))]) dX8_hangs_95 (Nat.le_of_ble_eq_true rfl) rfl ?_
        refine zg_iload_n 2 dX8_hangs_97 rfl rfl ?_
        refine zg_iload 8 dX8_hangs_98 rfl ?_
        refine zg_iconst dX8_hangs_100 zki_m1 ?_
        refine zg_ixor dX8_hangs_101 ?_
        refine zg_iand dX8_hangs_102 ?_
        refine zg_istore_n (ls' := [(0, .ref 0), (1, .int v1), (2, .int (v2 &&& ((x1 &&& x2) ^^^ (-1 : Int32)))), (3, .int (v3 + (1 : Int32))), (4, .int (if x1 = v1 then (x1 &&& x2) else v4)), (5, .int v5), (6, .int (v2 &&& (-v2))), (7, .int x1), (8, .int (x1 &&& x2))]) dX8_hangs_103 rfl (Nat.le_of_ble_eq_true rfl) rfl ?_
        refine zg_iinc (ls' := [(0, .ref 0), (1, .int v1), (2, .int (v2 &&& ((x1 &&& x2) ^^^ (-1 : Int32)))), (3, .int (v3 + (1 : Int32))), (4, .int (if x1 = v1 then (x1 &&& x2) else v4)), (5, .int (v5 + (1 : Int32))), (6, .int (v2 &&& (-v2))), (7, .int x1), (8, .int (x1 &&& x2))]) 5 dX8_hangs_104 rfl zki_1 (Nat.le_of_ble_eq_true rfl) rfl ?_
        refine zg_goto (tgt := 29) dX8_hangs_107 (by decide) ?_
        refine zo_sub (ls' := [(0, .ref 0), (1, .int v1), (2, .int (v2 &&& ((x1 &&& x2) ^^^ (-1 : Int32)))), (3, .int (v3 + (1 : Int32))), (4, .int (if x1 = v1 then (x1 &&& x2) else v4)), (5, .int (v5 + (1 : Int32)))]) [0, 1, 2, 3, 4, 5] rfl ?_
        exact ih _ _ _ _ _ _ h
set_option maxRecDepth 20000 in
set_option maxHeartbeats 4000000 in
theorem k_X8_hangs {M : zM} {r1 : Int32} {Mr : zM} (h : f8_hangs M = some (r1, Mr)) : zK ztops yX8_hangs cX8_hangs 9 (some .int) 3 [.ref 0] M (some (.int r1)) Mr := by
  refine zK_of pl_X8 (Nat.le_of_ble_eq_true rfl) ?_
  show zJ ztops RX8 cX8_hangs 9 _ 0 0 0 [(0, .ref 0)] [] M
  rw [f8_hangs] at h
  refine zg_aload_n 0 dX8_hangs_0 rfl rfl ?_
  refine zo_getr 1 0 rfl fl_X8_10 zt_0 rfl dX8_hangs_1 ?_
  obtain ⟨x1, hx1, h⟩ := z_bind h
  refine zg_callV (st := []) (k_X7_all zW_1 hx1) zY_X7_all lv_X8_256 rfl zt_1 rfl (zfit_m (by decide) (by decide)) (Nat.le_of_ble_eq_true rfl) dX8_hangs_4 rfl ?_
  refine zg_istore_n (ls' := [(0, .ref 0), (1, .int x1)]) dX8_hangs_7 rfl (Nat.le_of_ble_eq_true rfl) rfl ?_
  refine zg_aload_n 0 dX8_hangs_8 rfl rfl ?_
  refine zo_getr 21 20 rfl fl_X8_49 zt_0 rfl dX8_hangs_9 ?_
  refine zg_aload_n 0 dX8_hangs_12 rfl rfl ?_
  refine zo_getr 1 0 rfl fl_X8_10 zt_0 rfl dX8_hangs_13 ?_
  obtain ⟨M2, hM2, h⟩ := z_bind h
  refine zg_callV (st := []) (k_X0_tie zW_1 hM2) zY_X0_tie lv_X8_262 rfl zt_21 rfl (zfit_m (by decide) (by decide)) (Nat.le_of_ble_eq_true rfl) dX8_hangs_16 rfl ?_
  refine zg_iload_n 1 dX8_hangs_19 rfl rfl ?_
  refine zg_istore_n (ls' := [(0, .ref 0), (1, .int x1), (2, .int x1)]) dX8_hangs_20 rfl (Nat.le_of_ble_eq_true rfl) rfl ?_
  refine zg_iconst dX8_hangs_21 zki_0 ?_
  refine zg_istore_n (ls' := [(0, .ref 0), (1, .int x1), (2, .int x1), (3, .int (0 : Int32))]) dX8_hangs_22 rfl (Nat.le_of_ble_eq_true rfl) rfl ?_
  refine zg_iconst dX8_hangs_23 zki_0 ?_
  refine zg_istore (ls' := [(0, .ref 0), (1, .int x1), (2, .int x1), (3, .int (0 : Int32)), (4, .int (0 : Int32))]) dX8_hangs_24 (Nat.le_of_ble_eq_true rfl) rfl ?_
  refine zg_iconst dX8_hangs_26 zki_0 ?_
  refine zg_istore (ls' := [(0, .ref 0), (1, .int x1), (2, .int x1), (3, .int (0 : Int32)), (4, .int (0 : Int32)), (5, .int (0 : Int32))]) dX8_hangs_27 (Nat.le_of_ble_eq_true rfl) rfl ?_
  exact g8_hangs_29 zfuel _ _ _ _ _ _ h
set_option maxRecDepth 20000 in
set_option maxHeartbeats 4000000 in
theorem g8_spares_60 {r1 : Int32} {Mr : zM} {k23 : Int32 → Int32 → Int32 → zM → Option (Int32 × zM)} (hk23 : ∀ (v1 : Int32) (v2 : Int32) (v3 : Int32) (M : zM), k23 v1 v2 v3 M = some (r1, Mr) → zJ ztops RX8 cX8_spares 5 (zBm ztops 4 (some .int) (some (.int r1)) Mr) 0 0 23 [(0, .ref 0), (1, .int v1), (2, .int v2), (3, .int v3)] [] M) : ∀ (v1 : Int32) (v2 : Int32) (v3 : Int32) (M : zM), f8_spares_60 k23 v1 v2 v3 M = some (r1, Mr) → zJ ztops RX8 cX8_spares 5 (zBm ztops 4 (some .int) (some (.int r1)) Mr) 0 0 60 [(0, .ref 0), (1, .int v1), (2, .int v2), (3, .int v3)] [] M := by
  intro v1 v2 v3 M h
  rw [f8_spares_60] at h
  refine zg_iinc (ls' := [(0, .ref 0), (1, .int v1), (2, .int v2), (3, .int (v3 + (1 : Int32)))]) 3 dX8_spares_60 rfl zki_1 (Nat.le_of_ble_eq_true rfl) rfl ?_
  refine zg_goto (tgt := 23) dX8_spares_63 (by decide) ?_
  exact hk23 _ _ _ _ h
set_option maxRecDepth 20000 in
set_option maxHeartbeats 4000000 in
theorem g8_spares_23 {r1 : Int32} {Mr : zM} : ∀ (n : Nat) (v1 : Int32) (v2 : Int32) (v3 : Int32) (M : zM), f8_spares_23 n v1 v2 v3 M = some (r1, Mr) → zJ ztops RX8 cX8_spares 5 (zBm ztops 4 (some .int) (some (.int r1)) Mr) 0 0 23 [(0, .ref 0), (1, .int v1), (2, .int v2), (3, .int v3)] [] M := by
  intro n
  induction n with
  | zero => intro v1 v2 v3 M h; cases h
  | succ n ih =>
    intro v1 v2 v3 M h
    rw [f8_spares_23] at h
    refine zg_iload_n 3 dX8_spares_23 rfl rfl ?_
    refine zg_bipush dX8_spares_24 zkb_12 ?_
    refine zg_icmp_ge (tgt := 66) dX8_spares_26 (by decide) (fun hc => ?_) (fun hc => ?_)
    · replace h := (if_pos hc).symm.trans h
      refine zg_aload_n 0 dX8_spares_66 rfl rfl ?_
      refine zo_getr 9 8 rfl fl_X8_32 zt_0 rfl dX8_spares_67 ?_
      refine zg_iload_n 2 dX8_spares_70 rfl rfl ?_
      obtain ⟨x1, hx1, h⟩ := z_bind h
      refine zg_callS (st := [.ref 9]) (k_J6_bitCount_0f7a4 hx1) zY_J6_bitCount_0f7a4 ls_X8_225 rfl (zfit_m (by decide) (by decide)) (Nat.le_of_ble_eq_true rfl) dX8_spares_71 rfl ?_
      refine zg_i2l dX8_spares_74 ?_
      obtain ⟨M2, hM2, h⟩ := z_bind h
      refine zg_callV (st := []) (k_X3_tell hM2) zY_X3_tell lv_X8_207 rfl zt_9 rfl (zfit_m (by decide) (by decide)) (Nat.le_of_ble_eq_true rfl) dX8_spares_75 rfl ?_
      refine zg_iload_n 2 dX8_spares_78 rfl rfl ?_
      obtain ⟨rfl, rfl⟩ := z_ret2 h
      exact zg_iret dX8_spares_79
    · replace h := (if_neg hc).symm.trans h
      refine zg_iconst dX8_spares_29 zki_1 ?_
      refine zg_iload_n 3 dX8_spares_30 rfl rfl ?_
      refine zg_ishl dX8_spares_31 ?_
      refine zg_istore (ls' := [(0, .ref 0), (1, .int v1), (2, .int v2), (3, .int v3), (4, .int (zshl (1 : Int32) v3))]) dX8_spares_32 (Nat.le_of_ble_eq_true rfl) rfl ?_
      refine zg_iload_n 1 dX8_spares_34 rfl rfl ?_
      refine zg_iload 4 dX8_spares_35 rfl ?_
      refine zg_iand dX8_spares_37 ?_
      refine zg_if_eq (tgt := 60) dX8_spares_38 (by decide) (fun hc => ?_) (fun hc => ?_)
      · replace h := (if_pos hc).symm.trans h
        refine zo_sub (ls' := [(0, .ref 0), (1, .int v1), (2, .int v2), (3, .int v3)]) [0, 1, 2, 3] rfl ?_
        exact g8_spares_60 (fun u0 u1 u2 u3 h => ih u0 u1 u2 u3 h) _ _ _ _ h
      · replace h := (if_neg hc).symm.trans h
        refine zg_aload_n 0 dX8_spares_41 rfl rfl ?_
        refine zo_getr 21 20 rfl fl_X8_49 zt_0 rfl dX8_spares_42 ?_
        refine zg_iload_n 1 dX8_spares_45 rfl rfl ?_
        refine zg_iload 4 dX8_spares_46 rfl ?_
        refine zg_ixor dX8_spares_48 ?_
        obtain ⟨x1, hx1, h⟩ := z_bind h
        refine zg_callV (st := []) (k_X0_areTogether hx1) zY_X0_areTogether lv_X8_276 rfl zt_21 rfl (zfit_m (by decide) (by decide)) (Nat.le_of_ble_eq_true rfl) dX8_spares_49 rfl ?_
        refine zg_if_eq (tgt := 60) dX8_spares_52 (by decide) (fun hc => ?_) (fun hc => ?_)
        · replace h := (if_pos hc).symm.trans h
          refine zo_sub (ls' := [(0, .ref 0), (1, .int v1), (2, .int v2), (3, .int v3)]) [0, 1, 2, 3] rfl ?_
          exact g8_spares_60 (fun u0 u1 u2 u3 h => ih u0 u1 u2 u3 h) _ _ _ _ h
        · replace h := (if_neg hc).symm.trans h
          refine zg_iload_n 2 dX8_spares_55 rfl rfl ?_
          refine zg_iload 4 dX8_spares_56 rfl ?_
          refine zg_ior dX8_spares_58 ?_
          refine zg_istore_n (ls' := [(0, .ref 0), (1, .int v1), (2, .int (v2 ||| (zshl (1 : Int32) v3))), (3, .int v3), (4, .int (zshl (1 : Int32) v3))]) dX8_spares_59 rfl (Nat.le_of_ble_eq_true rfl) rfl ?_
          refine zo_sub (ls' := [(0, .ref 0), (1, .int v1), (2, .int (v2 ||| (zshl (1 : Int32) v3))), (3, .int v3)]) [0, 1, 2, 3] rfl ?_
          exact g8_spares_60 (fun u0 u1 u2 u3 h => ih u0 u1 u2 u3 h) _ _ _ _ h
set_option maxRecDepth 20000 in
set_option maxHeartbeats 4000000 in
theorem k_X8_spares {M : zM} {r1 : Int32} {Mr : zM} (h : f8_spares M = some (r1, Mr)) : zK ztops yX8_spares cX8_spares 5 (some .int) 4 [.ref 0] M (some (.int r1)) Mr := by
  refine zK_of pl_X8 (Nat.le_of_ble_eq_true rfl) ?_
  show zJ ztops RX8 cX8_spares 5 _ 0 0 0 [(0, .ref 0)] [] M
  rw [f8_spares] at h
  refine zg_aload_n 0 dX8_spares_0 rfl rfl ?_
  refine zo_getr 1 0 rfl fl_X8_10 zt_0 rfl dX8_spares_1 ?_
  obtain ⟨x1, hx1, h⟩ := z_bind h
  refine zg_callV (st := []) (k_X7_all zW_1 hx1) zY_X7_all lv_X8_256 rfl zt_1 rfl (zfit_m (by decide) (by decide)) (Nat.le_of_ble_eq_true rfl) dX8_spares_4 rfl ?_
  refine zg_istore_n (ls' := [(0, .ref 0), (1, .int x1)]) dX8_spares_7 rfl (Nat.le_of_ble_eq_true rfl) rfl ?_
  refine zg_iconst dX8_spares_8 zki_0 ?_
  refine zg_istore_n (ls' := [(0, .ref 0), (1, .int x1), (2, .int (0 : Int32))]) dX8_spares_9 rfl (Nat.le_of_ble_eq_true rfl) rfl ?_
  refine zg_aload_n 0 dX8_spares_10 rfl rfl ?_
  refine zo_getr 21 20 rfl fl_X8_49 zt_0 rfl dX8_spares_11 ?_
  refine zg_aload_n 0 dX8_spares_14 rfl rfl ?_
  refine zo_getr 1 0 rfl fl_X8_10 zt_0 rfl dX8_spares_15 ?_
  obtain ⟨M2, hM2, h⟩ := z_bind h
  refine zg_callV (st := []) (k_X0_tie zW_1 hM2) zY_X0_tie lv_X8_262 rfl zt_21 rfl (zfit_m (by decide) (by decide)) (Nat.le_of_ble_eq_true rfl) dX8_spares_18 rfl ?_
  refine zg_iconst dX8_spares_21 zki_0 ?_
  refine zg_istore_n (ls' := [(0, .ref 0), (1, .int x1), (2, .int (0 : Int32)), (3, .int (0 : Int32))]) dX8_spares_22 rfl (Nat.le_of_ble_eq_true rfl) rfl ?_
  exact g8_spares_23 zfuel _ _ _ _ h
set_option maxRecDepth 20000 in
set_option maxHeartbeats 4000000 in
theorem g8_mends_156 {r1 : Int32} {Mr : zM} {k64 : Int32 → Int32 → zM → Option (Int32 × zM)} (hk64 : ∀ (v1 : Int32) (v3 : Int32) (M : zM), k64 v1 v3 M = some (r1, Mr) → zJ ztops RX8 cX8_mends 5 (zBm ztops 5 (some .int) (some (.int r1)) Mr) 0 0 64 [(0, .ref 0), (1, .int v1), (3, .int v3)] [] M) : ∀ (v1 : Int32) (v3 : Int32) (M : zM), f8_mends_156 k64 v1 v3 M = some (r1, Mr) → zJ ztops RX8 cX8_mends 5 (zBm ztops 5 (some .int) (some (.int r1)) Mr) 0 0 156 [(0, .ref 0), (1, .int v1), (3, .int v3)] [] M := by
  intro v1 v3 M h
  rw [f8_mends_156] at h
  refine zg_iinc (ls' := [(0, .ref 0), (1, .int v1), (3, .int (v3 + (1 : Int32)))]) 2 dX8_mends_156 rfl zki_1 (Nat.le_of_ble_eq_true rfl) rfl ?_
  refine zg_goto (tgt := 64) dX8_mends_159 (by decide) ?_
  exact hk64 _ _ _ h
set_option maxRecDepth 20000 in
set_option maxHeartbeats 4000000 in
theorem g8_mends_64 {r1 : Int32} {Mr : zM} : ∀ (n : Nat) (v1 : Int32) (v3 : Int32) (M : zM), f8_mends_64 n v1 v3 M = some (r1, Mr) → zJ ztops RX8 cX8_mends 5 (zBm ztops 5 (some .int) (some (.int r1)) Mr) 0 0 64 [(0, .ref 0), (1, .int v1), (3, .int v3)] [] M := by
  intro n
  induction n with
  | zero => intro v1 v3 M h; cases h
  | succ n ih =>
    intro v1 v3 M h
    rw [f8_mends_64] at h
    refine zg_iload_n 2 dX8_mends_64 rfl rfl ?_
    refine zg_bipush dX8_mends_65 zkb_6 ?_
    refine zg_aload_n 0 dX8_mends_67 rfl rfl ?_
    refine zo_getr 1 0 rfl fl_X8_10 zt_0 rfl dX8_mends_68 ?_
    refine zg_geti fl_X8_100 zt_1 rfl dX8_mends_71 ?_
    refine zg_imul dX8_mends_74 ?_
    refine zg_icmp_ge (tgt := 162) dX8_mends_75 (by decide) (fun hc => ?_) (fun hc => ?_)
    · replace h := (if_pos hc).symm.trans h
      refine zg_bipush dX8_mends_162 zkb_m2 ?_
      obtain ⟨rfl, rfl⟩ := z_ret2 h
      exact zg_iret dX8_mends_164
    · replace h := (if_neg hc).symm.trans h
      refine zg_aload_n 0 dX8_mends_78 rfl rfl ?_
      refine zo_getr 1 0 rfl fl_X8_10 zt_0 rfl dX8_mends_79 ?_
      refine zg_iload_n 2 dX8_mends_82 rfl rfl ?_
      refine zg_bipush dX8_mends_83 zkb_6 ?_
      refine zg_idiv (by decide) dX8_mends_85 ?_
      refine zg_iload_n 2 dX8_mends_86 rfl rfl ?_
      refine zg_bipush dX8_mends_87 zkb_6 ?_
      refine zg_irem (by decide) dX8_mends_89 ?_
      obtain ⟨x1, hx1, h⟩ := z_bind h
      refine zg_callV (st := []) (k_X7_crosses zW_1 hx1) zY_X7_crosses lv_X8_107 rfl zt_1 rfl (zfit_m (by decide) (by decide)) (Nat.le_of_ble_eq_true rfl) dX8_mends_90 rfl ?_
      refine zg_if_eq (tgt := 156) dX8_mends_93 (by decide) (fun hc => ?_) (fun hc => ?_)
      · replace h := (if_pos hc).symm.trans h
        exact g8_mends_156 (fun u0 u1 u2 h => ih u0 u1 u2 h) _ _ _ h
      · replace h := (if_neg hc).symm.trans h
        refine zg_aload_n 0 dX8_mends_96 rfl rfl ?_
        refine zo_getr 21 20 rfl fl_X8_49 zt_0 rfl dX8_mends_97 ?_
        refine zg_iload_n 2 dX8_mends_100 rfl rfl ?_
        refine zg_bipush dX8_mends_101 zkb_6 ?_
        refine zg_idiv (by decide) dX8_mends_103 ?_
        refine zg_iload_n 2 dX8_mends_104 rfl rfl ?_
        refine zg_bipush dX8_mends_105 zkb_6 ?_
        refine zg_irem (by decide) dX8_mends_107 ?_
        obtain ⟨M2, hM2, h⟩ := z_bind h
        refine zg_callV (st := []) (k_X0_turn hM2) zY_X0_turn lv_X8_282 rfl zt_21 rfl (zfit_m (by decide) (by decide)) (Nat.le_of_ble_eq_true rfl) dX8_mends_108 rfl ?_
        refine zg_aload_n 0 dX8_mends_111 rfl rfl ?_
        refine zg_iload_n 2 dX8_mends_112 rfl rfl ?_
        refine zg_iconst dX8_mends_113 zki_1 ?_
        refine zg_iadd dX8_mends_114 ?_
        refine zg_iload_n 1 dX8_mends_115 rfl rfl ?_
        obtain ⟨p3, hp3, h⟩ := z_bind h
        refine zg_callV (st := []) (k_X8_mendingCell hp3) zY_X8_mendingCell lv_X8_279 rfl zt_0 rfl (zfit_m (by decide) (by decide)) (Nat.le_of_ble_eq_true rfl) dX8_mends_116 rfl ?_
        refine zg_istore (ls' := [(0, .ref 0), (1, .int v1), (3, .int v3), (4, .int p3.1)]) dX8_mends_119 (Nat.le_of_ble_eq_true rfl) rfl ?_
        refine zg_aload_n 0 dX8_mends_121 rfl rfl ?_
        refine zo_getr 21 20 rfl fl_X8_49 zt_0 rfl dX8_mends_122 ?_
        refine zg_iload_n 2 dX8_mends_125 rfl rfl ?_
        refine zg_bipush dX8_mends_126 zkb_6 ?_
        refine zg_idiv (by decide) dX8_mends_128 ?_
        refine zg_iload_n 2 dX8_mends_129 rfl rfl ?_
        refine zg_bipush dX8_mends_130 zkb_6 ?_
        refine zg_irem (by decide) dX8_mends_132 ?_
        obtain ⟨M4, hM4, h⟩ := z_bind h
        refine zg_callV (st := []) (k_X0_turn hM4) zY_X0_turn lv_X8_282 rfl zt_21 rfl (zfit_m (by decide) (by decide)) (Nat.le_of_ble_eq_true rfl) dX8_mends_133 rfl ?_
        refine zg_iload 3 dX8_mends_136 rfl ?_
        refine zg_iconst dX8_mends_138 zki_m1 ?_
        refine zg_icmp_eq (tgt := 156) dX8_mends_139 (by decide) (fun hc => ?_) (fun hc => ?_)
        · replace h := (if_pos hc).symm.trans h
          refine zo_sub (ls' := [(0, .ref 0), (1, .int v1), (3, .int v3)]) [0, 1, 2] rfl ?_
          exact g8_mends_156 (fun u0 u1 u2 h => ih u0 u1 u2 h) _ _ _ h
        · replace h := (if_neg hc).symm.trans h
          refine zg_aload_n 0 dX8_mends_142 rfl rfl ?_
          refine zo_getr 9 8 rfl fl_X8_32 zt_0 rfl dX8_mends_143 ?_
          refine zg_iload_n 2 dX8_mends_146 rfl rfl ?_
          refine zg_i2l dX8_mends_147 ?_
          refine zg_iload 3 dX8_mends_148 rfl ?_
          refine zg_i2l dX8_mends_150 ?_
          obtain ⟨M5, hM5, h⟩ := z_bind h
          refine zg_callV (st := []) (k_X3_tell_ hM5) zY_X3_tell_ lv_X8_194 rfl zt_9 rfl (zfit_m (by decide) (by decide)) (Nat.le_of_ble_eq_true rfl) dX8_mends_151 rfl ?_
          refine zg_iconst dX8_mends_154 zki_2 ?_
          obtain ⟨rfl, rfl⟩ := z_ret2 h
          exact zg_iret dX8_mends_155
set_option maxRecDepth 20000 in
set_option maxHeartbeats 4000000 in
theorem k_X8_mends {M : zM} {r1 : Int32} {Mr : zM} (h : f8_mends M = some (r1, Mr)) : zK ztops yX8_mends cX8_mends 5 (some .int) 5 [.ref 0] M (some (.int r1)) Mr := by
  refine zK_of pl_X8 (Nat.le_of_ble_eq_true rfl) ?_
  show zJ ztops RX8 cX8_mends 5 _ 0 0 0 [(0, .ref 0)] [] M
  rw [f8_mends] at h
  refine zg_aload_n 0 dX8_mends_0 rfl rfl ?_
  refine zo_getr 1 0 rfl fl_X8_10 zt_0 rfl dX8_mends_1 ?_
  obtain ⟨x1, hx1, h⟩ := z_bind h
  refine zg_callV (st := []) (k_X7_all zW_1 hx1) zY_X7_all lv_X8_256 rfl zt_1 rfl (zfit_m (by decide) (by decide)) (Nat.le_of_ble_eq_true rfl) dX8_mends_4 rfl ?_
  refine zg_istore_n (ls' := [(0, .ref 0), (1, .int x1)]) dX8_mends_7 rfl (Nat.le_of_ble_eq_true rfl) rfl ?_
  refine zg_aload_n 0 dX8_mends_8 rfl rfl ?_
  refine zo_getr 21 20 rfl fl_X8_49 zt_0 rfl dX8_mends_9 ?_
  refine zg_aload_n 0 dX8_mends_12 rfl rfl ?_
  refine zo_getr 1 0 rfl fl_X8_10 zt_0 rfl dX8_mends_13 ?_
  obtain ⟨M2, hM2, h⟩ := z_bind h
  refine zg_callV (st := []) (k_X0_tie zW_1 hM2) zY_X0_tie lv_X8_262 rfl zt_21 rfl (zfit_m (by decide) (by decide)) (Nat.le_of_ble_eq_true rfl) dX8_mends_16 rfl ?_
  refine zg_aload_n 0 dX8_mends_19 rfl rfl ?_
  refine zo_getr 21 20 rfl fl_X8_49 zt_0 rfl dX8_mends_20 ?_
  refine zg_iload_n 1 dX8_mends_23 rfl rfl ?_
  obtain ⟨x3, hx3, h⟩ := z_bind h
  refine zg_callV (st := []) (k_X0_areTogether hx3) zY_X0_areTogether lv_X8_276 rfl zt_21 rfl (zfit_m (by decide) (by decide)) (Nat.le_of_ble_eq_true rfl) dX8_mends_24 rfl ?_
  refine zg_if_eq (tgt := 39) dX8_mends_27 (by decide) (fun hc => ?_) (fun hc => ?_)
  · replace h := (if_pos hc).symm.trans h
    refine zg_aload_n 0 dX8_mends_39 rfl rfl ?_
    refine zg_iconst dX8_mends_40 zki_0 ?_
    refine zg_iload_n 1 dX8_mends_41 rfl rfl ?_
    obtain ⟨p4, hp4, h⟩ := z_bind h
    refine zg_callV (st := []) (k_X8_mendingCell hp4) zY_X8_mendingCell lv_X8_279 rfl zt_0 rfl (zfit_m (by decide) (by decide)) (Nat.le_of_ble_eq_true rfl) dX8_mends_42 rfl ?_
    refine zg_istore_n (ls' := [(0, .ref 0), (1, .int x1), (2, .int p4.1)]) dX8_mends_45 rfl (Nat.le_of_ble_eq_true rfl) rfl ?_
    refine zg_iload_n 2 dX8_mends_46 rfl rfl ?_
    refine zg_iconst dX8_mends_47 zki_m1 ?_
    refine zg_icmp_eq (tgt := 62) dX8_mends_48 (by decide) (fun hc => ?_) (fun hc => ?_)
    · replace h := (if_pos hc).symm.trans h
      refine zg_iconst dX8_mends_62 zki_0 ?_
      refine zg_istore_n (ls' := [(0, .ref 0), (1, .int x1), (2, .int p4.1), (3, .int (0 : Int32))]) dX8_mends_63 rfl (Nat.le_of_ble_eq_true rfl) rfl ?_
      refine zo_sub (ls' := [(0, .ref 0), (1, .int x1), (3, .int (0 : Int32))]) [0, 1, 3] rfl ?_
      exact g8_mends_64 zfuel _ _ _ h
    · replace h := (if_neg hc).symm.trans h
      refine zg_aload_n 0 dX8_mends_51 rfl rfl ?_
      refine zo_getr 9 8 rfl fl_X8_32 zt_0 rfl dX8_mends_52 ?_
      refine zg_iload_n 2 dX8_mends_55 rfl rfl ?_
      refine zg_i2l dX8_mends_56 ?_
      obtain ⟨M5, hM5, h⟩ := z_bind h
      refine zg_callV (st := []) (k_X3_tell hM5) zY_X3_tell lv_X8_207 rfl zt_9 rfl (zfit_m (by decide) (by decide)) (Nat.le_of_ble_eq_true rfl) dX8_mends_57 rfl ?_
      refine zg_iconst dX8_mends_60 zki_1 ?_
      obtain ⟨rfl, rfl⟩ := z_ret2 h
      exact zg_iret dX8_mends_61
  · replace h := (if_neg hc).symm.trans h
    refine zg_aload_n 0 dX8_mends_30 rfl rfl ?_
    refine zo_getr 9 8 rfl fl_X8_32 zt_0 rfl dX8_mends_31 ?_
    obtain ⟨M4, hM4, h⟩ := z_bind h
    refine zg_callV (st := []) (k_X3_clear hM4) zY_X3_clear lv_X8_222 rfl zt_9 rfl (zfit_m (by decide) (by decide)) (Nat.le_of_ble_eq_true rfl) dX8_mends_34 rfl ?_
    refine zg_iconst dX8_mends_37 zki_0 ?_
    obtain ⟨rfl, rfl⟩ := z_ret2 h
    exact zg_iret dX8_mends_38
set_option maxRecDepth 20000 in
set_option maxHeartbeats 4000000 in
theorem g8_endures_96 {r1 : Int32} {Mr : zM} : ∀ (v1 : Int32) (v2 : Int32) (v3 : Int32) (M : zM), f8_endures_96 v1 v2 v3 M = some (r1, Mr) → zJ ztops RX8 cX8_endures 7 (zBm ztops 5 (some .int) (some (.int r1)) Mr) 0 0 96 [(0, .ref 0), (1, .int v1), (2, .int v2), (3, .int v3)] [] M := by
  intro v1 v2 v3 M h
  rw [f8_endures_96] at h
  refine zg_aload_n 0 dX8_endures_96 rfl rfl ?_
  refine zo_getr 9 8 rfl fl_X8_32 zt_0 rfl dX8_endures_97 ?_
  refine zg_iload_n 3 dX8_endures_100 rfl rfl ?_
  refine zg_i2l dX8_endures_101 ?_
  refine zg_aload_n 0 dX8_endures_102 rfl rfl ?_
  refine zo_getr 21 20 rfl fl_X8_49 zt_0 rfl dX8_endures_103 ?_
  refine zg_iload_n 1 dX8_endures_106 rfl rfl ?_
  obtain ⟨p1, hp1, h⟩ := z_bind h
  refine zg_callV (st := [.long (Int32.toInt64 v3), .ref 9]) (k_X0_longestTaking hp1) zY_X0_longestTaking lv_X8_297 rfl zt_21 rfl (zfit_m (by decide) (by decide)) (Nat.le_of_ble_eq_true rfl) dX8_endures_107 rfl ?_
  refine zg_i2l dX8_endures_110 ?_
  obtain ⟨M2, hM2, h⟩ := z_bind h
  refine zg_callV (st := []) (k_X3_tell_ hM2) zY_X3_tell_ lv_X8_194 rfl zt_9 rfl (zfit_m (by decide) (by decide)) (Nat.le_of_ble_eq_true rfl) dX8_endures_111 rfl ?_
  refine zg_iload_n 2 dX8_endures_114 rfl rfl ?_
  obtain ⟨rfl, rfl⟩ := z_ret2 h
  exact zg_iret dX8_endures_115
set_option maxRecDepth 20000 in
set_option maxHeartbeats 4000000 in
theorem g8_endures_74 {r1 : Int32} {Mr : zM} {k30 : Int32 → Int32 → Int32 → Int32 → Int32 → zM → Option (Int32 × zM)} (hk30 : ∀ (v1 : Int32) (v2 : Int32) (v3 : Int32) (v4 : Int32) (v5 : Int32) (M : zM), k30 v1 v2 v3 v4 v5 M = some (r1, Mr) → zJ ztops RX8 cX8_endures 7 (zBm ztops 5 (some .int) (some (.int r1)) Mr) 0 0 30 [(0, .ref 0), (1, .int v1), (2, .int v2), (3, .int v3), (4, .int v4), (5, .int v5)] [] M) : ∀ (v1 : Int32) (v2 : Int32) (v3 : Int32) (v4 : Int32) (v5 : Int32) (M : zM), f8_endures_74 k30 v1 v2 v3 v4 v5 M = some (r1, Mr) → zJ ztops RX8 cX8_endures 7 (zBm ztops 5 (some .int) (some (.int r1)) Mr) 0 0 74 [(0, .ref 0), (1, .int v1), (2, .int v2), (3, .int v3), (4, .int v4), (5, .int v5)] [] M := by
  intro v1 v2 v3 v4 v5 M h
  rw [f8_endures_74] at h
  refine zg_iload 4 dX8_endures_74 rfl ?_
  refine zg_iload_n 1 dX8_endures_76 rfl rfl ?_
  refine zg_isub dX8_endures_77 ?_
  refine zg_iload_n 1 dX8_endures_78 rfl rfl ?_
  refine zg_iand dX8_endures_79 ?_
  refine zg_istore (ls' := [(0, .ref 0), (1, .int v1), (2, .int v2), (3, .int v3), (4, .int ((v4 - v1) &&& v1)), (5, .int v5)]) dX8_endures_80 (Nat.le_of_ble_eq_true rfl) rfl ?_
  refine zg_iload 4 dX8_endures_82 rfl ?_
  refine zg_if_ne (tgt := 90) dX8_endures_84 (by decide) (fun hc => ?_) (fun hc => ?_)
  · replace h := (if_neg hc).symm.trans h
    refine zg_iinc (ls' := [(0, .ref 0), (1, .int v1), (2, .int v2), (3, .int v3), (4, .int ((v4 - v1) &&& v1)), (5, .int (v5 + (1 : Int32)))]) 5 dX8_endures_90 rfl zki_1 (Nat.le_of_ble_eq_true rfl) rfl ?_
    refine zg_goto (tgt := 30) dX8_endures_93 (by decide) ?_
    exact hk30 _ _ _ _ _ _ h
  · replace h := (if_pos hc).symm.trans h
    refine zg_goto (tgt := 96) dX8_endures_87 (by decide) ?_
    refine zo_sub (ls' := [(0, .ref 0), (1, .int v1), (2, .int v2), (3, .int v3)]) [0, 1, 2, 3] rfl ?_
    exact g8_endures_96 _ _ _ _ h
set_option maxRecDepth 20000 in
set_option maxHeartbeats 4000000 in
theorem g8_endures_30 {r1 : Int32} {Mr : zM} : ∀ (n : Nat) (v1 : Int32) (v2 : Int32) (v3 : Int32) (v4 : Int32) (v5 : Int32) (M : zM), f8_endures_30 n v1 v2 v3 v4 v5 M = some (r1, Mr) → zJ ztops RX8 cX8_endures 7 (zBm ztops 5 (some .int) (some (.int r1)) Mr) 0 0 30 [(0, .ref 0), (1, .int v1), (2, .int v2), (3, .int v3), (4, .int v4), (5, .int v5)] [] M := by
  intro n
  induction n with
  | zero => intro v1 v2 v3 v4 v5 M h; cases h
  | succ n ih =>
    intro v1 v2 v3 v4 v5 M h
    rw [f8_endures_30] at h
    refine zg_iload 5 dX8_endures_30 rfl ?_
    refine zg_sipush dX8_endures_32 zks_4096 ?_
    refine zg_icmp_ge (tgt := 96) dX8_endures_35 (by decide) (fun hc => ?_) (fun hc => ?_)
    · replace h := (if_pos hc).symm.trans h
      refine zo_sub (ls' := [(0, .ref 0), (1, .int v1), (2, .int v2), (3, .int v3)]) [0, 1, 2, 3] rfl ?_
      exact g8_endures_96 _ _ _ _ h
    · replace h := (if_neg hc).symm.trans h
      refine zg_iload 4 dX8_endures_38 rfl ?_
      obtain ⟨x1, hx1, h⟩ := z_bind h
      refine zg_callS (st := []) (k_J6_bitCount_0f7a4 hx1) zY_J6_bitCount_0f7a4 ls_X8_225 rfl (zfit_m (by decide) (by decide)) (Nat.le_of_ble_eq_true rfl) dX8_endures_40 rfl ?_
      refine zg_istore (ls' := [(0, .ref 0), (1, .int v1), (2, .int v2), (3, .int v3), (4, .int v4), (5, .int v5), (6, .int x1)]) dX8_endures_43 (Nat.le_of_ble_eq_true rfl) rfl ?_
      refine zg_iload 6 dX8_endures_45 rfl ?_
      refine zg_iload_n 2 dX8_endures_47 rfl rfl ?_
      refine zg_icmp_ge (tgt := 74) dX8_endures_48 (by decide) (fun hc => ?_) (fun hc => ?_)
      · replace h := (if_pos hc).symm.trans h
        refine zo_sub (ls' := [(0, .ref 0), (1, .int v1), (2, .int v2), (3, .int v3), (4, .int v4), (5, .int v5)]) [0, 1, 2, 3, 4, 5] rfl ?_
        exact g8_endures_74 (fun u0 u1 u2 u3 u4 u5 h => ih u0 u1 u2 u3 u4 u5 h) _ _ _ _ _ _ h
      · replace h := (if_neg hc).symm.trans h
        refine zg_aload_n 0 dX8_endures_51 rfl rfl ?_
        refine zo_getr 21 20 rfl fl_X8_49 zt_0 rfl dX8_endures_52 ?_
        refine zo_getr 24 2 rfl fl_X8_289 zt_21 rfl dX8_endures_55 ?_
        refine zg_iload_n 1 dX8_endures_58 rfl rfl ?_
        refine zg_iload 4 dX8_endures_59 rfl ?_
        refine zg_ixor dX8_endures_61 ?_
        obtain ⟨x2, hx2, h⟩ := z_bind h
        refine zg_callS (st := []) (k_X0_isIn zt_24 hx2) zY_X0_isIn ls_X8_293 rfl (zfit_m (by decide) (by decide)) (Nat.le_of_ble_eq_true rfl) dX8_endures_62 rfl ?_
        refine zg_if_ne (tgt := 74) dX8_endures_65 (by decide) (fun hc => ?_) (fun hc => ?_)
        · replace h := (if_neg hc).symm.trans h
          refine zo_sub (ls' := [(0, .ref 0), (1, .int v1), (2, .int v2), (3, .int v3), (4, .int v4), (5, .int v5)]) [0, 1, 2, 3, 4, 5] rfl ?_
          exact g8_endures_74 (fun u0 u1 u2 u3 u4 u5 h => ih u0 u1 u2 u3 u4 u5 h) _ _ _ _ _ _ h
        · replace h := (if_pos hc).symm.trans h
          refine zg_iload 6 dX8_endures_68 rfl ?_
          refine zg_istore_n (ls' := [(0, .ref 0), (1, .int v1), (2, .int x1), (3, .int v3), (4, .int v4), (5, .int v5), (6, .int x1)]) dX8_endures_70 rfl (Nat.le_of_ble_eq_true rfl) rfl ?_
          refine zg_iload 4 dX8_endures_71 rfl ?_
          refine zg_istore_n (ls' := [(0, .ref 0), (1, .int v1), (2, .int x1), (3, .int v4), (4, .int v4), (5, .int v5), (6, .int x1)]) dX8_endures_73 rfl (Nat.le_of_ble_eq_true rfl) rfl ?_
          refine zo_sub (ls' := [(0, .ref 0), (1, .int v1), (2, .int x1), (3, .int v4), (4, .int v4), (5, .int v5)]) [0, 1, 2, 3, 4, 5] rfl ?_
          exact g8_endures_74 (fun u0 u1 u2 u3 u4 u5 h => ih u0 u1 u2 u3 u4 u5 h) _ _ _ _ _ _ h
set_option maxRecDepth 20000 in
set_option maxHeartbeats 4000000 in
theorem k_X8_endures {M : zM} {r1 : Int32} {Mr : zM} (h : f8_endures M = some (r1, Mr)) : zK ztops yX8_endures cX8_endures 7 (some .int) 5 [.ref 0] M (some (.int r1)) Mr := by
  refine zK_of pl_X8 (Nat.le_of_ble_eq_true rfl) ?_
  show zJ ztops RX8 cX8_endures 7 _ 0 0 0 [(0, .ref 0)] [] M
  rw [f8_endures] at h
  refine zg_aload_n 0 dX8_endures_0 rfl rfl ?_
  refine zo_getr 21 20 rfl fl_X8_49 zt_0 rfl dX8_endures_1 ?_
  refine zg_aload_n 0 dX8_endures_4 rfl rfl ?_
  refine zo_getr 1 0 rfl fl_X8_10 zt_0 rfl dX8_endures_5 ?_
  obtain ⟨M1, hM1, h⟩ := z_bind h
  refine zg_callV (st := []) (k_X0_tabulate zW_1 hM1) zY_X0_tabulate lv_X8_286 rfl zt_21 rfl (zfit_m (by decide) (by decide)) (Nat.le_of_ble_eq_true rfl) dX8_endures_8 rfl ?_
  refine zg_aload_n 0 dX8_endures_11 rfl rfl ?_
  refine zo_getr 1 0 rfl fl_X8_10 zt_0 rfl dX8_endures_12 ?_
  obtain ⟨x2, hx2, h⟩ := z_bind h
  refine zg_callV (st := []) (k_X7_all zW_1 hx2) zY_X7_all lv_X8_256 rfl zt_1 rfl (zfit_m (by decide) (by decide)) (Nat.le_of_ble_eq_true rfl) dX8_endures_15 rfl ?_
  refine zg_istore_n (ls' := [(0, .ref 0), (1, .int x2)]) dX8_endures_18 rfl (Nat.le_of_ble_eq_true rfl) rfl ?_
  refine zg_bipush dX8_endures_19 zkb_13 ?_
  refine zg_istore_n (ls' := [(0, .ref 0), (1, .int x2), (2, .int (13 : Int32))]) dX8_endures_21 rfl (Nat.le_of_ble_eq_true rfl) rfl ?_
  refine zg_iconst dX8_endures_22 zki_0 ?_
  refine zg_istore_n (ls' := [(0, .ref 0), (1, .int x2), (2, .int (13 : Int32)), (3, .int (0 : Int32))]) dX8_endures_23 rfl (Nat.le_of_ble_eq_true rfl) rfl ?_
  refine zg_iconst dX8_endures_24 zki_0 ?_
  refine zg_istore (ls' := [(0, .ref 0), (1, .int x2), (2, .int (13 : Int32)), (3, .int (0 : Int32)), (4, .int (0 : Int32))]) dX8_endures_25 (Nat.le_of_ble_eq_true rfl) rfl ?_
  refine zg_iconst dX8_endures_27 zki_0 ?_
  refine zg_istore (ls' := [(0, .ref 0), (1, .int x2), (2, .int (13 : Int32)), (3, .int (0 : Int32)), (4, .int (0 : Int32)), (5, .int (0 : Int32))]) dX8_endures_28 (Nat.le_of_ble_eq_true rfl) rfl ?_
  exact g8_endures_30 zfuel _ _ _ _ _ _ h
set_option maxRecDepth 20000 in
set_option maxHeartbeats 4000000 in
theorem g8_differs_130 {r1 : Int32} {Mr : zM} {k92 : Int32 → Int32 → Int32 → Int32 → Int32 → zM → Option (Int32 × zM)} (hk92 : ∀ (v2 : Int32) (v3 : Int32) (v4 : Int32) (v5 : Int32) (v6 : Int32) (M : zM), k92 v2 v3 v4 v5 v6 M = some (r1, Mr) → zJ ztops RX8 cX8_differs 8 (zBm ztops 6 (some .int) (some (.int r1)) Mr) 0 0 92 [(0, .ref 0), (2, .int v2), (3, .int v3), (4, .int v4), (5, .int v5), (6, .int v6)] [] M) : ∀ (v2 : Int32) (v3 : Int32) (v4 : Int32) (v5 : Int32) (v6 : Int32) (M : zM), f8_differs_130 k92 v2 v3 v4 v5 v6 M = some (r1, Mr) → zJ ztops RX8 cX8_differs 8 (zBm ztops 6 (some .int) (some (.int r1)) Mr) 0 0 130 [(0, .ref 0), (2, .int v2), (3, .int v3), (4, .int v4), (5, .int v5), (6, .int v6)] [] M := by
  intro v2 v3 v4 v5 v6 M h
  rw [f8_differs_130] at h
  refine zg_iinc (ls' := [(0, .ref 0), (2, .int v2), (3, .int v3), (4, .int v4), (5, .int v5), (6, .int (v6 + (1 : Int32)))]) 5 dX8_differs_130 rfl zki_1 (Nat.le_of_ble_eq_true rfl) rfl ?_
  refine zg_goto (tgt := 92) dX8_differs_133 (by decide) ?_
  exact hk92 _ _ _ _ _ _ h
set_option maxRecDepth 20000 in
set_option maxHeartbeats 4000000 in
theorem g8_differs_92 {r1 : Int32} {Mr : zM} {k136 : Int32 → Int32 → Int32 → Int32 → zM → Option (Int32 × zM)} (hk136 : ∀ (v2 : Int32) (v3 : Int32) (v4 : Int32) (v5 : Int32) (M : zM), k136 v2 v3 v4 v5 M = some (r1, Mr) → zJ ztops RX8 cX8_differs 8 (zBm ztops 6 (some .int) (some (.int r1)) Mr) 0 0 136 [(0, .ref 0), (2, .int v2), (3, .int v3), (4, .int v4), (5, .int v5)] [] M) : ∀ (n : Nat) (v2 : Int32) (v3 : Int32) (v4 : Int32) (v5 : Int32) (v6 : Int32) (M : zM), f8_differs_92 k136 n v2 v3 v4 v5 v6 M = some (r1, Mr) → zJ ztops RX8 cX8_differs 8 (zBm ztops 6 (some .int) (some (.int r1)) Mr) 0 0 92 [(0, .ref 0), (2, .int v2), (3, .int v3), (4, .int v4), (5, .int v5), (6, .int v6)] [] M := by
  intro n
  induction n with
  | zero => intro v2 v3 v4 v5 v6 M h; cases h
  | succ n ih =>
    intro v2 v3 v4 v5 v6 M h
    rw [f8_differs_92] at h
    refine zg_iload 5 dX8_differs_92 rfl ?_
    refine zg_aload_n 0 dX8_differs_94 rfl rfl ?_
    refine zo_getr 1 0 rfl fl_X8_10 zt_0 rfl dX8_differs_95 ?_
    refine zg_geti fl_X8_213 zt_1 rfl dX8_differs_98 ?_
    refine zg_icmp_ge (tgt := 136) dX8_differs_101 (by decide) (fun hc => ?_) (fun hc => ?_)
    · replace h := (if_pos hc).symm.trans h
      refine zo_sub (ls' := [(0, .ref 0), (2, .int v2), (3, .int v3), (4, .int v4), (5, .int v5)]) [0, 1, 2, 3, 4] rfl ?_
      exact hk136 _ _ _ _ _ h
    · replace h := (if_neg hc).symm.trans h
      refine zg_aload_n 0 dX8_differs_104 rfl rfl ?_
      refine zg_iload 4 dX8_differs_105 rfl ?_
      refine zg_iload 5 dX8_differs_107 rfl ?_
      obtain ⟨x1, hx1, h⟩ := z_bind h
      refine zg_callV (st := []) (k_X8_differences hx1) zY_X8_differences lv_X8_300 rfl zt_0 rfl (zfit_m (by decide) (by decide)) (Nat.le_of_ble_eq_true rfl) dX8_differs_109 rfl ?_
      refine zg_istore (ls' := [(0, .ref 0), (2, .int v2), (3, .int v3), (4, .int v4), (5, .int v5), (6, .int v6), (7, .int x1)]) dX8_differs_112 (Nat.le_of_ble_eq_true rfl) rfl ?_
      refine zg_iload 6 dX8_differs_114 rfl ?_
      refine zg_iload_n 1 dX8_differs_116 rfl rfl ?_
      refine zg_icmp_ge (tgt := 130) dX8_differs_117 (by decide) (fun hc => ?_) (fun hc => ?_)
      · replace h := (if_pos hc).symm.trans h
        refine zo_sub (ls' := [(0, .ref 0), (2, .int v2), (3, .int v3), (4, .int v4), (5, .int v5), (6, .int v6)]) [0, 1, 2, 3, 4, 5] rfl ?_
        exact g8_differs_130 (fun u0 u1 u2 u3 u4 u5 h => ih u0 u1 u2 u3 u4 u5 h) _ _ _ _ _ _ h
      · replace h := (if_neg hc).symm.trans h
        refine zg_iload 6 dX8_differs_120 rfl ?_
        refine zg_istore_n (ls' := [(0, .ref 0), (2, .int x1), (3, .int v3), (4, .int v4), (5, .int v5), (6, .int v6), (7, .int x1)]) dX8_differs_122 rfl (Nat.le_of_ble_eq_true rfl) rfl ?_
        refine zg_iload 4 dX8_differs_123 rfl ?_
        refine zg_istore_n (ls' := [(0, .ref 0), (2, .int x1), (3, .int v5), (4, .int v4), (5, .int v5), (6, .int v6), (7, .int x1)]) dX8_differs_125 rfl (Nat.le_of_ble_eq_true rfl) rfl ?_
        refine zg_iload 5 dX8_differs_126 rfl ?_
        refine zg_istore (ls' := [(0, .ref 0), (2, .int x1), (3, .int v5), (4, .int v6), (5, .int v5), (6, .int v6), (7, .int x1)]) dX8_differs_128 (Nat.le_of_ble_eq_true rfl) rfl ?_
        refine zo_sub (ls' := [(0, .ref 0), (2, .int x1), (3, .int v5), (4, .int v6), (5, .int v5), (6, .int v6)]) [0, 1, 2, 3, 4, 5] rfl ?_
        exact g8_differs_130 (fun u0 u1 u2 u3 u4 u5 h => ih u0 u1 u2 u3 u4 u5 h) _ _ _ _ _ _ h
set_option maxRecDepth 20000 in
set_option maxHeartbeats 4000000 in
theorem g8_differs_136 {r1 : Int32} {Mr : zM} {k77 : Int32 → Int32 → Int32 → Int32 → zM → Option (Int32 × zM)} (hk77 : ∀ (v2 : Int32) (v3 : Int32) (v4 : Int32) (v5 : Int32) (M : zM), k77 v2 v3 v4 v5 M = some (r1, Mr) → zJ ztops RX8 cX8_differs 8 (zBm ztops 6 (some .int) (some (.int r1)) Mr) 0 0 77 [(0, .ref 0), (2, .int v2), (3, .int v3), (4, .int v4), (5, .int v5)] [] M) : ∀ (v2 : Int32) (v3 : Int32) (v4 : Int32) (v5 : Int32) (M : zM), f8_differs_136 k77 v2 v3 v4 v5 M = some (r1, Mr) → zJ ztops RX8 cX8_differs 8 (zBm ztops 6 (some .int) (some (.int r1)) Mr) 0 0 136 [(0, .ref 0), (2, .int v2), (3, .int v3), (4, .int v4), (5, .int v5)] [] M := by
  intro v2 v3 v4 v5 M h
  rw [f8_differs_136] at h
  refine zg_iinc (ls' := [(0, .ref 0), (2, .int v2), (3, .int v3), (4, .int v4), (5, .int (v5 + (1 : Int32)))]) 4 dX8_differs_136 rfl zki_1 (Nat.le_of_ble_eq_true rfl) rfl ?_
  refine zg_goto (tgt := 77) dX8_differs_139 (by decide) ?_
  exact hk77 _ _ _ _ _ h
set_option maxRecDepth 20000 in
set_option maxHeartbeats 4000000 in
theorem g8_differs_77 {r1 : Int32} {Mr : zM} : ∀ (n : Nat) (v2 : Int32) (v3 : Int32) (v4 : Int32) (v5 : Int32) (M : zM), f8_differs_77 n v2 v3 v4 v5 M = some (r1, Mr) → zJ ztops RX8 cX8_differs 8 (zBm ztops 6 (some .int) (some (.int r1)) Mr) 0 0 77 [(0, .ref 0), (2, .int v2), (3, .int v3), (4, .int v4), (5, .int v5)] [] M := by
  intro n
  induction n with
  | zero => intro v2 v3 v4 v5 M h; cases h
  | succ n ih =>
    intro v2 v3 v4 v5 M h
    rw [f8_differs_77] at h
    refine zg_iload 4 dX8_differs_77 rfl ?_
    refine zg_aload_n 0 dX8_differs_79 rfl rfl ?_
    refine zo_getr 1 0 rfl fl_X8_10 zt_0 rfl dX8_differs_80 ?_
    refine zg_geti fl_X8_100 zt_1 rfl dX8_differs_83 ?_
    refine zg_icmp_ge (tgt := 142) dX8_differs_86 (by decide) (fun hc => ?_) (fun hc => ?_)
    · replace h := (if_pos hc).symm.trans h
      refine zg_aload_n 0 dX8_differs_142 rfl rfl ?_
      refine zo_getr 9 8 rfl fl_X8_32 zt_0 rfl dX8_differs_143 ?_
      refine zg_iload_n 1 dX8_differs_146 rfl rfl ?_
      refine zg_i2l dX8_differs_147 ?_
      refine zg_iload_n 2 dX8_differs_148 rfl rfl ?_
      refine zg_i2l dX8_differs_149 ?_
      obtain ⟨M1, hM1, h⟩ := z_bind h
      refine zg_callV (st := []) (k_X3_tell_ hM1) zY_X3_tell_ lv_X8_194 rfl zt_9 rfl (zfit_m (by decide) (by decide)) (Nat.le_of_ble_eq_true rfl) dX8_differs_150 rfl ?_
      refine zg_aload_n 0 dX8_differs_153 rfl rfl ?_
      refine zo_getr 9 8 rfl fl_X8_32 zt_0 rfl dX8_differs_154 ?_
      refine zg_iload 3 dX8_differs_157 rfl ?_
      refine zg_i2l dX8_differs_159 ?_
      obtain ⟨M2, hM2, h⟩ := z_bind h
      refine zg_callV (st := []) (k_X3_add hM2) zY_X3_add lv_X8_216 rfl zt_9 rfl (zfit_m (by decide) (by decide)) (Nat.le_of_ble_eq_true rfl) dX8_differs_160 rfl ?_
      refine zg_aload_n 0 dX8_differs_163 rfl rfl ?_
      refine zg_iconst dX8_differs_164 zki_0 ?_
      refine zg_iconst dX8_differs_165 zki_0 ?_
      obtain ⟨x3, hx3, h⟩ := z_bind h
      refine zg_callV (st := []) (k_X8_differences hx3) zY_X8_differences lv_X8_300 rfl zt_0 rfl (zfit_m (by decide) (by decide)) (Nat.le_of_ble_eq_true rfl) dX8_differs_166 rfl ?_
      obtain ⟨rfl, rfl⟩ := z_ret2 h
      exact zg_iret dX8_differs_169
    · replace h := (if_neg hc).symm.trans h
      refine zg_iconst dX8_differs_89 zki_0 ?_
      refine zg_istore (ls' := [(0, .ref 0), (2, .int v2), (3, .int v3), (4, .int v4), (5, .int v5), (6, .int (0 : Int32))]) dX8_differs_90 (Nat.le_of_ble_eq_true rfl) rfl ?_
      exact g8_differs_92 (fun u0 u1 u2 u3 u4 h => g8_differs_136 (fun u0 u1 u2 u3 u4 h => ih u0 u1 u2 u3 u4 h) u0 u1 u2 u3 u4 h) zfuel _ _ _ _ _ _ h
set_option maxRecDepth 20000 in
set_option maxHeartbeats 4000000 in
theorem k_X8_differs {M : zM} {r1 : Int32} {Mr : zM} (h : f8_differs M = some (r1, Mr)) : zK ztops yX8_differs cX8_differs 8 (some .int) 6 [.ref 0] M (some (.int r1)) Mr := by
  refine zK_of pl_X8 (Nat.le_of_ble_eq_true rfl) ?_
  show zJ ztops RX8 cX8_differs 8 _ 0 0 0 [(0, .ref 0)] [] M
  rw [f8_differs] at h
  refine zg_aload_n 0 dX8_differs_0 rfl rfl ?_
  refine zo_getr 3 2 rfl fl_X8_16 zt_0 rfl dX8_differs_1 ?_
  refine zg_aload_n 0 dX8_differs_4 rfl rfl ?_
  refine zo_getr 7 6 rfl fl_X8_25 zt_0 rfl dX8_differs_5 ?_
  obtain ⟨p1, hp1, h⟩ := z_bind h
  refine zg_callV (st := []) (k_X7_readFrom zW_3 hp1) zY_X7_readFrom lv_X8_89 rfl zt_3 rfl (zfit_m (by decide) (by decide)) (Nat.le_of_ble_eq_true rfl) dX8_differs_8 rfl ?_
  refine zg_istore_n (ls' := [(0, .ref 0), (1, .int p1.1)]) dX8_differs_11 rfl (Nat.le_of_ble_eq_true rfl) rfl ?_
  refine zg_aload_n 0 dX8_differs_12 rfl rfl ?_
  refine zo_getr 7 6 rfl fl_X8_25 zt_0 rfl dX8_differs_13 ?_
  refine zg_iconst dX8_differs_16 zki_0 ?_
  refine zg_puti fp_X8_83 zt_7 rfl dX8_differs_17 ?_
  refine zg_iload_n 1 dX8_differs_20 rfl rfl ?_
  refine zg_iconst dX8_differs_21 zki_m1 ?_
  refine zg_icmp_eq (tgt := 29) dX8_differs_22 (by decide) (fun hc => ?_) (fun hc => ?_)
  · replace h := (if_pos hc).symm.trans h
    refine zg_aload_n 0 dX8_differs_29 rfl rfl ?_
    refine zo_getr 3 2 rfl fl_X8_16 zt_0 rfl dX8_differs_30 ?_
    refine zg_geti fl_X8_100 zt_3 rfl dX8_differs_33 ?_
    refine zg_aload_n 0 dX8_differs_36 rfl rfl ?_
    refine zo_getr 1 0 rfl fl_X8_10 zt_0 rfl dX8_differs_37 ?_
    refine zg_geti fl_X8_100 zt_1 rfl dX8_differs_40 ?_
    refine zg_icmp_ne (tgt := 63) dX8_differs_43 (by decide) (fun hc => ?_) (fun hc => ?_)
    · replace h := (if_neg hc).symm.trans h
      refine zg_bipush dX8_differs_63 zkb_m100 ?_
      obtain ⟨rfl, rfl⟩ := z_ret2 h
      exact zg_iret dX8_differs_65
    · replace h := (if_pos hc).symm.trans h
      refine zg_aload_n 0 dX8_differs_46 rfl rfl ?_
      refine zo_getr 3 2 rfl fl_X8_16 zt_0 rfl dX8_differs_47 ?_
      refine zg_geti fl_X8_213 zt_3 rfl dX8_differs_50 ?_
      refine zg_aload_n 0 dX8_differs_53 rfl rfl ?_
      refine zo_getr 1 0 rfl fl_X8_10 zt_0 rfl dX8_differs_54 ?_
      refine zg_geti fl_X8_213 zt_1 rfl dX8_differs_57 ?_
      refine zg_icmp_eq (tgt := 66) dX8_differs_60 (by decide) (fun hc => ?_) (fun hc => ?_)
      · replace h := (if_pos hc).symm.trans h
        refine zg_bipush dX8_differs_66 zkb_37 ?_
        refine zg_istore_n (ls' := [(0, .ref 0), (1, .int p1.1), (2, .int (37 : Int32))]) dX8_differs_68 rfl (Nat.le_of_ble_eq_true rfl) rfl ?_
        refine zg_iconst dX8_differs_69 zki_0 ?_
        refine zg_istore_n (ls' := [(0, .ref 0), (1, .int p1.1), (2, .int (37 : Int32)), (3, .int (0 : Int32))]) dX8_differs_70 rfl (Nat.le_of_ble_eq_true rfl) rfl ?_
        refine zg_iconst dX8_differs_71 zki_0 ?_
        refine zg_istore (ls' := [(0, .ref 0), (1, .int p1.1), (2, .int (37 : Int32)), (3, .int (0 : Int32)), (4, .int (0 : Int32))]) dX8_differs_72 (Nat.le_of_ble_eq_true rfl) rfl ?_
        refine zg_iconst dX8_differs_74 zki_0 ?_
        refine zg_istore (ls' := [(0, .ref 0), (1, .int p1.1), (2, .int (37 : Int32)), (3, .int (0 : Int32)), (4, .int (0 : Int32)), (5, .int (0 : Int32))]) dX8_differs_75 (Nat.le_of_ble_eq_true rfl) rfl ?_
        refine zo_sub (ls' := [(0, .ref 0), (2, .int (37 : Int32)), (3, .int (0 : Int32)), (4, .int (0 : Int32)), (5, .int (0 : Int32))]) [0, 2, 3, 4, 5] rfl ?_
        exact g8_differs_77 zfuel _ _ _ _ _ h
      · replace h := (if_neg hc).symm.trans h
        refine zg_bipush dX8_differs_63 zkb_m100 ?_
        obtain ⟨rfl, rfl⟩ := z_ret2 h
        exact zg_iret dX8_differs_65
  · replace h := (if_neg hc).symm.trans h
    refine zg_iconst dX8_differs_25 zki_m1 ?_
    refine zg_iload_n 1 dX8_differs_26 rfl rfl ?_
    refine zg_isub dX8_differs_27 ?_
    obtain ⟨rfl, rfl⟩ := z_ret2 h
    exact zg_iret dX8_differs_28
set_option maxRecDepth 20000 in
set_option maxHeartbeats 4000000 in
theorem g8_looks_46 {r1 : Int32} {Mr : zM} : ∀ (v1 : Int32) (v2 : Int32) (v3 : Int32) (s0 : Int32) (M : zM), f8_looks_46 v1 v2 v3 s0 M = some (r1, Mr) → zJ ztops RX8 cX8_looks 5 (zBm ztops 6 (some .int) (some (.int r1)) Mr) 0 0 46 [(0, .ref 0), (1, .int v1), (2, .int v2), (3, .int v3)] [.int s0] M := by
  intro v1 v2 v3 s0 M h
  rw [f8_looks_46] at h
  refine zg_istore (ls' := [(0, .ref 0), (1, .int v1), (2, .int v2), (3, .int v3), (4, .int s0)]) dX8_looks_46 (Nat.le_of_ble_eq_true rfl) rfl ?_
  refine zg_aload_n 0 dX8_looks_48 rfl rfl ?_
  refine zo_getr 9 8 rfl fl_X8_32 zt_0 rfl dX8_looks_49 ?_
  refine zg_iload_n 1 dX8_looks_52 rfl rfl ?_
  refine zg_i2l dX8_looks_53 ?_
  refine zg_iload_n 2 dX8_looks_54 rfl rfl ?_
  refine zg_i2l dX8_looks_55 ?_
  obtain ⟨M1, hM1, h⟩ := z_bind h
  refine zg_callV (st := []) (k_X3_tell_ hM1) zY_X3_tell_ lv_X8_194 rfl zt_9 rfl (zfit_m (by decide) (by decide)) (Nat.le_of_ble_eq_true rfl) dX8_looks_56 rfl ?_
  refine zg_aload_n 0 dX8_looks_59 rfl rfl ?_
  refine zo_getr 9 8 rfl fl_X8_32 zt_0 rfl dX8_looks_60 ?_
  refine zg_iload_n 3 dX8_looks_63 rfl rfl ?_
  refine zg_i2l dX8_looks_64 ?_
  obtain ⟨M2, hM2, h⟩ := z_bind h
  refine zg_callV (st := []) (k_X3_add hM2) zY_X3_add lv_X8_216 rfl zt_9 rfl (zfit_m (by decide) (by decide)) (Nat.le_of_ble_eq_true rfl) dX8_looks_65 rfl ?_
  refine zg_aload_n 0 dX8_looks_68 rfl rfl ?_
  refine zo_getr 9 8 rfl fl_X8_32 zt_0 rfl dX8_looks_69 ?_
  refine zg_iload 4 dX8_looks_72 rfl ?_
  refine zg_i2l dX8_looks_74 ?_
  obtain ⟨M3, hM3, h⟩ := z_bind h
  refine zg_callV (st := []) (k_X3_add hM3) zY_X3_add lv_X8_216 rfl zt_9 rfl (zfit_m (by decide) (by decide)) (Nat.le_of_ble_eq_true rfl) dX8_looks_75 rfl ?_
  refine zg_iload_n 1 dX8_looks_78 rfl rfl ?_
  suffices hj : zJ ztops RX8 cX8_looks 5 (zBm ztops 6 (some .int) (some (.int r1)) Mr) 0 0 87 [(0, .ref 0), (1, .int v1), (2, .int v2), (3, .int v3), (4, .int s0)] [.int (if v1 = 0 then (1 : Int32) else (0 : Int32))] M3 by
    refine zg_if_ne (tgt := 86) dX8_looks_79 (by decide) (fun hc => ?_) (fun hc => ?_)
    · rw [show (if v1 = 0 then (1 : Int32) else (0 : Int32)) = (0 : Int32) from if_neg hc] at hj
      refine zg_iconst dX8_looks_86 zki_0 ?_
      exact hj
    · rw [show (if v1 = 0 then (1 : Int32) else (0 : Int32)) = (1 : Int32) from if_pos hc] at hj
      refine zg_iconst dX8_looks_82 zki_1 ?_
      refine zg_goto (tgt := 87) dX8_looks_83 (by decide) ?_
      exact hj
  refine zg_iload_n 2 dX8_looks_87 rfl rfl ?_
  suffices hj : zJ ztops RX8 cX8_looks 5 (zBm ztops 6 (some .int) (some (.int r1)) Mr) 0 0 96 [(0, .ref 0), (1, .int v1), (2, .int v2), (3, .int v3), (4, .int s0)] [.int (if v2 = 0 then (2 : Int32) else (0 : Int32)), .int (if v1 = 0 then (1 : Int32) else (0 : Int32))] M3 by
    refine zg_if_ne (tgt := 95) dX8_looks_88 (by decide) (fun hc => ?_) (fun hc => ?_)
    · rw [show (if v2 = 0 then (2 : Int32) else (0 : Int32)) = (0 : Int32) from if_neg hc] at hj
      refine zg_iconst dX8_looks_95 zki_0 ?_
      exact hj
    · rw [show (if v2 = 0 then (2 : Int32) else (0 : Int32)) = (2 : Int32) from if_pos hc] at hj
      refine zg_iconst dX8_looks_91 zki_2 ?_
      refine zg_goto (tgt := 96) dX8_looks_92 (by decide) ?_
      exact hj
  refine zg_iadd dX8_looks_96 ?_
  refine zg_iload_n 3 dX8_looks_97 rfl rfl ?_
  suffices hj : zJ ztops RX8 cX8_looks 5 (zBm ztops 6 (some .int) (some (.int r1)) Mr) 0 0 106 [(0, .ref 0), (1, .int v1), (2, .int v2), (3, .int v3), (4, .int s0)] [.int (if v3 = 0 then (4 : Int32) else (0 : Int32)), .int ((if v1 = 0 then (1 : Int32) else (0 : Int32)) + (if v2 = 0 then (2 : Int32) else (0 : Int32)))] M3 by
    refine zg_if_ne (tgt := 105) dX8_looks_98 (by decide) (fun hc => ?_) (fun hc => ?_)
    · rw [show (if v3 = 0 then (4 : Int32) else (0 : Int32)) = (0 : Int32) from if_neg hc] at hj
      refine zg_iconst dX8_looks_105 zki_0 ?_
      exact hj
    · rw [show (if v3 = 0 then (4 : Int32) else (0 : Int32)) = (4 : Int32) from if_pos hc] at hj
      refine zg_iconst dX8_looks_101 zki_4 ?_
      refine zg_goto (tgt := 106) dX8_looks_102 (by decide) ?_
      exact hj
  refine zg_iadd dX8_looks_106 ?_
  refine zg_iload 4 dX8_looks_107 rfl ?_
  suffices hj : zJ ztops RX8 cX8_looks 5 (zBm ztops 6 (some .int) (some (.int r1)) Mr) 0 0 118 [(0, .ref 0), (1, .int v1), (2, .int v2), (3, .int v3), (4, .int s0)] [.int (if s0 = 0 then (8 : Int32) else (0 : Int32)), .int (((if v1 = 0 then (1 : Int32) else (0 : Int32)) + (if v2 = 0 then (2 : Int32) else (0 : Int32))) + (if v3 = 0 then (4 : Int32) else (0 : Int32)))] M3 by
    refine zg_if_ne (tgt := 117) dX8_looks_109 (by decide) (fun hc => ?_) (fun hc => ?_)
    · rw [show (if s0 = 0 then (8 : Int32) else (0 : Int32)) = (0 : Int32) from if_neg hc] at hj
      refine zg_iconst dX8_looks_117 zki_0 ?_
      exact hj
    · rw [show (if s0 = 0 then (8 : Int32) else (0 : Int32)) = (8 : Int32) from if_pos hc] at hj
      refine zg_bipush dX8_looks_112 zkb_8 ?_
      refine zg_goto (tgt := 118) dX8_looks_114 (by decide) ?_
      exact hj
  refine zg_iadd dX8_looks_118 ?_
  obtain ⟨rfl, rfl⟩ := z_ret2 h
  exact zg_iret dX8_looks_119
set_option maxRecDepth 20000 in
set_option maxHeartbeats 4000000 in
theorem k_X8_looks {M : zM} {r1 : Int32} {Mr : zM} (h : f8_looks M = some (r1, Mr)) : zK ztops yX8_looks cX8_looks 5 (some .int) 6 [.ref 0] M (some (.int r1)) Mr := by
  refine zK_of pl_X8 (Nat.le_of_ble_eq_true rfl) ?_
  show zJ ztops RX8 cX8_looks 5 _ 0 0 0 [(0, .ref 0)] [] M
  rw [f8_looks] at h
  refine zg_aload_n 0 dX8_looks_0 rfl rfl ?_
  refine zg_iconst dX8_looks_1 zki_1 ?_
  refine zg_iconst dX8_looks_2 zki_0 ?_
  obtain ⟨x1, hx1, h⟩ := z_bind h
  refine zg_callV (st := []) (k_X8_otherwise hx1) zY_X8_otherwise lv_X8_303 rfl zt_0 rfl (zfit_m (by decide) (by decide)) (Nat.le_of_ble_eq_true rfl) dX8_looks_3 rfl ?_
  refine zg_istore_n (ls' := [(0, .ref 0), (1, .int x1)]) dX8_looks_6 rfl (Nat.le_of_ble_eq_true rfl) rfl ?_
  refine zg_aload_n 0 dX8_looks_7 rfl rfl ?_
  refine zg_iconst dX8_looks_8 zki_0 ?_
  refine zg_iconst dX8_looks_9 zki_1 ?_
  obtain ⟨x2, hx2, h⟩ := z_bind h
  refine zg_callV (st := []) (k_X8_otherwise hx2) zY_X8_otherwise lv_X8_303 rfl zt_0 rfl (zfit_m (by decide) (by decide)) (Nat.le_of_ble_eq_true rfl) dX8_looks_10 rfl ?_
  refine zg_istore_n (ls' := [(0, .ref 0), (1, .int x1), (2, .int x2)]) dX8_looks_13 rfl (Nat.le_of_ble_eq_true rfl) rfl ?_
  refine zg_aload_n 0 dX8_looks_14 rfl rfl ?_
  refine zg_iconst dX8_looks_15 zki_1 ?_
  refine zg_iconst dX8_looks_16 zki_1 ?_
  obtain ⟨x3, hx3, h⟩ := z_bind h
  refine zg_callV (st := []) (k_X8_otherwise hx3) zY_X8_otherwise lv_X8_303 rfl zt_0 rfl (zfit_m (by decide) (by decide)) (Nat.le_of_ble_eq_true rfl) dX8_looks_17 rfl ?_
  refine zg_istore_n (ls' := [(0, .ref 0), (1, .int x1), (2, .int x2), (3, .int x3)]) dX8_looks_20 rfl (Nat.le_of_ble_eq_true rfl) rfl ?_
  refine zg_aload_n 0 dX8_looks_21 rfl rfl ?_
  refine zo_getr 1 0 rfl fl_X8_10 zt_0 rfl dX8_looks_22 ?_
  refine zg_geti fl_X8_100 zt_1 rfl dX8_looks_25 ?_
  refine zg_aload_n 0 dX8_looks_28 rfl rfl ?_
  refine zo_getr 1 0 rfl fl_X8_10 zt_0 rfl dX8_looks_29 ?_
  refine zg_geti fl_X8_213 zt_1 rfl dX8_looks_32 ?_
  refine zg_icmp_ne (tgt := 45) dX8_looks_35 (by decide) (fun hc => ?_) (fun hc => ?_)
  · replace h := (if_neg hc).symm.trans h
    refine zg_iconst dX8_looks_45 zki_m1 ?_
    exact g8_looks_46 _ _ _ _ _ h
  · replace h := (if_pos hc).symm.trans h
    refine zg_aload_n 0 dX8_looks_38 rfl rfl ?_
    obtain ⟨x4, hx4, h⟩ := z_bind h
    refine zg_callV (st := []) (k_X8_otherwiseAcross hx4) zY_X8_otherwiseAcross lv_X8_307 rfl zt_0 rfl (zfit_m (by decide) (by decide)) (Nat.le_of_ble_eq_true rfl) dX8_looks_39 rfl ?_
    refine zg_goto (tgt := 46) dX8_looks_42 (by decide) ?_
    exact g8_looks_46 _ _ _ _ _ h
set_option maxRecDepth 20000 in
set_option maxHeartbeats 4000000 in
theorem g8_game_45 {r1 : Int32} {Mr : zM} : ∀ (s0 : Int32) (M : zM), f8_game_45 s0 M = some (r1, Mr) → zJ ztops RX8 cX8_game 3 (zBm ztops 5 (some .int) (some (.int r1)) Mr) 0 0 45 [(0, .ref 0)] [.int s0] M := by
  intro s0 M h
  rw [f8_game_45] at h
  refine zg_istore_n (ls' := [(0, .ref 0), (2, .int s0)]) dX8_game_45 rfl (Nat.le_of_ble_eq_true rfl) rfl ?_
  refine zg_aload_n 0 dX8_game_46 rfl rfl ?_
  refine zo_getr 9 8 rfl fl_X8_32 zt_0 rfl dX8_game_47 ?_
  obtain ⟨M1, hM1, h⟩ := z_bind h
  refine zg_callV (st := []) (k_X3_clear hM1) zY_X3_clear lv_X8_222 rfl zt_9 rfl (zfit_m (by decide) (by decide)) (Nat.le_of_ble_eq_true rfl) dX8_game_50 rfl ?_
  refine zg_iload_n 1 dX8_game_53 rfl rfl ?_
  refine zg_iconst dX8_game_54 zki_m1 ?_
  refine zg_icmp_ne (tgt := 60) dX8_game_55 (by decide) (fun hc => ?_) (fun hc => ?_)
  · replace h := (if_neg hc).symm.trans h
    refine zg_aload_n 0 dX8_game_60 rfl rfl ?_
    refine zo_getr 9 8 rfl fl_X8_32 zt_0 rfl dX8_game_61 ?_
    refine zg_iload_n 1 dX8_game_64 rfl rfl ?_
    refine zg_i2l dX8_game_65 ?_
    obtain ⟨M2, hM2, h⟩ := z_bind h
    refine zg_callV (st := []) (k_X3_tell hM2) zY_X3_tell lv_X8_207 rfl zt_9 rfl (zfit_m (by decide) (by decide)) (Nat.le_of_ble_eq_true rfl) dX8_game_66 rfl ?_
    refine zg_iconst dX8_game_69 zki_1 ?_
    obtain ⟨rfl, rfl⟩ := z_ret2 h
    exact zg_iret dX8_game_70
  · replace h := (if_pos hc).symm.trans h
    refine zg_iconst dX8_game_58 zki_0 ?_
    obtain ⟨rfl, rfl⟩ := z_ret2 h
    exact zg_iret dX8_game_59
set_option maxRecDepth 20000 in
set_option maxHeartbeats 4000000 in
theorem k_X8_game {M : zM} {r1 : Int32} {Mr : zM} (h : f8_game M = some (r1, Mr)) : zK ztops yX8_game cX8_game 3 (some .int) 5 [.ref 0] M (some (.int r1)) Mr := by
  refine zK_of pl_X8 (Nat.le_of_ble_eq_true rfl) ?_
  show zJ ztops RX8 cX8_game 3 _ 0 0 0 [(0, .ref 0)] [] M
  rw [f8_game] at h
  refine zg_aload_n 0 dX8_game_0 rfl rfl ?_
  refine zo_getr 21 20 rfl fl_X8_49 zt_0 rfl dX8_game_1 ?_
  refine zg_aload_n 0 dX8_game_4 rfl rfl ?_
  refine zo_getr 1 0 rfl fl_X8_10 zt_0 rfl dX8_game_5 ?_
  obtain ⟨M1, hM1, h⟩ := z_bind h
  refine zg_callV (st := []) (k_X0_tabulate zW_1 hM1) zY_X0_tabulate lv_X8_286 rfl zt_21 rfl (zfit_m (by decide) (by decide)) (Nat.le_of_ble_eq_true rfl) dX8_game_8 rfl ?_
  refine zg_aload_n 0 dX8_game_11 rfl rfl ?_
  refine zo_getr 1 0 rfl fl_X8_10 zt_0 rfl dX8_game_12 ?_
  obtain ⟨x2, hx2, h⟩ := z_bind h
  refine zg_callV (st := []) (k_X7_all zW_1 hx2) zY_X7_all lv_X8_256 rfl zt_1 rfl (zfit_m (by decide) (by decide)) (Nat.le_of_ble_eq_true rfl) dX8_game_15 rfl ?_
  refine zg_istore_n (ls' := [(0, .ref 0), (1, .int x2)]) dX8_game_18 rfl (Nat.le_of_ble_eq_true rfl) rfl ?_
  refine zg_aload_n 0 dX8_game_19 rfl rfl ?_
  refine zo_getr 21 20 rfl fl_X8_49 zt_0 rfl dX8_game_20 ?_
  refine zo_getr 24 2 rfl fl_X8_289 zt_21 rfl dX8_game_23 ?_
  refine zg_iload_n 1 dX8_game_26 rfl rfl ?_
  obtain ⟨x3, hx3, h⟩ := z_bind h
  refine zg_callS (st := []) (k_X0_isIn zt_24 hx3) zY_X0_isIn ls_X8_293 rfl (zfit_m (by decide) (by decide)) (Nat.le_of_ble_eq_true rfl) dX8_game_27 rfl ?_
  refine zg_if_eq (tgt := 44) dX8_game_30 (by decide) (fun hc => ?_) (fun hc => ?_)
  · replace h := (if_pos hc).symm.trans h
    refine zg_iconst dX8_game_44 zki_m1 ?_
    refine zo_sub (ls' := [(0, .ref 0)]) [0] rfl ?_
    exact g8_game_45 _ _ h
  · replace h := (if_neg hc).symm.trans h
    refine zg_aload_n 0 dX8_game_33 rfl rfl ?_
    refine zo_getr 21 20 rfl fl_X8_49 zt_0 rfl dX8_game_34 ?_
    refine zg_iload_n 1 dX8_game_37 rfl rfl ?_
    obtain ⟨p4, hp4, h⟩ := z_bind h
    refine zg_callV (st := []) (k_X0_winningTake hp4) zY_X0_winningTake lv_X8_322 rfl zt_21 rfl (zfit_m (by decide) (by decide)) (Nat.le_of_ble_eq_true rfl) dX8_game_38 rfl ?_
    refine zg_goto (tgt := 45) dX8_game_41 (by decide) ?_
    refine zo_sub (ls' := [(0, .ref 0)]) [0] rfl ?_
    exact g8_game_45 _ _ h
set_option maxRecDepth 20000 in
set_option maxHeartbeats 4000000 in
theorem g8_odds_36 {r1 : Int32} {Mr : zM} : ∀ (n : Nat) (v1 : Int32) (v2 : Int32) (v3 : Int64) (v5 : Int32) (M : zM), f8_odds_36 n v1 v2 v3 v5 M = some (r1, Mr) → zJ ztops RX8 cX8_odds 9 (zBm ztops 5 (some .int) (some (.int r1)) Mr) 0 0 36 [(0, .ref 0), (1, .int v1), (2, .int v2), (3, .long v3), (5, .int v5)] [] M := by
  intro n
  induction n with
  | zero => intro v1 v2 v3 v5 M h; cases h
  | succ n ih =>
    intro v1 v2 v3 v5 M h
    rw [f8_odds_36] at h
    refine zg_iload 4 dX8_odds_36 rfl ?_
    refine zg_iload_n 2 dX8_odds_38 rfl rfl ?_
    refine zg_icmp_gt (tgt := 80) dX8_odds_39 (by decide) (fun hc => ?_) (fun hc => ?_)
    · replace h := (if_pos hc).symm.trans h
      refine zg_bipush dX8_odds_80 zkb_10 ?_
      refine zg_iload_n 2 dX8_odds_82 rfl rfl ?_
      obtain ⟨x1, hx1, h⟩ := z_bind h
      refine zg_callS (st := []) (k_X8_power hx1) zY_X8_power ls_X8_346 rfl (zfit_m (by decide) (by decide)) (Nat.le_of_ble_eq_true rfl) dX8_odds_83 rfl ?_
      refine zg_lstore (ls' := [(0, .ref 0), (1, .int v1), (2, .int v2), (3, .long v3), (5, .long x1)]) dX8_odds_86 (Nat.le_of_ble_eq_true rfl) rfl ?_
      refine zg_lload_n 3 dX8_odds_88 rfl rfl ?_
      refine zg_lload 4 dX8_odds_89 rfl ?_
      obtain ⟨x2, hx2, h⟩ := z_bind h
      refine zg_callS (st := []) (k_X8_commonDivisor hx2) zY_X8_commonDivisor ls_X8_350 rfl (zfit_m (by decide) (by decide)) (Nat.le_of_ble_eq_true rfl) dX8_odds_91 rfl ?_
      refine zg_lstore (ls' := [(0, .ref 0), (1, .int v1), (2, .int v2), (3, .long v3), (5, .long x1), (7, .long x2)]) dX8_odds_94 (Nat.le_of_ble_eq_true rfl) rfl ?_
      refine zg_lload 5 dX8_odds_96 rfl ?_
      refine zg_lconst dX8_odds_98 (v := 0) rfl ?_
      refine zg_lcmp dX8_odds_99 ?_
      refine zg_if_le (tgt := 119) dX8_odds_100 (by decide) (fun hc => ?_) (fun hc => ?_)
      · replace h := (if_pos hc).symm.trans h
        refine zg_iconst dX8_odds_119 zki_0 ?_
        obtain ⟨rfl, rfl⟩ := z_ret2 h
        exact zg_iret dX8_odds_120
      · replace h := (if_neg hc).symm.trans h
        refine zg_aload_n 0 dX8_odds_103 rfl rfl ?_
        refine zo_getr 9 8 rfl fl_X8_32 zt_0 rfl dX8_odds_104 ?_
        refine zg_lload_n 3 dX8_odds_107 rfl rfl ?_
        refine zg_lload 5 dX8_odds_108 rfl ?_
        obtain ⟨x3, hx3, h⟩ := z_bind h
        refine zo_ldiv hx3 dX8_odds_110 ?_
        refine zg_lload 4 dX8_odds_111 rfl ?_
        refine zg_lload 5 dX8_odds_113 rfl ?_
        obtain ⟨x4, hx4, h⟩ := z_bind h
        refine zo_ldiv hx4 dX8_odds_115 ?_
        obtain ⟨M5, hM5, h⟩ := z_bind h
        refine zg_callV (st := []) (k_X3_tell_ hM5) zY_X3_tell_ lv_X8_194 rfl zt_9 rfl (zfit_m (by decide) (by decide)) (Nat.le_of_ble_eq_true rfl) dX8_odds_116 rfl ?_
        refine zg_iconst dX8_odds_119 zki_0 ?_
        obtain ⟨rfl, rfl⟩ := z_ret2 h
        exact zg_iret dX8_odds_120
    · replace h := (if_neg hc).symm.trans h
      refine zg_lload_n 3 dX8_odds_42 rfl rfl ?_
      refine zg_aload_n 0 dX8_odds_43 rfl rfl ?_
      refine zo_getr 21 20 rfl fl_X8_49 zt_0 rfl dX8_odds_44 ?_
      refine zg_iload 4 dX8_odds_47 rfl ?_
      obtain ⟨x1, hx1, h⟩ := z_bind h
      refine zg_callV (st := [.long v3]) (k_X0_holdingOf hx1) zY_X0_holdingOf lv_X8_343 rfl zt_21 rfl (zfit_m (by decide) (by decide)) (Nat.le_of_ble_eq_true rfl) dX8_odds_49 rfl ?_
      refine zg_i2l dX8_odds_52 ?_
      refine zg_bipush dX8_odds_53 zkb_10 ?_
      refine zg_iload_n 1 dX8_odds_55 rfl rfl ?_
      refine zg_isub dX8_odds_56 ?_
      refine zg_iload 4 dX8_odds_57 rfl ?_
      obtain ⟨x2, hx2, h⟩ := z_bind h
      refine zg_callS (st := [.long (Int32.toInt64 x1), .long v3]) (k_X8_power hx2) zY_X8_power ls_X8_346 rfl (zfit_m (by decide) (by decide)) (Nat.le_of_ble_eq_true rfl) dX8_odds_59 rfl ?_
      refine zg_lmul dX8_odds_62 ?_
      refine zg_iload_n 1 dX8_odds_63 rfl rfl ?_
      refine zg_iload_n 2 dX8_odds_64 rfl rfl ?_
      refine zg_iload 4 dX8_odds_65 rfl ?_
      refine zg_isub dX8_odds_67 ?_
      obtain ⟨x3, hx3, h⟩ := z_bind h
      refine zg_callS (st := [.long ((Int32.toInt64 x1) * x2), .long v3]) (k_X8_power hx3) zY_X8_power ls_X8_346 rfl (zfit_m (by decide) (by decide)) (Nat.le_of_ble_eq_true rfl) dX8_odds_68 rfl ?_
      refine zg_lmul dX8_odds_71 ?_
      refine zg_ladd dX8_odds_72 ?_
      refine zg_lstore_n (ls' := [(0, .ref 0), (1, .int v1), (2, .int v2), (3, .long (v3 + (((Int32.toInt64 x1) * x2) * x3))), (5, .int v5)]) dX8_odds_73 rfl (Nat.le_of_ble_eq_true rfl) rfl ?_
      refine zg_iinc (ls' := [(0, .ref 0), (1, .int v1), (2, .int v2), (3, .long (v3 + (((Int32.toInt64 x1) * x2) * x3))), (5, .int (v5 + (1 : Int32)))]) 4 dX8_odds_74 rfl zki_1 (Nat.le_of_ble_eq_true rfl) rfl ?_
      refine zg_goto (tgt := 36) dX8_odds_77 (by decide) ?_
      exact ih _ _ _ _ _ h
set_option maxRecDepth 20000 in
set_option maxHeartbeats 4000000 in
theorem k_X8_odds {v1 : Int32} {M : zM} {r1 : Int32} {Mr : zM} (h : f8_odds v1 M = some (r1, Mr)) : zK ztops yX8_odds cX8_odds 9 (some .int) 5 [.ref 0, .int v1] M (some (.int r1)) Mr := by
  refine zK_of pl_X8 (Nat.le_of_ble_eq_true rfl) ?_
  show zJ ztops RX8 cX8_odds 9 _ 0 0 0 [(0, .ref 0), (1, .int v1)] [] M
  rw [f8_odds] at h
  refine zg_iload_n 1 dX8_odds_0 rfl rfl ?_
  refine zg_if_lt (tgt := 10) dX8_odds_1 (by decide) (fun hc => ?_) (fun hc => ?_)
  · replace h := (if_pos hc).symm.trans h
    refine zg_iconst dX8_odds_10 zki_m1 ?_
    obtain ⟨rfl, rfl⟩ := z_ret2 h
    exact zg_iret dX8_odds_11
  · replace h := (if_neg hc).symm.trans h
    refine zg_iload_n 1 dX8_odds_4 rfl rfl ?_
    refine zg_bipush dX8_odds_5 zkb_10 ?_
    refine zg_icmp_le (tgt := 12) dX8_odds_7 (by decide) (fun hc => ?_) (fun hc => ?_)
    · replace h := (if_pos hc).symm.trans h
      refine zg_aload_n 0 dX8_odds_12 rfl rfl ?_
      refine zo_getr 21 20 rfl fl_X8_49 zt_0 rfl dX8_odds_13 ?_
      refine zg_aload_n 0 dX8_odds_16 rfl rfl ?_
      refine zo_getr 1 0 rfl fl_X8_10 zt_0 rfl dX8_odds_17 ?_
      obtain ⟨M1, hM1, h⟩ := z_bind h
      refine zg_callV (st := []) (k_X0_tabulate zW_1 hM1) zY_X0_tabulate lv_X8_286 rfl zt_21 rfl (zfit_m (by decide) (by decide)) (Nat.le_of_ble_eq_true rfl) dX8_odds_20 rfl ?_
      refine zg_aload_n 0 dX8_odds_23 rfl rfl ?_
      refine zo_getr 1 0 rfl fl_X8_10 zt_0 rfl dX8_odds_24 ?_
      obtain ⟨x2, hx2, h⟩ := z_bind h
      refine zg_callV (st := []) (k_X7_threads zW_1 hx2) zY_X7_threads lv_X8_191 rfl zt_1 rfl (zfit_m (by decide) (by decide)) (Nat.le_of_ble_eq_true rfl) dX8_odds_27 rfl ?_
      refine zg_istore_n (ls' := [(0, .ref 0), (1, .int v1), (2, .int x2)]) dX8_odds_30 rfl (Nat.le_of_ble_eq_true rfl) rfl ?_
      refine zg_lconst dX8_odds_31 (v := 0) rfl ?_
      refine zg_lstore_n (ls' := [(0, .ref 0), (1, .int v1), (2, .int x2), (3, .long (0 : Int64))]) dX8_odds_32 rfl (Nat.le_of_ble_eq_true rfl) rfl ?_
      refine zg_iconst dX8_odds_33 zki_0 ?_
      refine zg_istore (ls' := [(0, .ref 0), (1, .int v1), (2, .int x2), (3, .long (0 : Int64)), (5, .int (0 : Int32))]) dX8_odds_34 (Nat.le_of_ble_eq_true rfl) rfl ?_
      exact g8_odds_36 zfuel _ _ _ _ _ h
    · replace h := (if_neg hc).symm.trans h
      refine zg_iconst dX8_odds_10 zki_m1 ?_
      obtain ⟨rfl, rfl⟩ := z_ret2 h
      exact zg_iret dX8_odds_11
set_option maxRecDepth 20000 in
set_option maxHeartbeats 4000000 in
theorem g8_rests_78 {r1 : Int32} {Mr : zM} {k32 : Int32 → Int32 → Int32 → Int32 → zM → Option (Int32 × zM)} (hk32 : ∀ (v1 : Int32) (v2 : Int32) (v3 : Int32) (v4 : Int32) (M : zM), k32 v1 v2 v3 v4 M = some (r1, Mr) → zJ ztops RX8 cX8_rests 5 (zBm ztops 4 (some .int) (some (.int r1)) Mr) 0 0 32 [(0, .ref 0), (1, .int v1), (2, .int v2), (3, .int v3), (4, .int v4)] [] M) : ∀ (v1 : Int32) (v2 : Int32) (v3 : Int32) (v4 : Int32) (M : zM), f8_rests_78 k32 v1 v2 v3 v4 M = some (r1, Mr) → zJ ztops RX8 cX8_rests 5 (zBm ztops 4 (some .int) (some (.int r1)) Mr) 0 0 78 [(0, .ref 0), (1, .int v1), (2, .int v2), (3, .int v3), (4, .int v4)] [] M := by
  intro v1 v2 v3 v4 M h
  rw [f8_rests_78] at h
  refine zg_iinc (ls' := [(0, .ref 0), (1, .int v1), (2, .int v2), (3, .int v3), (4, .int (v4 + (1 : Int32)))]) 4 dX8_rests_78 rfl zki_1 (Nat.le_of_ble_eq_true rfl) rfl ?_
  refine zg_goto (tgt := 32) dX8_rests_81 (by decide) ?_
  exact hk32 _ _ _ _ _ h
set_option maxRecDepth 20000 in
set_option maxHeartbeats 4000000 in
theorem g8_rests_75 {r1 : Int32} {Mr : zM} {k32 : Int32 → Int32 → Int32 → Int32 → zM → Option (Int32 × zM)} (hk32 : ∀ (v1 : Int32) (v2 : Int32) (v3 : Int32) (v4 : Int32) (M : zM), k32 v1 v2 v3 v4 M = some (r1, Mr) → zJ ztops RX8 cX8_rests 5 (zBm ztops 4 (some .int) (some (.int r1)) Mr) 0 0 32 [(0, .ref 0), (1, .int v1), (2, .int v2), (3, .int v3), (4, .int v4)] [] M) : ∀ (v1 : Int32) (v2 : Int32) (v3 : Int32) (v4 : Int32) (M : zM), f8_rests_75 k32 v1 v2 v3 v4 M = some (r1, Mr) → zJ ztops RX8 cX8_rests 5 (zBm ztops 4 (some .int) (some (.int r1)) Mr) 0 0 75 [(0, .ref 0), (1, .int v1), (2, .int v2), (3, .int v3), (4, .int v4)] [] M := by
  intro v1 v2 v3 v4 M h
  rw [f8_rests_75] at h
  refine zg_iinc (ls' := [(0, .ref 0), (1, .int v1), (2, .int (v2 + (1 : Int32))), (3, .int v3), (4, .int v4)]) 2 dX8_rests_75 rfl zki_1 (Nat.le_of_ble_eq_true rfl) rfl ?_
  exact g8_rests_78 hk32 _ _ _ _ _ h
set_option maxRecDepth 20000 in
set_option maxHeartbeats 4000000 in
theorem g8_rests_32 {r1 : Int32} {Mr : zM} {k84 : Int32 → Int32 → Int32 → zM → Option (Int32 × zM)} (hk84 : ∀ (v1 : Int32) (v2 : Int32) (v3 : Int32) (M : zM), k84 v1 v2 v3 M = some (r1, Mr) → zJ ztops RX8 cX8_rests 5 (zBm ztops 4 (some .int) (some (.int r1)) Mr) 0 0 84 [(0, .ref 0), (1, .int v1), (2, .int v2), (3, .int v3)] [] M) : ∀ (n : Nat) (v1 : Int32) (v2 : Int32) (v3 : Int32) (v4 : Int32) (M : zM), f8_rests_32 k84 n v1 v2 v3 v4 M = some (r1, Mr) → zJ ztops RX8 cX8_rests 5 (zBm ztops 4 (some .int) (some (.int r1)) Mr) 0 0 32 [(0, .ref 0), (1, .int v1), (2, .int v2), (3, .int v3), (4, .int v4)] [] M := by
  intro n
  induction n with
  | zero => intro v1 v2 v3 v4 M h; cases h
  | succ n ih =>
    intro v1 v2 v3 v4 M h
    rw [f8_rests_32] at h
    refine zg_iload 4 dX8_rests_32 rfl ?_
    refine zg_bipush dX8_rests_34 zkb_9 ?_
    refine zg_icmp_gt (tgt := 84) dX8_rests_36 (by decide) (fun hc => ?_) (fun hc => ?_)
    · replace h := (if_pos hc).symm.trans h
      refine zo_sub (ls' := [(0, .ref 0), (1, .int v1), (2, .int v2), (3, .int v3)]) [0, 1, 2, 3] rfl ?_
      exact hk84 _ _ _ _ h
    · replace h := (if_neg hc).symm.trans h
      refine zg_iload_n 3 dX8_rests_39 rfl rfl ?_
      refine zg_iload 4 dX8_rests_40 rfl ?_
      refine zg_iload_n 1 dX8_rests_42 rfl rfl ?_
      obtain ⟨x1, hx1, h⟩ := z_bind h
      refine zg_callS (st := []) (k_X8_isBestAgainst hx1) zY_X8_isBestAgainst ls_X8_354 rfl (zfit_m (by decide) (by decide)) (Nat.le_of_ble_eq_true rfl) dX8_rests_43 rfl ?_
      refine zg_if_eq (tgt := 78) dX8_rests_46 (by decide) (fun hc => ?_) (fun hc => ?_)
      · replace h := (if_pos hc).symm.trans h
        exact g8_rests_78 (fun u0 u1 u2 u3 u4 h => ih u0 u1 u2 u3 u4 h) _ _ _ _ _ h
      · replace h := (if_neg hc).symm.trans h
        refine zg_iload 4 dX8_rests_49 rfl ?_
        refine zg_iload_n 3 dX8_rests_51 rfl rfl ?_
        refine zg_iload_n 1 dX8_rests_52 rfl rfl ?_
        obtain ⟨x2, hx2, h⟩ := z_bind h
        refine zg_callS (st := []) (k_X8_isBestAgainst hx2) zY_X8_isBestAgainst ls_X8_354 rfl (zfit_m (by decide) (by decide)) (Nat.le_of_ble_eq_true rfl) dX8_rests_53 rfl ?_
        refine zg_if_eq (tgt := 78) dX8_rests_56 (by decide) (fun hc => ?_) (fun hc => ?_)
        · replace h := (if_pos hc).symm.trans h
          exact g8_rests_78 (fun u0 u1 u2 u3 u4 h => ih u0 u1 u2 u3 u4 h) _ _ _ _ _ h
        · replace h := (if_neg hc).symm.trans h
          refine zg_iload_n 2 dX8_rests_59 rfl rfl ?_
          refine zg_if_ne (tgt := 75) dX8_rests_60 (by decide) (fun hc => ?_) (fun hc => ?_)
          · replace h := (if_neg hc).symm.trans h
            exact g8_rests_75 (fun u0 u1 u2 u3 u4 h => ih u0 u1 u2 u3 u4 h) _ _ _ _ _ h
          · replace h := (if_pos hc).symm.trans h
            refine zg_aload_n 0 dX8_rests_63 rfl rfl ?_
            refine zo_getr 9 8 rfl fl_X8_32 zt_0 rfl dX8_rests_64 ?_
            refine zg_iload_n 3 dX8_rests_67 rfl rfl ?_
            refine zg_i2l dX8_rests_68 ?_
            refine zg_iload 4 dX8_rests_69 rfl ?_
            refine zg_i2l dX8_rests_71 ?_
            obtain ⟨M3, hM3, h⟩ := z_bind h
            refine zg_callV (st := []) (k_X3_tell_ hM3) zY_X3_tell_ lv_X8_194 rfl zt_9 rfl (zfit_m (by decide) (by decide)) (Nat.le_of_ble_eq_true rfl) dX8_rests_72 rfl ?_
            exact g8_rests_75 (fun u0 u1 u2 u3 u4 h => ih u0 u1 u2 u3 u4 h) _ _ _ _ _ h
set_option maxRecDepth 20000 in
set_option maxHeartbeats 4000000 in
theorem g8_rests_84 {r1 : Int32} {Mr : zM} {k23 : Int32 → Int32 → Int32 → zM → Option (Int32 × zM)} (hk23 : ∀ (v1 : Int32) (v2 : Int32) (v3 : Int32) (M : zM), k23 v1 v2 v3 M = some (r1, Mr) → zJ ztops RX8 cX8_rests 5 (zBm ztops 4 (some .int) (some (.int r1)) Mr) 0 0 23 [(0, .ref 0), (1, .int v1), (2, .int v2), (3, .int v3)] [] M) : ∀ (v1 : Int32) (v2 : Int32) (v3 : Int32) (M : zM), f8_rests_84 k23 v1 v2 v3 M = some (r1, Mr) → zJ ztops RX8 cX8_rests 5 (zBm ztops 4 (some .int) (some (.int r1)) Mr) 0 0 84 [(0, .ref 0), (1, .int v1), (2, .int v2), (3, .int v3)] [] M := by
  intro v1 v2 v3 M h
  rw [f8_rests_84] at h
  refine zg_iinc (ls' := [(0, .ref 0), (1, .int v1), (2, .int v2), (3, .int (v3 + (1 : Int32)))]) 3 dX8_rests_84 rfl zki_1 (Nat.le_of_ble_eq_true rfl) rfl ?_
  refine zg_goto (tgt := 23) dX8_rests_87 (by decide) ?_
  exact hk23 _ _ _ _ h
set_option maxRecDepth 20000 in
set_option maxHeartbeats 4000000 in
theorem g8_rests_23 {r1 : Int32} {Mr : zM} : ∀ (n : Nat) (v1 : Int32) (v2 : Int32) (v3 : Int32) (M : zM), f8_rests_23 n v1 v2 v3 M = some (r1, Mr) → zJ ztops RX8 cX8_rests 5 (zBm ztops 4 (some .int) (some (.int r1)) Mr) 0 0 23 [(0, .ref 0), (1, .int v1), (2, .int v2), (3, .int v3)] [] M := by
  intro n
  induction n with
  | zero => intro v1 v2 v3 M h; cases h
  | succ n ih =>
    intro v1 v2 v3 M h
    rw [f8_rests_23] at h
    refine zg_iload_n 3 dX8_rests_23 rfl rfl ?_
    refine zg_bipush dX8_rests_24 zkb_9 ?_
    refine zg_icmp_gt (tgt := 90) dX8_rests_26 (by decide) (fun hc => ?_) (fun hc => ?_)
    · replace h := (if_pos hc).symm.trans h
      refine zg_iload_n 2 dX8_rests_90 rfl rfl ?_
      obtain ⟨rfl, rfl⟩ := z_ret2 h
      exact zg_iret dX8_rests_91
    · replace h := (if_neg hc).symm.trans h
      refine zg_iconst dX8_rests_29 zki_0 ?_
      refine zg_istore (ls' := [(0, .ref 0), (1, .int v1), (2, .int v2), (3, .int v3), (4, .int (0 : Int32))]) dX8_rests_30 (Nat.le_of_ble_eq_true rfl) rfl ?_
      exact g8_rests_32 (fun u0 u1 u2 u3 h => g8_rests_84 (fun u0 u1 u2 u3 h => ih u0 u1 u2 u3 h) u0 u1 u2 u3 h) zfuel _ _ _ _ _ h
set_option maxRecDepth 20000 in
set_option maxHeartbeats 4000000 in
theorem k_X8_rests {v1 : Int32} {M : zM} {r1 : Int32} {Mr : zM} (h : f8_rests v1 M = some (r1, Mr)) : zK ztops yX8_rests cX8_rests 5 (some .int) 4 [.ref 0, .int v1] M (some (.int r1)) Mr := by
  refine zK_of pl_X8 (Nat.le_of_ble_eq_true rfl) ?_
  show zJ ztops RX8 cX8_rests 5 _ 0 0 0 [(0, .ref 0), (1, .int v1)] [] M
  rw [f8_rests] at h
  refine zg_iload_n 1 dX8_rests_0 rfl rfl ?_
  refine zg_if_lt (tgt := 10) dX8_rests_1 (by decide) (fun hc => ?_) (fun hc => ?_)
  · replace h := (if_pos hc).symm.trans h
    refine zg_iconst dX8_rests_10 zki_m1 ?_
    obtain ⟨rfl, rfl⟩ := z_ret2 h
    exact zg_iret dX8_rests_11
  · replace h := (if_neg hc).symm.trans h
    refine zg_iload_n 1 dX8_rests_4 rfl rfl ?_
    refine zg_bipush dX8_rests_5 zkb_20 ?_
    refine zg_icmp_le (tgt := 12) dX8_rests_7 (by decide) (fun hc => ?_) (fun hc => ?_)
    · replace h := (if_pos hc).symm.trans h
      refine zg_aload_n 0 dX8_rests_12 rfl rfl ?_
      refine zo_getr 9 8 rfl fl_X8_32 zt_0 rfl dX8_rests_13 ?_
      obtain ⟨M1, hM1, h⟩ := z_bind h
      refine zg_callV (st := []) (k_X3_clear hM1) zY_X3_clear lv_X8_222 rfl zt_9 rfl (zfit_m (by decide) (by decide)) (Nat.le_of_ble_eq_true rfl) dX8_rests_16 rfl ?_
      refine zg_iconst dX8_rests_19 zki_0 ?_
      refine zg_istore_n (ls' := [(0, .ref 0), (1, .int v1), (2, .int (0 : Int32))]) dX8_rests_20 rfl (Nat.le_of_ble_eq_true rfl) rfl ?_
      refine zg_iconst dX8_rests_21 zki_0 ?_
      refine zg_istore_n (ls' := [(0, .ref 0), (1, .int v1), (2, .int (0 : Int32)), (3, .int (0 : Int32))]) dX8_rests_22 rfl (Nat.le_of_ble_eq_true rfl) rfl ?_
      exact g8_rests_23 zfuel _ _ _ _ h
    · replace h := (if_neg hc).symm.trans h
      refine zg_iconst dX8_rests_10 zki_m1 ?_
      obtain ⟨rfl, rfl⟩ := z_ret2 h
      exact zg_iret dX8_rests_11
set_option maxRecDepth 20000 in
set_option maxHeartbeats 4000000 in
theorem k_X8_again {v1 : Int32} {M : zM} {r1 : Int32} {Mr : zM} (h : f8_again v1 M = some (r1, Mr)) : zK ztops yX8_again cX8_again 2 (some .boolean) 4 [.ref 0, .int v1] M (some (.int r1)) Mr := by
  refine zK_of pl_X8 (Nat.le_of_ble_eq_true rfl) ?_
  show zJ ztops RX8 cX8_again 2 _ 0 0 0 [(0, .ref 0), (1, .int v1)] [] M
  rw [f8_again] at h
  refine zg_aload_n 0 dX8_again_0 rfl rfl ?_
  refine zo_getr 36 35 rfl fl_X8_76 zt_0 rfl dX8_again_1 ?_
  refine zg_iload_n 1 dX8_again_4 rfl rfl ?_
  obtain ⟨x1, hx1, h⟩ := z_bind h
  refine zg_callV (st := []) (k_X2_holds zM_36 hx1) zY_X2_holds lv_X8_371 rfl zt_36 rfl (zfit_m (by decide) (by decide)) (Nat.le_of_ble_eq_true rfl) dX8_again_5 rfl ?_
  refine zg_if_ne (tgt := 13) dX8_again_8 (by decide) (fun hc => ?_) (fun hc => ?_)
  · replace h := (if_neg hc).symm.trans h
    refine zg_aload_n 0 dX8_again_13 rfl rfl ?_
    refine zo_getr 36 35 rfl fl_X8_76 zt_0 rfl dX8_again_14 ?_
    refine zg_iload_n 1 dX8_again_17 rfl rfl ?_
    refine zg_aload_n 0 dX8_again_18 rfl rfl ?_
    refine zo_getr 1 0 rfl fl_X8_10 zt_0 rfl dX8_again_19 ?_
    obtain ⟨M2, hM2, h⟩ := z_bind h
    refine zg_callV (st := []) (k_X2_bringBack zM_36 zW_1 hM2) zY_X2_bringBack lv_X8_199 rfl zt_36 rfl (zfit_m (by decide) (by decide)) (Nat.le_of_ble_eq_true rfl) dX8_again_22 rfl ?_
    refine zg_aload_n 0 dX8_again_25 rfl rfl ?_
    refine zo_getr 33 32 rfl fl_X8_72 zt_0 rfl dX8_again_26 ?_
    obtain ⟨M3, hM3, h⟩ := z_bind h
    refine zg_callV (st := []) (k_X2_empty zM_33 hM3) zY_X2_empty lv_X8_97 rfl zt_33 rfl (zfit_m (by decide) (by decide)) (Nat.le_of_ble_eq_true rfl) dX8_again_29 rfl ?_
    refine zg_iconst dX8_again_32 zki_1 ?_
    obtain ⟨rfl, rfl⟩ := z_ret2 h
    exact zg_zret rfl dX8_again_33
  · replace h := (if_pos hc).symm.trans h
    refine zg_iconst dX8_again_11 zki_0 ?_
    obtain ⟨rfl, rfl⟩ := z_ret2 h
    exact zg_zret rfl dX8_again_12
set_option maxRecDepth 20000 in
set_option maxHeartbeats 4000000 in
theorem k_X8_noted {v1 : Int32} {v2 : Int64} {v4 : Int32} {M : zM} {r1 : Int32} {Mr : zM} (h : f8_noted v1 v2 v4 M = some (r1, Mr)) : zK ztops yX8_noted cX8_noted 5 (some .int) 3 [.ref 0, .int v1, .long v2, .int v4] M (some (.int r1)) Mr := by
  refine zK_of pl_X8 (Nat.le_of_ble_eq_true rfl) ?_
  show zJ ztops RX8 cX8_noted 5 _ 0 0 0 [(0, .ref 0), (1, .int v1), (2, .long v2), (4, .int v4)] [] M
  rw [f8_noted] at h
  refine zg_iload_n 1 dX8_noted_0 rfl rfl ?_
  refine zg_if_lt (tgt := 14) dX8_noted_1 (by decide) (fun hc => ?_) (fun hc => ?_)
  · replace h := (if_pos hc).symm.trans h
    refine zg_iload_n 1 dX8_noted_14 rfl rfl ?_
    obtain ⟨rfl, rfl⟩ := z_ret2 h
    exact zg_iret dX8_noted_15
  · replace h := (if_neg hc).symm.trans h
    refine zg_aload_n 0 dX8_noted_4 rfl rfl ?_
    refine zo_getr 33 32 rfl fl_X8_72 zt_0 rfl dX8_noted_5 ?_
    refine zg_lload_n 2 dX8_noted_8 rfl rfl ?_
    refine zg_iload 3 dX8_noted_9 rfl ?_
    obtain ⟨M1, hM1, h⟩ := z_bind h
    refine zg_callV (st := []) (k_X2_push zM_33 hM1) zY_X2_push lv_X8_148 rfl zt_33 rfl (zfit_m (by decide) (by decide)) (Nat.le_of_ble_eq_true rfl) dX8_noted_11 rfl ?_
    refine zg_iload_n 1 dX8_noted_14 rfl rfl ?_
    obtain ⟨rfl, rfl⟩ := z_ret2 h
    exact zg_iret dX8_noted_15
set_option maxRecDepth 20000 in
set_option maxHeartbeats 4000000 in
theorem g8_ragsWithout_85 {r1 : Int32} {Mr : zM} {k26 : Int32 → Int32 → Int64 → Int32 → Int32 → zM → Option (Int32 × zM)} (hk26 : ∀ (v1 : Int32) (v2 : Int32) (v3 : Int64) (v5 : Int32) (v6 : Int32) (M : zM), k26 v1 v2 v3 v5 v6 M = some (r1, Mr) → zJ ztops RX8 cX8_ragsWithout 7 (zBm ztops 3 (some .int) (some (.int r1)) Mr) 0 0 26 [(0, .ref 0), (1, .int v1), (2, .int v2), (3, .long v3), (5, .int v5), (6, .int v6)] [] M) : ∀ (v1 : Int32) (v2 : Int32) (v3 : Int64) (v5 : Int32) (v6 : Int32) (M : zM), f8_ragsWithout_85 k26 v1 v2 v3 v5 v6 M = some (r1, Mr) → zJ ztops RX8 cX8_ragsWithout 7 (zBm ztops 3 (some .int) (some (.int r1)) Mr) 0 0 85 [(0, .ref 0), (1, .int v1), (2, .int v2), (3, .long v3), (5, .int v5), (6, .int v6)] [] M := by
  intro v1 v2 v3 v5 v6 M h
  rw [f8_ragsWithout_85] at h
  refine zg_iinc (ls' := [(0, .ref 0), (1, .int v1), (2, .int v2), (3, .long v3), (5, .int v5), (6, .int (v6 + (1 : Int32)))]) 5 dX8_ragsWithout_85 rfl zki_1 (Nat.le_of_ble_eq_true rfl) rfl ?_
  refine zg_goto (tgt := 26) dX8_ragsWithout_88 (by decide) ?_
  exact hk26 _ _ _ _ _ _ h
set_option maxRecDepth 20000 in
set_option maxHeartbeats 4000000 in
theorem g8_ragsWithout_82 {r1 : Int32} {Mr : zM} {k26 : Int32 → Int32 → Int64 → Int32 → Int32 → zM → Option (Int32 × zM)} (hk26 : ∀ (v1 : Int32) (v2 : Int32) (v3 : Int64) (v5 : Int32) (v6 : Int32) (M : zM), k26 v1 v2 v3 v5 v6 M = some (r1, Mr) → zJ ztops RX8 cX8_ragsWithout 7 (zBm ztops 3 (some .int) (some (.int r1)) Mr) 0 0 26 [(0, .ref 0), (1, .int v1), (2, .int v2), (3, .long v3), (5, .int v5), (6, .int v6)] [] M) : ∀ (v1 : Int32) (v2 : Int32) (v3 : Int64) (v5 : Int32) (v6 : Int32) (M : zM), f8_ragsWithout_82 k26 v1 v2 v3 v5 v6 M = some (r1, Mr) → zJ ztops RX8 cX8_ragsWithout 7 (zBm ztops 3 (some .int) (some (.int r1)) Mr) 0 0 82 [(0, .ref 0), (1, .int v1), (2, .int v2), (3, .long v3), (5, .int v5), (6, .int v6)] [] M := by
  intro v1 v2 v3 v5 v6 M h
  rw [f8_ragsWithout_82] at h
  refine zg_iinc (ls' := [(0, .ref 0), (1, .int v1), (2, .int v2), (3, .long v3), (5, .int (v5 + (1 : Int32))), (6, .int v6)]) 4 dX8_ragsWithout_82 rfl zki_1 (Nat.le_of_ble_eq_true rfl) rfl ?_
  exact g8_ragsWithout_85 hk26 _ _ _ _ _ _ h
set_option maxRecDepth 20000 in
set_option maxHeartbeats 4000000 in
theorem g8_ragsWithout_26 {r1 : Int32} {Mr : zM} : ∀ (n : Nat) (v1 : Int32) (v2 : Int32) (v3 : Int64) (v5 : Int32) (v6 : Int32) (M : zM), f8_ragsWithout_26 n v1 v2 v3 v5 v6 M = some (r1, Mr) → zJ ztops RX8 cX8_ragsWithout 7 (zBm ztops 3 (some .int) (some (.int r1)) Mr) 0 0 26 [(0, .ref 0), (1, .int v1), (2, .int v2), (3, .long v3), (5, .int v5), (6, .int v6)] [] M := by
  intro n
  induction n with
  | zero => intro v1 v2 v3 v5 v6 M h; cases h
  | succ n ih =>
    intro v1 v2 v3 v5 v6 M h
    rw [f8_ragsWithout_26] at h
    refine zg_iload 5 dX8_ragsWithout_26 rfl ?_
    refine zg_iconst dX8_ragsWithout_28 zki_1 ?_
    refine zg_aload_n 0 dX8_ragsWithout_29 rfl rfl ?_
    refine zo_getr 1 0 rfl fl_X8_10 zt_0 rfl dX8_ragsWithout_30 ?_
    refine zg_geti fl_X8_100 zt_1 rfl dX8_ragsWithout_33 ?_
    refine zg_ishl dX8_ragsWithout_36 ?_
    refine zg_icmp_ge (tgt := 91) dX8_ragsWithout_37 (by decide) (fun hc => ?_) (fun hc => ?_)
    · replace h := (if_pos hc).symm.trans h
      refine zg_iload 4 dX8_ragsWithout_91 rfl ?_
      obtain ⟨rfl, rfl⟩ := z_ret2 h
      exact zg_iret dX8_ragsWithout_93
    · replace h := (if_neg hc).symm.trans h
      refine zg_aload_n 0 dX8_ragsWithout_40 rfl rfl ?_
      refine zo_getr 27 26 rfl fl_X8_56 zt_0 rfl dX8_ragsWithout_41 ?_
      refine zg_aload_n 0 dX8_ragsWithout_44 rfl rfl ?_
      refine zo_getr 1 0 rfl fl_X8_10 zt_0 rfl dX8_ragsWithout_45 ?_
      refine zg_iload 5 dX8_ragsWithout_48 rfl ?_
      obtain ⟨x1, hx1, h⟩ := z_bind h
      refine zg_callV (st := []) (k_X1_shapeWithout zW_1 hx1) zY_X1_shapeWithout lv_X8_241 rfl zt_27 rfl (zfit_m (by decide) (by decide)) (Nat.le_of_ble_eq_true rfl) dX8_ragsWithout_50 rfl ?_
      refine zg_lload_n 3 dX8_ragsWithout_53 rfl rfl ?_
      refine zg_lcmp dX8_ragsWithout_54 ?_
      refine zg_if_ne (tgt := 85) dX8_ragsWithout_55 (by decide) (fun hc => ?_) (fun hc => ?_)
      · replace h := (if_neg hc).symm.trans h
        exact g8_ragsWithout_85 (fun u0 u1 u2 u3 u4 u5 h => ih u0 u1 u2 u3 u4 u5 h) _ _ _ _ _ _ h
      · replace h := (if_pos hc).symm.trans h
        refine zg_iload_n 2 dX8_ragsWithout_58 rfl rfl ?_
        refine zg_if_eq (tgt := 82) dX8_ragsWithout_59 (by decide) (fun hc => ?_) (fun hc => ?_)
        · replace h := (if_pos hc).symm.trans h
          exact g8_ragsWithout_82 (fun u0 u1 u2 u3 u4 u5 h => ih u0 u1 u2 u3 u4 u5 h) _ _ _ _ _ _ h
        · replace h := (if_neg hc).symm.trans h
          refine zg_iload 4 dX8_ragsWithout_62 rfl ?_
          refine zg_if_ne (tgt := 82) dX8_ragsWithout_64 (by decide) (fun hc => ?_) (fun hc => ?_)
          · replace h := (if_neg hc).symm.trans h
            exact g8_ragsWithout_82 (fun u0 u1 u2 u3 u4 u5 h => ih u0 u1 u2 u3 u4 u5 h) _ _ _ _ _ _ h
          · replace h := (if_pos hc).symm.trans h
            refine zg_aload_n 0 dX8_ragsWithout_67 rfl rfl ?_
            refine zo_getr 9 8 rfl fl_X8_32 zt_0 rfl dX8_ragsWithout_68 ?_
            refine zg_iload 5 dX8_ragsWithout_71 rfl ?_
            refine zg_iload_n 1 dX8_ragsWithout_73 rfl rfl ?_
            refine zg_bipush dX8_ragsWithout_74 zkb_6 ?_
            refine zg_ishl dX8_ragsWithout_76 ?_
            refine zg_ior dX8_ragsWithout_77 ?_
            refine zg_i2l dX8_ragsWithout_78 ?_
            obtain ⟨M2, hM2, h⟩ := z_bind h
            refine zg_callV (st := []) (k_X3_tell hM2) zY_X3_tell lv_X8_207 rfl zt_9 rfl (zfit_m (by decide) (by decide)) (Nat.le_of_ble_eq_true rfl) dX8_ragsWithout_79 rfl ?_
            exact g8_ragsWithout_82 (fun u0 u1 u2 u3 u4 u5 h => ih u0 u1 u2 u3 u4 u5 h) _ _ _ _ _ _ h
set_option maxRecDepth 20000 in
set_option maxHeartbeats 4000000 in
theorem k_X8_ragsWithout {v1 : Int32} {v2 : Int32} {M : zM} {r1 : Int32} {Mr : zM} (h : f8_ragsWithout v1 v2 M = some (r1, Mr)) : zK ztops yX8_ragsWithout cX8_ragsWithout 7 (some .int) 3 [.ref 0, .int v1, .int v2] M (some (.int r1)) Mr := by
  refine zK_of pl_X8 (Nat.le_of_ble_eq_true rfl) ?_
  show zJ ztops RX8 cX8_ragsWithout 7 _ 0 0 0 [(0, .ref 0), (1, .int v1), (2, .int v2)] [] M
  rw [f8_ragsWithout] at h
  refine zg_aload_n 0 dX8_ragsWithout_0 rfl rfl ?_
  refine zo_getr 27 26 rfl fl_X8_56 zt_0 rfl dX8_ragsWithout_1 ?_
  refine zg_aload_n 0 dX8_ragsWithout_4 rfl rfl ?_
  refine zo_getr 1 0 rfl fl_X8_10 zt_0 rfl dX8_ragsWithout_5 ?_
  refine zg_iload_n 1 dX8_ragsWithout_8 rfl rfl ?_
  obtain ⟨M1, hM1, h⟩ := z_bind h
  refine zg_callV (st := []) (k_X1_narrow zW_1 hM1) zY_X1_narrow lv_X8_237 rfl zt_27 rfl (zfit_m (by decide) (by decide)) (Nat.le_of_ble_eq_true rfl) dX8_ragsWithout_9 rfl ?_
  refine zg_aload_n 0 dX8_ragsWithout_12 rfl rfl ?_
  refine zo_getr 3 2 rfl fl_X8_16 zt_0 rfl dX8_ragsWithout_13 ?_
  obtain ⟨x2, hx2, h⟩ := z_bind h
  refine zg_callV (st := []) (k_X7_shape zW_3 hx2) zY_X7_shape lv_X8_141 rfl zt_3 rfl (zfit_m (by decide) (by decide)) (Nat.le_of_ble_eq_true rfl) dX8_ragsWithout_16 rfl ?_
  refine zg_lstore_n (ls' := [(0, .ref 0), (1, .int v1), (2, .int v2), (3, .long x2)]) dX8_ragsWithout_19 rfl (Nat.le_of_ble_eq_true rfl) rfl ?_
  refine zg_iconst dX8_ragsWithout_20 zki_0 ?_
  refine zg_istore (ls' := [(0, .ref 0), (1, .int v1), (2, .int v2), (3, .long x2), (5, .int (0 : Int32))]) dX8_ragsWithout_21 (Nat.le_of_ble_eq_true rfl) rfl ?_
  refine zg_iconst dX8_ragsWithout_23 zki_0 ?_
  refine zg_istore (ls' := [(0, .ref 0), (1, .int v1), (2, .int v2), (3, .long x2), (5, .int (0 : Int32)), (6, .int (0 : Int32))]) dX8_ragsWithout_24 (Nat.le_of_ble_eq_true rfl) rfl ?_
  exact g8_ragsWithout_26 zfuel _ _ _ _ _ _ h
set_option maxRecDepth 20000 in
set_option maxHeartbeats 4000000 in
theorem g8_canBeAlike_31 {r1 : Int32} {M : zM} {k70 : Int32 → Int32 → Int32 → zM → Option Int32} (hk70 : ∀ (v1 : Int32) (v2 : Int32) (v3 : Int32), k70 v1 v2 v3 M = some r1 → zJ ztops RX8 cX8_canBeAlike 6 (zBm ztops 2 (some .boolean) (some (.int r1)) M) 0 0 70 [(0, .ref 0), (1, .int v1), (2, .int v2), (3, .int v3)] [] M) : ∀ (n : Nat) (v1 : Int32) (v2 : Int32) (v3 : Int32) (v4 : Int32) (v5 : Int32), f8_canBeAlike_31 k70 n v1 v2 v3 v4 v5 M = some r1 → zJ ztops RX8 cX8_canBeAlike 6 (zBm ztops 2 (some .boolean) (some (.int r1)) M) 0 0 31 [(0, .ref 0), (1, .int v1), (2, .int v2), (3, .int v3), (4, .int v4), (5, .int v5)] [] M := by
  intro n
  induction n with
  | zero => intro v1 v2 v3 v4 v5 h; cases h
  | succ n ih =>
    intro v1 v2 v3 v4 v5 h
    rw [f8_canBeAlike_31] at h
    refine zg_iload 5 dX8_canBeAlike_31 rfl ?_
    refine zg_aload_n 0 dX8_canBeAlike_33 rfl rfl ?_
    refine zo_getr 1 0 rfl fl_X8_10 zt_0 rfl dX8_canBeAlike_34 ?_
    refine zg_geti fl_X8_213 zt_1 rfl dX8_canBeAlike_37 ?_
    refine zg_icmp_ge (tgt := 70) dX8_canBeAlike_40 (by decide) (fun hc => ?_) (fun hc => ?_)
    · replace h := (if_pos hc).symm.trans h
      refine zo_sub (ls' := [(0, .ref 0), (1, .int v1), (2, .int v2), (3, .int v3)]) [0, 1, 2, 3] rfl ?_
      exact hk70 _ _ _ h
    · replace h := (if_neg hc).symm.trans h
      refine zg_iload 4 dX8_canBeAlike_43 rfl ?_
      refine zg_aload_n 0 dX8_canBeAlike_45 rfl rfl ?_
      refine zo_getr 1 0 rfl fl_X8_10 zt_0 rfl dX8_canBeAlike_46 ?_
      refine zg_iconst dX8_canBeAlike_49 zki_0 ?_
      refine zg_iload_n 2 dX8_canBeAlike_50 rfl rfl ?_
      obtain ⟨x1, hx1, h⟩ := z_bind h
      refine zg_callV (st := [.int v4]) (k_X7_cellsOf zW_1 hx1) zY_X7_cellsOf lv_X8_121 rfl zt_1 rfl (zfit_m (by decide) (by decide)) (Nat.le_of_ble_eq_true rfl) dX8_canBeAlike_51 rfl ?_
      refine zg_iload 5 dX8_canBeAlike_54 rfl ?_
      obtain ⟨x2, hx2, h⟩ := z_bind h
      refine zg_callS (st := [.int v4]) (k_X8_without hx2) zY_X8_without ls_X8_407 rfl (zfit_m (by decide) (by decide)) (Nat.le_of_ble_eq_true rfl) dX8_canBeAlike_56 rfl ?_
      refine zg_icmp_ne (tgt := 64) dX8_canBeAlike_59 (by decide) (fun hc => ?_) (fun hc => ?_)
      · replace h := (if_neg hc).symm.trans h
        refine zg_iinc (ls' := [(0, .ref 0), (1, .int v1), (2, .int v2), (3, .int v3), (4, .int v4), (5, .int (v5 + (1 : Int32)))]) 5 dX8_canBeAlike_64 rfl zki_1 (Nat.le_of_ble_eq_true rfl) rfl ?_
        refine zg_goto (tgt := 31) dX8_canBeAlike_67 (by decide) ?_
        exact ih _ _ _ _ _ h
      · replace h := (if_pos hc).symm.trans h
        refine zg_iconst dX8_canBeAlike_62 zki_1 ?_
        obtain rfl := z_ret1 h
        exact zg_zret rfl dX8_canBeAlike_63
set_option maxRecDepth 20000 in
set_option maxHeartbeats 4000000 in
theorem g8_canBeAlike_70 {r1 : Int32} {M : zM} {k2 : Int32 → Int32 → Int32 → zM → Option Int32} (hk2 : ∀ (v1 : Int32) (v2 : Int32) (v3 : Int32), k2 v1 v2 v3 M = some r1 → zJ ztops RX8 cX8_canBeAlike 6 (zBm ztops 2 (some .boolean) (some (.int r1)) M) 0 0 2 [(0, .ref 0), (1, .int v1), (2, .int v2), (3, .int v3)] [] M) : ∀ (v1 : Int32) (v2 : Int32) (v3 : Int32), f8_canBeAlike_70 k2 v1 v2 v3 M = some r1 → zJ ztops RX8 cX8_canBeAlike 6 (zBm ztops 2 (some .boolean) (some (.int r1)) M) 0 0 70 [(0, .ref 0), (1, .int v1), (2, .int v2), (3, .int v3)] [] M := by
  intro v1 v2 v3 h
  rw [f8_canBeAlike_70] at h
  refine zg_iinc (ls' := [(0, .ref 0), (1, .int v1), (2, .int v2), (3, .int (v3 + (1 : Int32)))]) 3 dX8_canBeAlike_70 rfl zki_1 (Nat.le_of_ble_eq_true rfl) rfl ?_
  refine zg_goto (tgt := 2) dX8_canBeAlike_73 (by decide) ?_
  exact hk2 _ _ _ h
set_option maxRecDepth 20000 in
set_option maxHeartbeats 4000000 in
theorem g8_canBeAlike_2 {r1 : Int32} {M : zM} : ∀ (n : Nat) (v1 : Int32) (v2 : Int32) (v3 : Int32), f8_canBeAlike_2 n v1 v2 v3 M = some r1 → zJ ztops RX8 cX8_canBeAlike 6 (zBm ztops 2 (some .boolean) (some (.int r1)) M) 0 0 2 [(0, .ref 0), (1, .int v1), (2, .int v2), (3, .int v3)] [] M := by
  intro n
  induction n with
  | zero => intro v1 v2 v3 h; cases h
  | succ n ih =>
    intro v1 v2 v3 h
    rw [f8_canBeAlike_2] at h
    refine zg_iload_n 3 dX8_canBeAlike_2 rfl rfl ?_
    refine zg_aload_n 0 dX8_canBeAlike_3 rfl rfl ?_
    refine zo_getr 1 0 rfl fl_X8_10 zt_0 rfl dX8_canBeAlike_4 ?_
    refine zg_geti fl_X8_213 zt_1 rfl dX8_canBeAlike_7 ?_
    refine zg_icmp_ge (tgt := 76) dX8_canBeAlike_10 (by decide) (fun hc => ?_) (fun hc => ?_)
    · replace h := (if_pos hc).symm.trans h
      refine zg_iconst dX8_canBeAlike_76 zki_0 ?_
      obtain rfl := z_ret1 h
      exact zg_zret rfl dX8_canBeAlike_77
    · replace h := (if_neg hc).symm.trans h
      refine zg_aload_n 0 dX8_canBeAlike_13 rfl rfl ?_
      refine zo_getr 1 0 rfl fl_X8_10 zt_0 rfl dX8_canBeAlike_14 ?_
      refine zg_iconst dX8_canBeAlike_17 zki_0 ?_
      refine zg_iload_n 1 dX8_canBeAlike_18 rfl rfl ?_
      obtain ⟨x1, hx1, h⟩ := z_bind h
      refine zg_callV (st := []) (k_X7_cellsOf zW_1 hx1) zY_X7_cellsOf lv_X8_121 rfl zt_1 rfl (zfit_m (by decide) (by decide)) (Nat.le_of_ble_eq_true rfl) dX8_canBeAlike_19 rfl ?_
      refine zg_iload_n 3 dX8_canBeAlike_22 rfl rfl ?_
      obtain ⟨x2, hx2, h⟩ := z_bind h
      refine zg_callS (st := []) (k_X8_without hx2) zY_X8_without ls_X8_407 rfl (zfit_m (by decide) (by decide)) (Nat.le_of_ble_eq_true rfl) dX8_canBeAlike_23 rfl ?_
      refine zg_istore (ls' := [(0, .ref 0), (1, .int v1), (2, .int v2), (3, .int v3), (4, .int x2)]) dX8_canBeAlike_26 (Nat.le_of_ble_eq_true rfl) rfl ?_
      refine zg_iconst dX8_canBeAlike_28 zki_0 ?_
      refine zg_istore (ls' := [(0, .ref 0), (1, .int v1), (2, .int v2), (3, .int v3), (4, .int x2), (5, .int (0 : Int32))]) dX8_canBeAlike_29 (Nat.le_of_ble_eq_true rfl) rfl ?_
      exact g8_canBeAlike_31 (fun u0 u1 u2 h => g8_canBeAlike_70 (fun u0 u1 u2 h => ih u0 u1 u2 h) u0 u1 u2 h) zfuel _ _ _ _ _ h
set_option maxRecDepth 20000 in
set_option maxHeartbeats 4000000 in
theorem k_X8_canBeAlike {v1 : Int32} {v2 : Int32} {r1 : Int32} {M : zM} (h : f8_canBeAlike v1 v2 M = some r1) : zK ztops yX8_canBeAlike cX8_canBeAlike 6 (some .boolean) 2 [.ref 0, .int v1, .int v2] M (some (.int r1)) M := by
  refine zK_of pl_X8 (Nat.le_of_ble_eq_true rfl) ?_
  show zJ ztops RX8 cX8_canBeAlike 6 _ 0 0 0 [(0, .ref 0), (1, .int v1), (2, .int v2)] [] M
  rw [f8_canBeAlike] at h
  refine zg_iconst dX8_canBeAlike_0 zki_0 ?_
  refine zg_istore_n (ls' := [(0, .ref 0), (1, .int v1), (2, .int v2), (3, .int (0 : Int32))]) dX8_canBeAlike_1 rfl (Nat.le_of_ble_eq_true rfl) rfl ?_
  exact g8_canBeAlike_2 zfuel _ _ _ h
