set_option maxRecDepth 20000 in
set_option maxHeartbeats 4000000 in
theorem k_X9_nextOf {a1 : Nat} (h1 : ztops[a1]? = some (.inl (0, 9))) {M : zM} {r1 : Int32} {Mr : zM} (h : f9_nextOf a1 M = some (r1, Mr)) : zK ztops yX9_nextOf cX9_nextOf 3 (some .int) 6 [.ref 39, .ref a1] M (some (.int r1)) Mr := by
  refine zK_of pl_X9 (Nat.le_of_ble_eq_true rfl) ?_
  show zJ ztops RX9 cX9_nextOf 3 _ 0 0 0 [(0, .ref 39), (1, .ref a1)] [] M
  rw [f9_nextOf] at h
  refine zg_aload_n 0 dX9_nextOf_0 rfl rfl ?_
  refine zg_aload_n 1 dX9_nextOf_1 rfl rfl ?_
  obtain ⟨p1, hp1, h⟩ := z_bind h
  refine zg_callV (st := []) (k_X9_strongest h1 hp1) zY_X9_strongest lv_X9_269 rfl zt_39 rfl (zfit_m (by decide) (by decide)) (Nat.le_of_ble_eq_true rfl) dX9_nextOf_2 rfl ?_
  refine zg_istore_n (ls' := [(0, .ref 39), (1, .ref a1), (2, .int p1.1)]) dX9_nextOf_5 rfl (Nat.le_of_ble_eq_true rfl) rfl ?_
  refine zg_aload_n 1 dX9_nextOf_6 rfl rfl ?_
  refine zg_iload_n 2 dX9_nextOf_7 rfl rfl ?_
  refine zg_bipush dX9_nextOf_8 zkb_6 ?_
  refine zg_idiv (by decide) dX9_nextOf_10 ?_
  obtain ⟨x2, hx2, h⟩ := z_bind h
  refine zg_callS (st := []) (k_X9_manyOf h1 hx2) zY_X9_manyOf ls_X9_108 rfl (zfit_m (by decide) (by decide)) (Nat.le_of_ble_eq_true rfl) dX9_nextOf_11 rfl ?_
  refine zg_iconst dX9_nextOf_14 zki_1 ?_
  suffices hj : zJ ztops RX9 cX9_nextOf 3 (zBm ztops 6 (some .int) (some (.int r1)) Mr) 0 0 24 [(0, .ref 39), (1, .ref a1), (2, .int p1.1)] [.int (if x2 = (1 : Int32) then (-2 : Int32) else p1.1)] p1.2 by
    refine zg_icmp_ne (tgt := 23) dX9_nextOf_15 (by decide) (fun hc => ?_) (fun hc => ?_)
    · rw [show (if x2 = (1 : Int32) then (-2 : Int32) else p1.1) = p1.1 from if_neg hc] at hj
      refine zg_iload_n 2 dX9_nextOf_23 rfl rfl ?_
      exact hj
    · rw [show (if x2 = (1 : Int32) then (-2 : Int32) else p1.1) = (-2 : Int32) from if_pos hc] at hj
      refine zg_bipush dX9_nextOf_18 zkb_m2 ?_
      refine zg_goto (tgt := 24) dX9_nextOf_20 (by decide) ?_
      exact hj
  obtain ⟨rfl, rfl⟩ := z_ret2 h
  exact zg_iret dX9_nextOf_24
set_option maxRecDepth 20000 in
set_option maxHeartbeats 4000000 in
theorem g9_cell_29 {r1 : Int32} {Mr : zM} : ∀ (M : zM), f9_cell_29 M = some (r1, Mr) → zJ ztops RX9 cX9_cell 3 (zBm ztops 3 (some .int) (some (.int r1)) Mr) 0 0 29 [(0, .ref 39)] [] M := by
  intro M h
  rw [f9_cell_29] at h
  refine zg_aload_n 0 dX9_cell_29 rfl rfl ?_
  obtain ⟨p1, hp1, h⟩ := z_bind h
  refine zg_callV (st := []) (k_X9_refuse hp1) zY_X9_refuse lv_X9_273 rfl zt_39 rfl (zfit_m (by decide) (by decide)) (Nat.le_of_ble_eq_true rfl) dX9_cell_30 rfl ?_
  obtain ⟨rfl, rfl⟩ := z_ret2 h
  exact zg_iret dX9_cell_33
set_option maxRecDepth 20000 in
set_option maxHeartbeats 4000000 in
theorem k_X9_cell {v1 : Int32} {v2 : Int32} {M : zM} {r1 : Int32} {Mr : zM} (h : f9_cell v1 v2 M = some (r1, Mr)) : zK ztops yX9_cell cX9_cell 3 (some .int) 3 [.ref 39, .int v1, .int v2] M (some (.int r1)) Mr := by
  refine zK_of pl_X9 (Nat.le_of_ble_eq_true rfl) ?_
  show zJ ztops RX9 cX9_cell 3 _ 0 0 0 [(0, .ref 39), (1, .int v1), (2, .int v2)] [] M
  rw [f9_cell] at h
  refine zg_aload_n 0 dX9_cell_0 rfl rfl ?_
  refine zg_iconst dX9_cell_1 zki_0 ?_
  refine zg_puti fp_X9_3 zt_39 rfl dX9_cell_2 ?_
  refine zg_aload_n 0 dX9_cell_5 rfl rfl ?_
  refine zo_getr 41 1 rfl fl_X9_24 zt_39 rfl dX9_cell_6 ?_
  refine zg_iconst dX9_cell_9 zki_0 ?_
  refine zg_iload_n 1 dX9_cell_10 rfl rfl ?_
  obtain ⟨x1, hx1, h⟩ := z_bind h
  refine zg_callS (st := []) (k_X9_isThread zt_41 hx1) zY_X9_isThread ls_X9_262 rfl (zfit_m (by decide) (by decide)) (Nat.le_of_ble_eq_true rfl) dX9_cell_11 rfl ?_
  refine zg_if_eq (tgt := 29) dX9_cell_14 (by decide) (fun hc => ?_) (fun hc => ?_)
  · replace h := (if_pos hc).symm.trans h
    refine zo_sub (ls' := [(0, .ref 39)]) [0] rfl ?_
    exact g9_cell_29 _ h
  · replace h := (if_neg hc).symm.trans h
    refine zg_aload_n 0 dX9_cell_17 rfl rfl ?_
    refine zo_getr 41 1 rfl fl_X9_24 zt_39 rfl dX9_cell_18 ?_
    refine zg_iconst dX9_cell_21 zki_1 ?_
    refine zg_iload_n 2 dX9_cell_22 rfl rfl ?_
    obtain ⟨x2, hx2, h⟩ := z_bind h
    refine zg_callS (st := []) (k_X9_isThread zt_41 hx2) zY_X9_isThread ls_X9_262 rfl (zfit_m (by decide) (by decide)) (Nat.le_of_ble_eq_true rfl) dX9_cell_23 rfl ?_
    refine zg_if_ne (tgt := 34) dX9_cell_26 (by decide) (fun hc => ?_) (fun hc => ?_)
    · replace h := (if_neg hc).symm.trans h
      refine zg_aload_n 0 dX9_cell_34 rfl rfl ?_
      refine zo_getr 41 1 rfl fl_X9_24 zt_39 rfl dX9_cell_35 ?_
      refine zg_iload_n 1 dX9_cell_38 rfl rfl ?_
      obtain ⟨x3, hx3, h⟩ := z_bind h
      refine zo_iald zt_41 hx3 dX9_cell_39 ?_
      refine zg_iload_n 2 dX9_cell_40 rfl rfl ?_
      obtain ⟨x4, hx4, h⟩ := z_bind h
      refine zg_callS (st := []) (k_X9_has hx4) zY_X9_has ls_X9_112 rfl (zfit_m (by decide) (by decide)) (Nat.le_of_ble_eq_true rfl) dX9_cell_41 rfl ?_
      obtain ⟨x5, hx5, h⟩ := z_bind h
      refine zg_callS (st := []) (k_X9_flag hx5) zY_X9_flag ls_X9_116 rfl (zfit_m (by decide) (by decide)) (Nat.le_of_ble_eq_true rfl) dX9_cell_44 rfl ?_
      obtain ⟨rfl, rfl⟩ := z_ret2 h
      exact zg_iret dX9_cell_47
    · replace h := (if_pos hc).symm.trans h
      refine zo_sub (ls' := [(0, .ref 39)]) [0] rfl ?_
      exact g9_cell_29 _ h
set_option maxRecDepth 20000 in
set_option maxHeartbeats 4000000 in
theorem g9_thread_29 {r1 : Int32} {Mr : zM} : ∀ (M : zM), f9_thread_29 M = some (r1, Mr) → zJ ztops RX9 cX9_thread 5 (zBm ztops 5 (some .int) (some (.int r1)) Mr) 0 0 29 [(0, .ref 39)] [] M := by
  intro M h
  rw [f9_thread_29] at h
  refine zg_aload_n 0 dX9_thread_29 rfl rfl ?_
  obtain ⟨p1, hp1, h⟩ := z_bind h
  refine zg_callV (st := []) (k_X9_refuse hp1) zY_X9_refuse lv_X9_273 rfl zt_39 rfl (zfit_m (by decide) (by decide)) (Nat.le_of_ble_eq_true rfl) dX9_thread_30 rfl ?_
  obtain ⟨rfl, rfl⟩ := z_ret2 h
  exact zg_iret dX9_thread_33
set_option maxRecDepth 20000 in
set_option maxHeartbeats 4000000 in
theorem k_X9_thread {v1 : Int32} {v2 : Int32} {v3 : Int32} {M : zM} {r1 : Int32} {Mr : zM} (h : f9_thread v1 v2 v3 M = some (r1, Mr)) : zK ztops yX9_thread cX9_thread 5 (some .int) 5 [.ref 39, .int v1, .int v2, .int v3] M (some (.int r1)) Mr := by
  refine zK_of pl_X9 (Nat.le_of_ble_eq_true rfl) ?_
  show zJ ztops RX9 cX9_thread 5 _ 0 0 0 [(0, .ref 39), (1, .int v1), (2, .int v2), (3, .int v3)] [] M
  rw [f9_thread] at h
  refine zg_aload_n 0 dX9_thread_0 rfl rfl ?_
  refine zg_iconst dX9_thread_1 zki_0 ?_
  refine zg_puti fp_X9_3 zt_39 rfl dX9_thread_2 ?_
  refine zg_aload_n 0 dX9_thread_5 rfl rfl ?_
  refine zo_getr 41 1 rfl fl_X9_24 zt_39 rfl dX9_thread_6 ?_
  refine zg_iload_n 1 dX9_thread_9 rfl rfl ?_
  refine zg_iload_n 2 dX9_thread_10 rfl rfl ?_
  obtain ⟨x1, hx1, h⟩ := z_bind h
  refine zg_callS (st := []) (k_X9_isThread zt_41 hx1) zY_X9_isThread ls_X9_262 rfl (zfit_m (by decide) (by decide)) (Nat.le_of_ble_eq_true rfl) dX9_thread_11 rfl ?_
  refine zg_if_eq (tgt := 29) dX9_thread_14 (by decide) (fun hc => ?_) (fun hc => ?_)
  · replace h := (if_pos hc).symm.trans h
    refine zo_sub (ls' := [(0, .ref 39)]) [0] rfl ?_
    exact g9_thread_29 _ h
  · replace h := (if_neg hc).symm.trans h
    refine zg_iload_n 3 dX9_thread_17 rfl rfl ?_
    refine zg_i2l dX9_thread_18 ?_
    refine zg_lconst dX9_thread_19 (v := 0) rfl ?_
    refine zg_ldc2 kc_X9_276 dX9_thread_20 ?_
    obtain ⟨x2, hx2, h⟩ := z_bind h
    refine zg_callS (st := []) (k_X9_in hx2) zY_X9_in ls_X9_104 rfl (zfit_m (by decide) (by decide)) (Nat.le_of_ble_eq_true rfl) dX9_thread_23 rfl ?_
    refine zg_if_ne (tgt := 34) dX9_thread_26 (by decide) (fun hc => ?_) (fun hc => ?_)
    · replace h := (if_neg hc).symm.trans h
      refine zg_aload_n 0 dX9_thread_34 rfl rfl ?_
      refine zo_getr 41 1 rfl fl_X9_24 zt_39 rfl dX9_thread_35 ?_
      refine zg_iload_n 1 dX9_thread_38 rfl rfl ?_
      refine zg_iload_n 2 dX9_thread_39 rfl rfl ?_
      obtain ⟨x3, hx3, h⟩ := z_bind h
      refine zg_callS (st := []) (k_X9_bitsOf zt_41 hx3) zY_X9_bitsOf ls_X9_120 rfl (zfit_m (by decide) (by decide)) (Nat.le_of_ble_eq_true rfl) dX9_thread_40 rfl ?_
      refine zg_istore (ls' := [(0, .ref 39), (1, .int v1), (2, .int v2), (3, .int v3), (4, .int x3)]) dX9_thread_43 (Nat.le_of_ble_eq_true rfl) rfl ?_
      refine zg_iload_n 3 dX9_thread_45 rfl rfl ?_
      by_cases hc1 : v3 = (0 : Int32)
      · replace h := (if_pos hc1).symm.trans h
        refine zg_tableEq (k := 0) (off := 30) (tgt := 76) dX9_thread_46 hc1 (by decide) (by decide) (by decide) (by decide) ?_
        refine zg_iload 4 dX9_thread_76 rfl ?_
        obtain ⟨rfl, rfl⟩ := z_ret2 h
        exact zg_iret dX9_thread_78
      replace h := (if_neg hc1).symm.trans h
      by_cases hc2 : v3 = (1 : Int32)
      · replace h := (if_pos hc2).symm.trans h
        refine zg_tableEq (k := 1) (off := 33) (tgt := 79) dX9_thread_46 hc2 (by decide) (by decide) (by decide) (by decide) ?_
        refine zg_iload 4 dX9_thread_79 rfl ?_
        refine zg_aload_n 0 dX9_thread_81 rfl rfl ?_
        refine zo_getr 41 1 rfl fl_X9_24 zt_39 rfl dX9_thread_82 ?_
        refine zg_iload_n 1 dX9_thread_85 rfl rfl ?_
        obtain ⟨x4, hx4, h⟩ := z_bind h
        refine zg_callS (st := [.int x3]) (k_X9_cellsOf zt_41 hx4) zY_X9_cellsOf ls_X9_124 rfl (zfit_m (by decide) (by decide)) (Nat.le_of_ble_eq_true rfl) dX9_thread_86 rfl ?_
        obtain ⟨x5, hx5, h⟩ := z_bind h
        refine zg_callS (st := []) (k_X9_changesOf hx5) zY_X9_changesOf ls_X9_249 rfl (zfit_m (by decide) (by decide)) (Nat.le_of_ble_eq_true rfl) dX9_thread_89 rfl ?_
        obtain ⟨rfl, rfl⟩ := z_ret2 h
        exact zg_iret dX9_thread_92
      replace h := (if_neg hc2).symm.trans h
      by_cases hc3 : v3 = (2 : Int32)
      · replace h := (if_pos hc3).symm.trans h
        refine zg_tableEq (k := 2) (off := 47) (tgt := 93) dX9_thread_46 hc3 (by decide) (by decide) (by decide) (by decide) ?_
        refine zg_aload_n 0 dX9_thread_93 rfl rfl ?_
        refine zo_getr 41 1 rfl fl_X9_24 zt_39 rfl dX9_thread_94 ?_
        refine zg_iload_n 1 dX9_thread_97 rfl rfl ?_
        refine zg_iload_n 2 dX9_thread_98 rfl rfl ?_
        obtain ⟨x4, hx4, h⟩ := z_bind h
        refine zg_callS (st := []) (k_X9_alike zt_41 hx4) zY_X9_alike ls_X9_252 rfl (zfit_m (by decide) (by decide)) (Nat.le_of_ble_eq_true rfl) dX9_thread_99 rfl ?_
        obtain ⟨rfl, rfl⟩ := z_ret2 h
        exact zg_iret dX9_thread_102
      replace h := (if_neg hc3).symm.trans h
      by_cases hc4 : v3 = (3 : Int32)
      · replace h := (if_pos hc4).symm.trans h
        refine zg_tableEq (k := 3) (off := 57) (tgt := 103) dX9_thread_46 hc4 (by decide) (by decide) (by decide) (by decide) ?_
        refine zg_aload_n 0 dX9_thread_103 rfl rfl ?_
        refine zo_getr 41 1 rfl fl_X9_24 zt_39 rfl dX9_thread_104 ?_
        refine zg_iload_n 1 dX9_thread_107 rfl rfl ?_
        refine zg_iload_n 2 dX9_thread_108 rfl rfl ?_
        obtain ⟨x4, hx4, h⟩ := z_bind h
        refine zg_callS (st := []) (k_X9_isLoose zt_41 hx4) zY_X9_isLoose ls_X9_278 rfl (zfit_m (by decide) (by decide)) (Nat.le_of_ble_eq_true rfl) dX9_thread_109 rfl ?_
        obtain ⟨x5, hx5, h⟩ := z_bind h
        refine zg_callS (st := []) (k_X9_flag hx5) zY_X9_flag ls_X9_116 rfl (zfit_m (by decide) (by decide)) (Nat.le_of_ble_eq_true rfl) dX9_thread_112 rfl ?_
        obtain ⟨rfl, rfl⟩ := z_ret2 h
        exact zg_iret dX9_thread_115
      replace h := (if_neg hc4).symm.trans h
      refine zg_tableOut (tgt := 116) dX9_thread_46 (z_tout 4 (fun j hj => by match j, hj with | 0, _ => exact hc1 | 1, _ => exact hc2 | 2, _ => exact hc3 | 3, _ => exact hc4 | j + 4, hj => exact absurd hj (by omega)) (by decide)) (by decide) ?_
      refine zg_bipush dX9_thread_116 zkb_100 ?_
      refine zg_aload_n 0 dX9_thread_118 rfl rfl ?_
      refine zg_aload_n 0 dX9_thread_119 rfl rfl ?_
      refine zo_getr 41 1 rfl fl_X9_24 zt_39 rfl dX9_thread_120 ?_
      refine zg_iload_n 1 dX9_thread_123 rfl rfl ?_
      refine zg_iload_n 2 dX9_thread_124 rfl rfl ?_
      obtain ⟨p4, hp4, h⟩ := z_bind h
      refine zg_callV (st := [.int (100 : Int32)]) (k_X9_pull zt_41 hp4) zY_X9_pull lv_X9_266 rfl zt_39 rfl (zfit_m (by decide) (by decide)) (Nat.le_of_ble_eq_true rfl) dX9_thread_125 rfl ?_
      refine zg_iadd dX9_thread_128 ?_
      obtain ⟨rfl, rfl⟩ := z_ret2 h
      exact zg_iret dX9_thread_129
    · replace h := (if_pos hc).symm.trans h
      refine zo_sub (ls' := [(0, .ref 39)]) [0] rfl ?_
      exact g9_thread_29 _ h
set_option maxRecDepth 20000 in
set_option maxHeartbeats 4000000 in
theorem g9_sheet_117 {r1 : Int32} {Mr : zM} {k46 : Int32 → Int32 → Int32 → Int32 → Int32 → Int32 → zM → Option (Int32 × zM)} (hk46 : ∀ (v1 : Int32) (v2 : Int32) (v4 : Int32) (v5 : Int32) (v6 : Int32) (v7 : Int32) (M : zM), k46 v1 v2 v4 v5 v6 v7 M = some (r1, Mr) → zJ ztops RX9 cX9_sheet 9 (zBm ztops 2 (some .int) (some (.int r1)) Mr) 0 0 46 [(0, .ref 39), (1, .int v1), (2, .int v2), (4, .int v4), (5, .int v5), (6, .int v6), (7, .int v7)] [] M) : ∀ (v1 : Int32) (v2 : Int32) (v4 : Int32) (v5 : Int32) (v6 : Int32) (v7 : Int32) (s1 : Int32) (s2 : Int32) (M : zM), f9_sheet_117 k46 v1 v2 v4 v5 v6 v7 s1 s2 M = some (r1, Mr) → zJ ztops RX9 cX9_sheet 9 (zBm ztops 2 (some .int) (some (.int r1)) Mr) 0 0 117 [(0, .ref 39), (1, .int v1), (2, .int v2), (4, .int v4), (5, .int v5), (6, .int v6), (7, .int v7)] [.int s2, .int s1, .ref 41] M := by
  intro v1 v2 v4 v5 v6 v7 s1 s2 M h
  rw [f9_sheet_117] at h
  obtain ⟨M1, hM1, h⟩ := z_bind h
  refine zo_iast zt_41 hM1 dX9_sheet_117 ?_
  refine zg_iload 4 dX9_sheet_118 rfl ?_
  refine zg_aload_n 0 dX9_sheet_120 rfl rfl ?_
  refine zo_getr 41 1 rfl fl_X9_24 zt_39 rfl dX9_sheet_121 ?_
  refine zg_iload 6 dX9_sheet_124 rfl ?_
  obtain ⟨x2, hx2, h⟩ := z_bind h
  refine zo_iald zt_41 hx2 dX9_sheet_126 ?_
  refine zg_iadd dX9_sheet_127 ?_
  refine zg_istore (ls' := [(0, .ref 39), (1, .int v1), (2, .int v2), (4, .int v4), (5, .int (v5 + x2)), (6, .int v6), (7, .int v7)]) dX9_sheet_128 (Nat.le_of_ble_eq_true rfl) rfl ?_
  refine zg_iload 5 dX9_sheet_130 rfl ?_
  refine zg_iload 3 dX9_sheet_132 rfl ?_
  refine zg_iadd dX9_sheet_134 ?_
  refine zg_istore (ls' := [(0, .ref 39), (1, .int v1), (2, .int v2), (4, .int v4), (5, .int (v5 + x2)), (6, .int (v6 + v4)), (7, .int v7)]) dX9_sheet_135 (Nat.le_of_ble_eq_true rfl) rfl ?_
  refine zg_iinc (ls' := [(0, .ref 39), (1, .int v1), (2, .int v2), (4, .int v4), (5, .int (v5 + x2)), (6, .int (v6 + v4)), (7, .int (v7 + (1 : Int32)))]) 6 dX9_sheet_137 rfl zki_1 (Nat.le_of_ble_eq_true rfl) rfl ?_
  refine zg_goto (tgt := 46) dX9_sheet_140 (by decide) ?_
  exact hk46 _ _ _ _ _ _ _ h
set_option maxRecDepth 20000 in
set_option maxHeartbeats 4000000 in
theorem g9_sheet_46 {r1 : Int32} {Mr : zM} : ∀ (n : Nat) (v1 : Int32) (v2 : Int32) (v4 : Int32) (v5 : Int32) (v6 : Int32) (v7 : Int32) (M : zM), f9_sheet_46 n v1 v2 v4 v5 v6 v7 M = some (r1, Mr) → zJ ztops RX9 cX9_sheet 9 (zBm ztops 2 (some .int) (some (.int r1)) Mr) 0 0 46 [(0, .ref 39), (1, .int v1), (2, .int v2), (4, .int v4), (5, .int v5), (6, .int v6), (7, .int v7)] [] M := by
  intro n
  induction n with
  | zero => intro v1 v2 v4 v5 v6 v7 M h; cases h
  | succ n ih =>
    intro v1 v2 v4 v5 v6 v7 M h
    rw [f9_sheet_46] at h
    refine zg_iload 6 dX9_sheet_46 rfl ?_
    refine zg_aload_n 0 dX9_sheet_48 rfl rfl ?_
    refine zo_getr 41 1 rfl fl_X9_24 zt_39 rfl dX9_sheet_49 ?_
    refine zg_bipush dX9_sheet_52 zkb_6 ?_
    refine zo_ialdc 6 zt_41 (by decide) rfl dX9_sheet_54 ?_
    refine zg_icmp_ge (tgt := 143) dX9_sheet_55 (by decide) (fun hc => ?_) (fun hc => ?_)
    · replace h := (if_pos hc).symm.trans h
      refine zg_iload_n 1 dX9_sheet_143 rfl rfl ?_
      refine zg_iconst dX9_sheet_144 zki_3 ?_
      suffices hj : zJ ztops RX9 cX9_sheet 9 (zBm ztops 2 (some .int) (some (.int r1)) Mr) 0 0 155 [(0, .ref 39), (1, .int v1), (2, .int v2), (4, .int v4), (5, .int v5), (6, .int v6), (7, .int v7)] [.int (if v1 = (3 : Int32) then (-3 : Int32) else v5)] M by
        refine zg_icmp_ne (tgt := 153) dX9_sheet_145 (by decide) (fun hc => ?_) (fun hc => ?_)
        · rw [show (if v1 = (3 : Int32) then (-3 : Int32) else v5) = v5 from if_neg hc] at hj
          refine zg_iload 4 dX9_sheet_153 rfl ?_
          exact hj
        · rw [show (if v1 = (3 : Int32) then (-3 : Int32) else v5) = (-3 : Int32) from if_pos hc] at hj
          refine zg_bipush dX9_sheet_148 zkb_m3 ?_
          refine zg_goto (tgt := 155) dX9_sheet_150 (by decide) ?_
          exact hj
      obtain ⟨rfl, rfl⟩ := z_ret2 h
      exact zg_iret dX9_sheet_155
    · replace h := (if_neg hc).symm.trans h
      refine zg_iload_n 1 dX9_sheet_58 rfl rfl ?_
      suffices hj : zJ ztops RX9 cX9_sheet 9 (zBm ztops 2 (some .int) (some (.int r1)) Mr) 0 0 81 [(0, .ref 39), (1, .int v1), (2, .int v2), (4, .int v4), (5, .int v5), (6, .int v6), (7, .int v7)] [.int (if v1 = 0 then (Int8.toInt32 (Int32.toInt8 v6)) else (if v1 = (1 : Int32) then (Int16.toInt32 (Int32.toInt16 v6)) else v6))] M by
        refine zg_if_ne (tgt := 68) dX9_sheet_59 (by decide) (fun hc => ?_) (fun hc => ?_)
        · rw [show (if v1 = 0 then (Int8.toInt32 (Int32.toInt8 v6)) else (if v1 = (1 : Int32) then (Int16.toInt32 (Int32.toInt16 v6)) else v6)) = (if v1 = (1 : Int32) then (Int16.toInt32 (Int32.toInt16 v6)) else v6) from if_neg hc] at hj
          refine zg_iload_n 1 dX9_sheet_68 rfl rfl ?_
          refine zg_iconst dX9_sheet_69 zki_1 ?_
          refine zg_icmp_ne (tgt := 79) dX9_sheet_70 (by decide) (fun hc => ?_) (fun hc => ?_)
          · rw [show (if v1 = (1 : Int32) then (Int16.toInt32 (Int32.toInt16 v6)) else v6) = v6 from if_neg hc] at hj
            refine zg_iload 5 dX9_sheet_79 rfl ?_
            exact hj
          · rw [show (if v1 = (1 : Int32) then (Int16.toInt32 (Int32.toInt16 v6)) else v6) = (Int16.toInt32 (Int32.toInt16 v6)) from if_pos hc] at hj
            refine zg_iload 5 dX9_sheet_73 rfl ?_
            refine zg_i2s dX9_sheet_75 ?_
            refine zg_goto (tgt := 81) dX9_sheet_76 (by decide) ?_
            exact hj
        · rw [show (if v1 = 0 then (Int8.toInt32 (Int32.toInt8 v6)) else (if v1 = (1 : Int32) then (Int16.toInt32 (Int32.toInt16 v6)) else v6)) = (Int8.toInt32 (Int32.toInt8 v6)) from if_pos hc] at hj
          refine zg_iload 5 dX9_sheet_62 rfl ?_
          refine zg_i2b dX9_sheet_64 ?_
          refine zg_goto (tgt := 81) dX9_sheet_65 (by decide) ?_
          exact hj
      refine zg_istore (ls' := [(0, .ref 39), (1, .int v1), (2, .int v2), (4, .int v4), (5, .int v5), (6, .int v6), (7, .int v7), (8, .int (if v1 = 0 then (Int8.toInt32 (Int32.toInt8 v6)) else (if v1 = (1 : Int32) then (Int16.toInt32 (Int32.toInt16 v6)) else v6)))]) dX9_sheet_81 (Nat.le_of_ble_eq_true rfl) rfl ?_
      refine zg_aload_n 0 dX9_sheet_83 rfl rfl ?_
      refine zo_getr 41 1 rfl fl_X9_24 zt_39 rfl dX9_sheet_84 ?_
      refine zg_iload 6 dX9_sheet_87 rfl ?_
      refine zg_iload_n 1 dX9_sheet_89 rfl rfl ?_
      refine zg_iconst dX9_sheet_90 zki_3 ?_
      refine zg_icmp_eq (tgt := 100) dX9_sheet_91 (by decide) (fun hc => ?_) (fun hc => ?_)
      · replace h := (if_pos hc).symm.trans h
        refine zg_iconst dX9_sheet_100 zki_0 ?_
        refine zg_goto (tgt := 117) dX9_sheet_101 (by decide) ?_
        refine zo_sub (ls' := [(0, .ref 39), (1, .int v1), (2, .int v2), (4, .int v4), (5, .int v5), (6, .int v6), (7, .int v7)]) [0, 1, 2, 3, 4, 5, 6] rfl ?_
        exact g9_sheet_117 (fun u0 u1 u2 u3 u4 u5 u6 h => ih u0 u1 u2 u3 u4 u5 u6 h) _ _ _ _ _ _ _ _ _ h
      · replace h := (if_neg hc).symm.trans h
        refine zg_iload 6 dX9_sheet_94 rfl ?_
        refine zg_iload_n 2 dX9_sheet_96 rfl rfl ?_
        refine zg_icmp_lt (tgt := 104) dX9_sheet_97 (by decide) (fun hc => ?_) (fun hc => ?_)
        · replace h := (if_pos hc).symm.trans h
          refine zg_iload 7 dX9_sheet_104 rfl ?_
          refine zg_aload_n 0 dX9_sheet_106 rfl rfl ?_
          refine zo_getr 41 1 rfl fl_X9_24 zt_39 rfl dX9_sheet_107 ?_
          refine zg_bipush dX9_sheet_110 zkb_7 ?_
          refine zo_ialdc 7 zt_41 (by decide) rfl dX9_sheet_112 ?_
          obtain ⟨x1, hx1, h⟩ := z_bind h
          refine zg_callS (st := [.int (if v1 = 0 then (Int8.toInt32 (Int32.toInt8 v6)) else (if v1 = (1 : Int32) then (Int16.toInt32 (Int32.toInt16 v6)) else v6)), .int v7, .ref 41]) (k_X9_full hx1) zY_X9_full ls_X9_127 rfl (zfit_m (by decide) (by decide)) (Nat.le_of_ble_eq_true rfl) dX9_sheet_113 rfl ?_
          refine zg_iand dX9_sheet_116 ?_
          refine zo_sub (ls' := [(0, .ref 39), (1, .int v1), (2, .int v2), (4, .int v4), (5, .int v5), (6, .int v6), (7, .int v7)]) [0, 1, 2, 3, 4, 5, 6] rfl ?_
          exact g9_sheet_117 (fun u0 u1 u2 u3 u4 u5 u6 h => ih u0 u1 u2 u3 u4 u5 u6 h) _ _ _ _ _ _ _ _ _ h
        · replace h := (if_neg hc).symm.trans h
          refine zg_iconst dX9_sheet_100 zki_0 ?_
          refine zg_goto (tgt := 117) dX9_sheet_101 (by decide) ?_
          refine zo_sub (ls' := [(0, .ref 39), (1, .int v1), (2, .int v2), (4, .int v4), (5, .int v5), (6, .int v6), (7, .int v7)]) [0, 1, 2, 3, 4, 5, 6] rfl ?_
          exact g9_sheet_117 (fun u0 u1 u2 u3 u4 u5 u6 h => ih u0 u1 u2 u3 u4 u5 u6 h) _ _ _ _ _ _ _ _ _ h
set_option maxRecDepth 20000 in
set_option maxHeartbeats 4000000 in
theorem g9_sheet_37 {r1 : Int32} {Mr : zM} : ∀ (v1 : Int32) (v2 : Int32) (v3 : Int32) (v4 : Int32) (M : zM), f9_sheet_37 v1 v2 v3 v4 M = some (r1, Mr) → zJ ztops RX9 cX9_sheet 9 (zBm ztops 2 (some .int) (some (.int r1)) Mr) 0 0 37 [(0, .ref 39), (1, .int v1), (2, .int v2), (3, .int v3), (4, .int v4)] [] M := by
  intro v1 v2 v3 v4 M h
  rw [f9_sheet_37] at h
  refine zg_iconst dX9_sheet_37 zki_0 ?_
  refine zg_istore (ls' := [(0, .ref 39), (1, .int v1), (2, .int v2), (3, .int v3), (4, .int v4), (5, .int (0 : Int32))]) dX9_sheet_38 (Nat.le_of_ble_eq_true rfl) rfl ?_
  refine zg_iload_n 3 dX9_sheet_40 rfl rfl ?_
  refine zg_istore (ls' := [(0, .ref 39), (1, .int v1), (2, .int v2), (3, .int v3), (4, .int v4), (5, .int (0 : Int32)), (6, .int v3)]) dX9_sheet_41 (Nat.le_of_ble_eq_true rfl) rfl ?_
  refine zg_iconst dX9_sheet_43 zki_0 ?_
  refine zg_istore (ls' := [(0, .ref 39), (1, .int v1), (2, .int v2), (3, .int v3), (4, .int v4), (5, .int (0 : Int32)), (6, .int v3), (7, .int (0 : Int32))]) dX9_sheet_44 (Nat.le_of_ble_eq_true rfl) rfl ?_
  refine zo_sub (ls' := [(0, .ref 39), (1, .int v1), (2, .int v2), (4, .int v4), (5, .int (0 : Int32)), (6, .int v3), (7, .int (0 : Int32))]) [0, 1, 2, 4, 5, 6, 7] rfl ?_
  exact g9_sheet_46 zfuel _ _ _ _ _ _ _ h
set_option maxRecDepth 20000 in
set_option maxHeartbeats 4000000 in
theorem k_X9_sheet {v1 : Int32} {v2 : Int32} {v3 : Int32} {v4 : Int32} {M : zM} {r1 : Int32} {Mr : zM} (h : f9_sheet v1 v2 v3 v4 M = some (r1, Mr)) : zK ztops yX9_sheet cX9_sheet 9 (some .int) 2 [.ref 39, .int v1, .int v2, .int v3, .int v4] M (some (.int r1)) Mr := by
  refine zK_of pl_X9 (Nat.le_of_ble_eq_true rfl) ?_
  show zJ ztops RX9 cX9_sheet 9 _ 0 0 0 [(0, .ref 39), (1, .int v1), (2, .int v2), (3, .int v3), (4, .int v4)] [] M
  rw [f9_sheet] at h
  refine zg_aload_n 0 dX9_sheet_0 rfl rfl ?_
  refine zg_iconst dX9_sheet_1 zki_0 ?_
  refine zg_puti fp_X9_3 zt_39 rfl dX9_sheet_2 ?_
  refine zg_iload_n 1 dX9_sheet_5 rfl rfl ?_
  refine zg_i2l dX9_sheet_6 ?_
  refine zg_lconst dX9_sheet_7 (v := 0) rfl ?_
  refine zg_ldc2 kc_X9_281 dX9_sheet_8 ?_
  obtain ⟨x1, hx1, h⟩ := z_bind h
  refine zg_callS (st := []) (k_X9_in hx1) zY_X9_in ls_X9_104 rfl (zfit_m (by decide) (by decide)) (Nat.le_of_ble_eq_true rfl) dX9_sheet_11 rfl ?_
  refine zg_if_eq (tgt := 23) dX9_sheet_14 (by decide) (fun hc => ?_) (fun hc => ?_)
  · replace h := (if_pos hc).symm.trans h
    refine zg_iconst dX9_sheet_23 zki_m1 ?_
    obtain ⟨rfl, rfl⟩ := z_ret2 h
    exact zg_iret dX9_sheet_24
  · replace h := (if_neg hc).symm.trans h
    refine zg_iload_n 2 dX9_sheet_17 rfl rfl ?_
    refine zg_bipush dX9_sheet_18 zkb_6 ?_
    refine zg_icmp_le (tgt := 25) dX9_sheet_20 (by decide) (fun hc => ?_) (fun hc => ?_)
    · replace h := (if_pos hc).symm.trans h
      refine zg_iload_n 1 dX9_sheet_25 rfl rfl ?_
      refine zg_iconst dX9_sheet_26 zki_3 ?_
      refine zg_icmp_eq (tgt := 37) dX9_sheet_27 (by decide) (fun hc => ?_) (fun hc => ?_)
      · replace h := (if_pos hc).symm.trans h
        exact g9_sheet_37 _ _ _ _ _ h
      · replace h := (if_neg hc).symm.trans h
        refine zg_iload_n 2 dX9_sheet_30 rfl rfl ?_
        refine zg_if_ge (tgt := 37) dX9_sheet_31 (by decide) (fun hc => ?_) (fun hc => ?_)
        · replace h := (if_pos hc).symm.trans h
          exact g9_sheet_37 _ _ _ _ _ h
        · replace h := (if_neg hc).symm.trans h
          refine zg_bipush dX9_sheet_34 zkb_m2 ?_
          obtain ⟨rfl, rfl⟩ := z_ret2 h
          exact zg_iret dX9_sheet_36
    · replace h := (if_neg hc).symm.trans h
      refine zg_iconst dX9_sheet_23 zki_m1 ?_
      obtain ⟨rfl, rfl⟩ := z_ret2 h
      exact zg_iret dX9_sheet_24
set_option maxRecDepth 20000 in
set_option maxHeartbeats 4000000 in
theorem g9_putsBy_2 {Mr : zM} : ∀ (n : Nat) (v1 : Int32) (M : zM), f9_putsBy_2 n v1 M = some Mr → zJ ztops RX9 cX9_putsBy 2 (zBm ztops 0 (none) none Mr) 0 0 2 [(0, .ref 39), (1, .int v1)] [] M := by
  intro n
  induction n with
  | zero => intro v1 M h; cases h
  | succ n ih =>
    intro v1 M h
    rw [f9_putsBy_2] at h
    refine zg_iload_n 1 dX9_putsBy_2 rfl rfl ?_
    refine zg_bipush dX9_putsBy_3 zkb_9 ?_
    refine zg_icmp_ge (tgt := 34) dX9_putsBy_5 (by decide) (fun hc => ?_) (fun hc => ?_)
    · replace h := (if_pos hc).symm.trans h
      obtain rfl := z_ret1 h
      exact zg_vret dX9_putsBy_34
    · replace h := (if_neg hc).symm.trans h
      refine zg_aload_n 0 dX9_putsBy_8 rfl rfl ?_
      refine zo_getr 49 9 rfl fl_X9_49 zt_39 rfl dX9_putsBy_9 ?_
      refine zg_bipush dX9_putsBy_12 zkb_9 ?_
      refine zg_aload_n 0 dX9_putsBy_14 rfl rfl ?_
      refine zg_geti fl_X9_198 zt_39 rfl dX9_putsBy_15 ?_
      refine zg_imul dX9_putsBy_18 ?_
      refine zg_iload_n 1 dX9_putsBy_19 rfl rfl ?_
      refine zg_iadd dX9_putsBy_20 ?_
      refine zg_aload_n 0 dX9_putsBy_21 rfl rfl ?_
      refine zo_getr 41 1 rfl fl_X9_24 zt_39 rfl dX9_putsBy_22 ?_
      refine zg_iload_n 1 dX9_putsBy_25 rfl rfl ?_
      obtain ⟨x1, hx1, h⟩ := z_bind h
      refine zo_iald zt_41 hx1 dX9_putsBy_26 ?_
      obtain ⟨M2, hM2, h⟩ := z_bind h
      refine zo_iast zt_49 hM2 dX9_putsBy_27 ?_
      refine zg_iinc (ls' := [(0, .ref 39), (1, .int (v1 + (1 : Int32)))]) 1 dX9_putsBy_28 rfl zki_1 (Nat.le_of_ble_eq_true rfl) rfl ?_
      refine zg_goto (tgt := 2) dX9_putsBy_31 (by decide) ?_
      exact ih _ _ h
set_option maxRecDepth 20000 in
set_option maxHeartbeats 4000000 in
theorem k_X9_putsBy {M : zM} {Mr : zM} (h : f9_putsBy M = some Mr) : zK ztops yX9_putsBy cX9_putsBy 2 (none) 0 [.ref 39] M none Mr := by
  refine zK_of pl_X9 (Nat.le_of_ble_eq_true rfl) ?_
  show zJ ztops RX9 cX9_putsBy 2 _ 0 0 0 [(0, .ref 39)] [] M
  rw [f9_putsBy] at h
  refine zg_iconst dX9_putsBy_0 zki_0 ?_
  refine zg_istore_n (ls' := [(0, .ref 39), (1, .int (0 : Int32))]) dX9_putsBy_1 rfl (Nat.le_of_ble_eq_true rfl) rfl ?_
  exact g9_putsBy_2 zfuel _ _ h
set_option maxRecDepth 20000 in
set_option maxHeartbeats 4000000 in
theorem g9_adds_21 {r1 : Int32} {Mr : zM} : ∀ (n : Nat) (v1 : Int32) (v2 : Int32) (M : zM), f9_adds_21 n v1 v2 M = some (r1, Mr) → zJ ztops RX9 cX9_adds 3 (zBm ztops 0 (some .int) (some (.int r1)) Mr) 0 0 21 [(0, .ref 39), (1, .int v1), (2, .int v2)] [] M := by
  intro n
  induction n with
  | zero => intro v1 v2 M h; cases h
  | succ n ih =>
    intro v1 v2 M h
    rw [f9_adds_21] at h
    refine zg_iload_n 2 dX9_adds_21 rfl rfl ?_
    refine zg_sipush dX9_adds_22 zks_135 ?_
    refine zg_icmp_ge (tgt := 49) dX9_adds_25 (by decide) (fun hc => ?_) (fun hc => ?_)
    · replace h := (if_pos hc).symm.trans h
      refine zg_aload_n 0 dX9_adds_49 rfl rfl ?_
      refine zg_dup dX9_adds_50 rfl ?_
      refine zg_geti fl_X9_198 zt_39 rfl dX9_adds_51 ?_
      refine zg_iconst dX9_adds_54 zki_1 ?_
      refine zg_isub dX9_adds_55 ?_
      refine zg_puti fp_X9_198 zt_39 rfl dX9_adds_56 ?_
      refine zg_iload_n 1 dX9_adds_59 rfl rfl ?_
      obtain ⟨rfl, rfl⟩ := z_ret2 h
      exact zg_iret dX9_adds_60
    · replace h := (if_neg hc).symm.trans h
      refine zg_aload_n 0 dX9_adds_28 rfl rfl ?_
      refine zo_getr 49 9 rfl fl_X9_49 zt_39 rfl dX9_adds_29 ?_
      refine zg_iload_n 2 dX9_adds_32 rfl rfl ?_
      refine zg_aload_n 0 dX9_adds_33 rfl rfl ?_
      refine zo_getr 49 9 rfl fl_X9_49 zt_39 rfl dX9_adds_34 ?_
      refine zg_iload_n 2 dX9_adds_37 rfl rfl ?_
      refine zg_bipush dX9_adds_38 zkb_9 ?_
      refine zg_iadd dX9_adds_40 ?_
      obtain ⟨x1, hx1, h⟩ := z_bind h
      refine zo_iald zt_49 hx1 dX9_adds_41 ?_
      obtain ⟨M2, hM2, h⟩ := z_bind h
      refine zo_iast zt_49 hM2 dX9_adds_42 ?_
      refine zg_iinc (ls' := [(0, .ref 39), (1, .int v1), (2, .int (v2 + (1 : Int32)))]) 2 dX9_adds_43 rfl zki_1 (Nat.le_of_ble_eq_true rfl) rfl ?_
      refine zg_goto (tgt := 21) dX9_adds_46 (by decide) ?_
      exact ih _ _ _ h
set_option maxRecDepth 20000 in
set_option maxHeartbeats 4000000 in
theorem k_X9_adds {v1 : Int32} {M : zM} {r1 : Int32} {Mr : zM} (h : f9_adds v1 M = some (r1, Mr)) : zK ztops yX9_adds cX9_adds 3 (some .int) 0 [.ref 39, .int v1] M (some (.int r1)) Mr := by
  refine zK_of pl_X9 (Nat.le_of_ble_eq_true rfl) ?_
  show zJ ztops RX9 cX9_adds 3 _ 0 0 0 [(0, .ref 39), (1, .int v1)] [] M
  rw [f9_adds] at h
  refine zg_aload_n 0 dX9_adds_0 rfl rfl ?_
  refine zg_dup dX9_adds_1 rfl ?_
  refine zg_geti fl_X9_198 zt_39 rfl dX9_adds_2 ?_
  refine zg_iconst dX9_adds_5 zki_1 ?_
  refine zg_iadd dX9_adds_6 ?_
  refine zg_puti fp_X9_198 zt_39 rfl dX9_adds_7 ?_
  refine zg_aload_n 0 dX9_adds_10 rfl rfl ?_
  refine zg_geti fl_X9_198 zt_39 rfl dX9_adds_11 ?_
  refine zg_bipush dX9_adds_14 zkb_15 ?_
  refine zg_icmp_le (tgt := 59) dX9_adds_16 (by decide) (fun hc => ?_) (fun hc => ?_)
  · replace h := (if_pos hc).symm.trans h
    refine zg_iload_n 1 dX9_adds_59 rfl rfl ?_
    obtain ⟨rfl, rfl⟩ := z_ret2 h
    exact zg_iret dX9_adds_60
  · replace h := (if_neg hc).symm.trans h
    refine zg_iconst dX9_adds_19 zki_0 ?_
    refine zg_istore_n (ls' := [(0, .ref 39), (1, .int v1), (2, .int (0 : Int32))]) dX9_adds_20 rfl (Nat.le_of_ble_eq_true rfl) rfl ?_
    exact g9_adds_21 zfuel _ _ _ h
set_option maxRecDepth 20000 in
set_option maxHeartbeats 4000000 in
theorem k_X9_counted {v1 : Int32} {M : zM} {r1 : Int32} {Mr : zM} (h : f9_counted v1 M = some (r1, Mr)) : zK ztops yX9_counted cX9_counted 2 (some .int) 2 [.ref 39, .int v1] M (some (.int r1)) Mr := by
  refine zK_of pl_X9 (Nat.le_of_ble_eq_true rfl) ?_
  show zJ ztops RX9 cX9_counted 2 _ 0 0 0 [(0, .ref 39), (1, .int v1)] [] M
  rw [f9_counted] at h
  refine zg_iload_n 1 dX9_counted_0 rfl rfl ?_
  refine zg_if_ge (tgt := 8) dX9_counted_1 (by decide) (fun hc => ?_) (fun hc => ?_)
  · replace h := (if_pos hc).symm.trans h
    refine zg_aload_n 0 dX9_counted_8 rfl rfl ?_
    refine zg_iload_n 1 dX9_counted_9 rfl rfl ?_
    obtain ⟨p1, hp1, h⟩ := z_bind h
    refine zg_callV (st := []) (k_X9_adds hp1) zY_X9_adds lv_X9_283 rfl zt_39 rfl (zfit_m (by decide) (by decide)) (Nat.le_of_ble_eq_true rfl) dX9_counted_10 rfl ?_
    obtain ⟨rfl, rfl⟩ := z_ret2 h
    exact zg_iret dX9_counted_13
  · replace h := (if_neg hc).symm.trans h
    refine zg_iload_n 1 dX9_counted_4 rfl rfl ?_
    refine zg_goto (tgt := 13) dX9_counted_5 (by decide) ?_
    obtain ⟨rfl, rfl⟩ := z_ret2 h
    exact zg_iret dX9_counted_13
set_option maxRecDepth 20000 in
set_option maxHeartbeats 4000000 in
theorem g9_undo_26 {r1 : Int32} {Mr : zM} : ∀ (n : Nat) (v1 : Int32) (M : zM), f9_undo_26 n v1 M = some (r1, Mr) → zJ ztops RX9 cX9_undo 2 (zBm ztops 0 (some .int) (some (.int r1)) Mr) 0 0 26 [(0, .ref 39), (1, .int v1)] [] M := by
  intro n
  induction n with
  | zero => intro v1 M h; cases h
  | succ n ih =>
    intro v1 M h
    rw [f9_undo_26] at h
    refine zg_iload_n 1 dX9_undo_26 rfl rfl ?_
    refine zg_bipush dX9_undo_27 zkb_9 ?_
    refine zg_icmp_ge (tgt := 58) dX9_undo_29 (by decide) (fun hc => ?_) (fun hc => ?_)
    · replace h := (if_pos hc).symm.trans h
      refine zg_aload_n 0 dX9_undo_58 rfl rfl ?_
      refine zg_geti fl_X9_198 zt_39 rfl dX9_undo_59 ?_
      obtain ⟨rfl, rfl⟩ := z_ret2 h
      exact zg_iret dX9_undo_62
    · replace h := (if_neg hc).symm.trans h
      refine zg_aload_n 0 dX9_undo_32 rfl rfl ?_
      refine zo_getr 41 1 rfl fl_X9_24 zt_39 rfl dX9_undo_33 ?_
      refine zg_iload_n 1 dX9_undo_36 rfl rfl ?_
      refine zg_aload_n 0 dX9_undo_37 rfl rfl ?_
      refine zo_getr 49 9 rfl fl_X9_49 zt_39 rfl dX9_undo_38 ?_
      refine zg_bipush dX9_undo_41 zkb_9 ?_
      refine zg_aload_n 0 dX9_undo_43 rfl rfl ?_
      refine zg_geti fl_X9_198 zt_39 rfl dX9_undo_44 ?_
      refine zg_imul dX9_undo_47 ?_
      refine zg_iload_n 1 dX9_undo_48 rfl rfl ?_
      refine zg_iadd dX9_undo_49 ?_
      obtain ⟨x1, hx1, h⟩ := z_bind h
      refine zo_iald zt_49 hx1 dX9_undo_50 ?_
      obtain ⟨M2, hM2, h⟩ := z_bind h
      refine zo_iast zt_41 hM2 dX9_undo_51 ?_
      refine zg_iinc (ls' := [(0, .ref 39), (1, .int (v1 + (1 : Int32)))]) 1 dX9_undo_52 rfl zki_1 (Nat.le_of_ble_eq_true rfl) rfl ?_
      refine zg_goto (tgt := 26) dX9_undo_55 (by decide) ?_
      exact ih _ _ h
set_option maxRecDepth 20000 in
set_option maxHeartbeats 4000000 in
theorem k_X9_undo {M : zM} {r1 : Int32} {Mr : zM} (h : f9_undo M = some (r1, Mr)) : zK ztops yX9_undo cX9_undo 2 (some .int) 0 [.ref 39] M (some (.int r1)) Mr := by
  refine zK_of pl_X9 (Nat.le_of_ble_eq_true rfl) ?_
  show zJ ztops RX9 cX9_undo 2 _ 0 0 0 [(0, .ref 39)] [] M
  rw [f9_undo] at h
  refine zg_aload_n 0 dX9_undo_0 rfl rfl ?_
  refine zg_iconst dX9_undo_1 zki_0 ?_
  refine zg_puti fp_X9_3 zt_39 rfl dX9_undo_2 ?_
  refine zg_aload_n 0 dX9_undo_5 rfl rfl ?_
  refine zg_geti fl_X9_198 zt_39 rfl dX9_undo_6 ?_
  refine zg_if_ne (tgt := 14) dX9_undo_9 (by decide) (fun hc => ?_) (fun hc => ?_)
  · replace h := (if_neg hc).symm.trans h
    refine zg_aload_n 0 dX9_undo_14 rfl rfl ?_
    refine zg_dup dX9_undo_15 rfl ?_
    refine zg_geti fl_X9_198 zt_39 rfl dX9_undo_16 ?_
    refine zg_iconst dX9_undo_19 zki_1 ?_
    refine zg_isub dX9_undo_20 ?_
    refine zg_puti fp_X9_198 zt_39 rfl dX9_undo_21 ?_
    refine zg_iconst dX9_undo_24 zki_0 ?_
    refine zg_istore_n (ls' := [(0, .ref 39), (1, .int (0 : Int32))]) dX9_undo_25 rfl (Nat.le_of_ble_eq_true rfl) rfl ?_
    exact g9_undo_26 zfuel _ _ h
  · replace h := (if_pos hc).symm.trans h
    refine zg_iconst dX9_undo_12 zki_m1 ?_
    obtain ⟨rfl, rfl⟩ := z_ret2 h
    exact zg_iret dX9_undo_13
set_option maxRecDepth 20000 in
set_option maxHeartbeats 4000000 in
theorem g9_nightGoes_22 {a1 : Nat} (h1 : ztops[a1]? = some (.inl (0, 9))) {r1 : Int32} {Mr : zM} : ∀ (v2 : Int32) (M : zM), f9_nightGoes_22 a1 v2 M = some (r1, Mr) → zJ ztops RX9 cX9_nightGoes 3 (zBm ztops 7 (some .int) (some (.int r1)) Mr) 0 0 22 [(1, .ref a1), (2, .int v2)] [] M := by
  intro v2 M h
  rw [f9_nightGoes_22] at h
  refine zg_aload_n 0 dX9_nightGoes_22 rfl rfl ?_
  refine zg_bipush dX9_nightGoes_23 zkb_8 ?_
  refine zg_dup2 dX9_nightGoes_25 rfl rfl ?_
  refine zo_ialdc 8 h1 (by decide) rfl dX9_nightGoes_26 ?_
  refine zg_iconst dX9_nightGoes_27 zki_1 ?_
  refine zg_iadd dX9_nightGoes_28 ?_
  refine zo_iastc 8 h1 (by decide) rfl dX9_nightGoes_29 ?_
  refine zg_iload_n 1 dX9_nightGoes_30 rfl rfl ?_
  obtain ⟨rfl, rfl⟩ := z_ret2 h
  exact zg_iret dX9_nightGoes_31
set_option maxRecDepth 20000 in
set_option maxHeartbeats 4000000 in
theorem k_X9_nightGoes {a1 : Nat} (h1 : ztops[a1]? = some (.inl (0, 9))) {M : zM} {r1 : Int32} {Mr : zM} (h : f9_nightGoes a1 M = some (r1, Mr)) : zK ztops yX9_nightGoes cX9_nightGoes 3 (some .int) 7 [.ref 39, .ref a1] M (some (.int r1)) Mr := by
  refine zK_of pl_X9 (Nat.le_of_ble_eq_true rfl) ?_
  show zJ ztops RX9 cX9_nightGoes 3 _ 0 0 0 [(0, .ref 39), (1, .ref a1)] [] M
  rw [f9_nightGoes] at h
  refine zg_aload_n 0 dX9_nightGoes_0 rfl rfl ?_
  refine zg_aload_n 1 dX9_nightGoes_1 rfl rfl ?_
  obtain ⟨p1, hp1, h⟩ := z_bind h
  refine zg_callV (st := []) (k_X9_nextOf h1 hp1) zY_X9_nextOf lv_X9_286 rfl zt_39 rfl (zfit_m (by decide) (by decide)) (Nat.le_of_ble_eq_true rfl) dX9_nightGoes_2 rfl ?_
  refine zg_istore_n (ls' := [(0, .ref 39), (1, .ref a1), (2, .int p1.1)]) dX9_nightGoes_5 rfl (Nat.le_of_ble_eq_true rfl) rfl ?_
  refine zg_iload_n 2 dX9_nightGoes_6 rfl rfl ?_
  refine zg_if_lt (tgt := 22) dX9_nightGoes_7 (by decide) (fun hc => ?_) (fun hc => ?_)
  · replace h := (if_pos hc).symm.trans h
    refine zo_sub (ls' := [(1, .ref a1), (2, .int p1.1)]) [1, 2] rfl ?_
    exact g9_nightGoes_22 h1 _ _ h
  · replace h := (if_neg hc).symm.trans h
    refine zg_aload_n 1 dX9_nightGoes_10 rfl rfl ?_
    refine zg_iload_n 2 dX9_nightGoes_11 rfl rfl ?_
    refine zg_bipush dX9_nightGoes_12 zkb_6 ?_
    refine zg_idiv (by decide) dX9_nightGoes_14 ?_
    refine zg_iload_n 2 dX9_nightGoes_15 rfl rfl ?_
    refine zg_bipush dX9_nightGoes_16 zkb_6 ?_
    refine zg_irem (by decide) dX9_nightGoes_18 ?_
    obtain ⟨M2, hM2, h⟩ := z_bind h
    refine zg_callS (st := []) (k_X9_goes h1 hM2) zY_X9_goes ls_X9_289 rfl (zfit_m (by decide) (by decide)) (Nat.le_of_ble_eq_true rfl) dX9_nightGoes_19 rfl ?_
    refine zo_sub (ls' := [(1, .ref a1), (2, .int p1.1)]) [1, 2] rfl ?_
    exact g9_nightGoes_22 h1 _ _ h
set_option maxRecDepth 20000 in
set_option maxHeartbeats 4000000 in
theorem g9_goesOn_2 {a1 : Nat} (h1 : ztops[a1]? = some (.inl (0, 9))) {Mr : zM} : ∀ (n : Nat) (v2 : Int32) (v3 : Int32) (M : zM), f9_goesOn_2 a1 n v2 v3 M = some Mr → zJ ztops RX9 cX9_goesOn 4 (zBm ztops 8 (none) none Mr) 0 0 2 [(0, .ref 39), (1, .ref a1), (2, .int v2), (3, .int v3)] [] M := by
  intro n
  induction n with
  | zero => intro v2 v3 M h; cases h
  | succ n ih =>
    intro v2 v3 M h
    rw [f9_goesOn_2] at h
    refine zg_iload_n 3 dX9_goesOn_2 rfl rfl ?_
    refine zg_iload_n 2 dX9_goesOn_3 rfl rfl ?_
    refine zg_icmp_ge (tgt := 19) dX9_goesOn_4 (by decide) (fun hc => ?_) (fun hc => ?_)
    · replace h := (if_pos hc).symm.trans h
      obtain rfl := z_ret1 h
      exact zg_vret dX9_goesOn_19
    · replace h := (if_neg hc).symm.trans h
      refine zg_aload_n 0 dX9_goesOn_7 rfl rfl ?_
      refine zg_aload_n 1 dX9_goesOn_8 rfl rfl ?_
      obtain ⟨p1, hp1, h⟩ := z_bind h
      refine zg_callV (st := []) (k_X9_nightGoes h1 hp1) zY_X9_nightGoes lv_X9_293 rfl zt_39 rfl (zfit_m (by decide) (by decide)) (Nat.le_of_ble_eq_true rfl) dX9_goesOn_9 rfl ?_
      refine zg_pop dX9_goesOn_12 rfl ?_
      refine zg_iinc (ls' := [(0, .ref 39), (1, .ref a1), (2, .int v2), (3, .int (v3 + (1 : Int32)))]) 3 dX9_goesOn_13 rfl zki_1 (Nat.le_of_ble_eq_true rfl) rfl ?_
      refine zg_goto (tgt := 2) dX9_goesOn_16 (by decide) ?_
      exact ih _ _ _ h
set_option maxRecDepth 20000 in
set_option maxHeartbeats 4000000 in
theorem k_X9_goesOn {a1 : Nat} (h1 : ztops[a1]? = some (.inl (0, 9))) {v2 : Int32} {M : zM} {Mr : zM} (h : f9_goesOn a1 v2 M = some Mr) : zK ztops yX9_goesOn cX9_goesOn 4 (none) 8 [.ref 39, .ref a1, .int v2] M none Mr := by
  refine zK_of pl_X9 (Nat.le_of_ble_eq_true rfl) ?_
  show zJ ztops RX9 cX9_goesOn 4 _ 0 0 0 [(0, .ref 39), (1, .ref a1), (2, .int v2)] [] M
  rw [f9_goesOn] at h
  refine zg_iconst dX9_goesOn_0 zki_0 ?_
  refine zg_istore_n (ls' := [(0, .ref 39), (1, .ref a1), (2, .int v2), (3, .int (0 : Int32))]) dX9_goesOn_1 rfl (Nat.le_of_ble_eq_true rfl) rfl ?_
  exact g9_goesOn_2 h1 zfuel _ _ _ h
set_option maxRecDepth 20000 in
set_option maxHeartbeats 4000000 in
theorem k_X9_weavesIn {T : List zN} {a0 : Nat} (h0 : T[a0]? = some (.inl (0, 9))) {v1 : Int32} {v2 : Int32} {v3 : Int32} {M : zM} {r1 : Int32} {Mr : zM} (h : f9_weavesIn a0 v1 v2 v3 M = some (r1, Mr)) : zK T yX9_weavesIn cX9_weavesIn 4 (some .int) 4 [.ref a0, .int v1, .int v2, .int v3] M (some (.int r1)) Mr := by
  refine zK_of pl_X9 (Nat.le_of_ble_eq_true rfl) ?_
  show zJ T RX9 cX9_weavesIn 4 _ 0 0 0 [(0, .ref a0), (1, .int v1), (2, .int v2), (3, .int v3)] [] M
  rw [f9_weavesIn] at h
  refine zg_iload_n 1 dX9_weavesIn_0 rfl rfl ?_
  refine zg_i2l dX9_weavesIn_1 ?_
  refine zg_lconst dX9_weavesIn_2 (v := 0) rfl ?_
  refine zg_lconst dX9_weavesIn_3 (v := 1) rfl ?_
  obtain ⟨x1, hx1, h⟩ := z_bind h
  refine zg_callS (st := []) (k_X9_in hx1) zY_X9_in ls_X9_104 rfl (zfit_m (by decide) (by decide)) (Nat.le_of_ble_eq_true rfl) dX9_weavesIn_4 rfl ?_
  refine zg_if_eq (tgt := 43) dX9_weavesIn_7 (by decide) (fun hc => ?_) (fun hc => ?_)
  · replace h := (if_pos hc).symm.trans h
    refine zg_iconst dX9_weavesIn_43 zki_m1 ?_
    obtain ⟨rfl, rfl⟩ := z_ret2 h
    exact zg_iret dX9_weavesIn_44
  · replace h := (if_neg hc).symm.trans h
    refine zg_iload_n 2 dX9_weavesIn_10 rfl rfl ?_
    refine zg_i2l dX9_weavesIn_11 ?_
    refine zg_lconst dX9_weavesIn_12 (v := 0) rfl ?_
    refine zg_aload_n 0 dX9_weavesIn_13 rfl rfl ?_
    refine zg_iload_n 1 dX9_weavesIn_14 rfl rfl ?_
    obtain ⟨x2, hx2, h⟩ := z_bind h
    refine zg_callS (st := [.long (0 : Int64), .long (Int32.toInt64 v2)]) (k_X9_manyOf h0 hx2) zY_X9_manyOf ls_X9_108 rfl (zfit_m (by decide) (by decide)) (Nat.le_of_ble_eq_true rfl) dX9_weavesIn_15 rfl ?_
    refine zg_i2l dX9_weavesIn_18 ?_
    obtain ⟨x3, hx3, h⟩ := z_bind h
    refine zg_callS (st := []) (k_X9_in hx3) zY_X9_in ls_X9_104 rfl (zfit_m (by decide) (by decide)) (Nat.le_of_ble_eq_true rfl) dX9_weavesIn_19 rfl ?_
    refine zg_if_eq (tgt := 43) dX9_weavesIn_22 (by decide) (fun hc => ?_) (fun hc => ?_)
    · replace h := (if_pos hc).symm.trans h
      refine zg_iconst dX9_weavesIn_43 zki_m1 ?_
      obtain ⟨rfl, rfl⟩ := z_ret2 h
      exact zg_iret dX9_weavesIn_44
    · replace h := (if_neg hc).symm.trans h
      refine zg_iload_n 3 dX9_weavesIn_25 rfl rfl ?_
      refine zg_i2l dX9_weavesIn_26 ?_
      refine zg_lconst dX9_weavesIn_27 (v := 0) rfl ?_
      refine zg_aload_n 0 dX9_weavesIn_28 rfl rfl ?_
      refine zg_iload_n 1 dX9_weavesIn_29 rfl rfl ?_
      obtain ⟨x4, hx4, h⟩ := z_bind h
      refine zg_callS (st := [.long (0 : Int64), .long (Int32.toInt64 v3)]) (k_X9_cellsOf h0 hx4) zY_X9_cellsOf ls_X9_124 rfl (zfit_m (by decide) (by decide)) (Nat.le_of_ble_eq_true rfl) dX9_weavesIn_30 rfl ?_
      obtain ⟨x5, hx5, h⟩ := z_bind h
      refine zg_callS (st := [.long (0 : Int64), .long (Int32.toInt64 v3)]) (k_X9_full hx5) zY_X9_full ls_X9_127 rfl (zfit_m (by decide) (by decide)) (Nat.le_of_ble_eq_true rfl) dX9_weavesIn_33 rfl ?_
      refine zg_i2l dX9_weavesIn_36 ?_
      obtain ⟨x6, hx6, h⟩ := z_bind h
      refine zg_callS (st := []) (k_X9_in hx6) zY_X9_in ls_X9_104 rfl (zfit_m (by decide) (by decide)) (Nat.le_of_ble_eq_true rfl) dX9_weavesIn_37 rfl ?_
      refine zg_if_ne (tgt := 45) dX9_weavesIn_40 (by decide) (fun hc => ?_) (fun hc => ?_)
      · replace h := (if_neg hc).symm.trans h
        refine zg_aload_n 0 dX9_weavesIn_45 rfl rfl ?_
        refine zg_iload_n 1 dX9_weavesIn_46 rfl rfl ?_
        obtain ⟨x7, hx7, h⟩ := z_bind h
        refine zg_callS (st := []) (k_X9_manyOf h0 hx7) zY_X9_manyOf ls_X9_108 rfl (zfit_m (by decide) (by decide)) (Nat.le_of_ble_eq_true rfl) dX9_weavesIn_47 rfl ?_
        refine zg_bipush dX9_weavesIn_50 zkb_6 ?_
        refine zg_icmp_ne (tgt := 58) dX9_weavesIn_52 (by decide) (fun hc => ?_) (fun hc => ?_)
        · replace h := (if_neg hc).symm.trans h
          refine zg_aload_n 0 dX9_weavesIn_58 rfl rfl ?_
          refine zg_iload_n 1 dX9_weavesIn_59 rfl rfl ?_
          refine zg_iload_n 2 dX9_weavesIn_60 rfl rfl ?_
          refine zg_iload_n 3 dX9_weavesIn_61 rfl rfl ?_
          obtain ⟨M8, hM8, h⟩ := z_bind h
          refine zg_callS (st := []) (k_X9_comes h0 hM8) zY_X9_comes ls_X9_296 rfl (zfit_m (by decide) (by decide)) (Nat.le_of_ble_eq_true rfl) dX9_weavesIn_62 rfl ?_
          refine zg_aload_n 0 dX9_weavesIn_65 rfl rfl ?_
          refine zg_iload_n 1 dX9_weavesIn_66 rfl rfl ?_
          obtain ⟨x9, hx9, h⟩ := z_bind h
          refine zg_callS (st := []) (k_X9_manyOf h0 hx9) zY_X9_manyOf ls_X9_108 rfl (zfit_m (by decide) (by decide)) (Nat.le_of_ble_eq_true rfl) dX9_weavesIn_67 rfl ?_
          obtain ⟨rfl, rfl⟩ := z_ret2 h
          exact zg_iret dX9_weavesIn_70
        · replace h := (if_pos hc).symm.trans h
          refine zg_bipush dX9_weavesIn_55 zkb_m2 ?_
          obtain ⟨rfl, rfl⟩ := z_ret2 h
          exact zg_iret dX9_weavesIn_57
      · replace h := (if_pos hc).symm.trans h
        refine zg_iconst dX9_weavesIn_43 zki_m1 ?_
        obtain ⟨rfl, rfl⟩ := z_ret2 h
        exact zg_iret dX9_weavesIn_44
set_option maxRecDepth 20000 in
set_option maxHeartbeats 4000000 in
theorem k_X9_drawsOut {v1 : Int32} {v2 : Int32} {M : zM} {r1 : Int32} {Mr : zM} (h : f9_drawsOut v1 v2 M = some (r1, Mr)) : zK ztops yX9_drawsOut cX9_drawsOut 4 (some .int) 4 [.ref 39, .int v1, .int v2] M (some (.int r1)) Mr := by
  refine zK_of pl_X9 (Nat.le_of_ble_eq_true rfl) ?_
  show zJ ztops RX9 cX9_drawsOut 4 _ 0 0 0 [(0, .ref 39), (1, .int v1), (2, .int v2)] [] M
  rw [f9_drawsOut] at h
  refine zg_aload_n 0 dX9_drawsOut_0 rfl rfl ?_
  refine zo_getr 41 1 rfl fl_X9_24 zt_39 rfl dX9_drawsOut_1 ?_
  refine zg_iload_n 1 dX9_drawsOut_4 rfl rfl ?_
  refine zg_iload_n 2 dX9_drawsOut_5 rfl rfl ?_
  obtain ⟨x1, hx1, h⟩ := z_bind h
  refine zg_callS (st := []) (k_X9_isThread zt_41 hx1) zY_X9_isThread ls_X9_262 rfl (zfit_m (by decide) (by decide)) (Nat.le_of_ble_eq_true rfl) dX9_drawsOut_6 rfl ?_
  refine zg_if_ne (tgt := 14) dX9_drawsOut_9 (by decide) (fun hc => ?_) (fun hc => ?_)
  · replace h := (if_neg hc).symm.trans h
    refine zg_aload_n 0 dX9_drawsOut_14 rfl rfl ?_
    refine zo_getr 41 1 rfl fl_X9_24 zt_39 rfl dX9_drawsOut_15 ?_
    refine zg_iload_n 1 dX9_drawsOut_18 rfl rfl ?_
    obtain ⟨x2, hx2, h⟩ := z_bind h
    refine zg_callS (st := []) (k_X9_manyOf zt_41 hx2) zY_X9_manyOf ls_X9_108 rfl (zfit_m (by decide) (by decide)) (Nat.le_of_ble_eq_true rfl) dX9_drawsOut_19 rfl ?_
    refine zg_iconst dX9_drawsOut_22 zki_1 ?_
    refine zg_icmp_ne (tgt := 29) dX9_drawsOut_23 (by decide) (fun hc => ?_) (fun hc => ?_)
    · replace h := (if_neg hc).symm.trans h
      refine zg_aload_n 0 dX9_drawsOut_29 rfl rfl ?_
      refine zo_getr 41 1 rfl fl_X9_24 zt_39 rfl dX9_drawsOut_30 ?_
      refine zg_iload_n 1 dX9_drawsOut_33 rfl rfl ?_
      refine zg_iload_n 2 dX9_drawsOut_34 rfl rfl ?_
      obtain ⟨x3, hx3, h⟩ := z_bind h
      refine zg_callS (st := []) (k_X9_bitsOf zt_41 hx3) zY_X9_bitsOf ls_X9_120 rfl (zfit_m (by decide) (by decide)) (Nat.le_of_ble_eq_true rfl) dX9_drawsOut_35 rfl ?_
      refine zg_istore_n (ls' := [(0, .ref 39), (1, .int v1), (2, .int v2), (3, .int x3)]) dX9_drawsOut_38 rfl (Nat.le_of_ble_eq_true rfl) rfl ?_
      refine zg_aload_n 0 dX9_drawsOut_39 rfl rfl ?_
      refine zo_getr 41 1 rfl fl_X9_24 zt_39 rfl dX9_drawsOut_40 ?_
      refine zg_iload_n 1 dX9_drawsOut_43 rfl rfl ?_
      refine zg_iload_n 2 dX9_drawsOut_44 rfl rfl ?_
      obtain ⟨M4, hM4, h⟩ := z_bind h
      refine zg_callS (st := []) (k_X9_goes zt_41 hM4) zY_X9_goes ls_X9_289 rfl (zfit_m (by decide) (by decide)) (Nat.le_of_ble_eq_true rfl) dX9_drawsOut_45 rfl ?_
      refine zg_iload_n 3 dX9_drawsOut_48 rfl rfl ?_
      obtain ⟨rfl, rfl⟩ := z_ret2 h
      exact zg_iret dX9_drawsOut_49
    · replace h := (if_pos hc).symm.trans h
      refine zg_bipush dX9_drawsOut_26 zkb_m2 ?_
      obtain ⟨rfl, rfl⟩ := z_ret2 h
      exact zg_iret dX9_drawsOut_28
  · replace h := (if_pos hc).symm.trans h
    refine zg_iconst dX9_drawsOut_12 zki_m1 ?_
    obtain ⟨rfl, rfl⟩ := z_ret2 h
    exact zg_iret dX9_drawsOut_13
set_option maxRecDepth 20000 in
set_option maxHeartbeats 4000000 in
theorem k_X9_flipsOne {T : List zN} {a0 : Nat} (h0 : T[a0]? = some (.inl (0, 9))) {v1 : Int32} {v2 : Int32} {M : zM} {r1 : Int32} {Mr : zM} (h : f9_flipsOne a0 v1 v2 M = some (r1, Mr)) : zK T yX9_flipsOne cX9_flipsOne 3 (some .int) 3 [.ref a0, .int v1, .int v2] M (some (.int r1)) Mr := by
  refine zK_of pl_X9 (Nat.le_of_ble_eq_true rfl) ?_
  show zJ T RX9 cX9_flipsOne 3 _ 0 0 0 [(0, .ref a0), (1, .int v1), (2, .int v2)] [] M
  rw [f9_flipsOne] at h
  refine zg_aload_n 0 dX9_flipsOne_0 rfl rfl ?_
  refine zg_iconst dX9_flipsOne_1 zki_0 ?_
  refine zg_iload_n 1 dX9_flipsOne_2 rfl rfl ?_
  obtain ⟨x1, hx1, h⟩ := z_bind h
  refine zg_callS (st := []) (k_X9_isThread h0 hx1) zY_X9_isThread ls_X9_262 rfl (zfit_m (by decide) (by decide)) (Nat.le_of_ble_eq_true rfl) dX9_flipsOne_3 rfl ?_
  refine zg_if_eq (tgt := 18) dX9_flipsOne_6 (by decide) (fun hc => ?_) (fun hc => ?_)
  · replace h := (if_pos hc).symm.trans h
    refine zg_iconst dX9_flipsOne_18 zki_m1 ?_
    obtain ⟨rfl, rfl⟩ := z_ret2 h
    exact zg_iret dX9_flipsOne_19
  · replace h := (if_neg hc).symm.trans h
    refine zg_aload_n 0 dX9_flipsOne_9 rfl rfl ?_
    refine zg_iconst dX9_flipsOne_10 zki_1 ?_
    refine zg_iload_n 2 dX9_flipsOne_11 rfl rfl ?_
    obtain ⟨x2, hx2, h⟩ := z_bind h
    refine zg_callS (st := []) (k_X9_isThread h0 hx2) zY_X9_isThread ls_X9_262 rfl (zfit_m (by decide) (by decide)) (Nat.le_of_ble_eq_true rfl) dX9_flipsOne_12 rfl ?_
    refine zg_if_ne (tgt := 20) dX9_flipsOne_15 (by decide) (fun hc => ?_) (fun hc => ?_)
    · replace h := (if_neg hc).symm.trans h
      refine zg_aload_n 0 dX9_flipsOne_20 rfl rfl ?_
      refine zg_iload_n 1 dX9_flipsOne_21 rfl rfl ?_
      refine zg_dup2 dX9_flipsOne_22 rfl rfl ?_
      obtain ⟨x3, hx3, h⟩ := z_bind h
      refine zo_iald h0 hx3 dX9_flipsOne_23 ?_
      refine zg_iconst dX9_flipsOne_24 zki_1 ?_
      refine zg_iload_n 2 dX9_flipsOne_25 rfl rfl ?_
      refine zg_ishl dX9_flipsOne_26 ?_
      refine zg_ixor dX9_flipsOne_27 ?_
      obtain ⟨M4, hM4, h⟩ := z_bind h
      refine zo_iast h0 hM4 dX9_flipsOne_28 ?_
      refine zg_aload_n 0 dX9_flipsOne_29 rfl rfl ?_
      obtain ⟨x5, hx5, h⟩ := z_bind h
      refine zg_callS (st := []) (k_X9_overs h0 hx5) zY_X9_overs ls_X9_300 rfl (zfit_m (by decide) (by decide)) (Nat.le_of_ble_eq_true rfl) dX9_flipsOne_30 rfl ?_
      obtain ⟨rfl, rfl⟩ := z_ret2 h
      exact zg_iret dX9_flipsOne_33
    · replace h := (if_pos hc).symm.trans h
      refine zg_iconst dX9_flipsOne_18 zki_m1 ?_
      obtain ⟨rfl, rfl⟩ := z_ret2 h
      exact zg_iret dX9_flipsOne_19
set_option maxRecDepth 20000 in
set_option maxHeartbeats 4000000 in
theorem g9_mirrorsAll_85 {r1 : Int32} {Mr : zM} : ∀ (n : Nat) (v1 : Int32) (v2 : Int32) (v3 : Int32) (v4 : Int32) (M : zM), f9_mirrorsAll_85 n v1 v2 v3 v4 M = some (r1, Mr) → zJ ztops RX9 cX9_mirrorsAll 5 (zBm ztops 4 (some .int) (some (.int r1)) Mr) 0 0 85 [(0, .ref 39), (1, .int v1), (2, .int v2), (3, .int v3), (4, .int v4)] [] M := by
  intro n
  induction n with
  | zero => intro v1 v2 v3 v4 M h; cases h
  | succ n ih =>
    intro v1 v2 v3 v4 M h
    rw [f9_mirrorsAll_85] at h
    refine zg_iload 4 dX9_mirrorsAll_85 rfl ?_
    refine zg_iload_n 2 dX9_mirrorsAll_87 rfl rfl ?_
    refine zg_icmp_ge (tgt := 131) dX9_mirrorsAll_88 (by decide) (fun hc => ?_) (fun hc => ?_)
    · replace h := (if_pos hc).symm.trans h
      refine zg_iload_n 3 dX9_mirrorsAll_131 rfl rfl ?_
      obtain ⟨rfl, rfl⟩ := z_ret2 h
      exact zg_iret dX9_mirrorsAll_132
    · replace h := (if_neg hc).symm.trans h
      refine zg_iload_n 3 dX9_mirrorsAll_91 rfl rfl ?_
      refine zg_aload_n 0 dX9_mirrorsAll_92 rfl rfl ?_
      refine zo_getr 41 1 rfl fl_X9_24 zt_39 rfl dX9_mirrorsAll_93 ?_
      refine zg_iload_n 1 dX9_mirrorsAll_96 rfl rfl ?_
      refine zg_iload 4 dX9_mirrorsAll_97 rfl ?_
      obtain ⟨x1, hx1, h⟩ := z_bind h
      refine zg_callS (st := [.int v3]) (k_X9_bitsOf zt_41 hx1) zY_X9_bitsOf ls_X9_120 rfl (zfit_m (by decide) (by decide)) (Nat.le_of_ble_eq_true rfl) dX9_mirrorsAll_99 rfl ?_
      refine zg_aload_n 0 dX9_mirrorsAll_102 rfl rfl ?_
      refine zo_getr 42 2 rfl fl_X9_28 zt_39 rfl dX9_mirrorsAll_103 ?_
      refine zg_iload_n 1 dX9_mirrorsAll_106 rfl rfl ?_
      refine zg_iload 4 dX9_mirrorsAll_107 rfl ?_
      obtain ⟨x2, hx2, h⟩ := z_bind h
      refine zg_callS (st := [.int x1, .int v3]) (k_X9_bitsOf zt_42 hx2) zY_X9_bitsOf ls_X9_120 rfl (zfit_m (by decide) (by decide)) (Nat.le_of_ble_eq_true rfl) dX9_mirrorsAll_109 rfl ?_
      suffices hj : zJ ztops RX9 cX9_mirrorsAll 5 (zBm ztops 4 (some .int) (some (.int r1)) Mr) 0 0 120 [(0, .ref 39), (1, .int v1), (2, .int v2), (3, .int v3), (4, .int v4)] [.int (if x1 = x2 then (0 : Int32) else (1 : Int32)), .int v3] M by
        refine zg_icmp_eq (tgt := 119) dX9_mirrorsAll_112 (by decide) (fun hc => ?_) (fun hc => ?_)
        · rw [show (if x1 = x2 then (0 : Int32) else (1 : Int32)) = (0 : Int32) from if_pos hc] at hj
          refine zg_iconst dX9_mirrorsAll_119 zki_0 ?_
          exact hj
        · rw [show (if x1 = x2 then (0 : Int32) else (1 : Int32)) = (1 : Int32) from if_neg hc] at hj
          refine zg_iconst dX9_mirrorsAll_115 zki_1 ?_
          refine zg_goto (tgt := 120) dX9_mirrorsAll_116 (by decide) ?_
          exact hj
      obtain ⟨x3, hx3, h⟩ := z_bind h
      refine zg_callS (st := [.int v3]) (k_X9_flag hx3) zY_X9_flag ls_X9_116 rfl (zfit_m (by decide) (by decide)) (Nat.le_of_ble_eq_true rfl) dX9_mirrorsAll_120 rfl ?_
      refine zg_iadd dX9_mirrorsAll_123 ?_
      refine zg_istore_n (ls' := [(0, .ref 39), (1, .int v1), (2, .int v2), (3, .int (v3 + x3)), (4, .int v4)]) dX9_mirrorsAll_124 rfl (Nat.le_of_ble_eq_true rfl) rfl ?_
      refine zg_iinc (ls' := [(0, .ref 39), (1, .int v1), (2, .int v2), (3, .int (v3 + x3)), (4, .int (v4 + (1 : Int32)))]) 4 dX9_mirrorsAll_125 rfl zki_1 (Nat.le_of_ble_eq_true rfl) rfl ?_
      refine zg_goto (tgt := 85) dX9_mirrorsAll_128 (by decide) ?_
      exact ih _ _ _ _ _ h
set_option maxRecDepth 20000 in
set_option maxHeartbeats 4000000 in
theorem g9_mirrorsAll_34 {r1 : Int32} {Mr : zM} : ∀ (n : Nat) (v1 : Int32) (v2 : Int32) (v3 : Int32) (M : zM), f9_mirrorsAll_34 n v1 v2 v3 M = some (r1, Mr) → zJ ztops RX9 cX9_mirrorsAll 5 (zBm ztops 4 (some .int) (some (.int r1)) Mr) 0 0 34 [(0, .ref 39), (1, .int v1), (2, .int v2), (3, .int v3)] [] M := by
  intro n
  induction n with
  | zero => intro v1 v2 v3 M h; cases h
  | succ n ih =>
    intro v1 v2 v3 M h
    rw [f9_mirrorsAll_34] at h
    refine zg_iload_n 3 dX9_mirrorsAll_34 rfl rfl ?_
    refine zg_iload_n 2 dX9_mirrorsAll_35 rfl rfl ?_
    refine zg_icmp_ge (tgt := 80) dX9_mirrorsAll_36 (by decide) (fun hc => ?_) (fun hc => ?_)
    · replace h := (if_pos hc).symm.trans h
      refine zg_iconst dX9_mirrorsAll_80 zki_0 ?_
      refine zg_istore_n (ls' := [(0, .ref 39), (1, .int v1), (2, .int v2), (3, .int (0 : Int32))]) dX9_mirrorsAll_81 rfl (Nat.le_of_ble_eq_true rfl) rfl ?_
      refine zg_iconst dX9_mirrorsAll_82 zki_0 ?_
      refine zg_istore (ls' := [(0, .ref 39), (1, .int v1), (2, .int v2), (3, .int (0 : Int32)), (4, .int (0 : Int32))]) dX9_mirrorsAll_83 (Nat.le_of_ble_eq_true rfl) rfl ?_
      exact g9_mirrorsAll_85 zfuel _ _ _ _ _ h
    · replace h := (if_neg hc).symm.trans h
      refine zg_aload_n 0 dX9_mirrorsAll_39 rfl rfl ?_
      refine zo_getr 42 2 rfl fl_X9_28 zt_39 rfl dX9_mirrorsAll_40 ?_
      refine zg_iload_n 1 dX9_mirrorsAll_43 rfl rfl ?_
      refine zg_iload_n 2 dX9_mirrorsAll_44 rfl rfl ?_
      refine zg_iconst dX9_mirrorsAll_45 zki_1 ?_
      refine zg_isub dX9_mirrorsAll_46 ?_
      refine zg_iload_n 3 dX9_mirrorsAll_47 rfl rfl ?_
      refine zg_isub dX9_mirrorsAll_48 ?_
      obtain ⟨x1, hx1, h⟩ := z_bind h
      refine zg_callS (st := []) (k_X9_bitsOf zt_42 hx1) zY_X9_bitsOf ls_X9_120 rfl (zfit_m (by decide) (by decide)) (Nat.le_of_ble_eq_true rfl) dX9_mirrorsAll_49 rfl ?_
      refine zg_istore (ls' := [(0, .ref 39), (1, .int v1), (2, .int v2), (3, .int v3), (4, .int x1)]) dX9_mirrorsAll_52 (Nat.le_of_ble_eq_true rfl) rfl ?_
      refine zg_aload_n 0 dX9_mirrorsAll_54 rfl rfl ?_
      refine zo_getr 41 1 rfl fl_X9_24 zt_39 rfl dX9_mirrorsAll_55 ?_
      refine zg_iload_n 1 dX9_mirrorsAll_58 rfl rfl ?_
      refine zg_iload_n 3 dX9_mirrorsAll_59 rfl rfl ?_
      obtain ⟨M2, hM2, h⟩ := z_bind h
      refine zg_callS (st := []) (k_X9_goes zt_41 hM2) zY_X9_goes ls_X9_289 rfl (zfit_m (by decide) (by decide)) (Nat.le_of_ble_eq_true rfl) dX9_mirrorsAll_60 rfl ?_
      refine zg_aload_n 0 dX9_mirrorsAll_63 rfl rfl ?_
      refine zo_getr 41 1 rfl fl_X9_24 zt_39 rfl dX9_mirrorsAll_64 ?_
      refine zg_iload_n 1 dX9_mirrorsAll_67 rfl rfl ?_
      refine zg_iload_n 3 dX9_mirrorsAll_68 rfl rfl ?_
      refine zg_iload 4 dX9_mirrorsAll_69 rfl ?_
      obtain ⟨M3, hM3, h⟩ := z_bind h
      refine zg_callS (st := []) (k_X9_comes zt_41 hM3) zY_X9_comes ls_X9_296 rfl (zfit_m (by decide) (by decide)) (Nat.le_of_ble_eq_true rfl) dX9_mirrorsAll_71 rfl ?_
      refine zg_iinc (ls' := [(0, .ref 39), (1, .int v1), (2, .int v2), (3, .int (v3 + (1 : Int32))), (4, .int x1)]) 3 dX9_mirrorsAll_74 rfl zki_1 (Nat.le_of_ble_eq_true rfl) rfl ?_
      refine zg_goto (tgt := 34) dX9_mirrorsAll_77 (by decide) ?_
      refine zo_sub (ls' := [(0, .ref 39), (1, .int v1), (2, .int v2), (3, .int (v3 + (1 : Int32)))]) [0, 1, 2, 3] rfl ?_
      exact ih _ _ _ _ h
set_option maxRecDepth 20000 in
set_option maxHeartbeats 4000000 in
theorem k_X9_mirrorsAll {v1 : Int32} {M : zM} {r1 : Int32} {Mr : zM} (h : f9_mirrorsAll v1 M = some (r1, Mr)) : zK ztops yX9_mirrorsAll cX9_mirrorsAll 5 (some .int) 4 [.ref 39, .int v1] M (some (.int r1)) Mr := by
  refine zK_of pl_X9 (Nat.le_of_ble_eq_true rfl) ?_
  show zJ ztops RX9 cX9_mirrorsAll 5 _ 0 0 0 [(0, .ref 39), (1, .int v1)] [] M
  rw [f9_mirrorsAll] at h
  refine zg_iload_n 1 dX9_mirrorsAll_0 rfl rfl ?_
  refine zg_i2l dX9_mirrorsAll_1 ?_
  refine zg_lconst dX9_mirrorsAll_2 (v := 0) rfl ?_
  refine zg_lconst dX9_mirrorsAll_3 (v := 1) rfl ?_
  obtain ⟨x1, hx1, h⟩ := z_bind h
  refine zg_callS (st := []) (k_X9_in hx1) zY_X9_in ls_X9_104 rfl (zfit_m (by decide) (by decide)) (Nat.le_of_ble_eq_true rfl) dX9_mirrorsAll_4 rfl ?_
  refine zg_if_ne (tgt := 12) dX9_mirrorsAll_7 (by decide) (fun hc => ?_) (fun hc => ?_)
  · replace h := (if_neg hc).symm.trans h
    refine zg_aload_n 0 dX9_mirrorsAll_12 rfl rfl ?_
    refine zo_getr 42 2 rfl fl_X9_28 zt_39 rfl dX9_mirrorsAll_13 ?_
    refine zg_aload_n 0 dX9_mirrorsAll_16 rfl rfl ?_
    refine zo_getr 41 1 rfl fl_X9_24 zt_39 rfl dX9_mirrorsAll_17 ?_
    obtain ⟨M2, hM2, h⟩ := z_bind h
    refine zg_callS (st := []) (k_X9_copies zt_42 zt_41 hM2) zY_X9_copies ls_X9_194 rfl (zfit_m (by decide) (by decide)) (Nat.le_of_ble_eq_true rfl) dX9_mirrorsAll_20 rfl ?_
    refine zg_aload_n 0 dX9_mirrorsAll_23 rfl rfl ?_
    refine zo_getr 41 1 rfl fl_X9_24 zt_39 rfl dX9_mirrorsAll_24 ?_
    refine zg_iload_n 1 dX9_mirrorsAll_27 rfl rfl ?_
    obtain ⟨x3, hx3, h⟩ := z_bind h
    refine zg_callS (st := []) (k_X9_manyOf zt_41 hx3) zY_X9_manyOf ls_X9_108 rfl (zfit_m (by decide) (by decide)) (Nat.le_of_ble_eq_true rfl) dX9_mirrorsAll_28 rfl ?_
    refine zg_istore_n (ls' := [(0, .ref 39), (1, .int v1), (2, .int x3)]) dX9_mirrorsAll_31 rfl (Nat.le_of_ble_eq_true rfl) rfl ?_
    refine zg_iconst dX9_mirrorsAll_32 zki_0 ?_
    refine zg_istore_n (ls' := [(0, .ref 39), (1, .int v1), (2, .int x3), (3, .int (0 : Int32))]) dX9_mirrorsAll_33 rfl (Nat.le_of_ble_eq_true rfl) rfl ?_
    exact g9_mirrorsAll_34 zfuel _ _ _ _ h
  · replace h := (if_pos hc).symm.trans h
    refine zg_iconst dX9_mirrorsAll_10 zki_m1 ?_
    obtain ⟨rfl, rfl⟩ := z_ret2 h
    exact zg_iret dX9_mirrorsAll_11
set_option maxRecDepth 20000 in
set_option maxHeartbeats 4000000 in
theorem k_X9_nights {v1 : Int32} {M : zM} {r1 : Int32} {Mr : zM} (h : f9_nights v1 M = some (r1, Mr)) : zK ztops yX9_nights cX9_nights 4 (some .int) 9 [.ref 39, .int v1] M (some (.int r1)) Mr := by
  refine zK_of pl_X9 (Nat.le_of_ble_eq_true rfl) ?_
  show zJ ztops RX9 cX9_nights 4 _ 0 0 0 [(0, .ref 39), (1, .int v1)] [] M
  rw [f9_nights] at h
  refine zg_aload_n 0 dX9_nights_0 rfl rfl ?_
  refine zg_iconst dX9_nights_1 zki_0 ?_
  refine zg_puti fp_X9_3 zt_39 rfl dX9_nights_2 ?_
  refine zg_iload_n 1 dX9_nights_5 rfl rfl ?_
  refine zg_i2l dX9_nights_6 ?_
  refine zg_lconst dX9_nights_7 (v := 0) rfl ?_
  refine zg_ldc2 kc_X9_303 dX9_nights_8 ?_
  obtain ⟨x1, hx1, h⟩ := z_bind h
  refine zg_callS (st := []) (k_X9_in hx1) zY_X9_in ls_X9_104 rfl (zfit_m (by decide) (by decide)) (Nat.le_of_ble_eq_true rfl) dX9_nights_11 rfl ?_
  refine zg_if_ne (tgt := 19) dX9_nights_14 (by decide) (fun hc => ?_) (fun hc => ?_)
  · replace h := (if_neg hc).symm.trans h
    refine zg_aload_n 0 dX9_nights_19 rfl rfl ?_
    obtain ⟨M2, hM2, h⟩ := z_bind h
    refine zg_callV (st := []) (k_X9_putsBy hM2) zY_X9_putsBy lv_X9_305 rfl zt_39 rfl (zfit_m (by decide) (by decide)) (Nat.le_of_ble_eq_true rfl) dX9_nights_20 rfl ?_
    refine zg_aload_n 0 dX9_nights_23 rfl rfl ?_
    refine zo_getr 41 1 rfl fl_X9_24 zt_39 rfl dX9_nights_24 ?_
    refine zg_bipush dX9_nights_27 zkb_6 ?_
    refine zo_ialdc 6 zt_41 (by decide) rfl dX9_nights_29 ?_
    refine zg_istore_n (ls' := [(0, .ref 39), (1, .int v1), (2, .int (M2.1 41 6))]) dX9_nights_30 rfl (Nat.le_of_ble_eq_true rfl) rfl ?_
    refine zg_aload_n 0 dX9_nights_31 rfl rfl ?_
    refine zo_getr 41 1 rfl fl_X9_24 zt_39 rfl dX9_nights_32 ?_
    refine zg_bipush dX9_nights_35 zkb_7 ?_
    refine zo_ialdc 7 zt_41 (by decide) rfl dX9_nights_37 ?_
    refine zg_istore_n (ls' := [(0, .ref 39), (1, .int v1), (2, .int (M2.1 41 6)), (3, .int (M2.1 41 7))]) dX9_nights_38 rfl (Nat.le_of_ble_eq_true rfl) rfl ?_
    refine zg_aload_n 0 dX9_nights_39 rfl rfl ?_
    refine zg_aload_n 0 dX9_nights_40 rfl rfl ?_
    refine zo_getr 41 1 rfl fl_X9_24 zt_39 rfl dX9_nights_41 ?_
    refine zg_iload_n 1 dX9_nights_44 rfl rfl ?_
    obtain ⟨M3, hM3, h⟩ := z_bind h
    refine zg_callV (st := []) (k_X9_goesOn zt_41 hM3) zY_X9_goesOn lv_X9_308 rfl zt_39 rfl (zfit_m (by decide) (by decide)) (Nat.le_of_ble_eq_true rfl) dX9_nights_45 rfl ?_
    refine zg_aload_n 0 dX9_nights_48 rfl rfl ?_
    refine zg_iconst dX9_nights_49 zki_0 ?_
    refine zg_puti fp_X9_15 zt_39 rfl dX9_nights_50 ?_
    refine zg_aload_n 0 dX9_nights_53 rfl rfl ?_
    refine zg_iload_n 2 dX9_nights_54 rfl rfl ?_
    refine zg_aload_n 0 dX9_nights_55 rfl rfl ?_
    refine zo_getr 41 1 rfl fl_X9_24 zt_39 rfl dX9_nights_56 ?_
    refine zg_bipush dX9_nights_59 zkb_6 ?_
    refine zo_ialdc 6 zt_41 (by decide) rfl dX9_nights_61 ?_
    refine zg_isub dX9_nights_62 ?_
    refine zg_i2l dX9_nights_63 ?_
    obtain ⟨M4, hM4, h⟩ := z_bind h
    refine zg_callV (st := []) (k_X9_enters hM4) zY_X9_enters lv_X9_311 rfl zt_39 rfl (zfit_m (by decide) (by decide)) (Nat.le_of_ble_eq_true rfl) dX9_nights_64 rfl ?_
    refine zg_aload_n 0 dX9_nights_67 rfl rfl ?_
    refine zg_iload_n 3 dX9_nights_68 rfl rfl ?_
    refine zg_aload_n 0 dX9_nights_69 rfl rfl ?_
    refine zo_getr 41 1 rfl fl_X9_24 zt_39 rfl dX9_nights_70 ?_
    refine zg_bipush dX9_nights_73 zkb_7 ?_
    refine zo_ialdc 7 zt_41 (by decide) rfl dX9_nights_75 ?_
    refine zg_isub dX9_nights_76 ?_
    refine zg_i2l dX9_nights_77 ?_
    obtain ⟨M5, hM5, h⟩ := z_bind h
    refine zg_callV (st := []) (k_X9_enters hM5) zY_X9_enters lv_X9_311 rfl zt_39 rfl (zfit_m (by decide) (by decide)) (Nat.le_of_ble_eq_true rfl) dX9_nights_78 rfl ?_
    refine zg_aload_n 0 dX9_nights_81 rfl rfl ?_
    refine zg_aload_n 0 dX9_nights_82 rfl rfl ?_
    refine zo_getr 41 1 rfl fl_X9_24 zt_39 rfl dX9_nights_83 ?_
    obtain ⟨x6, hx6, h⟩ := z_bind h
    refine zg_callS (st := [.ref 39]) (k_X9_threadsOf zt_41 hx6) zY_X9_threadsOf ls_X9_315 rfl (zfit_m (by decide) (by decide)) (Nat.le_of_ble_eq_true rfl) dX9_nights_86 rfl ?_
    obtain ⟨p7, hp7, h⟩ := z_bind h
    refine zg_callV (st := []) (k_X9_adds hp7) zY_X9_adds lv_X9_283 rfl zt_39 rfl (zfit_m (by decide) (by decide)) (Nat.le_of_ble_eq_true rfl) dX9_nights_89 rfl ?_
    obtain ⟨rfl, rfl⟩ := z_ret2 h
    exact zg_iret dX9_nights_92
  · replace h := (if_pos hc).symm.trans h
    refine zg_iconst dX9_nights_17 zki_m1 ?_
    obtain ⟨rfl, rfl⟩ := z_ret2 h
    exact zg_iret dX9_nights_18
set_option maxRecDepth 20000 in
set_option maxHeartbeats 4000000 in
theorem k_X9_weaves {v1 : Int32} {v2 : Int32} {v3 : Int32} {M : zM} {r1 : Int32} {Mr : zM} (h : f9_weaves v1 v2 v3 M = some (r1, Mr)) : zK ztops yX9_weaves cX9_weaves 4 (some .int) 5 [.ref 39, .int v1, .int v2, .int v3] M (some (.int r1)) Mr := by
  refine zK_of pl_X9 (Nat.le_of_ble_eq_true rfl) ?_
  show zJ ztops RX9 cX9_weaves 4 _ 0 0 0 [(0, .ref 39), (1, .int v1), (2, .int v2), (3, .int v3)] [] M
  rw [f9_weaves] at h
  refine zg_aload_n 0 dX9_weaves_0 rfl rfl ?_
  refine zg_iconst dX9_weaves_1 zki_0 ?_
  refine zg_puti fp_X9_3 zt_39 rfl dX9_weaves_2 ?_
  refine zg_aload_n 0 dX9_weaves_5 rfl rfl ?_
  obtain ⟨M1, hM1, h⟩ := z_bind h
  refine zg_callV (st := []) (k_X9_putsBy hM1) zY_X9_putsBy lv_X9_305 rfl zt_39 rfl (zfit_m (by decide) (by decide)) (Nat.le_of_ble_eq_true rfl) dX9_weaves_6 rfl ?_
  refine zg_aload_n 0 dX9_weaves_9 rfl rfl ?_
  refine zg_aload_n 0 dX9_weaves_10 rfl rfl ?_
  refine zo_getr 41 1 rfl fl_X9_24 zt_39 rfl dX9_weaves_11 ?_
  refine zg_iload_n 1 dX9_weaves_14 rfl rfl ?_
  refine zg_iload_n 2 dX9_weaves_15 rfl rfl ?_
  refine zg_iload_n 3 dX9_weaves_16 rfl rfl ?_
  obtain ⟨p2, hp2, h⟩ := z_bind h
  refine zg_callS (st := [.ref 39]) (k_X9_weavesIn zt_41 hp2) zY_X9_weavesIn ls_X9_318 rfl (zfit_m (by decide) (by decide)) (Nat.le_of_ble_eq_true rfl) dX9_weaves_17 rfl ?_
  obtain ⟨p3, hp3, h⟩ := z_bind h
  refine zg_callV (st := []) (k_X9_counted hp3) zY_X9_counted lv_X9_322 rfl zt_39 rfl (zfit_m (by decide) (by decide)) (Nat.le_of_ble_eq_true rfl) dX9_weaves_20 rfl ?_
  obtain ⟨rfl, rfl⟩ := z_ret2 h
  exact zg_iret dX9_weaves_23
set_option maxRecDepth 20000 in
set_option maxHeartbeats 4000000 in
theorem k_X9_draws {v1 : Int32} {v2 : Int32} {M : zM} {r1 : Int32} {Mr : zM} (h : f9_draws v1 v2 M = some (r1, Mr)) : zK ztops yX9_draws cX9_draws 3 (some .int) 5 [.ref 39, .int v1, .int v2] M (some (.int r1)) Mr := by
  refine zK_of pl_X9 (Nat.le_of_ble_eq_true rfl) ?_
  show zJ ztops RX9 cX9_draws 3 _ 0 0 0 [(0, .ref 39), (1, .int v1), (2, .int v2)] [] M
  rw [f9_draws] at h
  refine zg_aload_n 0 dX9_draws_0 rfl rfl ?_
  refine zg_iconst dX9_draws_1 zki_0 ?_
  refine zg_puti fp_X9_3 zt_39 rfl dX9_draws_2 ?_
  refine zg_aload_n 0 dX9_draws_5 rfl rfl ?_
  obtain ⟨M1, hM1, h⟩ := z_bind h
  refine zg_callV (st := []) (k_X9_putsBy hM1) zY_X9_putsBy lv_X9_305 rfl zt_39 rfl (zfit_m (by decide) (by decide)) (Nat.le_of_ble_eq_true rfl) dX9_draws_6 rfl ?_
  refine zg_aload_n 0 dX9_draws_9 rfl rfl ?_
  refine zg_aload_n 0 dX9_draws_10 rfl rfl ?_
  refine zg_iload_n 1 dX9_draws_11 rfl rfl ?_
  refine zg_iload_n 2 dX9_draws_12 rfl rfl ?_
  obtain ⟨p2, hp2, h⟩ := z_bind h
  refine zg_callV (st := [.ref 39]) (k_X9_drawsOut hp2) zY_X9_drawsOut lv_X9_325 rfl zt_39 rfl (zfit_m (by decide) (by decide)) (Nat.le_of_ble_eq_true rfl) dX9_draws_13 rfl ?_
  obtain ⟨p3, hp3, h⟩ := z_bind h
  refine zg_callV (st := []) (k_X9_counted hp3) zY_X9_counted lv_X9_322 rfl zt_39 rfl (zfit_m (by decide) (by decide)) (Nat.le_of_ble_eq_true rfl) dX9_draws_16 rfl ?_
  obtain ⟨rfl, rfl⟩ := z_ret2 h
  exact zg_iret dX9_draws_19
set_option maxRecDepth 20000 in
set_option maxHeartbeats 4000000 in
theorem k_X9_flips {v1 : Int32} {v2 : Int32} {M : zM} {r1 : Int32} {Mr : zM} (h : f9_flips v1 v2 M = some (r1, Mr)) : zK ztops yX9_flips cX9_flips 3 (some .int) 4 [.ref 39, .int v1, .int v2] M (some (.int r1)) Mr := by
  refine zK_of pl_X9 (Nat.le_of_ble_eq_true rfl) ?_
  show zJ ztops RX9 cX9_flips 3 _ 0 0 0 [(0, .ref 39), (1, .int v1), (2, .int v2)] [] M
  rw [f9_flips] at h
  refine zg_aload_n 0 dX9_flips_0 rfl rfl ?_
  refine zg_iconst dX9_flips_1 zki_0 ?_
  refine zg_puti fp_X9_3 zt_39 rfl dX9_flips_2 ?_
  refine zg_aload_n 0 dX9_flips_5 rfl rfl ?_
  obtain ⟨M1, hM1, h⟩ := z_bind h
  refine zg_callV (st := []) (k_X9_putsBy hM1) zY_X9_putsBy lv_X9_305 rfl zt_39 rfl (zfit_m (by decide) (by decide)) (Nat.le_of_ble_eq_true rfl) dX9_flips_6 rfl ?_
  refine zg_aload_n 0 dX9_flips_9 rfl rfl ?_
  refine zg_aload_n 0 dX9_flips_10 rfl rfl ?_
  refine zo_getr 41 1 rfl fl_X9_24 zt_39 rfl dX9_flips_11 ?_
  refine zg_iload_n 1 dX9_flips_14 rfl rfl ?_
  refine zg_iload_n 2 dX9_flips_15 rfl rfl ?_
  obtain ⟨p2, hp2, h⟩ := z_bind h
  refine zg_callS (st := [.ref 39]) (k_X9_flipsOne zt_41 hp2) zY_X9_flipsOne ls_X9_328 rfl (zfit_m (by decide) (by decide)) (Nat.le_of_ble_eq_true rfl) dX9_flips_16 rfl ?_
  obtain ⟨p3, hp3, h⟩ := z_bind h
  refine zg_callV (st := []) (k_X9_counted hp3) zY_X9_counted lv_X9_322 rfl zt_39 rfl (zfit_m (by decide) (by decide)) (Nat.le_of_ble_eq_true rfl) dX9_flips_19 rfl ?_
  obtain ⟨rfl, rfl⟩ := z_ret2 h
  exact zg_iret dX9_flips_22
set_option maxRecDepth 20000 in
set_option maxHeartbeats 4000000 in
theorem k_X9_mirrors {v1 : Int32} {M : zM} {r1 : Int32} {Mr : zM} (h : f9_mirrors v1 M = some (r1, Mr)) : zK ztops yX9_mirrors cX9_mirrors 2 (some .int) 5 [.ref 39, .int v1] M (some (.int r1)) Mr := by
  refine zK_of pl_X9 (Nat.le_of_ble_eq_true rfl) ?_
  show zJ ztops RX9 cX9_mirrors 2 _ 0 0 0 [(0, .ref 39), (1, .int v1)] [] M
  rw [f9_mirrors] at h
  refine zg_aload_n 0 dX9_mirrors_0 rfl rfl ?_
  refine zg_iconst dX9_mirrors_1 zki_0 ?_
  refine zg_puti fp_X9_3 zt_39 rfl dX9_mirrors_2 ?_
  refine zg_aload_n 0 dX9_mirrors_5 rfl rfl ?_
  obtain ⟨M1, hM1, h⟩ := z_bind h
  refine zg_callV (st := []) (k_X9_putsBy hM1) zY_X9_putsBy lv_X9_305 rfl zt_39 rfl (zfit_m (by decide) (by decide)) (Nat.le_of_ble_eq_true rfl) dX9_mirrors_6 rfl ?_
  refine zg_aload_n 0 dX9_mirrors_9 rfl rfl ?_
  refine zg_aload_n 0 dX9_mirrors_10 rfl rfl ?_
  refine zg_iload_n 1 dX9_mirrors_11 rfl rfl ?_
  obtain ⟨p2, hp2, h⟩ := z_bind h
  refine zg_callV (st := [.ref 39]) (k_X9_mirrorsAll hp2) zY_X9_mirrorsAll lv_X9_331 rfl zt_39 rfl (zfit_m (by decide) (by decide)) (Nat.le_of_ble_eq_true rfl) dX9_mirrors_12 rfl ?_
  obtain ⟨p3, hp3, h⟩ := z_bind h
  refine zg_callV (st := []) (k_X9_counted hp3) zY_X9_counted lv_X9_322 rfl zt_39 rfl (zfit_m (by decide) (by decide)) (Nat.le_of_ble_eq_true rfl) dX9_mirrors_15 rfl ?_
  obtain ⟨rfl, rfl⟩ := z_ret2 h
  exact zg_iret dX9_mirrors_18
set_option maxRecDepth 20000 in
set_option maxHeartbeats 4000000 in
theorem g9_readsAct_115 {r1 : Int32} {Mr : zM} : ∀ (v1 : Int32) (M : zM), f9_readsAct_115 v1 M = some (r1, Mr) → zJ ztops RX9 cX9_readsAct 5 (zBm ztops 7 (some .boolean) (some (.int r1)) Mr) 0 0 115 [(0, .ref 39), (1, .int v1)] [] M := by
  intro v1 M h
  rw [f9_readsAct_115] at h
  refine zg_aload_n 0 dX9_readsAct_115 rfl rfl ?_
  refine zo_getr 51 11 rfl fl_X9_55 zt_39 rfl dX9_readsAct_116 ?_
  refine zg_iload_n 1 dX9_readsAct_119 rfl rfl ?_
  obtain ⟨x1, hx1, h⟩ := z_bind h
  refine zo_iald zt_51 hx1 dX9_readsAct_120 ?_
  suffices hj : zJ ztops RX9 cX9_readsAct 5 (zBm ztops 7 (some .boolean) (some (.int r1)) Mr) 0 0 129 [(0, .ref 39), (1, .int v1)] [.int (if x1 < 0 then (0 : Int32) else (1 : Int32))] M by
    refine zg_if_lt (tgt := 128) dX9_readsAct_121 (by decide) (fun hc => ?_) (fun hc => ?_)
    · rw [show (if x1 < 0 then (0 : Int32) else (1 : Int32)) = (0 : Int32) from if_pos hc] at hj
      refine zg_iconst dX9_readsAct_128 zki_0 ?_
      exact hj
    · rw [show (if x1 < 0 then (0 : Int32) else (1 : Int32)) = (1 : Int32) from if_neg hc] at hj
      refine zg_iconst dX9_readsAct_124 zki_1 ?_
      refine zg_goto (tgt := 129) dX9_readsAct_125 (by decide) ?_
      exact hj
  obtain ⟨rfl, rfl⟩ := z_ret2 h
  exact zg_zret (zn_ite rfl rfl) dX9_readsAct_129
set_option maxRecDepth 20000 in
set_option maxHeartbeats 4000000 in
theorem g9_readsAct_194 {r1 : Int32} {Mr : zM} : ∀ (v1 : Int32) (v3 : Int32) (s0 : Int32) (M : zM), f9_readsAct_194 v1 v3 s0 M = some (r1, Mr) → zJ ztops RX9 cX9_readsAct 5 (zBm ztops 7 (some .boolean) (some (.int r1)) Mr) 0 0 194 [(0, .ref 39), (1, .int v1), (3, .int v3)] [.int s0] M := by
  intro v1 v3 s0 M h
  rw [f9_readsAct_194] at h
  refine zg_istore (ls' := [(0, .ref 39), (1, .int v1), (3, .int v3), (4, .int s0)]) dX9_readsAct_194 (Nat.le_of_ble_eq_true rfl) rfl ?_
  refine zg_aload_n 0 dX9_readsAct_196 rfl rfl ?_
  refine zo_getr 53 13 rfl fl_X9_61 zt_39 rfl dX9_readsAct_197 ?_
  refine zg_iload_n 1 dX9_readsAct_200 rfl rfl ?_
  refine zg_bipush dX9_readsAct_201 zkb_10 ?_
  refine zg_iload_n 2 dX9_readsAct_203 rfl rfl ?_
  refine zg_imul dX9_readsAct_204 ?_
  refine zg_iload 3 dX9_readsAct_205 rfl ?_
  refine zg_iadd dX9_readsAct_207 ?_
  obtain ⟨M1, hM1, h⟩ := z_bind h
  refine zo_iast zt_53 hM1 dX9_readsAct_208 ?_
  refine zg_iload 3 dX9_readsAct_209 rfl ?_
  suffices hj : zJ ztops RX9 cX9_readsAct 5 (zBm ztops 7 (some .boolean) (some (.int r1)) Mr) 0 0 219 [(0, .ref 39), (1, .int v1), (3, .int v3), (4, .int s0)] [.int (if s0 < 0 then (0 : Int32) else (1 : Int32))] M1 by
    refine zg_if_lt (tgt := 218) dX9_readsAct_211 (by decide) (fun hc => ?_) (fun hc => ?_)
    · rw [show (if s0 < 0 then (0 : Int32) else (1 : Int32)) = (0 : Int32) from if_pos hc] at hj
      refine zg_iconst dX9_readsAct_218 zki_0 ?_
      exact hj
    · rw [show (if s0 < 0 then (0 : Int32) else (1 : Int32)) = (1 : Int32) from if_neg hc] at hj
      refine zg_iconst dX9_readsAct_214 zki_1 ?_
      refine zg_goto (tgt := 219) dX9_readsAct_215 (by decide) ?_
      exact hj
  obtain ⟨rfl, rfl⟩ := z_ret2 h
  exact zg_zret (zn_ite rfl rfl) dX9_readsAct_219
set_option maxRecDepth 20000 in
set_option maxHeartbeats 4000000 in
theorem g9_readsAct_160 {r1 : Int32} {Mr : zM} : ∀ (v1 : Int32) (M : zM), f9_readsAct_160 v1 M = some (r1, Mr) → zJ ztops RX9 cX9_readsAct 5 (zBm ztops 7 (some .boolean) (some (.int r1)) Mr) 0 0 160 [(0, .ref 39), (1, .int v1)] [] M := by
  intro v1 M h
  rw [f9_readsAct_160] at h
  refine zg_aload_n 0 dX9_readsAct_160 rfl rfl ?_
  refine zo_getr 52 12 rfl fl_X9_58 zt_39 rfl dX9_readsAct_161 ?_
  refine zg_iload_n 1 dX9_readsAct_164 rfl rfl ?_
  obtain ⟨x1, hx1, h⟩ := z_bind h
  refine zo_iald zt_52 hx1 dX9_readsAct_165 ?_
  suffices hj : zJ ztops RX9 cX9_readsAct 5 (zBm ztops 7 (some .boolean) (some (.int r1)) Mr) 0 0 174 [(0, .ref 39), (1, .int v1)] [.int (if x1 < 0 then (0 : Int32) else (1 : Int32))] M by
    refine zg_if_lt (tgt := 173) dX9_readsAct_166 (by decide) (fun hc => ?_) (fun hc => ?_)
    · rw [show (if x1 < 0 then (0 : Int32) else (1 : Int32)) = (0 : Int32) from if_pos hc] at hj
      refine zg_iconst dX9_readsAct_173 zki_0 ?_
      exact hj
    · rw [show (if x1 < 0 then (0 : Int32) else (1 : Int32)) = (1 : Int32) from if_neg hc] at hj
      refine zg_iconst dX9_readsAct_169 zki_1 ?_
      refine zg_goto (tgt := 174) dX9_readsAct_170 (by decide) ?_
      exact hj
  obtain ⟨rfl, rfl⟩ := z_ret2 h
  exact zg_zret (zn_ite rfl rfl) dX9_readsAct_174
set_option maxRecDepth 20000 in
set_option maxHeartbeats 4000000 in
theorem g9_readsAct_74 {r1 : Int32} {Mr : zM} : ∀ (v1 : Int32) (s0 : Int32) (M : zM), f9_readsAct_74 v1 s0 M = some (r1, Mr) → zJ ztops RX9 cX9_readsAct 5 (zBm ztops 7 (some .boolean) (some (.int r1)) Mr) 0 0 74 [(0, .ref 39), (1, .int v1)] [.int s0] M := by
  intro v1 s0 M h
  rw [f9_readsAct_74] at h
  refine zg_istore_n (ls' := [(0, .ref 39), (1, .int v1), (2, .int s0)]) dX9_readsAct_74 rfl (Nat.le_of_ble_eq_true rfl) rfl ?_
  refine zg_aload_n 0 dX9_readsAct_75 rfl rfl ?_
  refine zo_getr 51 11 rfl fl_X9_55 zt_39 rfl dX9_readsAct_76 ?_
  refine zg_iload_n 1 dX9_readsAct_79 rfl rfl ?_
  refine zg_aload_n 0 dX9_readsAct_80 rfl rfl ?_
  refine zg_iconst dX9_readsAct_81 zki_0 ?_
  refine zg_iload_n 2 dX9_readsAct_82 rfl rfl ?_
  suffices hj : zJ ztops RX9 cX9_readsAct 5 (zBm ztops 7 (some .boolean) (some (.int r1)) Mr) 0 0 92 [(0, .ref 39), (1, .int v1), (2, .int s0)] [.int (if s0 = 0 then (9 : Int32) else (1 : Int32)), .int (0 : Int32), .ref 39, .int v1, .ref 51] M by
    refine zg_if_eq (tgt := 90) dX9_readsAct_83 (by decide) (fun hc => ?_) (fun hc => ?_)
    · rw [show (if s0 = 0 then (9 : Int32) else (1 : Int32)) = (9 : Int32) from if_pos hc] at hj
      refine zg_bipush dX9_readsAct_90 zkb_9 ?_
      exact hj
    · rw [show (if s0 = 0 then (9 : Int32) else (1 : Int32)) = (1 : Int32) from if_neg hc] at hj
      refine zg_iconst dX9_readsAct_86 zki_1 ?_
      refine zg_goto (tgt := 92) dX9_readsAct_87 (by decide) ?_
      exact hj
  obtain ⟨p1, hp1, h⟩ := z_bind h
  refine zg_callV (st := [.int v1, .ref 51]) (k_X9_digitIn hp1) zY_X9_digitIn lv_X9_182 rfl zt_39 rfl (zfit_m (by decide) (by decide)) (Nat.le_of_ble_eq_true rfl) dX9_readsAct_92 rfl ?_
  obtain ⟨M2, hM2, h⟩ := z_bind h
  refine zo_iast zt_51 hM2 dX9_readsAct_95 ?_
  refine zg_aload_n 0 dX9_readsAct_96 rfl rfl ?_
  refine zo_getr 51 11 rfl fl_X9_55 zt_39 rfl dX9_readsAct_97 ?_
  refine zg_iload_n 1 dX9_readsAct_100 rfl rfl ?_
  obtain ⟨x3, hx3, h⟩ := z_bind h
  refine zo_iald zt_51 hx3 dX9_readsAct_101 ?_
  refine zg_if_lt (tgt := 115) dX9_readsAct_102 (by decide) (fun hc => ?_) (fun hc => ?_)
  · replace h := (if_pos hc).symm.trans h
    refine zo_sub (ls' := [(0, .ref 39), (1, .int v1)]) [0, 1] rfl ?_
    exact g9_readsAct_115 _ _ h
  · replace h := (if_neg hc).symm.trans h
    refine zg_aload_n 0 dX9_readsAct_105 rfl rfl ?_
    refine zo_getr 50 10 rfl fl_X9_52 zt_39 rfl dX9_readsAct_106 ?_
    refine zg_iload_n 1 dX9_readsAct_109 rfl rfl ?_
    obtain ⟨x4, hx4, h⟩ := z_bind h
    refine zo_iald zt_50 hx4 dX9_readsAct_110 ?_
    refine zg_iconst dX9_readsAct_111 zki_2 ?_
    refine zg_icmp_ge (tgt := 130) dX9_readsAct_112 (by decide) (fun hc => ?_) (fun hc => ?_)
    · replace h := (if_pos hc).symm.trans h
      refine zg_aload_n 0 dX9_readsAct_130 rfl rfl ?_
      refine zo_getr 52 12 rfl fl_X9_58 zt_39 rfl dX9_readsAct_131 ?_
      refine zg_iload_n 1 dX9_readsAct_134 rfl rfl ?_
      refine zg_aload_n 0 dX9_readsAct_135 rfl rfl ?_
      refine zg_iconst dX9_readsAct_136 zki_1 ?_
      obtain ⟨p5, hp5, h⟩ := z_bind h
      refine zg_callV (st := [.int v1, .ref 52]) (k_X9_number hp5) zY_X9_number lv_X9_218 rfl zt_39 rfl (zfit_m (by decide) (by decide)) (Nat.le_of_ble_eq_true rfl) dX9_readsAct_137 rfl ?_
      obtain ⟨M6, hM6, h⟩ := z_bind h
      refine zo_iast zt_52 hM6 dX9_readsAct_140 ?_
      refine zg_aload_n 0 dX9_readsAct_141 rfl rfl ?_
      refine zo_getr 52 12 rfl fl_X9_58 zt_39 rfl dX9_readsAct_142 ?_
      refine zg_iload_n 1 dX9_readsAct_145 rfl rfl ?_
      obtain ⟨x7, hx7, h⟩ := z_bind h
      refine zo_iald zt_52 hx7 dX9_readsAct_146 ?_
      refine zg_if_lt (tgt := 160) dX9_readsAct_147 (by decide) (fun hc => ?_) (fun hc => ?_)
      · replace h := (if_pos hc).symm.trans h
        refine zo_sub (ls' := [(0, .ref 39), (1, .int v1)]) [0, 1] rfl ?_
        exact g9_readsAct_160 _ _ h
      · replace h := (if_neg hc).symm.trans h
        refine zg_aload_n 0 dX9_readsAct_150 rfl rfl ?_
        refine zo_getr 50 10 rfl fl_X9_52 zt_39 rfl dX9_readsAct_151 ?_
        refine zg_iload_n 1 dX9_readsAct_154 rfl rfl ?_
        obtain ⟨x8, hx8, h⟩ := z_bind h
        refine zo_iald zt_50 hx8 dX9_readsAct_155 ?_
        refine zg_iconst dX9_readsAct_156 zki_4 ?_
        refine zg_icmp_ge (tgt := 175) dX9_readsAct_157 (by decide) (fun hc => ?_) (fun hc => ?_)
        · replace h := (if_pos hc).symm.trans h
          refine zg_aload_n 0 dX9_readsAct_175 rfl rfl ?_
          refine zg_iconst dX9_readsAct_176 zki_1 ?_
          obtain ⟨p9, hp9, h⟩ := z_bind h
          refine zg_callV (st := []) (k_X9_number hp9) zY_X9_number lv_X9_218 rfl zt_39 rfl (zfit_m (by decide) (by decide)) (Nat.le_of_ble_eq_true rfl) dX9_readsAct_177 rfl ?_
          refine zg_istore_n (ls' := [(0, .ref 39), (1, .int v1), (2, .int s0), (3, .int p9.1)]) dX9_readsAct_180 rfl (Nat.le_of_ble_eq_true rfl) rfl ?_
          refine zg_iload_n 3 dX9_readsAct_181 rfl rfl ?_
          refine zg_if_ge (tgt := 189) dX9_readsAct_182 (by decide) (fun hc => ?_) (fun hc => ?_)
          · replace h := (if_pos hc).symm.trans h
            refine zg_aload_n 0 dX9_readsAct_189 rfl rfl ?_
            refine zg_iconst dX9_readsAct_190 zki_1 ?_
            obtain ⟨p10, hp10, h⟩ := z_bind h
            refine zg_callV (st := []) (k_X9_number hp10) zY_X9_number lv_X9_218 rfl zt_39 rfl (zfit_m (by decide) (by decide)) (Nat.le_of_ble_eq_true rfl) dX9_readsAct_191 rfl ?_
            refine zo_sub (ls' := [(0, .ref 39), (1, .int v1), (3, .int p9.1)]) [0, 1, 3] rfl ?_
            exact g9_readsAct_194 _ _ _ _ h
          · replace h := (if_neg hc).symm.trans h
            refine zg_iconst dX9_readsAct_185 zki_m1 ?_
            refine zg_goto (tgt := 194) dX9_readsAct_186 (by decide) ?_
            refine zo_sub (ls' := [(0, .ref 39), (1, .int v1), (3, .int p9.1)]) [0, 1, 3] rfl ?_
            exact g9_readsAct_194 _ _ _ _ h
        · replace h := (if_neg hc).symm.trans h
          refine zo_sub (ls' := [(0, .ref 39), (1, .int v1)]) [0, 1] rfl ?_
          exact g9_readsAct_160 _ _ h
    · replace h := (if_neg hc).symm.trans h
      refine zo_sub (ls' := [(0, .ref 39), (1, .int v1)]) [0, 1] rfl ?_
      exact g9_readsAct_115 _ _ h
set_option maxRecDepth 20000 in
set_option maxHeartbeats 4000000 in
theorem k_X9_readsAct {M : zM} {r1 : Int32} {Mr : zM} (h : f9_readsAct M = some (r1, Mr)) : zK ztops yX9_readsAct cX9_readsAct 5 (some .boolean) 7 [.ref 39] M (some (.int r1)) Mr := by
  refine zK_of pl_X9 (Nat.le_of_ble_eq_true rfl) ?_
  show zJ ztops RX9 cX9_readsAct 5 _ 0 0 0 [(0, .ref 39)] [] M
  rw [f9_readsAct] at h
  refine zg_aload_n 0 dX9_readsAct_0 rfl rfl ?_
  refine zg_geti fl_X9_334 zt_39 rfl dX9_readsAct_1 ?_
  refine zg_istore_n (ls' := [(0, .ref 39), (1, .int (M.1 39 24))]) dX9_readsAct_4 rfl (Nat.le_of_ble_eq_true rfl) rfl ?_
  refine zg_aload_n 0 dX9_readsAct_5 rfl rfl ?_
  refine zo_getr 50 10 rfl fl_X9_52 zt_39 rfl dX9_readsAct_6 ?_
  refine zg_iload_n 1 dX9_readsAct_9 rfl rfl ?_
  refine zg_aload_n 0 dX9_readsAct_10 rfl rfl ?_
  refine zg_ldcSw (q := 11) rfl dX9_readsAct_11 ?_
  obtain ⟨p1, hp1, h⟩ := z_bind h
  refine zg_callV (st := [.int (M.1 39 24), .ref 50]) (k_X9_takesOf hp1) zY_X9_takesOf lv_X9_187 rfl zt_39 rfl (zfit_m (by decide) (by decide)) (Nat.le_of_ble_eq_true rfl) dX9_readsAct_14 rfl ?_
  obtain ⟨M2, hM2, h⟩ := z_bind h
  refine zo_iast zt_50 hM2 dX9_readsAct_17 ?_
  refine zg_aload_n 0 dX9_readsAct_18 rfl rfl ?_
  refine zg_dup dX9_readsAct_19 rfl ?_
  refine zg_geti fl_X9_334 zt_39 rfl dX9_readsAct_20 ?_
  refine zg_iconst dX9_readsAct_23 zki_1 ?_
  refine zg_iadd dX9_readsAct_24 ?_
  refine zg_puti fp_X9_334 zt_39 rfl dX9_readsAct_25 ?_
  refine zg_aload_n 0 dX9_readsAct_28 rfl rfl ?_
  refine zo_getr 50 10 rfl fl_X9_52 zt_39 rfl dX9_readsAct_29 ?_
  refine zg_iload_n 1 dX9_readsAct_32 rfl rfl ?_
  obtain ⟨x3, hx3, h⟩ := z_bind h
  refine zo_iald zt_50 hx3 dX9_readsAct_33 ?_
  refine zg_if_ge (tgt := 39) dX9_readsAct_34 (by decide) (fun hc => ?_) (fun hc => ?_)
  · replace h := (if_pos hc).symm.trans h
    refine zg_aload_n 0 dX9_readsAct_39 rfl rfl ?_
    refine zo_getr 50 10 rfl fl_X9_52 zt_39 rfl dX9_readsAct_40 ?_
    refine zg_iload_n 1 dX9_readsAct_43 rfl rfl ?_
    obtain ⟨x4, hx4, h⟩ := z_bind h
    refine zo_iald zt_50 hx4 dX9_readsAct_44 ?_
    refine zg_iconst dX9_readsAct_45 zki_1 ?_
    refine zg_icmp_eq (tgt := 69) dX9_readsAct_46 (by decide) (fun hc => ?_) (fun hc => ?_)
    · replace h := (if_pos hc).symm.trans h
      refine zg_iconst dX9_readsAct_69 zki_1 ?_
      refine zg_goto (tgt := 74) dX9_readsAct_70 (by decide) ?_
      exact g9_readsAct_74 _ _ _ h
    · replace h := (if_neg hc).symm.trans h
      refine zg_aload_n 0 dX9_readsAct_49 rfl rfl ?_
      refine zo_getr 50 10 rfl fl_X9_52 zt_39 rfl dX9_readsAct_50 ?_
      refine zg_iload_n 1 dX9_readsAct_53 rfl rfl ?_
      obtain ⟨x5, hx5, h⟩ := z_bind h
      refine zo_iald zt_50 hx5 dX9_readsAct_54 ?_
      refine zg_iconst dX9_readsAct_55 zki_2 ?_
      refine zg_icmp_eq (tgt := 69) dX9_readsAct_56 (by decide) (fun hc => ?_) (fun hc => ?_)
      · replace h := (if_pos hc).symm.trans h
        refine zg_iconst dX9_readsAct_69 zki_1 ?_
        refine zg_goto (tgt := 74) dX9_readsAct_70 (by decide) ?_
        exact g9_readsAct_74 _ _ _ h
      · replace h := (if_neg hc).symm.trans h
        refine zg_aload_n 0 dX9_readsAct_59 rfl rfl ?_
        refine zo_getr 50 10 rfl fl_X9_52 zt_39 rfl dX9_readsAct_60 ?_
        refine zg_iload_n 1 dX9_readsAct_63 rfl rfl ?_
        obtain ⟨x6, hx6, h⟩ := z_bind h
        refine zo_iald zt_50 hx6 dX9_readsAct_64 ?_
        refine zg_iconst dX9_readsAct_65 zki_4 ?_
        suffices hj : zJ ztops RX9 cX9_readsAct 5 (zBm ztops 7 (some .boolean) (some (.int r1)) Mr) 0 0 74 [(0, .ref 39), (1, .int (M.1 39 24))] [.int (if x6 = (4 : Int32) then (1 : Int32) else (0 : Int32))] (zsi M2 39 24 ((M2.1 39 24) + (1 : Int32))) by
          refine zg_icmp_ne (tgt := 73) dX9_readsAct_66 (by decide) (fun hc => ?_) (fun hc => ?_)
          · rw [show (if x6 = (4 : Int32) then (1 : Int32) else (0 : Int32)) = (0 : Int32) from if_neg hc] at hj
            refine zg_iconst dX9_readsAct_73 zki_0 ?_
            exact hj
          · rw [show (if x6 = (4 : Int32) then (1 : Int32) else (0 : Int32)) = (1 : Int32) from if_pos hc] at hj
            refine zg_iconst dX9_readsAct_69 zki_1 ?_
            refine zg_goto (tgt := 74) dX9_readsAct_70 (by decide) ?_
            exact hj
        exact g9_readsAct_74 _ _ _ h
  · replace h := (if_neg hc).symm.trans h
    refine zg_iconst dX9_readsAct_37 zki_0 ?_
    obtain ⟨rfl, rfl⟩ := z_ret2 h
    exact zg_zret rfl dX9_readsAct_38
set_option maxRecDepth 20000 in
set_option maxHeartbeats 4000000 in
theorem k_X9_does {v1 : Int32} {M : zM} {r1 : Int32} {Mr : zM} (h : f9_does v1 M = some (r1, Mr)) : zK ztops yX9_does cX9_does 3 (some .boolean) 9 [.ref 39, .int v1] M (some (.int r1)) Mr := by
  refine zK_of pl_X9 (Nat.le_of_ble_eq_true rfl) ?_
  show zJ ztops RX9 cX9_does 3 _ 0 0 0 [(0, .ref 39), (1, .int v1)] [] M
  rw [f9_does] at h
  refine zg_aload_n 0 dX9_does_0 rfl rfl ?_
  refine zo_getr 51 11 rfl fl_X9_55 zt_39 rfl dX9_does_1 ?_
  refine zg_iload_n 1 dX9_does_4 rfl rfl ?_
  obtain ⟨x1, hx1, h⟩ := z_bind h
  refine zo_iald zt_51 hx1 dX9_does_5 ?_
  refine zg_istore_n (ls' := [(0, .ref 39), (1, .int v1), (2, .int x1)]) dX9_does_6 rfl (Nat.le_of_ble_eq_true rfl) rfl ?_
  refine zg_aload_n 0 dX9_does_7 rfl rfl ?_
  refine zo_getr 50 10 rfl fl_X9_52 zt_39 rfl dX9_does_8 ?_
  refine zg_iload_n 1 dX9_does_11 rfl rfl ?_
  obtain ⟨x2, hx2, h⟩ := z_bind h
  refine zo_iald zt_50 hx2 dX9_does_12 ?_
  by_cases hc1 : x2 = (0 : Int32)
  · replace h := (if_pos hc1).symm.trans h
    refine zg_tableEq (k := 0) (off := 31) (tgt := 44) dX9_does_13 hc1 (by decide) (by decide) (by decide) (by decide) ?_
    refine zg_aload_n 0 dX9_does_44 rfl rfl ?_
    refine zg_aload_n 0 dX9_does_45 rfl rfl ?_
    refine zo_getr 41 1 rfl fl_X9_24 zt_39 rfl dX9_does_46 ?_
    refine zg_iload_n 2 dX9_does_49 rfl rfl ?_
    obtain ⟨M3, hM3, h⟩ := z_bind h
    refine zg_callV (st := []) (k_X9_goesOn zt_41 hM3) zY_X9_goesOn lv_X9_308 rfl zt_39 rfl (zfit_m (by decide) (by decide)) (Nat.le_of_ble_eq_true rfl) dX9_does_50 rfl ?_
    refine zg_iconst dX9_does_53 zki_1 ?_
    obtain ⟨rfl, rfl⟩ := z_ret2 h
    exact zg_zret rfl dX9_does_54
  replace h := (if_neg hc1).symm.trans h
  by_cases hc2 : x2 = (1 : Int32)
  · replace h := (if_pos hc2).symm.trans h
    refine zg_tableEq (k := 1) (off := 42) (tgt := 55) dX9_does_13 hc2 (by decide) (by decide) (by decide) (by decide) ?_
    refine zg_aload_n 0 dX9_does_55 rfl rfl ?_
    refine zg_iload_n 2 dX9_does_56 rfl rfl ?_
    obtain ⟨p3, hp3, h⟩ := z_bind h
    refine zg_callV (st := []) (k_X9_mirrorsAll hp3) zY_X9_mirrorsAll lv_X9_331 rfl zt_39 rfl (zfit_m (by decide) (by decide)) (Nat.le_of_ble_eq_true rfl) dX9_does_57 rfl ?_
    suffices hj : zJ ztops RX9 cX9_does 3 (zBm ztops 9 (some .boolean) (some (.int r1)) Mr) 0 0 68 [(0, .ref 39), (1, .int v1), (2, .int x1)] [.int (if p3.1 < 0 then (0 : Int32) else (1 : Int32))] p3.2 by
      refine zg_if_lt (tgt := 67) dX9_does_60 (by decide) (fun hc => ?_) (fun hc => ?_)
      · rw [show (if p3.1 < 0 then (0 : Int32) else (1 : Int32)) = (0 : Int32) from if_pos hc] at hj
        refine zg_iconst dX9_does_67 zki_0 ?_
        exact hj
      · rw [show (if p3.1 < 0 then (0 : Int32) else (1 : Int32)) = (1 : Int32) from if_neg hc] at hj
        refine zg_iconst dX9_does_63 zki_1 ?_
        refine zg_goto (tgt := 68) dX9_does_64 (by decide) ?_
        exact hj
    obtain ⟨rfl, rfl⟩ := z_ret2 h
    exact zg_zret (zn_ite rfl rfl) dX9_does_68
  replace h := (if_neg hc2).symm.trans h
  by_cases hc3 : x2 = (2 : Int32)
  · replace h := (if_pos hc3).symm.trans h
    refine zg_tableEq (k := 2) (off := 56) (tgt := 69) dX9_does_13 hc3 (by decide) (by decide) (by decide) (by decide) ?_
    refine zg_aload_n 0 dX9_does_69 rfl rfl ?_
    refine zg_iload_n 2 dX9_does_70 rfl rfl ?_
    refine zg_aload_n 0 dX9_does_71 rfl rfl ?_
    refine zo_getr 52 12 rfl fl_X9_58 zt_39 rfl dX9_does_72 ?_
    refine zg_iload_n 1 dX9_does_75 rfl rfl ?_
    obtain ⟨x3, hx3, h⟩ := z_bind h
    refine zo_iald zt_52 hx3 dX9_does_76 ?_
    obtain ⟨p4, hp4, h⟩ := z_bind h
    refine zg_callV (st := []) (k_X9_drawsOut hp4) zY_X9_drawsOut lv_X9_325 rfl zt_39 rfl (zfit_m (by decide) (by decide)) (Nat.le_of_ble_eq_true rfl) dX9_does_77 rfl ?_
    suffices hj : zJ ztops RX9 cX9_does 3 (zBm ztops 9 (some .boolean) (some (.int r1)) Mr) 0 0 88 [(0, .ref 39), (1, .int v1), (2, .int x1)] [.int (if p4.1 < 0 then (0 : Int32) else (1 : Int32))] p4.2 by
      refine zg_if_lt (tgt := 87) dX9_does_80 (by decide) (fun hc => ?_) (fun hc => ?_)
      · rw [show (if p4.1 < 0 then (0 : Int32) else (1 : Int32)) = (0 : Int32) from if_pos hc] at hj
        refine zg_iconst dX9_does_87 zki_0 ?_
        exact hj
      · rw [show (if p4.1 < 0 then (0 : Int32) else (1 : Int32)) = (1 : Int32) from if_neg hc] at hj
        refine zg_iconst dX9_does_83 zki_1 ?_
        refine zg_goto (tgt := 88) dX9_does_84 (by decide) ?_
        exact hj
    obtain ⟨rfl, rfl⟩ := z_ret2 h
    exact zg_zret (zn_ite rfl rfl) dX9_does_88
  replace h := (if_neg hc3).symm.trans h
  by_cases hc4 : x2 = (3 : Int32)
  · replace h := (if_pos hc4).symm.trans h
    refine zg_tableEq (k := 3) (off := 76) (tgt := 89) dX9_does_13 hc4 (by decide) (by decide) (by decide) (by decide) ?_
    refine zg_aload_n 0 dX9_does_89 rfl rfl ?_
    refine zo_getr 41 1 rfl fl_X9_24 zt_39 rfl dX9_does_90 ?_
    refine zg_iload_n 2 dX9_does_93 rfl rfl ?_
    refine zg_aload_n 0 dX9_does_94 rfl rfl ?_
    refine zo_getr 52 12 rfl fl_X9_58 zt_39 rfl dX9_does_95 ?_
    refine zg_iload_n 1 dX9_does_98 rfl rfl ?_
    obtain ⟨x3, hx3, h⟩ := z_bind h
    refine zo_iald zt_52 hx3 dX9_does_99 ?_
    obtain ⟨p4, hp4, h⟩ := z_bind h
    refine zg_callS (st := []) (k_X9_flipsOne zt_41 hp4) zY_X9_flipsOne ls_X9_328 rfl (zfit_m (by decide) (by decide)) (Nat.le_of_ble_eq_true rfl) dX9_does_100 rfl ?_
    suffices hj : zJ ztops RX9 cX9_does 3 (zBm ztops 9 (some .boolean) (some (.int r1)) Mr) 0 0 111 [(0, .ref 39), (1, .int v1), (2, .int x1)] [.int (if p4.1 < 0 then (0 : Int32) else (1 : Int32))] p4.2 by
      refine zg_if_lt (tgt := 110) dX9_does_103 (by decide) (fun hc => ?_) (fun hc => ?_)
      · rw [show (if p4.1 < 0 then (0 : Int32) else (1 : Int32)) = (0 : Int32) from if_pos hc] at hj
        refine zg_iconst dX9_does_110 zki_0 ?_
        exact hj
      · rw [show (if p4.1 < 0 then (0 : Int32) else (1 : Int32)) = (1 : Int32) from if_neg hc] at hj
        refine zg_iconst dX9_does_106 zki_1 ?_
        refine zg_goto (tgt := 111) dX9_does_107 (by decide) ?_
        exact hj
    obtain ⟨rfl, rfl⟩ := z_ret2 h
    exact zg_zret (zn_ite rfl rfl) dX9_does_111
  replace h := (if_neg hc4).symm.trans h
  refine zg_tableOut (tgt := 112) dX9_does_13 (z_tout 4 (fun j hj => by match j, hj with | 0, _ => exact hc1 | 1, _ => exact hc2 | 2, _ => exact hc3 | 3, _ => exact hc4 | j + 4, hj => exact absurd hj (by omega)) (by decide)) (by decide) ?_
  refine zg_aload_n 0 dX9_does_112 rfl rfl ?_
  refine zo_getr 41 1 rfl fl_X9_24 zt_39 rfl dX9_does_113 ?_
  refine zg_iload_n 2 dX9_does_116 rfl rfl ?_
  refine zg_aload_n 0 dX9_does_117 rfl rfl ?_
  refine zo_getr 52 12 rfl fl_X9_58 zt_39 rfl dX9_does_118 ?_
  refine zg_iload_n 1 dX9_does_121 rfl rfl ?_
  obtain ⟨x3, hx3, h⟩ := z_bind h
  refine zo_iald zt_52 hx3 dX9_does_122 ?_
  refine zg_aload_n 0 dX9_does_123 rfl rfl ?_
  refine zo_getr 53 13 rfl fl_X9_61 zt_39 rfl dX9_does_124 ?_
  refine zg_iload_n 1 dX9_does_127 rfl rfl ?_
  obtain ⟨x4, hx4, h⟩ := z_bind h
  refine zo_iald zt_53 hx4 dX9_does_128 ?_
  obtain ⟨p5, hp5, h⟩ := z_bind h
  refine zg_callS (st := []) (k_X9_weavesIn zt_41 hp5) zY_X9_weavesIn ls_X9_318 rfl (zfit_m (by decide) (by decide)) (Nat.le_of_ble_eq_true rfl) dX9_does_129 rfl ?_
  suffices hj : zJ ztops RX9 cX9_does 3 (zBm ztops 9 (some .boolean) (some (.int r1)) Mr) 0 0 140 [(0, .ref 39), (1, .int v1), (2, .int x1)] [.int (if p5.1 < 0 then (0 : Int32) else (1 : Int32))] p5.2 by
    refine zg_if_lt (tgt := 139) dX9_does_132 (by decide) (fun hc => ?_) (fun hc => ?_)
    · rw [show (if p5.1 < 0 then (0 : Int32) else (1 : Int32)) = (0 : Int32) from if_pos hc] at hj
      refine zg_iconst dX9_does_139 zki_0 ?_
      exact hj
    · rw [show (if p5.1 < 0 then (0 : Int32) else (1 : Int32)) = (1 : Int32) from if_neg hc] at hj
      refine zg_iconst dX9_does_135 zki_1 ?_
      refine zg_goto (tgt := 140) dX9_does_136 (by decide) ?_
      exact hj
  obtain ⟨rfl, rfl⟩ := z_ret2 h
  exact zg_zret (zn_ite rfl rfl) dX9_does_140
