set_option maxRecDepth 20000 in
set_option maxHeartbeats 4000000 in
theorem g9_work_88 {r1 : Int32} {Mr : zM} : ∀ (v4 : Int32) (M : zM), f9_work_88 v4 M = some (r1, Mr) → zJ ztops RX9 cX9_work 5 (zBm ztops 10 (some .int) (some (.int r1)) Mr) 0 0 88 [(0, .ref 39), (4, .int v4)] [] M := by
  intro v4 M h
  rw [f9_work_88] at h
  refine zg_aload_n 0 dX9_work_88 rfl rfl ?_
  refine zg_iconst dX9_work_89 zki_0 ?_
  refine zg_puti fp_X9_15 zt_39 rfl dX9_work_90 ?_
  refine zg_aload_n 0 dX9_work_93 rfl rfl ?_
  refine zg_iload 1 dX9_work_94 rfl ?_
  refine zg_aload_n 0 dX9_work_96 rfl rfl ?_
  refine zg_geti fl_X9_334 zt_39 rfl dX9_work_97 ?_
  suffices hj : zJ ztops RX9 cX9_work 5 (zBm ztops 10 (some .int) (some (.int r1)) Mr) 0 0 108 [(0, .ref 39), (4, .int v4)] [.int (if ((zsi M 39 1 (0 : Int32)).1 39 24) ≤ v4 then (0 : Int32) else (1 : Int32)), .ref 39] (zsi M 39 1 (0 : Int32)) by
    refine zg_icmp_ge (tgt := 107) dX9_work_100 (by decide) (fun hc => ?_) (fun hc => ?_)
    · rw [show (if ((zsi M 39 1 (0 : Int32)).1 39 24) ≤ v4 then (0 : Int32) else (1 : Int32)) = (0 : Int32) from if_pos hc] at hj
      refine zg_iconst dX9_work_107 zki_0 ?_
      exact hj
    · rw [show (if ((zsi M 39 1 (0 : Int32)).1 39 24) ≤ v4 then (0 : Int32) else (1 : Int32)) = (1 : Int32) from if_neg hc] at hj
      refine zg_iconst dX9_work_103 zki_1 ?_
      refine zg_goto (tgt := 108) dX9_work_104 (by decide) ?_
      exact hj
  obtain ⟨x1, hx1, h⟩ := z_bind h
  refine zg_callS (st := [.ref 39]) (k_X9_flag hx1) zY_X9_flag ls_X9_116 rfl (zfit_m (by decide) (by decide)) (Nat.le_of_ble_eq_true rfl) dX9_work_108 rfl ?_
  refine zg_i2l dX9_work_111 ?_
  obtain ⟨M2, hM2, h⟩ := z_bind h
  refine zg_callV (st := []) (k_X9_enters hM2) zY_X9_enters lv_X9_311 rfl zt_39 rfl (zfit_m (by decide) (by decide)) (Nat.le_of_ble_eq_true rfl) dX9_work_112 rfl ?_
  refine zg_aload_n 0 dX9_work_115 rfl rfl ?_
  refine zg_aload_n 0 dX9_work_116 rfl rfl ?_
  refine zo_getr 41 1 rfl fl_X9_24 zt_39 rfl dX9_work_117 ?_
  obtain ⟨x3, hx3, h⟩ := z_bind h
  refine zg_callS (st := [.ref 39]) (k_X9_threadsOf zt_41 hx3) zY_X9_threadsOf ls_X9_315 rfl (zfit_m (by decide) (by decide)) (Nat.le_of_ble_eq_true rfl) dX9_work_120 rfl ?_
  refine zg_i2l dX9_work_123 ?_
  obtain ⟨M4, hM4, h⟩ := z_bind h
  refine zg_callV (st := []) (k_X9_enters hM4) zY_X9_enters lv_X9_311 rfl zt_39 rfl (zfit_m (by decide) (by decide)) (Nat.le_of_ble_eq_true rfl) dX9_work_124 rfl ?_
  refine zg_iload 1 dX9_work_127 rfl ?_
  refine zg_if_le (tgt := 141) dX9_work_129 (by decide) (fun hc => ?_) (fun hc => ?_)
  · replace h := (if_pos hc).symm.trans h
    refine zg_iconst dX9_work_141 zki_0 ?_
    obtain ⟨rfl, rfl⟩ := z_ret2 h
    exact zg_iret dX9_work_142
  · replace h := (if_neg hc).symm.trans h
    refine zg_aload_n 0 dX9_work_132 rfl rfl ?_
    refine zg_iload 1 dX9_work_133 rfl ?_
    obtain ⟨p5, hp5, h⟩ := z_bind h
    refine zg_callV (st := []) (k_X9_adds hp5) zY_X9_adds lv_X9_283 rfl zt_39 rfl (zfit_m (by decide) (by decide)) (Nat.le_of_ble_eq_true rfl) dX9_work_135 rfl ?_
    refine zg_goto (tgt := 142) dX9_work_138 (by decide) ?_
    obtain ⟨rfl, rfl⟩ := z_ret2 h
    exact zg_iret dX9_work_142
set_option maxRecDepth 20000 in
set_option maxHeartbeats 4000000 in
theorem g9_work_64 {r1 : Int32} {Mr : zM} : ∀ (n : Nat) (v4 : Int32) (M : zM), f9_work_64 n v4 M = some (r1, Mr) → zJ ztops RX9 cX9_work 5 (zBm ztops 10 (some .int) (some (.int r1)) Mr) 0 0 64 [(0, .ref 39), (4, .int v4)] [] M := by
  intro n
  induction n with
  | zero => intro v4 M h; cases h
  | succ n ih =>
    intro v4 M h
    rw [f9_work_64] at h
    refine zg_iload 1 dX9_work_64 rfl ?_
    refine zg_aload_n 0 dX9_work_66 rfl rfl ?_
    refine zg_geti fl_X9_334 zt_39 rfl dX9_work_67 ?_
    refine zg_icmp_ge (tgt := 88) dX9_work_70 (by decide) (fun hc => ?_) (fun hc => ?_)
    · replace h := (if_pos hc).symm.trans h
      exact g9_work_88 _ _ h
    · replace h := (if_neg hc).symm.trans h
      refine zg_aload_n 0 dX9_work_73 rfl rfl ?_
      refine zg_iload 1 dX9_work_74 rfl ?_
      obtain ⟨p1, hp1, h⟩ := z_bind h
      refine zg_callV (st := []) (k_X9_does hp1) zY_X9_does lv_X9_342 rfl zt_39 rfl (zfit_m (by decide) (by decide)) (Nat.le_of_ble_eq_true rfl) dX9_work_76 rfl ?_
      refine zg_if_eq (tgt := 88) dX9_work_79 (by decide) (fun hc => ?_) (fun hc => ?_)
      · replace h := (if_pos hc).symm.trans h
        exact g9_work_88 _ _ h
      · replace h := (if_neg hc).symm.trans h
        refine zg_iinc (ls' := [(0, .ref 39), (4, .int (v4 + (1 : Int32)))]) 1 dX9_work_82 rfl zki_1 (Nat.le_of_ble_eq_true rfl) rfl ?_
        refine zg_goto (tgt := 64) dX9_work_85 (by decide) ?_
        exact ih _ _ h
set_option maxRecDepth 20000 in
set_option maxHeartbeats 4000000 in
theorem g9_work_42 {r1 : Int32} {Mr : zM} : ∀ (v1 : Int32) (v2 : Int32) (M : zM), f9_work_42 v1 v2 M = some (r1, Mr) → zJ ztops RX9 cX9_work 5 (zBm ztops 10 (some .int) (some (.int r1)) Mr) 0 0 42 [(0, .ref 39), (1, .int v1), (2, .int v2)] [] M := by
  intro v1 v2 M h
  rw [f9_work_42] at h
  refine zg_aload_n 0 dX9_work_42 rfl rfl ?_
  refine zg_iload_n 1 dX9_work_43 rfl rfl ?_
  refine zg_bipush dX9_work_44 zkb_60 ?_
  refine zg_iload_n 2 dX9_work_46 rfl rfl ?_
  obtain ⟨x1, hx1, h⟩ := z_bind h
  refine zg_callV (st := []) (k_X9_faultOf hx1) zY_X9_faultOf lv_X9_232 rfl zt_39 rfl (zfit_m (by decide) (by decide)) (Nat.le_of_ble_eq_true rfl) dX9_work_47 rfl ?_
  refine zg_istore_n (ls' := [(0, .ref 39), (1, .int v1), (2, .int v2), (3, .int x1)]) dX9_work_50 rfl (Nat.le_of_ble_eq_true rfl) rfl ?_
  refine zg_iload_n 3 dX9_work_51 rfl rfl ?_
  refine zg_if_ge (tgt := 57) dX9_work_52 (by decide) (fun hc => ?_) (fun hc => ?_)
  · replace h := (if_pos hc).symm.trans h
    refine zg_aload_n 0 dX9_work_57 rfl rfl ?_
    obtain ⟨M2, hM2, h⟩ := z_bind h
    refine zg_callV (st := []) (k_X9_putsBy hM2) zY_X9_putsBy lv_X9_305 rfl zt_39 rfl (zfit_m (by decide) (by decide)) (Nat.le_of_ble_eq_true rfl) dX9_work_58 rfl ?_
    refine zg_iconst dX9_work_61 zki_0 ?_
    refine zg_istore (ls' := [(0, .ref 39), (1, .int v1), (2, .int v2), (3, .int x1), (4, .int (0 : Int32))]) dX9_work_62 (Nat.le_of_ble_eq_true rfl) rfl ?_
    refine zo_sub (ls' := [(0, .ref 39), (4, .int (0 : Int32))]) [0, 4] rfl ?_
    exact g9_work_64 zfuel _ _ h
  · replace h := (if_neg hc).symm.trans h
    refine zg_iload_n 3 dX9_work_55 rfl rfl ?_
    obtain ⟨rfl, rfl⟩ := z_ret2 h
    exact zg_iret dX9_work_56
set_option maxRecDepth 20000 in
set_option maxHeartbeats 4000000 in
theorem g9_work_19 {r1 : Int32} {Mr : zM} : ∀ (n : Nat) (v1 : Int32) (v2 : Int32) (M : zM), f9_work_19 n v1 v2 M = some (r1, Mr) → zJ ztops RX9 cX9_work 5 (zBm ztops 10 (some .int) (some (.int r1)) Mr) 0 0 19 [(0, .ref 39), (1, .int v1), (2, .int v2)] [] M := by
  intro n
  induction n with
  | zero => intro v1 v2 M h; cases h
  | succ n ih =>
    intro v1 v2 M h
    rw [f9_work_19] at h
    refine zg_iload_n 2 dX9_work_19 rfl rfl ?_
    refine zg_if_eq (tgt := 42) dX9_work_20 (by decide) (fun hc => ?_) (fun hc => ?_)
    · replace h := (if_pos hc).symm.trans h
      exact g9_work_42 _ _ _ h
    · replace h := (if_neg hc).symm.trans h
      refine zg_aload_n 0 dX9_work_23 rfl rfl ?_
      refine zg_geti fl_X9_147 zt_39 rfl dX9_work_24 ?_
      refine zg_aload_n 0 dX9_work_27 rfl rfl ?_
      refine zg_geti fl_X9_158 zt_39 rfl dX9_work_28 ?_
      refine zg_icmp_ge (tgt := 42) dX9_work_31 (by decide) (fun hc => ?_) (fun hc => ?_)
      · replace h := (if_pos hc).symm.trans h
        exact g9_work_42 _ _ _ h
      · replace h := (if_neg hc).symm.trans h
        refine zg_aload_n 0 dX9_work_34 rfl rfl ?_
        obtain ⟨p1, hp1, h⟩ := z_bind h
        refine zg_callV (st := []) (k_X9_readsAct hp1) zY_X9_readsAct lv_X9_339 rfl zt_39 rfl (zfit_m (by decide) (by decide)) (Nat.le_of_ble_eq_true rfl) dX9_work_35 rfl ?_
        refine zg_istore_n (ls' := [(0, .ref 39), (1, .int v1), (2, .int p1.1)]) dX9_work_38 rfl (Nat.le_of_ble_eq_true rfl) rfl ?_
        refine zg_goto (tgt := 19) dX9_work_39 (by decide) ?_
        exact ih _ _ _ h
set_option maxRecDepth 20000 in
set_option maxHeartbeats 4000000 in
theorem k_X9_work {M : zM} {r1 : Int32} {Mr : zM} (h : f9_work M = some (r1, Mr)) : zK ztops yX9_work cX9_work 5 (some .int) 10 [.ref 39] M (some (.int r1)) Mr := by
  refine zK_of pl_X9 (Nat.le_of_ble_eq_true rfl) ?_
  show zJ ztops RX9 cX9_work 5 _ 0 0 0 [(0, .ref 39)] [] M
  rw [f9_work] at h
  refine zg_aload_n 0 dX9_work_0 rfl rfl ?_
  refine zg_iconst dX9_work_1 zki_0 ?_
  refine zg_puti fp_X9_3 zt_39 rfl dX9_work_2 ?_
  refine zg_aload_n 0 dX9_work_5 rfl rfl ?_
  refine zg_bipush dX9_work_6 zkb_60 ?_
  obtain ⟨p1, hp1, h⟩ := z_bind h
  refine zg_callV (st := []) (k_X9_begins hp1) zY_X9_begins lv_X9_179 rfl zt_39 rfl (zfit_m (by decide) (by decide)) (Nat.le_of_ble_eq_true rfl) dX9_work_8 rfl ?_
  refine zg_istore_n (ls' := [(0, .ref 39), (1, .int p1.1)]) dX9_work_11 rfl (Nat.le_of_ble_eq_true rfl) rfl ?_
  refine zg_aload_n 0 dX9_work_12 rfl rfl ?_
  refine zg_iconst dX9_work_13 zki_0 ?_
  refine zg_puti fp_X9_334 zt_39 rfl dX9_work_14 ?_
  refine zg_iconst dX9_work_17 zki_1 ?_
  refine zg_istore_n (ls' := [(0, .ref 39), (1, .int p1.1), (2, .int (1 : Int32))]) dX9_work_18 rfl (Nat.le_of_ble_eq_true rfl) rfl ?_
  exact g9_work_19 zfuel _ _ _ h
set_option maxRecDepth 20000 in
set_option maxHeartbeats 4000000 in
theorem k_X9_allOf {T : List zN} {a0 : Nat} (h0 : T[a0]? = some (.inl (0, 9))) {r1 : Int32} {M : zM} (h : f9_allOf a0 M = some r1) : zK T yX9_allOf cX9_allOf 1 (some .int) 2 [.ref a0] M (some (.int r1)) M := by
  refine zK_of pl_X9 (Nat.le_of_ble_eq_true rfl) ?_
  show zJ T RX9 cX9_allOf 1 _ 0 0 0 [(0, .ref a0)] [] M
  rw [f9_allOf] at h
  refine zg_aload_n 0 dX9_allOf_0 rfl rfl ?_
  refine zg_bipush dX9_allOf_1 zkb_6 ?_
  refine zo_ialdc 6 h0 (by decide) rfl dX9_allOf_3 ?_
  obtain ⟨x1, hx1, h⟩ := z_bind h
  refine zg_callS (st := []) (k_X9_full hx1) zY_X9_full ls_X9_127 rfl (zfit_m (by decide) (by decide)) (Nat.le_of_ble_eq_true rfl) dX9_allOf_4 rfl ?_
  refine zg_aload_n 0 dX9_allOf_7 rfl rfl ?_
  refine zg_bipush dX9_allOf_8 zkb_7 ?_
  refine zo_ialdc 7 h0 (by decide) rfl dX9_allOf_10 ?_
  obtain ⟨x2, hx2, h⟩ := z_bind h
  refine zg_callS (st := [.int x1]) (k_X9_full hx2) zY_X9_full ls_X9_127 rfl (zfit_m (by decide) (by decide)) (Nat.le_of_ble_eq_true rfl) dX9_allOf_11 rfl ?_
  refine zg_bipush dX9_allOf_14 zkb_6 ?_
  refine zg_ishl dX9_allOf_16 ?_
  refine zg_ior dX9_allOf_17 ?_
  obtain rfl := z_ret1 h
  exact zg_iret dX9_allOf_18
set_option maxRecDepth 20000 in
set_option maxHeartbeats 4000000 in
theorem g9_laysAbove_40 {a1 : Nat} (h1 : ztops[a1]? = some (.inl (0, 9))) {Mr : zM} {k121 : Int32 → zM → Option zM} (hk121 : ∀ (v2 : Int32) (M : zM), k121 v2 M = some Mr → zJ ztops RX9 cX9_laysAbove 7 (zBm ztops 2 (none) none Mr) 0 0 121 [(0, .ref 39), (1, .ref a1), (2, .int v2)] [] M) : ∀ (n : Nat) (v2 : Int32) (v3 : Int32) (M : zM), f9_laysAbove_40 a1 k121 n v2 v3 M = some Mr → zJ ztops RX9 cX9_laysAbove 7 (zBm ztops 2 (none) none Mr) 0 0 40 [(0, .ref 39), (1, .ref a1), (2, .int v2), (3, .int v3)] [] M := by
  intro n
  induction n with
  | zero => intro v2 v3 M h; cases h
  | succ n ih =>
    intro v2 v3 M h
    rw [f9_laysAbove_40] at h
    refine zg_iload_n 3 dX9_laysAbove_40 rfl rfl ?_
    refine zg_aload_n 1 dX9_laysAbove_41 rfl rfl ?_
    refine zg_bipush dX9_laysAbove_42 zkb_7 ?_
    refine zo_ialdc 7 h1 (by decide) rfl dX9_laysAbove_44 ?_
    refine zg_icmp_ge (tgt := 121) dX9_laysAbove_45 (by decide) (fun hc => ?_) (fun hc => ?_)
    · replace h := (if_pos hc).symm.trans h
      refine zo_sub (ls' := [(0, .ref 39), (1, .ref a1), (2, .int v2)]) [0, 1, 2] rfl ?_
      exact hk121 _ _ h
    · replace h := (if_neg hc).symm.trans h
      refine zg_aload_n 1 dX9_laysAbove_48 rfl rfl ?_
      refine zg_iload_n 2 dX9_laysAbove_49 rfl rfl ?_
      obtain ⟨x1, hx1, h⟩ := z_bind h
      refine zo_iald h1 hx1 dX9_laysAbove_50 ?_
      refine zg_iload_n 3 dX9_laysAbove_51 rfl rfl ?_
      obtain ⟨x2, hx2, h⟩ := z_bind h
      refine zg_callS (st := []) (k_X9_has hx2) zY_X9_has ls_X9_112 rfl (zfit_m (by decide) (by decide)) (Nat.le_of_ble_eq_true rfl) dX9_laysAbove_52 rfl ?_
      refine zg_istore (ls' := [(0, .ref 39), (1, .ref a1), (2, .int v2), (3, .int v3), (4, .int x2)]) dX9_laysAbove_55 (Nat.le_of_ble_eq_true rfl) rfl ?_
      refine zg_iload 4 dX9_laysAbove_57 rfl ?_
      suffices hj : zJ ztops RX9 cX9_laysAbove 7 (zBm ztops 2 (none) none Mr) 0 0 70 [(0, .ref 39), (1, .ref a1), (2, .int v2), (3, .int v3), (4, .int x2)] [.int (if x2 = 0 then ((6 : Int32) + v3) else v2)] M by
        refine zg_if_eq (tgt := 66) dX9_laysAbove_59 (by decide) (fun hc => ?_) (fun hc => ?_)
        · rw [show (if x2 = 0 then ((6 : Int32) + v3) else v2) = ((6 : Int32) + v3) from if_pos hc] at hj
          refine zg_bipush dX9_laysAbove_66 zkb_6 ?_
          refine zg_iload_n 3 dX9_laysAbove_68 rfl rfl ?_
          refine zg_iadd dX9_laysAbove_69 ?_
          exact hj
        · rw [show (if x2 = 0 then ((6 : Int32) + v3) else v2) = v2 from if_neg hc] at hj
          refine zg_iload_n 2 dX9_laysAbove_62 rfl rfl ?_
          refine zg_goto (tgt := 70) dX9_laysAbove_63 (by decide) ?_
          exact hj
      refine zg_istore (ls' := [(0, .ref 39), (1, .ref a1), (2, .int v2), (3, .int v3), (4, .int x2), (5, .int (if x2 = 0 then ((6 : Int32) + v3) else v2))]) dX9_laysAbove_70 (Nat.le_of_ble_eq_true rfl) rfl ?_
      refine zg_iload 4 dX9_laysAbove_72 rfl ?_
      suffices hj : zJ ztops RX9 cX9_laysAbove 7 (zBm ztops 2 (none) none Mr) 0 0 85 [(0, .ref 39), (1, .ref a1), (2, .int v2), (3, .int v3), (4, .int x2), (5, .int (if x2 = 0 then ((6 : Int32) + v3) else v2))] [.int (if x2 = 0 then v2 else ((6 : Int32) + v3))] M by
        refine zg_if_eq (tgt := 84) dX9_laysAbove_74 (by decide) (fun hc => ?_) (fun hc => ?_)
        · rw [show (if x2 = 0 then v2 else ((6 : Int32) + v3)) = v2 from if_pos hc] at hj
          refine zg_iload_n 2 dX9_laysAbove_84 rfl rfl ?_
          exact hj
        · rw [show (if x2 = 0 then v2 else ((6 : Int32) + v3)) = ((6 : Int32) + v3) from if_neg hc] at hj
          refine zg_bipush dX9_laysAbove_77 zkb_6 ?_
          refine zg_iload_n 3 dX9_laysAbove_79 rfl rfl ?_
          refine zg_iadd dX9_laysAbove_80 ?_
          refine zg_goto (tgt := 85) dX9_laysAbove_81 (by decide) ?_
          exact hj
      refine zg_istore (ls' := [(0, .ref 39), (1, .ref a1), (2, .int v2), (3, .int v3), (4, .int x2), (5, .int (if x2 = 0 then ((6 : Int32) + v3) else v2)), (6, .int (if x2 = 0 then v2 else ((6 : Int32) + v3)))]) dX9_laysAbove_85 (Nat.le_of_ble_eq_true rfl) rfl ?_
      refine zg_aload_n 0 dX9_laysAbove_87 rfl rfl ?_
      refine zo_getr 54 14 rfl fl_X9_64 zt_39 rfl dX9_laysAbove_88 ?_
      refine zg_iload 5 dX9_laysAbove_91 rfl ?_
      refine zg_dup2 dX9_laysAbove_93 rfl rfl ?_
      obtain ⟨x3, hx3, h⟩ := z_bind h
      refine zo_iald zt_54 hx3 dX9_laysAbove_94 ?_
      refine zg_iconst dX9_laysAbove_95 zki_1 ?_
      refine zg_iload 6 dX9_laysAbove_96 rfl ?_
      refine zg_ishl dX9_laysAbove_98 ?_
      refine zg_ior dX9_laysAbove_99 ?_
      obtain ⟨M4, hM4, h⟩ := z_bind h
      refine zo_iast zt_54 hM4 dX9_laysAbove_100 ?_
      refine zg_aload_n 0 dX9_laysAbove_101 rfl rfl ?_
      refine zo_getr 55 15 rfl fl_X9_67 zt_39 rfl dX9_laysAbove_102 ?_
      refine zg_iload 6 dX9_laysAbove_105 rfl ?_
      refine zg_dup2 dX9_laysAbove_107 rfl rfl ?_
      obtain ⟨x5, hx5, h⟩ := z_bind h
      refine zo_iald zt_55 hx5 dX9_laysAbove_108 ?_
      refine zg_iconst dX9_laysAbove_109 zki_1 ?_
      refine zg_iload 5 dX9_laysAbove_110 rfl ?_
      refine zg_ishl dX9_laysAbove_112 ?_
      refine zg_ior dX9_laysAbove_113 ?_
      obtain ⟨M6, hM6, h⟩ := z_bind h
      refine zo_iast zt_55 hM6 dX9_laysAbove_114 ?_
      refine zg_iinc (ls' := [(0, .ref 39), (1, .ref a1), (2, .int v2), (3, .int (v3 + (1 : Int32))), (4, .int x2), (5, .int (if x2 = 0 then ((6 : Int32) + v3) else v2)), (6, .int (if x2 = 0 then v2 else ((6 : Int32) + v3)))]) 3 dX9_laysAbove_115 rfl zki_1 (Nat.le_of_ble_eq_true rfl) rfl ?_
      refine zg_goto (tgt := 40) dX9_laysAbove_118 (by decide) ?_
      refine zo_sub (ls' := [(0, .ref 39), (1, .ref a1), (2, .int v2), (3, .int (v3 + (1 : Int32)))]) [0, 1, 2, 3] rfl ?_
      exact ih _ _ _ h
set_option maxRecDepth 20000 in
set_option maxHeartbeats 4000000 in
theorem g9_laysAbove_121 {a1 : Nat} (h1 : ztops[a1]? = some (.inl (0, 9))) {Mr : zM} {k30 : Int32 → zM → Option zM} (hk30 : ∀ (v2 : Int32) (M : zM), k30 v2 M = some Mr → zJ ztops RX9 cX9_laysAbove 7 (zBm ztops 2 (none) none Mr) 0 0 30 [(0, .ref 39), (1, .ref a1), (2, .int v2)] [] M) : ∀ (v2 : Int32) (M : zM), f9_laysAbove_121 a1 k30 v2 M = some Mr → zJ ztops RX9 cX9_laysAbove 7 (zBm ztops 2 (none) none Mr) 0 0 121 [(0, .ref 39), (1, .ref a1), (2, .int v2)] [] M := by
  intro v2 M h
  rw [f9_laysAbove_121] at h
  refine zg_iinc (ls' := [(0, .ref 39), (1, .ref a1), (2, .int (v2 + (1 : Int32)))]) 2 dX9_laysAbove_121 rfl zki_1 (Nat.le_of_ble_eq_true rfl) rfl ?_
  refine zg_goto (tgt := 30) dX9_laysAbove_124 (by decide) ?_
  exact hk30 _ _ h
set_option maxRecDepth 20000 in
set_option maxHeartbeats 4000000 in
theorem g9_laysAbove_30 {a1 : Nat} (h1 : ztops[a1]? = some (.inl (0, 9))) {Mr : zM} : ∀ (n : Nat) (v2 : Int32) (M : zM), f9_laysAbove_30 a1 n v2 M = some Mr → zJ ztops RX9 cX9_laysAbove 7 (zBm ztops 2 (none) none Mr) 0 0 30 [(0, .ref 39), (1, .ref a1), (2, .int v2)] [] M := by
  intro n
  induction n with
  | zero => intro v2 M h; cases h
  | succ n ih =>
    intro v2 M h
    rw [f9_laysAbove_30] at h
    refine zg_iload_n 2 dX9_laysAbove_30 rfl rfl ?_
    refine zg_aload_n 1 dX9_laysAbove_31 rfl rfl ?_
    refine zg_bipush dX9_laysAbove_32 zkb_6 ?_
    refine zo_ialdc 6 h1 (by decide) rfl dX9_laysAbove_34 ?_
    refine zg_icmp_ge (tgt := 127) dX9_laysAbove_35 (by decide) (fun hc => ?_) (fun hc => ?_)
    · replace h := (if_pos hc).symm.trans h
      obtain rfl := z_ret1 h
      exact zg_vret dX9_laysAbove_127
    · replace h := (if_neg hc).symm.trans h
      refine zg_iconst dX9_laysAbove_38 zki_0 ?_
      refine zg_istore_n (ls' := [(0, .ref 39), (1, .ref a1), (2, .int v2), (3, .int (0 : Int32))]) dX9_laysAbove_39 rfl (Nat.le_of_ble_eq_true rfl) rfl ?_
      exact g9_laysAbove_40 h1 (fun u0 u1 h => g9_laysAbove_121 h1 (fun u0 u1 h => ih u0 u1 h) u0 u1 h) zfuel _ _ _ h
set_option maxRecDepth 20000 in
set_option maxHeartbeats 4000000 in
theorem g9_laysAbove_2 {a1 : Nat} (h1 : ztops[a1]? = some (.inl (0, 9))) {Mr : zM} : ∀ (n : Nat) (v2 : Int32) (M : zM), f9_laysAbove_2 a1 n v2 M = some Mr → zJ ztops RX9 cX9_laysAbove 7 (zBm ztops 2 (none) none Mr) 0 0 2 [(0, .ref 39), (1, .ref a1), (2, .int v2)] [] M := by
  intro n
  induction n with
  | zero => intro v2 M h; cases h
  | succ n ih =>
    intro v2 M h
    rw [f9_laysAbove_2] at h
    refine zg_iload_n 2 dX9_laysAbove_2 rfl rfl ?_
    refine zg_bipush dX9_laysAbove_3 zkb_12 ?_
    refine zg_icmp_ge (tgt := 28) dX9_laysAbove_5 (by decide) (fun hc => ?_) (fun hc => ?_)
    · replace h := (if_pos hc).symm.trans h
      refine zg_iconst dX9_laysAbove_28 zki_0 ?_
      refine zg_istore_n (ls' := [(0, .ref 39), (1, .ref a1), (2, .int (0 : Int32))]) dX9_laysAbove_29 rfl (Nat.le_of_ble_eq_true rfl) rfl ?_
      exact g9_laysAbove_30 h1 zfuel _ _ h
    · replace h := (if_neg hc).symm.trans h
      refine zg_aload_n 0 dX9_laysAbove_8 rfl rfl ?_
      refine zo_getr 54 14 rfl fl_X9_64 zt_39 rfl dX9_laysAbove_9 ?_
      refine zg_iload_n 2 dX9_laysAbove_12 rfl rfl ?_
      refine zg_iconst dX9_laysAbove_13 zki_0 ?_
      obtain ⟨M1, hM1, h⟩ := z_bind h
      refine zo_iast zt_54 hM1 dX9_laysAbove_14 ?_
      refine zg_aload_n 0 dX9_laysAbove_15 rfl rfl ?_
      refine zo_getr 55 15 rfl fl_X9_67 zt_39 rfl dX9_laysAbove_16 ?_
      refine zg_iload_n 2 dX9_laysAbove_19 rfl rfl ?_
      refine zg_iconst dX9_laysAbove_20 zki_0 ?_
      obtain ⟨M2, hM2, h⟩ := z_bind h
      refine zo_iast zt_55 hM2 dX9_laysAbove_21 ?_
      refine zg_iinc (ls' := [(0, .ref 39), (1, .ref a1), (2, .int (v2 + (1 : Int32)))]) 2 dX9_laysAbove_22 rfl zki_1 (Nat.le_of_ble_eq_true rfl) rfl ?_
      refine zg_goto (tgt := 2) dX9_laysAbove_25 (by decide) ?_
      exact ih _ _ h
set_option maxRecDepth 20000 in
set_option maxHeartbeats 4000000 in
theorem k_X9_laysAbove {a1 : Nat} (h1 : ztops[a1]? = some (.inl (0, 9))) {M : zM} {Mr : zM} (h : f9_laysAbove a1 M = some Mr) : zK ztops yX9_laysAbove cX9_laysAbove 7 (none) 2 [.ref 39, .ref a1] M none Mr := by
  refine zK_of pl_X9 (Nat.le_of_ble_eq_true rfl) ?_
  show zJ ztops RX9 cX9_laysAbove 7 _ 0 0 0 [(0, .ref 39), (1, .ref a1)] [] M
  rw [f9_laysAbove] at h
  refine zg_iconst dX9_laysAbove_0 zki_0 ?_
  refine zg_istore_n (ls' := [(0, .ref 39), (1, .ref a1), (2, .int (0 : Int32))]) dX9_laysAbove_1 rfl (Nat.le_of_ble_eq_true rfl) rfl ?_
  exact g9_laysAbove_2 h1 zfuel _ _ h
set_option maxRecDepth 20000 in
set_option maxHeartbeats 4000000 in
theorem g9_reach_7 {T : List zN} {a2 : Nat} (h2 : T[a2]? = some (.inl (0, 12))) {r1 : Int32} {M : zM} : ∀ (n : Nat) (v1 : Int32) (v3 : Int32) (v4 : Int32), f9_reach_7 a2 n v1 v3 v4 M = some r1 → zJ T RX9 cX9_reach 7 (zBm T 2 (some .int) (some (.int r1)) M) 0 0 7 [(1, .int v1), (2, .ref a2), (3, .int v3), (4, .int v4)] [] M := by
  intro n
  induction n with
  | zero => intro v1 v3 v4 h; cases h
  | succ n ih =>
    intro v1 v3 v4 h
    rw [f9_reach_7] at h
    refine zg_iload 3 dX9_reach_7 rfl ?_
    refine zg_if_eq (tgt := 53) dX9_reach_9 (by decide) (fun hc => ?_) (fun hc => ?_)
    · replace h := (if_pos hc).symm.trans h
      refine zg_iload_n 2 dX9_reach_53 rfl rfl ?_
      obtain rfl := z_ret1 h
      exact zg_iret dX9_reach_54
    · replace h := (if_neg hc).symm.trans h
      refine zg_iload 3 dX9_reach_12 rfl ?_
      obtain ⟨x1, hx1, h⟩ := z_bind h
      refine zg_callS (st := []) (k_J6_numberOfTrailingZeros_0f7a4 hx1) zY_J6_numberOfTrailingZeros_0f7a4 ls_X9_345 rfl (zfit_m (by decide) (by decide)) (Nat.le_of_ble_eq_true rfl) dX9_reach_14 rfl ?_
      refine zg_istore (ls' := [(1, .int v1), (2, .ref a2), (3, .int v3), (4, .int v4), (5, .int x1)]) dX9_reach_17 (Nat.le_of_ble_eq_true rfl) rfl ?_
      refine zg_aload_n 1 dX9_reach_19 rfl rfl ?_
      refine zg_iload 4 dX9_reach_20 rfl ?_
      obtain ⟨x2, hx2, h⟩ := z_bind h
      refine zo_iald h2 hx2 dX9_reach_22 ?_
      refine zg_iload_n 0 dX9_reach_23 rfl rfl ?_
      refine zg_iand dX9_reach_24 ?_
      refine zg_iload_n 2 dX9_reach_25 rfl rfl ?_
      refine zg_iconst dX9_reach_26 zki_m1 ?_
      refine zg_ixor dX9_reach_27 ?_
      refine zg_iand dX9_reach_28 ?_
      refine zg_istore (ls' := [(1, .int v1), (2, .ref a2), (3, .int v3), (4, .int v4), (5, .int x1), (6, .int ((x2 &&& v1) &&& (v3 ^^^ (-1 : Int32))))]) dX9_reach_29 (Nat.le_of_ble_eq_true rfl) rfl ?_
      refine zg_iload_n 2 dX9_reach_31 rfl rfl ?_
      refine zg_iload 5 dX9_reach_32 rfl ?_
      refine zg_ior dX9_reach_34 ?_
      refine zg_istore_n (ls' := [(1, .int v1), (2, .ref a2), (3, .int (v3 ||| ((x2 &&& v1) &&& (v3 ^^^ (-1 : Int32))))), (4, .int v4), (5, .int x1), (6, .int ((x2 &&& v1) &&& (v3 ^^^ (-1 : Int32))))]) dX9_reach_35 rfl (Nat.le_of_ble_eq_true rfl) rfl ?_
      refine zg_iload 3 dX9_reach_36 rfl ?_
      refine zg_iconst dX9_reach_38 zki_1 ?_
      refine zg_iload 4 dX9_reach_39 rfl ?_
      refine zg_ishl dX9_reach_41 ?_
      refine zg_iconst dX9_reach_42 zki_m1 ?_
      refine zg_ixor dX9_reach_43 ?_
      refine zg_iand dX9_reach_44 ?_
      refine zg_iload 5 dX9_reach_45 rfl ?_
      refine zg_ior dX9_reach_47 ?_
      refine zg_istore (ls' := [(1, .int v1), (2, .ref a2), (3, .int (v3 ||| ((x2 &&& v1) &&& (v3 ^^^ (-1 : Int32))))), (4, .int ((v4 &&& ((zshl (1 : Int32) x1) ^^^ (-1 : Int32))) ||| ((x2 &&& v1) &&& (v3 ^^^ (-1 : Int32))))), (5, .int x1), (6, .int ((x2 &&& v1) &&& (v3 ^^^ (-1 : Int32))))]) dX9_reach_48 (Nat.le_of_ble_eq_true rfl) rfl ?_
      refine zg_goto (tgt := 7) dX9_reach_50 (by decide) ?_
      refine zo_sub (ls' := [(1, .int v1), (2, .ref a2), (3, .int (v3 ||| ((x2 &&& v1) &&& (v3 ^^^ (-1 : Int32))))), (4, .int ((v4 &&& ((zshl (1 : Int32) x1) ^^^ (-1 : Int32))) ||| ((x2 &&& v1) &&& (v3 ^^^ (-1 : Int32)))))]) [0, 1, 2, 3] rfl ?_
      exact ih _ _ _ h
set_option maxRecDepth 20000 in
set_option maxHeartbeats 4000000 in
theorem k_X9_reach {T : List zN} {a2 : Nat} (h2 : T[a2]? = some (.inl (0, 12))) {v0 : Int32} {v1 : Int32} {r1 : Int32} {M : zM} (h : f9_reach v0 v1 a2 M = some r1) : zK T yX9_reach cX9_reach 7 (some .int) 2 [.int v0, .int v1, .ref a2] M (some (.int r1)) M := by
  refine zK_of pl_X9 (Nat.le_of_ble_eq_true rfl) ?_
  show zJ T RX9 cX9_reach 7 _ 0 0 0 [(0, .int v0), (1, .int v1), (2, .ref a2)] [] M
  rw [f9_reach] at h
  refine zg_iconst dX9_reach_0 zki_1 ?_
  refine zg_iload_n 0 dX9_reach_1 rfl rfl ?_
  refine zg_ishl dX9_reach_2 ?_
  refine zg_istore_n (ls' := [(0, .int v0), (1, .int v1), (2, .ref a2), (3, .int (zshl (1 : Int32) v0))]) dX9_reach_3 rfl (Nat.le_of_ble_eq_true rfl) rfl ?_
  refine zg_iload_n 3 dX9_reach_4 rfl rfl ?_
  refine zg_istore (ls' := [(0, .int v0), (1, .int v1), (2, .ref a2), (3, .int (zshl (1 : Int32) v0)), (4, .int (zshl (1 : Int32) v0))]) dX9_reach_5 (Nat.le_of_ble_eq_true rfl) rfl ?_
  refine zo_sub (ls' := [(1, .int v1), (2, .ref a2), (3, .int (zshl (1 : Int32) v0)), (4, .int (zshl (1 : Int32) v0))]) [1, 2, 3, 4] rfl ?_
  exact g9_reach_7 h2 zfuel _ _ _ h
set_option maxRecDepth 20000 in
set_option maxHeartbeats 4000000 in
theorem k_X9_isHanging {v1 : Int32} {r1 : Int32} {M : zM} (h : f9_isHanging v1 M = some r1) : zK ztops yX9_isHanging cX9_isHanging 3 (some .boolean) 3 [.ref 39, .int v1] M (some (.int r1)) M := by
  refine zK_of pl_X9 (Nat.le_of_ble_eq_true rfl) ?_
  show zJ ztops RX9 cX9_isHanging 3 _ 0 0 0 [(0, .ref 39), (1, .int v1)] [] M
  rw [f9_isHanging] at h
  refine zg_iload_n 1 dX9_isHanging_0 rfl rfl ?_
  refine zg_if_ne (tgt := 6) dX9_isHanging_1 (by decide) (fun hc => ?_) (fun hc => ?_)
  · replace h := (if_neg hc).symm.trans h
    refine zg_iload_n 1 dX9_isHanging_6 rfl rfl ?_
    obtain ⟨x1, hx1, h⟩ := z_bind h
    refine zg_callS (st := []) (k_J6_numberOfTrailingZeros_0f7a4 hx1) zY_J6_numberOfTrailingZeros_0f7a4 ls_X9_345 rfl (zfit_m (by decide) (by decide)) (Nat.le_of_ble_eq_true rfl) dX9_isHanging_7 rfl ?_
    refine zg_istore_n (ls' := [(0, .ref 39), (1, .int v1), (2, .int x1)]) dX9_isHanging_10 rfl (Nat.le_of_ble_eq_true rfl) rfl ?_
    refine zg_iload_n 2 dX9_isHanging_11 rfl rfl ?_
    refine zg_iload_n 1 dX9_isHanging_12 rfl rfl ?_
    refine zg_aload_n 0 dX9_isHanging_13 rfl rfl ?_
    refine zo_getr 54 14 rfl fl_X9_64 zt_39 rfl dX9_isHanging_14 ?_
    obtain ⟨x2, hx2, h⟩ := z_bind h
    refine zg_callS (st := []) (k_X9_reach zt_54 hx2) zY_X9_reach ls_X9_348 rfl (zfit_m (by decide) (by decide)) (Nat.le_of_ble_eq_true rfl) dX9_isHanging_17 rfl ?_
    refine zg_iload_n 1 dX9_isHanging_20 rfl rfl ?_
    refine zg_icmp_ne (tgt := 41) dX9_isHanging_21 (by decide) (fun hc => ?_) (fun hc => ?_)
    · replace h := (if_neg hc).symm.trans h
      refine zg_iconst dX9_isHanging_41 zki_0 ?_
      obtain rfl := z_ret1 h
      exact zg_zret rfl dX9_isHanging_42
    · replace h := (if_pos hc).symm.trans h
      refine zg_iload_n 2 dX9_isHanging_24 rfl rfl ?_
      refine zg_iload_n 1 dX9_isHanging_25 rfl rfl ?_
      refine zg_aload_n 0 dX9_isHanging_26 rfl rfl ?_
      refine zo_getr 55 15 rfl fl_X9_67 zt_39 rfl dX9_isHanging_27 ?_
      obtain ⟨x3, hx3, h⟩ := z_bind h
      refine zg_callS (st := []) (k_X9_reach zt_55 hx3) zY_X9_reach ls_X9_348 rfl (zfit_m (by decide) (by decide)) (Nat.le_of_ble_eq_true rfl) dX9_isHanging_30 rfl ?_
      refine zg_iload_n 1 dX9_isHanging_33 rfl rfl ?_
      suffices hj : zJ ztops RX9 cX9_isHanging 3 (zBm ztops 3 (some .boolean) (some (.int r1)) M) 0 0 42 [(0, .ref 39), (1, .int v1), (2, .int x1)] [.int (if x3 = v1 then (1 : Int32) else (0 : Int32))] M by
        refine zg_icmp_ne (tgt := 41) dX9_isHanging_34 (by decide) (fun hc => ?_) (fun hc => ?_)
        · rw [show (if x3 = v1 then (1 : Int32) else (0 : Int32)) = (0 : Int32) from if_neg hc] at hj
          refine zg_iconst dX9_isHanging_41 zki_0 ?_
          exact hj
        · rw [show (if x3 = v1 then (1 : Int32) else (0 : Int32)) = (1 : Int32) from if_pos hc] at hj
          refine zg_iconst dX9_isHanging_37 zki_1 ?_
          refine zg_goto (tgt := 42) dX9_isHanging_38 (by decide) ?_
          exact hj
      obtain rfl := z_ret1 h
      exact zg_zret (zn_ite rfl rfl) dX9_isHanging_42
  · replace h := (if_pos hc).symm.trans h
    refine zg_iconst dX9_isHanging_4 zki_0 ?_
    obtain rfl := z_ret1 h
    exact zg_zret rfl dX9_isHanging_5
set_option maxRecDepth 20000 in
set_option maxHeartbeats 4000000 in
theorem k_X9_doesHang {a1 : Nat} (h1 : ztops[a1]? = some (.inl (0, 9))) {M : zM} {r1 : Int32} {Mr : zM} (h : f9_doesHang a1 M = some (r1, Mr)) : zK ztops yX9_doesHang cX9_doesHang 2 (some .boolean) 4 [.ref 39, .ref a1] M (some (.int r1)) Mr := by
  refine zK_of pl_X9 (Nat.le_of_ble_eq_true rfl) ?_
  show zJ ztops RX9 cX9_doesHang 2 _ 0 0 0 [(0, .ref 39), (1, .ref a1)] [] M
  rw [f9_doesHang] at h
  refine zg_aload_n 0 dX9_doesHang_0 rfl rfl ?_
  refine zg_aload_n 1 dX9_doesHang_1 rfl rfl ?_
  obtain ⟨M1, hM1, h⟩ := z_bind h
  refine zg_callV (st := []) (k_X9_laysAbove h1 hM1) zY_X9_laysAbove lv_X9_352 rfl zt_39 rfl (zfit_m (by decide) (by decide)) (Nat.le_of_ble_eq_true rfl) dX9_doesHang_2 rfl ?_
  refine zg_aload_n 0 dX9_doesHang_5 rfl rfl ?_
  refine zg_aload_n 1 dX9_doesHang_6 rfl rfl ?_
  obtain ⟨x2, hx2, h⟩ := z_bind h
  refine zg_callS (st := [.ref 39]) (k_X9_allOf h1 hx2) zY_X9_allOf ls_X9_356 rfl (zfit_m (by decide) (by decide)) (Nat.le_of_ble_eq_true rfl) dX9_doesHang_7 rfl ?_
  obtain ⟨x3, hx3, h⟩ := z_bind h
  refine zg_callV (st := []) (k_X9_isHanging hx3) zY_X9_isHanging lv_X9_359 rfl zt_39 rfl (zfit_m (by decide) (by decide)) (Nat.le_of_ble_eq_true rfl) dX9_doesHang_10 rfl ?_
  obtain ⟨x4, hx4, h⟩ := z_bind h
  obtain ⟨rfl, hzx4⟩ := zbl_ok hx4
  obtain ⟨rfl, rfl⟩ := z_ret2 h
  exact zg_zret hzx4 dX9_doesHang_13
set_option maxRecDepth 20000 in
set_option maxHeartbeats 4000000 in
theorem g9_laysHangs_49 {Mr : zM} {k18 : Int32 → Int32 → zM → Option zM} (hk18 : ∀ (v1 : Int32) (v2 : Int32) (M : zM), k18 v1 v2 M = some Mr → zJ ztops RX9 cX9_laysHangs 3 (zBm ztops 4 (none) none Mr) 0 0 18 [(0, .ref 39), (1, .int v1), (2, .int v2)] [] M) : ∀ (v1 : Int32) (v2 : Int32) (s1 : Int32) (s2 : Int32) (M : zM), f9_laysHangs_49 k18 v1 v2 s1 s2 M = some Mr → zJ ztops RX9 cX9_laysHangs 3 (zBm ztops 4 (none) none Mr) 0 0 49 [(0, .ref 39), (1, .int v1), (2, .int v2)] [.int s2, .int s1, .ref 56] M := by
  intro v1 v2 s1 s2 M h
  rw [f9_laysHangs_49] at h
  obtain ⟨M1, hM1, h⟩ := z_bind h
  refine zo_zast zt_56 hM1 dX9_laysHangs_49 ?_
  refine zg_iinc (ls' := [(0, .ref 39), (1, .int v1), (2, .int (v2 + (1 : Int32)))]) 2 dX9_laysHangs_50 rfl zki_1 (Nat.le_of_ble_eq_true rfl) rfl ?_
  refine zg_goto (tgt := 18) dX9_laysHangs_53 (by decide) ?_
  exact hk18 _ _ _ h
set_option maxRecDepth 20000 in
set_option maxHeartbeats 4000000 in
theorem g9_laysHangs_18 {Mr : zM} : ∀ (n : Nat) (v1 : Int32) (v2 : Int32) (M : zM), f9_laysHangs_18 n v1 v2 M = some Mr → zJ ztops RX9 cX9_laysHangs 3 (zBm ztops 4 (none) none Mr) 0 0 18 [(0, .ref 39), (1, .int v1), (2, .int v2)] [] M := by
  intro n
  induction n with
  | zero => intro v1 v2 M h; cases h
  | succ n ih =>
    intro v1 v2 M h
    rw [f9_laysHangs_18] at h
    refine zg_iload_n 2 dX9_laysHangs_18 rfl rfl ?_
    refine zg_iload_n 1 dX9_laysHangs_19 rfl rfl ?_
    refine zg_icmp_gt (tgt := 56) dX9_laysHangs_20 (by decide) (fun hc => ?_) (fun hc => ?_)
    · replace h := (if_pos hc).symm.trans h
      obtain rfl := z_ret1 h
      exact zg_vret dX9_laysHangs_56
    · replace h := (if_neg hc).symm.trans h
      refine zg_aload_n 0 dX9_laysHangs_23 rfl rfl ?_
      refine zo_getr 56 16 rfl fl_X9_70 zt_39 rfl dX9_laysHangs_24 ?_
      refine zg_iload_n 2 dX9_laysHangs_27 rfl rfl ?_
      refine zg_iload_n 2 dX9_laysHangs_28 rfl rfl ?_
      refine zg_iload_n 1 dX9_laysHangs_29 rfl rfl ?_
      refine zg_iconst dX9_laysHangs_30 zki_m1 ?_
      refine zg_ixor dX9_laysHangs_31 ?_
      refine zg_iand dX9_laysHangs_32 ?_
      refine zg_if_ne (tgt := 48) dX9_laysHangs_33 (by decide) (fun hc => ?_) (fun hc => ?_)
      · replace h := (if_neg hc).symm.trans h
        refine zg_iconst dX9_laysHangs_48 zki_0 ?_
        exact g9_laysHangs_49 (fun u0 u1 u2 h => ih u0 u1 u2 h) _ _ _ _ _ h
      · replace h := (if_pos hc).symm.trans h
        refine zg_aload_n 0 dX9_laysHangs_36 rfl rfl ?_
        refine zg_iload_n 2 dX9_laysHangs_37 rfl rfl ?_
        obtain ⟨x1, hx1, h⟩ := z_bind h
        refine zg_callV (st := [.int v2, .ref 56]) (k_X9_isHanging hx1) zY_X9_isHanging lv_X9_359 rfl zt_39 rfl (zfit_m (by decide) (by decide)) (Nat.le_of_ble_eq_true rfl) dX9_laysHangs_38 rfl ?_
        suffices hj : zJ ztops RX9 cX9_laysHangs 3 (zBm ztops 4 (none) none Mr) 0 0 49 [(0, .ref 39), (1, .int v1), (2, .int v2)] [.int (if x1 = 0 then (0 : Int32) else (1 : Int32)), .int v2, .ref 56] M by
          refine zg_if_eq (tgt := 48) dX9_laysHangs_41 (by decide) (fun hc => ?_) (fun hc => ?_)
          · rw [show (if x1 = 0 then (0 : Int32) else (1 : Int32)) = (0 : Int32) from if_pos hc] at hj
            refine zg_iconst dX9_laysHangs_48 zki_0 ?_
            exact hj
          · rw [show (if x1 = 0 then (0 : Int32) else (1 : Int32)) = (1 : Int32) from if_neg hc] at hj
            refine zg_iconst dX9_laysHangs_44 zki_1 ?_
            refine zg_goto (tgt := 49) dX9_laysHangs_45 (by decide) ?_
            exact hj
        exact g9_laysHangs_49 (fun u0 u1 u2 h => ih u0 u1 u2 h) _ _ _ _ _ h
set_option maxRecDepth 20000 in
set_option maxHeartbeats 4000000 in
theorem k_X9_laysHangs {M : zM} {Mr : zM} (h : f9_laysHangs M = some Mr) : zK ztops yX9_laysHangs cX9_laysHangs 3 (none) 4 [.ref 39] M none Mr := by
  refine zK_of pl_X9 (Nat.le_of_ble_eq_true rfl) ?_
  show zJ ztops RX9 cX9_laysHangs 3 _ 0 0 0 [(0, .ref 39)] [] M
  rw [f9_laysHangs] at h
  refine zg_aload_n 0 dX9_laysHangs_0 rfl rfl ?_
  refine zg_aload_n 0 dX9_laysHangs_1 rfl rfl ?_
  refine zo_getr 41 1 rfl fl_X9_24 zt_39 rfl dX9_laysHangs_2 ?_
  obtain ⟨M1, hM1, h⟩ := z_bind h
  refine zg_callV (st := []) (k_X9_laysAbove zt_41 hM1) zY_X9_laysAbove lv_X9_352 rfl zt_39 rfl (zfit_m (by decide) (by decide)) (Nat.le_of_ble_eq_true rfl) dX9_laysHangs_5 rfl ?_
  refine zg_aload_n 0 dX9_laysHangs_8 rfl rfl ?_
  refine zo_getr 41 1 rfl fl_X9_24 zt_39 rfl dX9_laysHangs_9 ?_
  obtain ⟨x2, hx2, h⟩ := z_bind h
  refine zg_callS (st := []) (k_X9_allOf zt_41 hx2) zY_X9_allOf ls_X9_356 rfl (zfit_m (by decide) (by decide)) (Nat.le_of_ble_eq_true rfl) dX9_laysHangs_12 rfl ?_
  refine zg_istore_n (ls' := [(0, .ref 39), (1, .int x2)]) dX9_laysHangs_15 rfl (Nat.le_of_ble_eq_true rfl) rfl ?_
  refine zg_iconst dX9_laysHangs_16 zki_0 ?_
  refine zg_istore_n (ls' := [(0, .ref 39), (1, .int x2), (2, .int (0 : Int32))]) dX9_laysHangs_17 rfl (Nat.le_of_ble_eq_true rfl) rfl ?_
  exact g9_laysHangs_18 zfuel _ _ _ h
set_option maxRecDepth 20000 in
set_option maxHeartbeats 4000000 in
theorem k_X9_next {M : zM} {r1 : Int32} {Mr : zM} (h : f9_next M = some (r1, Mr)) : zK ztops yX9_next cX9_next 2 (some .int) 7 [.ref 39] M (some (.int r1)) Mr := by
  refine zK_of pl_X9 (Nat.le_of_ble_eq_true rfl) ?_
  show zJ ztops RX9 cX9_next 2 _ 0 0 0 [(0, .ref 39)] [] M
  rw [f9_next] at h
  refine zg_aload_n 0 dX9_next_0 rfl rfl ?_
  refine zg_iconst dX9_next_1 zki_0 ?_
  refine zg_puti fp_X9_3 zt_39 rfl dX9_next_2 ?_
  refine zg_aload_n 0 dX9_next_5 rfl rfl ?_
  refine zg_aload_n 0 dX9_next_6 rfl rfl ?_
  refine zo_getr 41 1 rfl fl_X9_24 zt_39 rfl dX9_next_7 ?_
  obtain ⟨p1, hp1, h⟩ := z_bind h
  refine zg_callV (st := []) (k_X9_nextOf zt_41 hp1) zY_X9_nextOf lv_X9_286 rfl zt_39 rfl (zfit_m (by decide) (by decide)) (Nat.le_of_ble_eq_true rfl) dX9_next_10 rfl ?_
  refine zg_istore_n (ls' := [(0, .ref 39), (1, .int p1.1)]) dX9_next_13 rfl (Nat.le_of_ble_eq_true rfl) rfl ?_
  refine zg_iload_n 1 dX9_next_14 rfl rfl ?_
  refine zg_if_lt (tgt := 47) dX9_next_15 (by decide) (fun hc => ?_) (fun hc => ?_)
  · replace h := (if_pos hc).symm.trans h
    refine zg_iload_n 1 dX9_next_47 rfl rfl ?_
    obtain ⟨rfl, rfl⟩ := z_ret2 h
    exact zg_iret dX9_next_48
  · replace h := (if_neg hc).symm.trans h
    refine zg_aload_n 0 dX9_next_18 rfl rfl ?_
    refine zg_iconst dX9_next_19 zki_0 ?_
    refine zg_puti fp_X9_15 zt_39 rfl dX9_next_20 ?_
    refine zg_aload_n 0 dX9_next_23 rfl rfl ?_
    refine zg_bipush dX9_next_24 zkb_100 ?_
    refine zg_aload_n 0 dX9_next_26 rfl rfl ?_
    refine zg_aload_n 0 dX9_next_27 rfl rfl ?_
    refine zo_getr 41 1 rfl fl_X9_24 zt_39 rfl dX9_next_28 ?_
    refine zg_iload_n 1 dX9_next_31 rfl rfl ?_
    refine zg_bipush dX9_next_32 zkb_6 ?_
    refine zg_idiv (by decide) dX9_next_34 ?_
    refine zg_iload_n 1 dX9_next_35 rfl rfl ?_
    refine zg_bipush dX9_next_36 zkb_6 ?_
    refine zg_irem (by decide) dX9_next_38 ?_
    obtain ⟨p2, hp2, h⟩ := z_bind h
    refine zg_callV (st := [.int (100 : Int32), .ref 39]) (k_X9_pull zt_41 hp2) zY_X9_pull lv_X9_266 rfl zt_39 rfl (zfit_m (by decide) (by decide)) (Nat.le_of_ble_eq_true rfl) dX9_next_39 rfl ?_
    refine zg_iadd dX9_next_42 ?_
    refine zg_i2l dX9_next_43 ?_
    obtain ⟨M3, hM3, h⟩ := z_bind h
    refine zg_callV (st := []) (k_X9_enters hM3) zY_X9_enters lv_X9_311 rfl zt_39 rfl (zfit_m (by decide) (by decide)) (Nat.le_of_ble_eq_true rfl) dX9_next_44 rfl ?_
    refine zg_iload_n 1 dX9_next_47 rfl rfl ?_
    obtain ⟨rfl, rfl⟩ := z_ret2 h
    exact zg_iret dX9_next_48
set_option maxRecDepth 20000 in
set_option maxHeartbeats 4000000 in
theorem g9_later_70 {r1 : Int32} {Mr : zM} : ∀ (n : Nat) (v2 : Int32) (M : zM), f9_later_70 n v2 M = some (r1, Mr) → zJ ztops RX9 cX9_later 3 (zBm ztops 9 (some .int) (some (.int r1)) Mr) 0 0 70 [(0, .ref 39), (2, .int v2)] [] M := by
  intro n
  induction n with
  | zero => intro v2 M h; cases h
  | succ n ih =>
    intro v2 M h
    rw [f9_later_70] at h
    refine zg_iload_n 1 dX9_later_70 rfl rfl ?_
    refine zg_aload_n 0 dX9_later_71 rfl rfl ?_
    refine zo_getr 42 2 rfl fl_X9_28 zt_39 rfl dX9_later_72 ?_
    refine zg_bipush dX9_later_75 zkb_6 ?_
    refine zo_ialdc 6 zt_42 (by decide) rfl dX9_later_77 ?_
    refine zg_icmp_ge (tgt := 98) dX9_later_78 (by decide) (fun hc => ?_) (fun hc => ?_)
    · replace h := (if_pos hc).symm.trans h
      refine zg_aload_n 0 dX9_later_98 rfl rfl ?_
      refine zo_getr 42 2 rfl fl_X9_28 zt_39 rfl dX9_later_99 ?_
      obtain ⟨x1, hx1, h⟩ := z_bind h
      refine zg_callS (st := []) (k_X9_threadsOf zt_42 hx1) zY_X9_threadsOf ls_X9_315 rfl (zfit_m (by decide) (by decide)) (Nat.le_of_ble_eq_true rfl) dX9_later_102 rfl ?_
      obtain ⟨rfl, rfl⟩ := z_ret2 h
      exact zg_iret dX9_later_105
    · replace h := (if_neg hc).symm.trans h
      refine zg_aload_n 0 dX9_later_81 rfl rfl ?_
      refine zg_aload_n 0 dX9_later_82 rfl rfl ?_
      refine zo_getr 42 2 rfl fl_X9_28 zt_39 rfl dX9_later_83 ?_
      refine zg_iload_n 1 dX9_later_86 rfl rfl ?_
      obtain ⟨x1, hx1, h⟩ := z_bind h
      refine zo_iald zt_42 hx1 dX9_later_87 ?_
      refine zg_i2l dX9_later_88 ?_
      obtain ⟨M2, hM2, h⟩ := z_bind h
      refine zg_callV (st := []) (k_X9_enters hM2) zY_X9_enters lv_X9_311 rfl zt_39 rfl (zfit_m (by decide) (by decide)) (Nat.le_of_ble_eq_true rfl) dX9_later_89 rfl ?_
      refine zg_iinc (ls' := [(0, .ref 39), (2, .int (v2 + (1 : Int32)))]) 1 dX9_later_92 rfl zki_1 (Nat.le_of_ble_eq_true rfl) rfl ?_
      refine zg_goto (tgt := 70) dX9_later_95 (by decide) ?_
      exact ih _ _ h
set_option maxRecDepth 20000 in
set_option maxHeartbeats 4000000 in
theorem k_X9_later {v1 : Int32} {M : zM} {r1 : Int32} {Mr : zM} (h : f9_later v1 M = some (r1, Mr)) : zK ztops yX9_later cX9_later 3 (some .int) 9 [.ref 39, .int v1] M (some (.int r1)) Mr := by
  refine zK_of pl_X9 (Nat.le_of_ble_eq_true rfl) ?_
  show zJ ztops RX9 cX9_later 3 _ 0 0 0 [(0, .ref 39), (1, .int v1)] [] M
  rw [f9_later] at h
  refine zg_aload_n 0 dX9_later_0 rfl rfl ?_
  refine zg_iconst dX9_later_1 zki_0 ?_
  refine zg_puti fp_X9_3 zt_39 rfl dX9_later_2 ?_
  refine zg_iload_n 1 dX9_later_5 rfl rfl ?_
  refine zg_i2l dX9_later_6 ?_
  refine zg_lconst dX9_later_7 (v := 0) rfl ?_
  refine zg_ldc2 kc_X9_303 dX9_later_8 ?_
  obtain ⟨x1, hx1, h⟩ := z_bind h
  refine zg_callS (st := []) (k_X9_in hx1) zY_X9_in ls_X9_104 rfl (zfit_m (by decide) (by decide)) (Nat.le_of_ble_eq_true rfl) dX9_later_11 rfl ?_
  refine zg_if_ne (tgt := 19) dX9_later_14 (by decide) (fun hc => ?_) (fun hc => ?_)
  · replace h := (if_neg hc).symm.trans h
    refine zg_aload_n 0 dX9_later_19 rfl rfl ?_
    refine zo_getr 42 2 rfl fl_X9_28 zt_39 rfl dX9_later_20 ?_
    refine zg_aload_n 0 dX9_later_23 rfl rfl ?_
    refine zo_getr 41 1 rfl fl_X9_24 zt_39 rfl dX9_later_24 ?_
    obtain ⟨M2, hM2, h⟩ := z_bind h
    refine zg_callS (st := []) (k_X9_copies zt_42 zt_41 hM2) zY_X9_copies ls_X9_194 rfl (zfit_m (by decide) (by decide)) (Nat.le_of_ble_eq_true rfl) dX9_later_27 rfl ?_
    refine zg_aload_n 0 dX9_later_30 rfl rfl ?_
    refine zg_aload_n 0 dX9_later_31 rfl rfl ?_
    refine zo_getr 42 2 rfl fl_X9_28 zt_39 rfl dX9_later_32 ?_
    refine zg_iload_n 1 dX9_later_35 rfl rfl ?_
    obtain ⟨M3, hM3, h⟩ := z_bind h
    refine zg_callV (st := []) (k_X9_goesOn zt_42 hM3) zY_X9_goesOn lv_X9_308 rfl zt_39 rfl (zfit_m (by decide) (by decide)) (Nat.le_of_ble_eq_true rfl) dX9_later_36 rfl ?_
    refine zg_aload_n 0 dX9_later_39 rfl rfl ?_
    refine zg_iconst dX9_later_40 zki_0 ?_
    refine zg_puti fp_X9_15 zt_39 rfl dX9_later_41 ?_
    refine zg_aload_n 0 dX9_later_44 rfl rfl ?_
    refine zg_aload_n 0 dX9_later_45 rfl rfl ?_
    refine zo_getr 42 2 rfl fl_X9_28 zt_39 rfl dX9_later_46 ?_
    refine zg_bipush dX9_later_49 zkb_6 ?_
    refine zo_ialdc 6 zt_42 (by decide) rfl dX9_later_51 ?_
    refine zg_i2l dX9_later_52 ?_
    obtain ⟨M4, hM4, h⟩ := z_bind h
    refine zg_callV (st := []) (k_X9_enters hM4) zY_X9_enters lv_X9_311 rfl zt_39 rfl (zfit_m (by decide) (by decide)) (Nat.le_of_ble_eq_true rfl) dX9_later_53 rfl ?_
    refine zg_aload_n 0 dX9_later_56 rfl rfl ?_
    refine zg_aload_n 0 dX9_later_57 rfl rfl ?_
    refine zo_getr 42 2 rfl fl_X9_28 zt_39 rfl dX9_later_58 ?_
    refine zg_bipush dX9_later_61 zkb_7 ?_
    refine zo_ialdc 7 zt_42 (by decide) rfl dX9_later_63 ?_
    refine zg_i2l dX9_later_64 ?_
    obtain ⟨M5, hM5, h⟩ := z_bind h
    refine zg_callV (st := []) (k_X9_enters hM5) zY_X9_enters lv_X9_311 rfl zt_39 rfl (zfit_m (by decide) (by decide)) (Nat.le_of_ble_eq_true rfl) dX9_later_65 rfl ?_
    refine zg_iconst dX9_later_68 zki_0 ?_
    refine zg_istore_n (ls' := [(0, .ref 39), (1, .int v1), (2, .int (0 : Int32))]) dX9_later_69 rfl (Nat.le_of_ble_eq_true rfl) rfl ?_
    refine zo_sub (ls' := [(0, .ref 39), (2, .int (0 : Int32))]) [0, 2] rfl ?_
    exact g9_later_70 zfuel _ _ h
  · replace h := (if_pos hc).symm.trans h
    refine zg_iconst dX9_later_17 zki_m1 ?_
    obtain ⟨rfl, rfl⟩ := z_ret2 h
    exact zg_iret dX9_later_18
set_option maxRecDepth 20000 in
set_option maxHeartbeats 4000000 in
theorem g9_falls_18 {r1 : Int32} {Mr : zM} : ∀ (n : Nat) (v1 : Int32) (M : zM), f9_falls_18 n v1 M = some (r1, Mr) → zJ ztops RX9 cX9_falls 2 (zBm ztops 8 (some .int) (some (.int r1)) Mr) 0 0 18 [(0, .ref 39), (1, .int v1)] [] M := by
  intro n
  induction n with
  | zero => intro v1 M h; cases h
  | succ n ih =>
    intro v1 M h
    rw [f9_falls_18] at h
    refine zg_iload_n 1 dX9_falls_18 rfl rfl ?_
    refine zg_bipush dX9_falls_19 zkb_60 ?_
    refine zg_icmp_gt (tgt := 69) dX9_falls_21 (by decide) (fun hc => ?_) (fun hc => ?_)
    · replace h := (if_pos hc).symm.trans h
      refine zg_bipush dX9_falls_69 zkb_m2 ?_
      obtain ⟨rfl, rfl⟩ := z_ret2 h
      exact zg_iret dX9_falls_71
    · replace h := (if_neg hc).symm.trans h
      refine zg_aload_n 0 dX9_falls_24 rfl rfl ?_
      refine zg_aload_n 0 dX9_falls_25 rfl rfl ?_
      refine zo_getr 42 2 rfl fl_X9_28 zt_39 rfl dX9_falls_26 ?_
      obtain ⟨p1, hp1, h⟩ := z_bind h
      refine zg_callV (st := []) (k_X9_doesHang zt_42 hp1) zY_X9_doesHang lv_X9_362 rfl zt_39 rfl (zfit_m (by decide) (by decide)) (Nat.le_of_ble_eq_true rfl) dX9_falls_29 rfl ?_
      refine zg_if_ne (tgt := 54) dX9_falls_32 (by decide) (fun hc => ?_) (fun hc => ?_)
      · replace h := (if_neg hc).symm.trans h
        refine zg_aload_n 0 dX9_falls_54 rfl rfl ?_
        refine zg_aload_n 0 dX9_falls_55 rfl rfl ?_
        refine zo_getr 42 2 rfl fl_X9_28 zt_39 rfl dX9_falls_56 ?_
        obtain ⟨p2, hp2, h⟩ := z_bind h
        refine zg_callV (st := []) (k_X9_nightGoes zt_42 hp2) zY_X9_nightGoes lv_X9_293 rfl zt_39 rfl (zfit_m (by decide) (by decide)) (Nat.le_of_ble_eq_true rfl) dX9_falls_59 rfl ?_
        refine zg_pop dX9_falls_62 rfl ?_
        refine zg_iinc (ls' := [(0, .ref 39), (1, .int (v1 + (1 : Int32)))]) 1 dX9_falls_63 rfl zki_1 (Nat.le_of_ble_eq_true rfl) rfl ?_
        refine zg_goto (tgt := 18) dX9_falls_66 (by decide) ?_
        exact ih _ _ h
      · replace h := (if_pos hc).symm.trans h
        refine zg_aload_n 0 dX9_falls_35 rfl rfl ?_
        refine zg_iconst dX9_falls_36 zki_0 ?_
        refine zg_puti fp_X9_15 zt_39 rfl dX9_falls_37 ?_
        refine zg_aload_n 0 dX9_falls_40 rfl rfl ?_
        refine zg_aload_n 0 dX9_falls_41 rfl rfl ?_
        refine zo_getr 42 2 rfl fl_X9_28 zt_39 rfl dX9_falls_42 ?_
        obtain ⟨x2, hx2, h⟩ := z_bind h
        refine zg_callS (st := [.ref 39]) (k_X9_threadsOf zt_42 hx2) zY_X9_threadsOf ls_X9_315 rfl (zfit_m (by decide) (by decide)) (Nat.le_of_ble_eq_true rfl) dX9_falls_45 rfl ?_
        refine zg_i2l dX9_falls_48 ?_
        obtain ⟨M3, hM3, h⟩ := z_bind h
        refine zg_callV (st := []) (k_X9_enters hM3) zY_X9_enters lv_X9_311 rfl zt_39 rfl (zfit_m (by decide) (by decide)) (Nat.le_of_ble_eq_true rfl) dX9_falls_49 rfl ?_
        refine zg_iload_n 1 dX9_falls_52 rfl rfl ?_
        obtain ⟨rfl, rfl⟩ := z_ret2 h
        exact zg_iret dX9_falls_53
set_option maxRecDepth 20000 in
set_option maxHeartbeats 4000000 in
theorem k_X9_falls {M : zM} {r1 : Int32} {Mr : zM} (h : f9_falls M = some (r1, Mr)) : zK ztops yX9_falls cX9_falls 2 (some .int) 8 [.ref 39] M (some (.int r1)) Mr := by
  refine zK_of pl_X9 (Nat.le_of_ble_eq_true rfl) ?_
  show zJ ztops RX9 cX9_falls 2 _ 0 0 0 [(0, .ref 39)] [] M
  rw [f9_falls] at h
  refine zg_aload_n 0 dX9_falls_0 rfl rfl ?_
  refine zg_iconst dX9_falls_1 zki_0 ?_
  refine zg_puti fp_X9_3 zt_39 rfl dX9_falls_2 ?_
  refine zg_aload_n 0 dX9_falls_5 rfl rfl ?_
  refine zo_getr 42 2 rfl fl_X9_28 zt_39 rfl dX9_falls_6 ?_
  refine zg_aload_n 0 dX9_falls_9 rfl rfl ?_
  refine zo_getr 41 1 rfl fl_X9_24 zt_39 rfl dX9_falls_10 ?_
  obtain ⟨M1, hM1, h⟩ := z_bind h
  refine zg_callS (st := []) (k_X9_copies zt_42 zt_41 hM1) zY_X9_copies ls_X9_194 rfl (zfit_m (by decide) (by decide)) (Nat.le_of_ble_eq_true rfl) dX9_falls_13 rfl ?_
  refine zg_iconst dX9_falls_16 zki_0 ?_
  refine zg_istore_n (ls' := [(0, .ref 39), (1, .int (0 : Int32))]) dX9_falls_17 rfl (Nat.le_of_ble_eq_true rfl) rfl ?_
  exact g9_falls_18 zfuel _ _ h
set_option maxRecDepth 20000 in
set_option maxHeartbeats 4000000 in
theorem g9_leaves_35 {a1 : Nat} (h1 : ztops[a1]? = some (.inl (0, 9))) {r1 : Int32} {Mr : zM} {k11 : Int32 → Int32 → zM → Option (Int32 × zM)} (hk11 : ∀ (v2 : Int32) (v3 : Int32) (M : zM), k11 v2 v3 M = some (r1, Mr) → zJ ztops RX9 cX9_leaves 4 (zBm ztops 4 (some .boolean) (some (.int r1)) Mr) 0 0 11 [(1, .ref a1), (2, .int v2), (3, .int v3)] [] M) : ∀ (v2 : Int32) (v3 : Int32) (M : zM), f9_leaves_35 a1 k11 v2 v3 M = some (r1, Mr) → zJ ztops RX9 cX9_leaves 4 (zBm ztops 4 (some .boolean) (some (.int r1)) Mr) 0 0 35 [(1, .ref a1), (2, .int v2), (3, .int v3)] [] M := by
  intro v2 v3 M h
  rw [f9_leaves_35] at h
  refine zg_iinc (ls' := [(1, .ref a1), (2, .int v2), (3, .int (v3 + (-1 : Int32)))]) 2 dX9_leaves_35 rfl zki_m1 (Nat.le_of_ble_eq_true rfl) rfl ?_
  refine zg_goto (tgt := 11) dX9_leaves_38 (by decide) ?_
  exact hk11 _ _ _ h
set_option maxRecDepth 20000 in
set_option maxHeartbeats 4000000 in
theorem g9_leaves_11 {a1 : Nat} (h1 : ztops[a1]? = some (.inl (0, 9))) {r1 : Int32} {Mr : zM} : ∀ (n : Nat) (v2 : Int32) (v3 : Int32) (M : zM), f9_leaves_11 a1 n v2 v3 M = some (r1, Mr) → zJ ztops RX9 cX9_leaves 4 (zBm ztops 4 (some .boolean) (some (.int r1)) Mr) 0 0 11 [(1, .ref a1), (2, .int v2), (3, .int v3)] [] M := by
  intro n
  induction n with
  | zero => intro v2 v3 M h; cases h
  | succ n ih =>
    intro v2 v3 M h
    rw [f9_leaves_11] at h
    refine zg_iload_n 2 dX9_leaves_11 rfl rfl ?_
    refine zg_if_lt (tgt := 41) dX9_leaves_12 (by decide) (fun hc => ?_) (fun hc => ?_)
    · replace h := (if_pos hc).symm.trans h
      refine zg_aload_n 0 dX9_leaves_41 rfl rfl ?_
      refine zg_bipush dX9_leaves_42 zkb_6 ?_
      refine zo_ialdc 6 h1 (by decide) rfl dX9_leaves_44 ?_
      suffices hj : zJ ztops RX9 cX9_leaves 4 (zBm ztops 4 (some .boolean) (some (.int r1)) Mr) 0 0 60 [(1, .ref a1), (2, .int v2), (3, .int v3)] [.int (if (M.1 a1 6) ≤ 0 then (0 : Int32) else (if (M.1 a1 7) ≤ 0 then (0 : Int32) else (1 : Int32)))] M by
        refine zg_if_le (tgt := 59) dX9_leaves_45 (by decide) (fun hc => ?_) (fun hc => ?_)
        · rw [show (if (M.1 a1 6) ≤ 0 then (0 : Int32) else (if (M.1 a1 7) ≤ 0 then (0 : Int32) else (1 : Int32))) = (0 : Int32) from if_pos hc] at hj
          refine zg_iconst dX9_leaves_59 zki_0 ?_
          exact hj
        · rw [show (if (M.1 a1 6) ≤ 0 then (0 : Int32) else (if (M.1 a1 7) ≤ 0 then (0 : Int32) else (1 : Int32))) = (if (M.1 a1 7) ≤ 0 then (0 : Int32) else (1 : Int32)) from if_neg hc] at hj
          refine zg_aload_n 0 dX9_leaves_48 rfl rfl ?_
          refine zg_bipush dX9_leaves_49 zkb_7 ?_
          refine zo_ialdc 7 h1 (by decide) rfl dX9_leaves_51 ?_
          refine zg_if_le (tgt := 59) dX9_leaves_52 (by decide) (fun hc => ?_) (fun hc => ?_)
          · rw [show (if (M.1 a1 7) ≤ 0 then (0 : Int32) else (1 : Int32)) = (0 : Int32) from if_pos hc] at hj
            refine zg_iconst dX9_leaves_59 zki_0 ?_
            exact hj
          · rw [show (if (M.1 a1 7) ≤ 0 then (0 : Int32) else (1 : Int32)) = (1 : Int32) from if_neg hc] at hj
            refine zg_iconst dX9_leaves_55 zki_1 ?_
            refine zg_goto (tgt := 60) dX9_leaves_56 (by decide) ?_
            exact hj
      obtain ⟨rfl, rfl⟩ := z_ret2 h
      exact zg_zret (zn_ite rfl (zn_ite rfl rfl)) dX9_leaves_60
    · replace h := (if_neg hc).symm.trans h
      refine zg_iload_n 1 dX9_leaves_15 rfl rfl ?_
      refine zg_iload_n 2 dX9_leaves_16 rfl rfl ?_
      obtain ⟨x1, hx1, h⟩ := z_bind h
      refine zg_callS (st := []) (k_X9_has hx1) zY_X9_has ls_X9_112 rfl (zfit_m (by decide) (by decide)) (Nat.le_of_ble_eq_true rfl) dX9_leaves_17 rfl ?_
      refine zg_if_eq (tgt := 35) dX9_leaves_20 (by decide) (fun hc => ?_) (fun hc => ?_)
      · replace h := (if_pos hc).symm.trans h
        exact g9_leaves_35 h1 (fun u0 u1 u2 h => ih u0 u1 u2 h) _ _ _ h
      · replace h := (if_neg hc).symm.trans h
        refine zg_aload_n 0 dX9_leaves_23 rfl rfl ?_
        refine zg_iload_n 2 dX9_leaves_24 rfl rfl ?_
        refine zg_bipush dX9_leaves_25 zkb_6 ?_
        refine zg_idiv (by decide) dX9_leaves_27 ?_
        refine zg_iload_n 2 dX9_leaves_28 rfl rfl ?_
        refine zg_bipush dX9_leaves_29 zkb_6 ?_
        refine zg_irem (by decide) dX9_leaves_31 ?_
        obtain ⟨M2, hM2, h⟩ := z_bind h
        refine zg_callS (st := []) (k_X9_goes h1 hM2) zY_X9_goes ls_X9_289 rfl (zfit_m (by decide) (by decide)) (Nat.le_of_ble_eq_true rfl) dX9_leaves_32 rfl ?_
        exact g9_leaves_35 h1 (fun u0 u1 u2 h => ih u0 u1 u2 h) _ _ _ h
set_option maxRecDepth 20000 in
set_option maxHeartbeats 4000000 in
theorem k_X9_leaves {a1 : Nat} (h1 : ztops[a1]? = some (.inl (0, 9))) {v2 : Int32} {M : zM} {r1 : Int32} {Mr : zM} (h : f9_leaves a1 v2 M = some (r1, Mr)) : zK ztops yX9_leaves cX9_leaves 4 (some .boolean) 4 [.ref 39, .ref a1, .int v2] M (some (.int r1)) Mr := by
  refine zK_of pl_X9 (Nat.le_of_ble_eq_true rfl) ?_
  show zJ ztops RX9 cX9_leaves 4 _ 0 0 0 [(0, .ref 39), (1, .ref a1), (2, .int v2)] [] M
  rw [f9_leaves] at h
  refine zg_aload_n 1 dX9_leaves_0 rfl rfl ?_
  refine zg_aload_n 0 dX9_leaves_1 rfl rfl ?_
  refine zo_getr 41 1 rfl fl_X9_24 zt_39 rfl dX9_leaves_2 ?_
  obtain ⟨M1, hM1, h⟩ := z_bind h
  refine zg_callS (st := []) (k_X9_copies h1 zt_41 hM1) zY_X9_copies ls_X9_194 rfl (zfit_m (by decide) (by decide)) (Nat.le_of_ble_eq_true rfl) dX9_leaves_5 rfl ?_
  refine zg_bipush dX9_leaves_8 zkb_11 ?_
  refine zg_istore_n (ls' := [(0, .ref 39), (1, .ref a1), (2, .int v2), (3, .int (11 : Int32))]) dX9_leaves_10 rfl (Nat.le_of_ble_eq_true rfl) rfl ?_
  refine zo_sub (ls' := [(1, .ref a1), (2, .int v2), (3, .int (11 : Int32))]) [1, 2, 3] rfl ?_
  exact g9_leaves_11 h1 zfuel _ _ _ h
set_option maxRecDepth 20000 in
set_option maxHeartbeats 4000000 in
theorem g9_rags_134 {r1 : Int32} {Mr : zM} {k34 : Int32 → Int32 → Int32 → zM → Option (Int32 × zM)} (hk34 : ∀ (v2 : Int32) (v3 : Int32) (v4 : Int32) (M : zM), k34 v2 v3 v4 M = some (r1, Mr) → zJ ztops RX9 cX9_rags 6 (zBm ztops 8 (some .int) (some (.int r1)) Mr) 0 0 34 [(0, .ref 39), (2, .int v2), (3, .int v3), (4, .int v4)] [] M) : ∀ (v2 : Int32) (v3 : Int32) (v4 : Int32) (v5 : Int32) (M : zM), f9_rags_134 k34 v2 v3 v4 v5 M = some (r1, Mr) → zJ ztops RX9 cX9_rags 6 (zBm ztops 8 (some .int) (some (.int r1)) Mr) 0 0 134 [(0, .ref 39), (2, .int v2), (3, .int v3), (4, .int v4), (5, .int v5)] [] M := by
  intro v2 v3 v4 v5 M h
  rw [f9_rags_134] at h
  refine zg_iload_n 2 dX9_rags_134 rfl rfl ?_
  refine zg_iload 4 dX9_rags_135 rfl ?_
  obtain ⟨x1, hx1, h⟩ := z_bind h
  refine zg_callS (st := [.int v3]) (k_X9_flag hx1) zY_X9_flag ls_X9_116 rfl (zfit_m (by decide) (by decide)) (Nat.le_of_ble_eq_true rfl) dX9_rags_137 rfl ?_
  refine zg_iadd dX9_rags_140 ?_
  refine zg_istore_n (ls' := [(0, .ref 39), (2, .int v2), (3, .int (v3 + x1)), (4, .int v4), (5, .int v5)]) dX9_rags_141 rfl (Nat.le_of_ble_eq_true rfl) rfl ?_
  refine zg_iinc (ls' := [(0, .ref 39), (2, .int v2), (3, .int (v3 + x1)), (4, .int (v4 + (1 : Int32))), (5, .int v5)]) 3 dX9_rags_142 rfl zki_1 (Nat.le_of_ble_eq_true rfl) rfl ?_
  refine zg_goto (tgt := 34) dX9_rags_145 (by decide) ?_
  refine zo_sub (ls' := [(0, .ref 39), (2, .int v2), (3, .int (v3 + x1)), (4, .int (v4 + (1 : Int32)))]) [0, 1, 2, 3] rfl ?_
  exact hk34 _ _ _ _ h
set_option maxRecDepth 20000 in
set_option maxHeartbeats 4000000 in
theorem g9_rags_116 {r1 : Int32} {Mr : zM} {k34 : Int32 → Int32 → Int32 → zM → Option (Int32 × zM)} (hk34 : ∀ (v2 : Int32) (v3 : Int32) (v4 : Int32) (M : zM), k34 v2 v3 v4 M = some (r1, Mr) → zJ ztops RX9 cX9_rags 6 (zBm ztops 8 (some .int) (some (.int r1)) Mr) 0 0 34 [(0, .ref 39), (2, .int v2), (3, .int v3), (4, .int v4)] [] M) : ∀ (v2 : Int32) (v3 : Int32) (v4 : Int32) (s0 : Int32) (M : zM), f9_rags_116 k34 v2 v3 v4 s0 M = some (r1, Mr) → zJ ztops RX9 cX9_rags 6 (zBm ztops 8 (some .int) (some (.int r1)) Mr) 0 0 116 [(0, .ref 39), (2, .int v2), (3, .int v3), (4, .int v4)] [.int s0] M := by
  intro v2 v3 v4 s0 M h
  rw [f9_rags_116] at h
  refine zg_istore (ls' := [(0, .ref 39), (2, .int v2), (3, .int v3), (4, .int v4), (5, .int s0)]) dX9_rags_116 (Nat.le_of_ble_eq_true rfl) rfl ?_
  refine zg_iload 4 dX9_rags_118 rfl ?_
  refine zg_if_eq (tgt := 134) dX9_rags_120 (by decide) (fun hc => ?_) (fun hc => ?_)
  · replace h := (if_pos hc).symm.trans h
    exact g9_rags_134 hk34 _ _ _ _ _ h
  · replace h := (if_neg hc).symm.trans h
    refine zg_iload_n 2 dX9_rags_123 rfl rfl ?_
    refine zg_if_ne (tgt := 134) dX9_rags_124 (by decide) (fun hc => ?_) (fun hc => ?_)
    · replace h := (if_neg hc).symm.trans h
      exact g9_rags_134 hk34 _ _ _ _ _ h
    · replace h := (if_pos hc).symm.trans h
      refine zg_aload_n 0 dX9_rags_127 rfl rfl ?_
      refine zg_iload 3 dX9_rags_128 rfl ?_
      refine zg_i2l dX9_rags_130 ?_
      obtain ⟨M1, hM1, h⟩ := z_bind h
      refine zg_callV (st := []) (k_X9_enters hM1) zY_X9_enters lv_X9_311 rfl zt_39 rfl (zfit_m (by decide) (by decide)) (Nat.le_of_ble_eq_true rfl) dX9_rags_131 rfl ?_
      exact g9_rags_134 hk34 _ _ _ _ _ h
set_option maxRecDepth 20000 in
set_option maxHeartbeats 4000000 in
theorem g9_rags_77 {r1 : Int32} {Mr : zM} {k34 : Int32 → Int32 → Int32 → zM → Option (Int32 × zM)} (hk34 : ∀ (v2 : Int32) (v3 : Int32) (v4 : Int32) (M : zM), k34 v2 v3 v4 M = some (r1, Mr) → zJ ztops RX9 cX9_rags 6 (zBm ztops 8 (some .int) (some (.int r1)) Mr) 0 0 34 [(0, .ref 39), (2, .int v2), (3, .int v3), (4, .int v4)] [] M) : ∀ (v2 : Int32) (v3 : Int32) (v4 : Int32) (s0 : Int32) (M : zM), f9_rags_77 k34 v2 v3 v4 s0 M = some (r1, Mr) → zJ ztops RX9 cX9_rags 6 (zBm ztops 8 (some .int) (some (.int r1)) Mr) 0 0 77 [(0, .ref 39), (2, .int v2), (3, .int v3), (4, .int v4)] [.int s0] M := by
  intro v2 v3 v4 s0 M h
  rw [f9_rags_77] at h
  refine zg_istore (ls' := [(0, .ref 39), (2, .int v2), (3, .int v3), (4, .int v4), (5, .int s0)]) dX9_rags_77 (Nat.le_of_ble_eq_true rfl) rfl ?_
  refine zg_iload 4 dX9_rags_79 rfl ?_
  refine zg_if_eq (tgt := 115) dX9_rags_81 (by decide) (fun hc => ?_) (fun hc => ?_)
  · replace h := (if_pos hc).symm.trans h
    refine zg_iconst dX9_rags_115 zki_0 ?_
    refine zo_sub (ls' := [(0, .ref 39), (2, .int v2), (3, .int v3), (4, .int v4)]) [0, 1, 2, 3] rfl ?_
    exact g9_rags_116 hk34 _ _ _ _ _ h
  · replace h := (if_neg hc).symm.trans h
    refine zg_aload_n 0 dX9_rags_84 rfl rfl ?_
    refine zg_aload_n 0 dX9_rags_85 rfl rfl ?_
    refine zo_getr 42 2 rfl fl_X9_28 zt_39 rfl dX9_rags_86 ?_
    refine zg_iload 3 dX9_rags_89 rfl ?_
    obtain ⟨p1, hp1, h⟩ := z_bind h
    refine zg_callV (st := []) (k_X9_leaves zt_42 hp1) zY_X9_leaves lv_X9_366 rfl zt_39 rfl (zfit_m (by decide) (by decide)) (Nat.le_of_ble_eq_true rfl) dX9_rags_91 rfl ?_
    refine zg_if_eq (tgt := 115) dX9_rags_94 (by decide) (fun hc => ?_) (fun hc => ?_)
    · replace h := (if_pos hc).symm.trans h
      refine zg_iconst dX9_rags_115 zki_0 ?_
      refine zo_sub (ls' := [(0, .ref 39), (2, .int v2), (3, .int v3), (4, .int v4)]) [0, 1, 2, 3] rfl ?_
      exact g9_rags_116 hk34 _ _ _ _ _ h
    · replace h := (if_neg hc).symm.trans h
      refine zg_aload_n 0 dX9_rags_97 rfl rfl ?_
      refine zo_getr 42 2 rfl fl_X9_28 zt_39 rfl dX9_rags_98 ?_
      refine zg_aload_n 0 dX9_rags_101 rfl rfl ?_
      refine zo_getr 44 4 rfl fl_X9_34 zt_39 rfl dX9_rags_102 ?_
      obtain ⟨x2, hx2, h⟩ := z_bind h
      refine zg_callS (st := []) (k_X9_isAs zt_42 zt_44 hx2) zY_X9_isAs ls_X9_370 rfl (zfit_m (by decide) (by decide)) (Nat.le_of_ble_eq_true rfl) dX9_rags_105 rfl ?_
      suffices hj : zJ ztops RX9 cX9_rags 6 (zBm ztops 8 (some .int) (some (.int r1)) Mr) 0 0 116 [(0, .ref 39), (2, .int v2), (3, .int v3), (4, .int v4), (5, .int s0)] [.int (if x2 = 0 then (0 : Int32) else (1 : Int32))] p1.2 by
        refine zg_if_eq (tgt := 115) dX9_rags_108 (by decide) (fun hc => ?_) (fun hc => ?_)
        · rw [show (if x2 = 0 then (0 : Int32) else (1 : Int32)) = (0 : Int32) from if_pos hc] at hj
          refine zg_iconst dX9_rags_115 zki_0 ?_
          exact hj
        · rw [show (if x2 = 0 then (0 : Int32) else (1 : Int32)) = (1 : Int32) from if_neg hc] at hj
          refine zg_iconst dX9_rags_111 zki_1 ?_
          refine zg_goto (tgt := 116) dX9_rags_112 (by decide) ?_
          exact hj
      refine zo_sub (ls' := [(0, .ref 39), (2, .int v2), (3, .int v3), (4, .int v4)]) [0, 1, 2, 3] rfl ?_
      exact g9_rags_116 hk34 _ _ _ _ _ h
set_option maxRecDepth 20000 in
set_option maxHeartbeats 4000000 in
theorem g9_rags_34 {r1 : Int32} {Mr : zM} : ∀ (n : Nat) (v2 : Int32) (v3 : Int32) (v4 : Int32) (M : zM), f9_rags_34 n v2 v3 v4 M = some (r1, Mr) → zJ ztops RX9 cX9_rags 6 (zBm ztops 8 (some .int) (some (.int r1)) Mr) 0 0 34 [(0, .ref 39), (2, .int v2), (3, .int v3), (4, .int v4)] [] M := by
  intro n
  induction n with
  | zero => intro v2 v3 v4 M h; cases h
  | succ n ih =>
    intro v2 v3 v4 M h
    rw [f9_rags_34] at h
    refine zg_iload 3 dX9_rags_34 rfl ?_
    refine zg_iload_n 1 dX9_rags_36 rfl rfl ?_
    refine zg_icmp_gt (tgt := 148) dX9_rags_37 (by decide) (fun hc => ?_) (fun hc => ?_)
    · replace h := (if_pos hc).symm.trans h
      refine zg_iload_n 2 dX9_rags_148 rfl rfl ?_
      obtain ⟨rfl, rfl⟩ := z_ret2 h
      exact zg_iret dX9_rags_149
    · replace h := (if_neg hc).symm.trans h
      refine zg_iload 3 dX9_rags_40 rfl ?_
      refine zg_iload_n 1 dX9_rags_42 rfl rfl ?_
      refine zg_iconst dX9_rags_43 zki_m1 ?_
      refine zg_ixor dX9_rags_44 ?_
      refine zg_iand dX9_rags_45 ?_
      refine zg_if_ne (tgt := 76) dX9_rags_46 (by decide) (fun hc => ?_) (fun hc => ?_)
      · replace h := (if_neg hc).symm.trans h
        refine zg_iconst dX9_rags_76 zki_0 ?_
        exact g9_rags_77 (fun u0 u1 u2 u3 h => ih u0 u1 u2 u3 h) _ _ _ _ _ h
      · replace h := (if_pos hc).symm.trans h
        refine zg_iload 3 dX9_rags_49 rfl ?_
        obtain ⟨x1, hx1, h⟩ := z_bind h
        refine zg_callS (st := []) (k_J6_bitCount_0f7a4 hx1) zY_J6_bitCount_0f7a4 ls_X9_131 rfl (zfit_m (by decide) (by decide)) (Nat.le_of_ble_eq_true rfl) dX9_rags_51 rfl ?_
        refine zg_aload_n 0 dX9_rags_54 rfl rfl ?_
        refine zo_getr 41 1 rfl fl_X9_24 zt_39 rfl dX9_rags_55 ?_
        obtain ⟨x2, hx2, h⟩ := z_bind h
        refine zg_callS (st := [.int x1]) (k_X9_threadsOf zt_41 hx2) zY_X9_threadsOf ls_X9_315 rfl (zfit_m (by decide) (by decide)) (Nat.le_of_ble_eq_true rfl) dX9_rags_58 rfl ?_
        refine zg_aload_n 0 dX9_rags_61 rfl rfl ?_
        refine zo_getr 44 4 rfl fl_X9_34 zt_39 rfl dX9_rags_62 ?_
        obtain ⟨x3, hx3, h⟩ := z_bind h
        refine zg_callS (st := [.int x2, .int x1]) (k_X9_threadsOf zt_44 hx3) zY_X9_threadsOf ls_X9_315 rfl (zfit_m (by decide) (by decide)) (Nat.le_of_ble_eq_true rfl) dX9_rags_65 rfl ?_
        refine zg_isub dX9_rags_68 ?_
        suffices hj : zJ ztops RX9 cX9_rags 6 (zBm ztops 8 (some .int) (some (.int r1)) Mr) 0 0 77 [(0, .ref 39), (2, .int v2), (3, .int v3), (4, .int v4)] [.int (if x1 = (x2 - x3) then (1 : Int32) else (0 : Int32))] M by
          refine zg_icmp_ne (tgt := 76) dX9_rags_69 (by decide) (fun hc => ?_) (fun hc => ?_)
          · rw [show (if x1 = (x2 - x3) then (1 : Int32) else (0 : Int32)) = (0 : Int32) from if_neg hc] at hj
            refine zg_iconst dX9_rags_76 zki_0 ?_
            exact hj
          · rw [show (if x1 = (x2 - x3) then (1 : Int32) else (0 : Int32)) = (1 : Int32) from if_pos hc] at hj
            refine zg_iconst dX9_rags_72 zki_1 ?_
            refine zg_goto (tgt := 77) dX9_rags_73 (by decide) ?_
            exact hj
        exact g9_rags_77 (fun u0 u1 u2 u3 h => ih u0 u1 u2 u3 h) _ _ _ _ _ h
set_option maxRecDepth 20000 in
set_option maxHeartbeats 4000000 in
theorem k_X9_rags {M : zM} {r1 : Int32} {Mr : zM} (h : f9_rags M = some (r1, Mr)) : zK ztops yX9_rags cX9_rags 6 (some .int) 8 [.ref 39] M (some (.int r1)) Mr := by
  refine zK_of pl_X9 (Nat.le_of_ble_eq_true rfl) ?_
  show zJ ztops RX9 cX9_rags 6 _ 0 0 0 [(0, .ref 39)] [] M
  rw [f9_rags] at h
  refine zg_aload_n 0 dX9_rags_0 rfl rfl ?_
  refine zg_iconst dX9_rags_1 zki_0 ?_
  refine zg_puti fp_X9_3 zt_39 rfl dX9_rags_2 ?_
  refine zg_aload_n 0 dX9_rags_5 rfl rfl ?_
  obtain ⟨p1, hp1, h⟩ := z_bind h
  refine zg_callV (st := []) (k_X9_readsCloth hp1) zY_X9_readsCloth lv_X9_191 rfl zt_39 rfl (zfit_m (by decide) (by decide)) (Nat.le_of_ble_eq_true rfl) dX9_rags_6 rfl ?_
  refine zg_istore_n (ls' := [(0, .ref 39), (1, .int p1.1)]) dX9_rags_9 rfl (Nat.le_of_ble_eq_true rfl) rfl ?_
  refine zg_iload_n 1 dX9_rags_10 rfl rfl ?_
  refine zg_if_ge (tgt := 16) dX9_rags_11 (by decide) (fun hc => ?_) (fun hc => ?_)
  · replace h := (if_pos hc).symm.trans h
    refine zg_aload_n 0 dX9_rags_16 rfl rfl ?_
    refine zo_getr 41 1 rfl fl_X9_24 zt_39 rfl dX9_rags_17 ?_
    obtain ⟨x2, hx2, h⟩ := z_bind h
    refine zg_callS (st := []) (k_X9_allOf zt_41 hx2) zY_X9_allOf ls_X9_356 rfl (zfit_m (by decide) (by decide)) (Nat.le_of_ble_eq_true rfl) dX9_rags_20 rfl ?_
    refine zg_istore_n (ls' := [(0, .ref 39), (1, .int p1.1), (2, .int x2)]) dX9_rags_23 rfl (Nat.le_of_ble_eq_true rfl) rfl ?_
    refine zg_iconst dX9_rags_24 zki_0 ?_
    refine zg_istore_n (ls' := [(0, .ref 39), (1, .int p1.1), (2, .int x2), (3, .int (0 : Int32))]) dX9_rags_25 rfl (Nat.le_of_ble_eq_true rfl) rfl ?_
    refine zg_aload_n 0 dX9_rags_26 rfl rfl ?_
    refine zg_iconst dX9_rags_27 zki_0 ?_
    refine zg_puti fp_X9_15 zt_39 rfl dX9_rags_28 ?_
    refine zg_iconst dX9_rags_31 zki_0 ?_
    refine zg_istore (ls' := [(0, .ref 39), (1, .int p1.1), (2, .int x2), (3, .int (0 : Int32)), (4, .int (0 : Int32))]) dX9_rags_32 (Nat.le_of_ble_eq_true rfl) rfl ?_
    refine zo_sub (ls' := [(0, .ref 39), (2, .int x2), (3, .int (0 : Int32)), (4, .int (0 : Int32))]) [0, 2, 3, 4] rfl ?_
    exact g9_rags_34 zfuel _ _ _ _ h
  · replace h := (if_neg hc).symm.trans h
    refine zg_iload_n 1 dX9_rags_14 rfl rfl ?_
    obtain ⟨rfl, rfl⟩ := z_ret2 h
    exact zg_iret dX9_rags_15
set_option maxRecDepth 20000 in
set_option maxHeartbeats 4000000 in
theorem g9_asNumber_18 {T : List zN} {a0 : Nat} (h0 : T[a0]? = some (.inl (0, 9))) {r1 : Int64} {M : zM} : ∀ (n : Nat) (v1 : Int64) (v3 : Int32), f9_asNumber_18 a0 n v1 v3 M = some r1 → zJ T RX9 cX9_asNumber 4 (zBm T 0 (some .long) (some (.long r1)) M) 0 0 18 [(0, .ref a0), (1, .long v1), (3, .int v3)] [] M := by
  intro n
  induction n with
  | zero => intro v1 v3 h; cases h
  | succ n ih =>
    intro v1 v3 h
    rw [f9_asNumber_18] at h
    refine zg_iload_n 2 dX9_asNumber_18 rfl rfl ?_
    refine zg_aload_n 0 dX9_asNumber_19 rfl rfl ?_
    refine zg_bipush dX9_asNumber_20 zkb_6 ?_
    refine zo_ialdc 6 h0 (by decide) rfl dX9_asNumber_22 ?_
    refine zg_icmp_ge (tgt := 43) dX9_asNumber_23 (by decide) (fun hc => ?_) (fun hc => ?_)
    · replace h := (if_pos hc).symm.trans h
      refine zg_lload_n 1 dX9_asNumber_43 rfl rfl ?_
      obtain rfl := z_ret1 h
      exact zg_lret dX9_asNumber_44
    · replace h := (if_neg hc).symm.trans h
      refine zg_ldc2 kc_X9_376 dX9_asNumber_26 ?_
      refine zg_lload_n 1 dX9_asNumber_29 rfl rfl ?_
      refine zg_lmul dX9_asNumber_30 ?_
      refine zg_aload_n 0 dX9_asNumber_31 rfl rfl ?_
      refine zg_iload_n 2 dX9_asNumber_32 rfl rfl ?_
      obtain ⟨x1, hx1, h⟩ := z_bind h
      refine zo_iald h0 hx1 dX9_asNumber_33 ?_
      refine zg_i2l dX9_asNumber_34 ?_
      refine zg_ladd dX9_asNumber_35 ?_
      refine zg_lstore_n (ls' := [(0, .ref a0), (1, .long (((64 : Int64) * v1) + (Int32.toInt64 x1))), (3, .int v3)]) dX9_asNumber_36 rfl (Nat.le_of_ble_eq_true rfl) rfl ?_
      refine zg_iinc (ls' := [(0, .ref a0), (1, .long (((64 : Int64) * v1) + (Int32.toInt64 x1))), (3, .int (v3 + (1 : Int32)))]) 2 dX9_asNumber_37 rfl zki_1 (Nat.le_of_ble_eq_true rfl) rfl ?_
      refine zg_goto (tgt := 18) dX9_asNumber_40 (by decide) ?_
      exact ih _ _ h
set_option maxRecDepth 20000 in
set_option maxHeartbeats 4000000 in
theorem k_X9_asNumber {T : List zN} {a0 : Nat} (h0 : T[a0]? = some (.inl (0, 9))) {r1 : Int64} {M : zM} (h : f9_asNumber a0 M = some r1) : zK T yX9_asNumber cX9_asNumber 4 (some .long) 0 [.ref a0] M (some (.long r1)) M := by
  refine zK_of pl_X9 (Nat.le_of_ble_eq_true rfl) ?_
  show zJ T RX9 cX9_asNumber 4 _ 0 0 0 [(0, .ref a0)] [] M
  rw [f9_asNumber] at h
  refine zg_ldc2 kc_X9_374 dX9_asNumber_0 ?_
  refine zg_aload_n 0 dX9_asNumber_3 rfl rfl ?_
  refine zg_bipush dX9_asNumber_4 zkb_6 ?_
  refine zo_ialdc 6 h0 (by decide) rfl dX9_asNumber_6 ?_
  refine zg_i2l dX9_asNumber_7 ?_
  refine zg_lmul dX9_asNumber_8 ?_
  refine zg_aload_n 0 dX9_asNumber_9 rfl rfl ?_
  refine zg_bipush dX9_asNumber_10 zkb_7 ?_
  refine zo_ialdc 7 h0 (by decide) rfl dX9_asNumber_12 ?_
  refine zg_i2l dX9_asNumber_13 ?_
  refine zg_ladd dX9_asNumber_14 ?_
  refine zg_lstore_n (ls' := [(0, .ref a0), (1, .long (((10 : Int64) * (Int32.toInt64 (M.1 a0 6))) + (Int32.toInt64 (M.1 a0 7))))]) dX9_asNumber_15 rfl (Nat.le_of_ble_eq_true rfl) rfl ?_
  refine zg_iconst dX9_asNumber_16 zki_0 ?_
  refine zg_istore_n (ls' := [(0, .ref a0), (1, .long (((10 : Int64) * (Int32.toInt64 (M.1 a0 6))) + (Int32.toInt64 (M.1 a0 7)))), (3, .int (0 : Int32))]) dX9_asNumber_17 rfl (Nat.le_of_ble_eq_true rfl) rfl ?_
  exact g9_asNumber_18 h0 zfuel _ _ h
set_option maxRecDepth 20000 in
set_option maxHeartbeats 4000000 in
theorem g9_lefts_87 {r1 : Int32} {Mr : zM} {k124 : Int32 → Int32 → Int32 → Int32 → Int32 → Int64 → Int32 → zM → Option (Int32 × zM)} (hk124 : ∀ (v1 : Int32) (v2 : Int32) (v3 : Int32) (v4 : Int32) (v5 : Int32) (v6 : Int64) (v8 : Int32) (M : zM), k124 v1 v2 v3 v4 v5 v6 v8 M = some (r1, Mr) → zJ ztops RX9 cX9_lefts 10 (zBm ztops 5 (some .int) (some (.int r1)) Mr) 0 0 124 [(0, .ref 39), (1, .int v1), (2, .int v2), (3, .int v3), (4, .int v4), (5, .int v5), (6, .long v6), (8, .int v8)] [] M) : ∀ (n : Nat) (v1 : Int32) (v2 : Int32) (v3 : Int32) (v4 : Int32) (v5 : Int32) (v6 : Int64) (v8 : Int32) (v9 : Int32) (M : zM), f9_lefts_87 k124 n v1 v2 v3 v4 v5 v6 v8 v9 M = some (r1, Mr) → zJ ztops RX9 cX9_lefts 10 (zBm ztops 5 (some .int) (some (.int r1)) Mr) 0 0 87 [(0, .ref 39), (1, .int v1), (2, .int v2), (3, .int v3), (4, .int v4), (5, .int v5), (6, .long v6), (8, .int v8), (9, .int v9)] [] M := by
  intro n
  induction n with
  | zero => intro v1 v2 v3 v4 v5 v6 v8 v9 M h; cases h
  | succ n ih =>
    intro v1 v2 v3 v4 v5 v6 v8 v9 M h
    rw [f9_lefts_87] at h
    refine zg_iload 8 dX9_lefts_87 rfl ?_
    refine zg_iload_n 3 dX9_lefts_89 rfl rfl ?_
    refine zg_icmp_ge (tgt := 124) dX9_lefts_90 (by decide) (fun hc => ?_) (fun hc => ?_)
    · replace h := (if_pos hc).symm.trans h
      refine zo_sub (ls' := [(0, .ref 39), (1, .int v1), (2, .int v2), (3, .int v3), (4, .int v4), (5, .int v5), (6, .long v6), (8, .int v8)]) [0, 1, 2, 3, 4, 5, 6, 7] rfl ?_
      exact hk124 _ _ _ _ _ _ _ _ h
    · replace h := (if_neg hc).symm.trans h
      refine zg_iload 7 dX9_lefts_93 rfl ?_
      refine zg_if_eq (tgt := 124) dX9_lefts_95 (by decide) (fun hc => ?_) (fun hc => ?_)
      · replace h := (if_pos hc).symm.trans h
        refine zo_sub (ls' := [(0, .ref 39), (1, .int v1), (2, .int v2), (3, .int v3), (4, .int v4), (5, .int v5), (6, .long v6), (8, .int v8)]) [0, 1, 2, 3, 4, 5, 6, 7] rfl ?_
        exact hk124 _ _ _ _ _ _ _ _ h
      · replace h := (if_neg hc).symm.trans h
        refine zg_aload_n 0 dX9_lefts_98 rfl rfl ?_
        refine zo_getr 57 17 rfl fl_X9_74 zt_39 rfl dX9_lefts_99 ?_
        refine zg_iload 8 dX9_lefts_102 rfl ?_
        obtain ⟨x1, hx1, h⟩ := z_bind h
        refine zo_lald zt_57 hx1 dX9_lefts_104 ?_
        refine zg_lload 6 dX9_lefts_105 rfl ?_
        refine zg_lcmp dX9_lefts_107 ?_
        suffices hj : zJ ztops RX9 cX9_lefts 10 (zBm ztops 5 (some .int) (some (.int r1)) Mr) 0 0 116 [(0, .ref 39), (1, .int v1), (2, .int v2), (3, .int v3), (4, .int v4), (5, .int v5), (6, .long v6), (8, .int v8), (9, .int v9)] [.int (if (lg_cmp x1 v6) = 0 then (0 : Int32) else (1 : Int32))] M by
          refine zg_if_eq (tgt := 115) dX9_lefts_108 (by decide) (fun hc => ?_) (fun hc => ?_)
          · rw [show (if (lg_cmp x1 v6) = 0 then (0 : Int32) else (1 : Int32)) = (0 : Int32) from if_pos hc] at hj
            refine zg_iconst dX9_lefts_115 zki_0 ?_
            exact hj
          · rw [show (if (lg_cmp x1 v6) = 0 then (0 : Int32) else (1 : Int32)) = (1 : Int32) from if_neg hc] at hj
            refine zg_iconst dX9_lefts_111 zki_1 ?_
            refine zg_goto (tgt := 116) dX9_lefts_112 (by decide) ?_
            exact hj
        refine zg_istore (ls' := [(0, .ref 39), (1, .int v1), (2, .int v2), (3, .int v3), (4, .int v4), (5, .int v5), (6, .long v6), (8, .int (if (lg_cmp x1 v6) = 0 then (0 : Int32) else (1 : Int32))), (9, .int v9)]) dX9_lefts_116 (Nat.le_of_ble_eq_true rfl) rfl ?_
        refine zg_iinc (ls' := [(0, .ref 39), (1, .int v1), (2, .int v2), (3, .int v3), (4, .int v4), (5, .int v5), (6, .long v6), (8, .int (if (lg_cmp x1 v6) = 0 then (0 : Int32) else (1 : Int32))), (9, .int (v9 + (1 : Int32)))]) 8 dX9_lefts_118 rfl zki_1 (Nat.le_of_ble_eq_true rfl) rfl ?_
        refine zg_goto (tgt := 87) dX9_lefts_121 (by decide) ?_
        exact ih _ _ _ _ _ _ _ _ _ h
set_option maxRecDepth 20000 in
set_option maxHeartbeats 4000000 in
theorem g9_lefts_143 {r1 : Int32} {Mr : zM} {k35 : Int32 → Int32 → Int32 → Int32 → Int32 → zM → Option (Int32 × zM)} (hk35 : ∀ (v1 : Int32) (v2 : Int32) (v3 : Int32) (v4 : Int32) (v5 : Int32) (M : zM), k35 v1 v2 v3 v4 v5 M = some (r1, Mr) → zJ ztops RX9 cX9_lefts 10 (zBm ztops 5 (some .int) (some (.int r1)) Mr) 0 0 35 [(0, .ref 39), (1, .int v1), (2, .int v2), (3, .int v3), (4, .int v4), (5, .int v5)] [] M) : ∀ (v1 : Int32) (v2 : Int32) (v3 : Int32) (v4 : Int32) (v5 : Int32) (M : zM), f9_lefts_143 k35 v1 v2 v3 v4 v5 M = some (r1, Mr) → zJ ztops RX9 cX9_lefts 10 (zBm ztops 5 (some .int) (some (.int r1)) Mr) 0 0 143 [(0, .ref 39), (1, .int v1), (2, .int v2), (3, .int v3), (4, .int v4), (5, .int v5)] [] M := by
  intro v1 v2 v3 v4 v5 M h
  rw [f9_lefts_143] at h
  refine zg_iinc (ls' := [(0, .ref 39), (1, .int v1), (2, .int v2), (3, .int v3), (4, .int v4), (5, .int (v5 + (1 : Int32)))]) 5 dX9_lefts_143 rfl zki_1 (Nat.le_of_ble_eq_true rfl) rfl ?_
  refine zg_goto (tgt := 35) dX9_lefts_146 (by decide) ?_
  exact hk35 _ _ _ _ _ _ h
set_option maxRecDepth 20000 in
set_option maxHeartbeats 4000000 in
theorem g9_lefts_124 {r1 : Int32} {Mr : zM} {k35 : Int32 → Int32 → Int32 → Int32 → Int32 → zM → Option (Int32 × zM)} (hk35 : ∀ (v1 : Int32) (v2 : Int32) (v3 : Int32) (v4 : Int32) (v5 : Int32) (M : zM), k35 v1 v2 v3 v4 v5 M = some (r1, Mr) → zJ ztops RX9 cX9_lefts 10 (zBm ztops 5 (some .int) (some (.int r1)) Mr) 0 0 35 [(0, .ref 39), (1, .int v1), (2, .int v2), (3, .int v3), (4, .int v4), (5, .int v5)] [] M) : ∀ (v1 : Int32) (v2 : Int32) (v3 : Int32) (v4 : Int32) (v5 : Int32) (v6 : Int64) (v8 : Int32) (M : zM), f9_lefts_124 k35 v1 v2 v3 v4 v5 v6 v8 M = some (r1, Mr) → zJ ztops RX9 cX9_lefts 10 (zBm ztops 5 (some .int) (some (.int r1)) Mr) 0 0 124 [(0, .ref 39), (1, .int v1), (2, .int v2), (3, .int v3), (4, .int v4), (5, .int v5), (6, .long v6), (8, .int v8)] [] M := by
  intro v1 v2 v3 v4 v5 v6 v8 M h
  rw [f9_lefts_124] at h
  refine zg_aload_n 0 dX9_lefts_124 rfl rfl ?_
  refine zo_getr 57 17 rfl fl_X9_74 zt_39 rfl dX9_lefts_125 ?_
  refine zg_iload_n 3 dX9_lefts_128 rfl rfl ?_
  refine zg_lload 6 dX9_lefts_129 rfl ?_
  obtain ⟨M1, hM1, h⟩ := z_bind h
  refine zo_last zt_57 hM1 dX9_lefts_131 ?_
  refine zg_iload_n 3 dX9_lefts_132 rfl rfl ?_
  refine zg_iload 7 dX9_lefts_133 rfl ?_
  obtain ⟨x2, hx2, h⟩ := z_bind h
  refine zg_callS (st := [.int v3]) (k_X9_flag hx2) zY_X9_flag ls_X9_116 rfl (zfit_m (by decide) (by decide)) (Nat.le_of_ble_eq_true rfl) dX9_lefts_135 rfl ?_
  refine zg_iadd dX9_lefts_138 ?_
  refine zg_istore_n (ls' := [(0, .ref 39), (1, .int v1), (2, .int v2), (3, .int (v3 + x2)), (4, .int v4), (5, .int v5), (6, .long v6), (8, .int v8)]) dX9_lefts_139 rfl (Nat.le_of_ble_eq_true rfl) rfl ?_
  refine zg_iinc (ls' := [(0, .ref 39), (1, .int v1), (2, .int v2), (3, .int (v3 + x2)), (4, .int (v4 + (1 : Int32))), (5, .int v5), (6, .long v6), (8, .int v8)]) 4 dX9_lefts_140 rfl zki_1 (Nat.le_of_ble_eq_true rfl) rfl ?_
  refine zo_sub (ls' := [(0, .ref 39), (1, .int v1), (2, .int v2), (3, .int (v3 + x2)), (4, .int (v4 + (1 : Int32))), (5, .int v5)]) [0, 1, 2, 3, 4, 5] rfl ?_
  exact g9_lefts_143 hk35 _ _ _ _ _ _ h
set_option maxRecDepth 20000 in
set_option maxHeartbeats 4000000 in
theorem g9_lefts_35 {r1 : Int32} {Mr : zM} : ∀ (n : Nat) (v1 : Int32) (v2 : Int32) (v3 : Int32) (v4 : Int32) (v5 : Int32) (M : zM), f9_lefts_35 n v1 v2 v3 v4 v5 M = some (r1, Mr) → zJ ztops RX9 cX9_lefts 10 (zBm ztops 5 (some .int) (some (.int r1)) Mr) 0 0 35 [(0, .ref 39), (1, .int v1), (2, .int v2), (3, .int v3), (4, .int v4), (5, .int v5)] [] M := by
  intro n
  induction n with
  | zero => intro v1 v2 v3 v4 v5 M h; cases h
  | succ n ih =>
    intro v1 v2 v3 v4 v5 M h
    rw [f9_lefts_35] at h
    refine zg_iload 5 dX9_lefts_35 rfl ?_
    refine zg_iload_n 2 dX9_lefts_37 rfl rfl ?_
    refine zg_icmp_gt (tgt := 149) dX9_lefts_38 (by decide) (fun hc => ?_) (fun hc => ?_)
    · replace h := (if_pos hc).symm.trans h
      refine zg_aload_n 0 dX9_lefts_149 rfl rfl ?_
      refine zg_iconst dX9_lefts_150 zki_0 ?_
      refine zg_puti fp_X9_15 zt_39 rfl dX9_lefts_151 ?_
      refine zg_aload_n 0 dX9_lefts_154 rfl rfl ?_
      refine zg_iload 4 dX9_lefts_155 rfl ?_
      refine zg_i2l dX9_lefts_157 ?_
      obtain ⟨M1, hM1, h⟩ := z_bind h
      refine zg_callV (st := []) (k_X9_enters hM1) zY_X9_enters lv_X9_311 rfl zt_39 rfl (zfit_m (by decide) (by decide)) (Nat.le_of_ble_eq_true rfl) dX9_lefts_158 rfl ?_
      refine zg_iload_n 3 dX9_lefts_161 rfl rfl ?_
      obtain ⟨rfl, rfl⟩ := z_ret2 h
      exact zg_iret dX9_lefts_162
    · replace h := (if_neg hc).symm.trans h
      refine zg_iload 5 dX9_lefts_41 rfl ?_
      refine zg_iload_n 2 dX9_lefts_43 rfl rfl ?_
      refine zg_iconst dX9_lefts_44 zki_m1 ?_
      refine zg_ixor dX9_lefts_45 ?_
      refine zg_iand dX9_lefts_46 ?_
      refine zg_if_ne (tgt := 143) dX9_lefts_47 (by decide) (fun hc => ?_) (fun hc => ?_)
      · replace h := (if_neg hc).symm.trans h
        exact g9_lefts_143 (fun u0 u1 u2 u3 u4 u5 h => ih u0 u1 u2 u3 u4 u5 h) _ _ _ _ _ _ h
      · replace h := (if_pos hc).symm.trans h
        refine zg_iload 5 dX9_lefts_50 rfl ?_
        obtain ⟨x1, hx1, h⟩ := z_bind h
        refine zg_callS (st := []) (k_J6_bitCount_0f7a4 hx1) zY_J6_bitCount_0f7a4 ls_X9_131 rfl (zfit_m (by decide) (by decide)) (Nat.le_of_ble_eq_true rfl) dX9_lefts_52 rfl ?_
        refine zg_iload_n 1 dX9_lefts_55 rfl rfl ?_
        refine zg_icmp_ne (tgt := 143) dX9_lefts_56 (by decide) (fun hc => ?_) (fun hc => ?_)
        · replace h := (if_neg hc).symm.trans h
          exact g9_lefts_143 (fun u0 u1 u2 u3 u4 u5 h => ih u0 u1 u2 u3 u4 u5 h) _ _ _ _ _ _ h
        · replace h := (if_pos hc).symm.trans h
          refine zg_aload_n 0 dX9_lefts_59 rfl rfl ?_
          refine zg_aload_n 0 dX9_lefts_60 rfl rfl ?_
          refine zo_getr 42 2 rfl fl_X9_28 zt_39 rfl dX9_lefts_61 ?_
          refine zg_iload 5 dX9_lefts_64 rfl ?_
          obtain ⟨p2, hp2, h⟩ := z_bind h
          refine zg_callV (st := []) (k_X9_leaves zt_42 hp2) zY_X9_leaves lv_X9_366 rfl zt_39 rfl (zfit_m (by decide) (by decide)) (Nat.le_of_ble_eq_true rfl) dX9_lefts_66 rfl ?_
          refine zg_if_eq (tgt := 143) dX9_lefts_69 (by decide) (fun hc => ?_) (fun hc => ?_)
          · replace h := (if_pos hc).symm.trans h
            exact g9_lefts_143 (fun u0 u1 u2 u3 u4 u5 h => ih u0 u1 u2 u3 u4 u5 h) _ _ _ _ _ _ h
          · replace h := (if_neg hc).symm.trans h
            refine zg_aload_n 0 dX9_lefts_72 rfl rfl ?_
            refine zo_getr 42 2 rfl fl_X9_28 zt_39 rfl dX9_lefts_73 ?_
            obtain ⟨x3, hx3, h⟩ := z_bind h
            refine zg_callS (st := []) (k_X9_asNumber zt_42 hx3) zY_X9_asNumber ls_X9_378 rfl (zfit_m (by decide) (by decide)) (Nat.le_of_ble_eq_true rfl) dX9_lefts_76 rfl ?_
            refine zg_lstore (ls' := [(0, .ref 39), (1, .int v1), (2, .int v2), (3, .int v3), (4, .int v4), (5, .int v5), (6, .long x3)]) dX9_lefts_79 (Nat.le_of_ble_eq_true rfl) rfl ?_
            refine zg_iconst dX9_lefts_81 zki_1 ?_
            refine zg_istore (ls' := [(0, .ref 39), (1, .int v1), (2, .int v2), (3, .int v3), (4, .int v4), (5, .int v5), (6, .long x3), (8, .int (1 : Int32))]) dX9_lefts_82 (Nat.le_of_ble_eq_true rfl) rfl ?_
            refine zg_iconst dX9_lefts_84 zki_0 ?_
            refine zg_istore (ls' := [(0, .ref 39), (1, .int v1), (2, .int v2), (3, .int v3), (4, .int v4), (5, .int v5), (6, .long x3), (8, .int (1 : Int32)), (9, .int (0 : Int32))]) dX9_lefts_85 (Nat.le_of_ble_eq_true rfl) rfl ?_
            exact g9_lefts_87 (fun u0 u1 u2 u3 u4 u5 u6 u7 h => g9_lefts_124 (fun u0 u1 u2 u3 u4 u5 h => ih u0 u1 u2 u3 u4 u5 h) u0 u1 u2 u3 u4 u5 u6 u7 h) zfuel _ _ _ _ _ _ _ _ _ h
set_option maxRecDepth 20000 in
set_option maxHeartbeats 4000000 in
theorem k_X9_lefts {v1 : Int32} {M : zM} {r1 : Int32} {Mr : zM} (h : f9_lefts v1 M = some (r1, Mr)) : zK ztops yX9_lefts cX9_lefts 10 (some .int) 5 [.ref 39, .int v1] M (some (.int r1)) Mr := by
  refine zK_of pl_X9 (Nat.le_of_ble_eq_true rfl) ?_
  show zJ ztops RX9 cX9_lefts 10 _ 0 0 0 [(0, .ref 39), (1, .int v1)] [] M
  rw [f9_lefts] at h
  refine zg_aload_n 0 dX9_lefts_0 rfl rfl ?_
  refine zg_iconst dX9_lefts_1 zki_0 ?_
  refine zg_puti fp_X9_3 zt_39 rfl dX9_lefts_2 ?_
  refine zg_iload_n 1 dX9_lefts_5 rfl rfl ?_
  refine zg_i2l dX9_lefts_6 ?_
  refine zg_lconst dX9_lefts_7 (v := 0) rfl ?_
  refine zg_ldc2 kc_X9_276 dX9_lefts_8 ?_
  obtain ⟨x1, hx1, h⟩ := z_bind h
  refine zg_callS (st := []) (k_X9_in hx1) zY_X9_in ls_X9_104 rfl (zfit_m (by decide) (by decide)) (Nat.le_of_ble_eq_true rfl) dX9_lefts_11 rfl ?_
  refine zg_if_ne (tgt := 19) dX9_lefts_14 (by decide) (fun hc => ?_) (fun hc => ?_)
  · replace h := (if_neg hc).symm.trans h
    refine zg_aload_n 0 dX9_lefts_19 rfl rfl ?_
    refine zo_getr 41 1 rfl fl_X9_24 zt_39 rfl dX9_lefts_20 ?_
    obtain ⟨x2, hx2, h⟩ := z_bind h
    refine zg_callS (st := []) (k_X9_allOf zt_41 hx2) zY_X9_allOf ls_X9_356 rfl (zfit_m (by decide) (by decide)) (Nat.le_of_ble_eq_true rfl) dX9_lefts_23 rfl ?_
    refine zg_istore_n (ls' := [(0, .ref 39), (1, .int v1), (2, .int x2)]) dX9_lefts_26 rfl (Nat.le_of_ble_eq_true rfl) rfl ?_
    refine zg_iconst dX9_lefts_27 zki_0 ?_
    refine zg_istore_n (ls' := [(0, .ref 39), (1, .int v1), (2, .int x2), (3, .int (0 : Int32))]) dX9_lefts_28 rfl (Nat.le_of_ble_eq_true rfl) rfl ?_
    refine zg_iconst dX9_lefts_29 zki_0 ?_
    refine zg_istore (ls' := [(0, .ref 39), (1, .int v1), (2, .int x2), (3, .int (0 : Int32)), (4, .int (0 : Int32))]) dX9_lefts_30 (Nat.le_of_ble_eq_true rfl) rfl ?_
    refine zg_iconst dX9_lefts_32 zki_0 ?_
    refine zg_istore (ls' := [(0, .ref 39), (1, .int v1), (2, .int x2), (3, .int (0 : Int32)), (4, .int (0 : Int32)), (5, .int (0 : Int32))]) dX9_lefts_33 (Nat.le_of_ble_eq_true rfl) rfl ?_
    exact g9_lefts_35 zfuel _ _ _ _ _ _ h
  · replace h := (if_pos hc).symm.trans h
    refine zg_iconst dX9_lefts_17 zki_m1 ?_
    obtain ⟨rfl, rfl⟩ := z_ret2 h
    exact zg_iret dX9_lefts_18
set_option maxRecDepth 20000 in
set_option maxHeartbeats 4000000 in
theorem g9_canBeAlike_44 {T : List zN} {r1 : Int32} {M : zM} {k14 : Int32 → Int32 → Int32 → Int32 → Int32 → Int32 → Option Int32} (hk14 : ∀ (v0 : Int32) (v1 : Int32) (v2 : Int32) (v3 : Int32) (v4 : Int32) (v5 : Int32), k14 v0 v1 v2 v3 v4 v5 = some r1 → zJ T RX9 cX9_canBeAlike 6 (zBm T 3 (some .boolean) (some (.int r1)) M) 0 0 14 [(0, .int v0), (1, .int v1), (2, .int v2), (3, .int v3), (4, .int v4), (5, .int v5)] [] M) : ∀ (v0 : Int32) (v1 : Int32) (v2 : Int32) (v4 : Int32) (v5 : Int32) (s0 : Int32), f9_canBeAlike_44 k14 v0 v1 v2 v4 v5 s0 = some r1 → zJ T RX9 cX9_canBeAlike 6 (zBm T 3 (some .boolean) (some (.int r1)) M) 0 0 44 [(0, .int v0), (1, .int v1), (2, .int v2), (4, .int v4), (5, .int v5)] [.int s0] M := by
  intro v0 v1 v2 v4 v5 s0 h
  rw [f9_canBeAlike_44] at h
  refine zg_istore_n (ls' := [(0, .int v0), (1, .int v1), (2, .int v2), (3, .int s0), (4, .int v4), (5, .int v5)]) dX9_canBeAlike_44 rfl (Nat.le_of_ble_eq_true rfl) rfl ?_
  refine zg_iinc (ls' := [(0, .int v0), (1, .int v1), (2, .int v2), (3, .int s0), (4, .int v4), (5, .int (v5 + (1 : Int32)))]) 5 dX9_canBeAlike_45 rfl zki_1 (Nat.le_of_ble_eq_true rfl) rfl ?_
  refine zg_goto (tgt := 14) dX9_canBeAlike_48 (by decide) ?_
  exact hk14 _ _ _ _ _ _ h
set_option maxRecDepth 20000 in
set_option maxHeartbeats 4000000 in
theorem g9_canBeAlike_14 {T : List zN} {r1 : Int32} {M : zM} {k51 : Int32 → Int32 → Int32 → Int32 → Int32 → Option Int32} (hk51 : ∀ (v0 : Int32) (v1 : Int32) (v2 : Int32) (v3 : Int32) (v4 : Int32), k51 v0 v1 v2 v3 v4 = some r1 → zJ T RX9 cX9_canBeAlike 6 (zBm T 3 (some .boolean) (some (.int r1)) M) 0 0 51 [(0, .int v0), (1, .int v1), (2, .int v2), (3, .int v3), (4, .int v4)] [] M) : ∀ (n : Nat) (v0 : Int32) (v1 : Int32) (v2 : Int32) (v3 : Int32) (v4 : Int32) (v5 : Int32), f9_canBeAlike_14 k51 n v0 v1 v2 v3 v4 v5 = some r1 → zJ T RX9 cX9_canBeAlike 6 (zBm T 3 (some .boolean) (some (.int r1)) M) 0 0 14 [(0, .int v0), (1, .int v1), (2, .int v2), (3, .int v3), (4, .int v4), (5, .int v5)] [] M := by
  intro n
  induction n with
  | zero => intro v0 v1 v2 v3 v4 v5 h; cases h
  | succ n ih =>
    intro v0 v1 v2 v3 v4 v5 h
    rw [f9_canBeAlike_14] at h
    refine zg_iload 5 dX9_canBeAlike_14 rfl ?_
    refine zg_iload_n 2 dX9_canBeAlike_16 rfl rfl ?_
    refine zg_icmp_ge (tgt := 51) dX9_canBeAlike_17 (by decide) (fun hc => ?_) (fun hc => ?_)
    · replace h := (if_pos hc).symm.trans h
      refine zo_sub (ls' := [(0, .int v0), (1, .int v1), (2, .int v2), (3, .int v3), (4, .int v4)]) [0, 1, 2, 3, 4] rfl ?_
      exact hk51 _ _ _ _ _ h
    · replace h := (if_neg hc).symm.trans h
      refine zg_iload_n 3 dX9_canBeAlike_20 rfl rfl ?_
      refine zg_if_ne (tgt := 39) dX9_canBeAlike_21 (by decide) (fun hc => ?_) (fun hc => ?_)
      · replace h := (if_neg hc).symm.trans h
        refine zg_iconst dX9_canBeAlike_39 zki_1 ?_
        refine zg_goto (tgt := 44) dX9_canBeAlike_40 (by decide) ?_
        refine zo_sub (ls' := [(0, .int v0), (1, .int v1), (2, .int v2), (4, .int v4), (5, .int v5)]) [0, 1, 2, 4, 5] rfl ?_
        exact g9_canBeAlike_44 (fun u0 u1 u2 u3 u4 u5 h => ih u0 u1 u2 u3 u4 u5 h) _ _ _ _ _ _ h
      · replace h := (if_pos hc).symm.trans h
        refine zg_iload_n 0 dX9_canBeAlike_24 rfl rfl ?_
        refine zg_iload 4 dX9_canBeAlike_25 rfl ?_
        obtain ⟨x1, hx1, h⟩ := z_bind h
        refine zg_callS (st := []) (k_X9_without hx1) zY_X9_without ls_X9_136 rfl (zfit_m (by decide) (by decide)) (Nat.le_of_ble_eq_true rfl) dX9_canBeAlike_27 rfl ?_
        refine zg_iload_n 1 dX9_canBeAlike_30 rfl rfl ?_
        refine zg_iload 5 dX9_canBeAlike_31 rfl ?_
        obtain ⟨x2, hx2, h⟩ := z_bind h
        refine zg_callS (st := [.int x1]) (k_X9_without hx2) zY_X9_without ls_X9_136 rfl (zfit_m (by decide) (by decide)) (Nat.le_of_ble_eq_true rfl) dX9_canBeAlike_33 rfl ?_
        suffices hj : zJ T RX9 cX9_canBeAlike 6 (zBm T 3 (some .boolean) (some (.int r1)) M) 0 0 44 [(0, .int v0), (1, .int v1), (2, .int v2), (3, .int v3), (4, .int v4), (5, .int v5)] [.int (if x1 = x2 then (1 : Int32) else (0 : Int32))] M by
          refine zg_icmp_ne (tgt := 43) dX9_canBeAlike_36 (by decide) (fun hc => ?_) (fun hc => ?_)
          · rw [show (if x1 = x2 then (1 : Int32) else (0 : Int32)) = (0 : Int32) from if_neg hc] at hj
            refine zg_iconst dX9_canBeAlike_43 zki_0 ?_
            exact hj
          · rw [show (if x1 = x2 then (1 : Int32) else (0 : Int32)) = (1 : Int32) from if_pos hc] at hj
            refine zg_iconst dX9_canBeAlike_39 zki_1 ?_
            refine zg_goto (tgt := 44) dX9_canBeAlike_40 (by decide) ?_
            exact hj
        refine zo_sub (ls' := [(0, .int v0), (1, .int v1), (2, .int v2), (4, .int v4), (5, .int v5)]) [0, 1, 2, 4, 5] rfl ?_
        exact g9_canBeAlike_44 (fun u0 u1 u2 u3 u4 u5 h => ih u0 u1 u2 u3 u4 u5 h) _ _ _ _ _ _ h
set_option maxRecDepth 20000 in
set_option maxHeartbeats 4000000 in
theorem g9_canBeAlike_51 {T : List zN} {r1 : Int32} {M : zM} {k5 : Int32 → Int32 → Int32 → Int32 → Int32 → Option Int32} (hk5 : ∀ (v0 : Int32) (v1 : Int32) (v2 : Int32) (v3 : Int32) (v4 : Int32), k5 v0 v1 v2 v3 v4 = some r1 → zJ T RX9 cX9_canBeAlike 6 (zBm T 3 (some .boolean) (some (.int r1)) M) 0 0 5 [(0, .int v0), (1, .int v1), (2, .int v2), (3, .int v3), (4, .int v4)] [] M) : ∀ (v0 : Int32) (v1 : Int32) (v2 : Int32) (v3 : Int32) (v4 : Int32), f9_canBeAlike_51 k5 v0 v1 v2 v3 v4 = some r1 → zJ T RX9 cX9_canBeAlike 6 (zBm T 3 (some .boolean) (some (.int r1)) M) 0 0 51 [(0, .int v0), (1, .int v1), (2, .int v2), (3, .int v3), (4, .int v4)] [] M := by
  intro v0 v1 v2 v3 v4 h
  rw [f9_canBeAlike_51] at h
  refine zg_iinc (ls' := [(0, .int v0), (1, .int v1), (2, .int v2), (3, .int v3), (4, .int (v4 + (1 : Int32)))]) 4 dX9_canBeAlike_51 rfl zki_1 (Nat.le_of_ble_eq_true rfl) rfl ?_
  refine zg_goto (tgt := 5) dX9_canBeAlike_54 (by decide) ?_
  exact hk5 _ _ _ _ _ h
set_option maxRecDepth 20000 in
set_option maxHeartbeats 4000000 in
theorem g9_canBeAlike_5 {T : List zN} {r1 : Int32} {M : zM} : ∀ (n : Nat) (v0 : Int32) (v1 : Int32) (v2 : Int32) (v3 : Int32) (v4 : Int32), f9_canBeAlike_5 n v0 v1 v2 v3 v4 = some r1 → zJ T RX9 cX9_canBeAlike 6 (zBm T 3 (some .boolean) (some (.int r1)) M) 0 0 5 [(0, .int v0), (1, .int v1), (2, .int v2), (3, .int v3), (4, .int v4)] [] M := by
  intro n
  induction n with
  | zero => intro v0 v1 v2 v3 v4 h; cases h
  | succ n ih =>
    intro v0 v1 v2 v3 v4 h
    rw [f9_canBeAlike_5] at h
    refine zg_iload 4 dX9_canBeAlike_5 rfl ?_
    refine zg_iload_n 2 dX9_canBeAlike_7 rfl rfl ?_
    refine zg_icmp_ge (tgt := 57) dX9_canBeAlike_8 (by decide) (fun hc => ?_) (fun hc => ?_)
    · replace h := (if_pos hc).symm.trans h
      refine zg_iload_n 3 dX9_canBeAlike_57 rfl rfl ?_
      obtain ⟨x1, hx1, h⟩ := z_bind h
      obtain ⟨rfl, hzx1⟩ := zbl_ok hx1
      obtain rfl := z_ret1 h
      exact zg_zret hzx1 dX9_canBeAlike_58
    · replace h := (if_neg hc).symm.trans h
      refine zg_iconst dX9_canBeAlike_11 zki_0 ?_
      refine zg_istore (ls' := [(0, .int v0), (1, .int v1), (2, .int v2), (3, .int v3), (4, .int v4), (5, .int (0 : Int32))]) dX9_canBeAlike_12 (Nat.le_of_ble_eq_true rfl) rfl ?_
      exact g9_canBeAlike_14 (fun u0 u1 u2 u3 u4 h => g9_canBeAlike_51 (fun u0 u1 u2 u3 u4 h => ih u0 u1 u2 u3 u4 h) u0 u1 u2 u3 u4 h) zfuel _ _ _ _ _ _ h
set_option maxRecDepth 20000 in
set_option maxHeartbeats 4000000 in
theorem k_X9_canBeAlike {T : List zN} {v0 : Int32} {v1 : Int32} {v2 : Int32} {r1 : Int32} {M : zM} (h : f9_canBeAlike v0 v1 v2 = some r1) : zK T yX9_canBeAlike cX9_canBeAlike 6 (some .boolean) 3 [.int v0, .int v1, .int v2] M (some (.int r1)) M := by
  refine zK_of pl_X9 (Nat.le_of_ble_eq_true rfl) ?_
  show zJ T RX9 cX9_canBeAlike 6 _ 0 0 0 [(0, .int v0), (1, .int v1), (2, .int v2)] [] M
  rw [f9_canBeAlike] at h
  refine zg_iconst dX9_canBeAlike_0 zki_0 ?_
  refine zg_istore_n (ls' := [(0, .int v0), (1, .int v1), (2, .int v2), (3, .int (0 : Int32))]) dX9_canBeAlike_1 rfl (Nat.le_of_ble_eq_true rfl) rfl ?_
  refine zg_iconst dX9_canBeAlike_2 zki_0 ?_
  refine zg_istore (ls' := [(0, .int v0), (1, .int v1), (2, .int v2), (3, .int (0 : Int32)), (4, .int (0 : Int32))]) dX9_canBeAlike_3 (Nat.le_of_ble_eq_true rfl) rfl ?_
  exact g9_canBeAlike_5 zfuel _ _ _ _ _ h
