set_option maxRecDepth 20000 in
set_option maxHeartbeats 4000000 in
theorem g5_those_50 {T : List zN} {a3 : Nat} (h3 : zWv T a3) {r1 : Int32} {M : zM} {k6 : Int32 → Int32 → Int32 → Int32 → Int32 → zM → Option Int32} (hk6 : ∀ (v0 : Int32) (v1 : Int32) (v2 : Int32) (v4 : Int32) (v5 : Int32), k6 v0 v1 v2 v4 v5 M = some r1 → zJ T RX5 cX5_those 6 (zBm T 4 (some .int) (some (.int r1)) M) 0 0 6 [(0, .int v0), (1, .int v1), (2, .int v2), (3, .ref a3), (4, .int v4), (5, .int v5)] [] M) : ∀ (v0 : Int32) (v1 : Int32) (v2 : Int32) (v4 : Int32) (v5 : Int32), f5_those_50 a3 k6 v0 v1 v2 v4 v5 M = some r1 → zJ T RX5 cX5_those 6 (zBm T 4 (some .int) (some (.int r1)) M) 0 0 50 [(0, .int v0), (1, .int v1), (2, .int v2), (3, .ref a3), (4, .int v4), (5, .int v5)] [] M := by
  intro v0 v1 v2 v4 v5 h
  rw [f5_those_50] at h
  refine zg_iinc (ls' := [(0, .int v0), (1, .int v1), (2, .int v2), (3, .ref a3), (4, .int v4), (5, .int (v5 + (1 : Int32)))]) 5 dX5_those_50 rfl zki_1 (Nat.le_of_ble_eq_true rfl) rfl ?_
  refine zg_goto (tgt := 6) dX5_those_53 (by decide) ?_
  exact hk6 _ _ _ _ _ h
set_option maxRecDepth 20000 in
set_option maxHeartbeats 4000000 in
theorem g5_those_6 {T : List zN} {a3 : Nat} (h3 : zWv T a3) {r1 : Int32} {M : zM} : ∀ (n : Nat) (v0 : Int32) (v1 : Int32) (v2 : Int32) (v4 : Int32) (v5 : Int32), f5_those_6 a3 n v0 v1 v2 v4 v5 M = some r1 → zJ T RX5 cX5_those 6 (zBm T 4 (some .int) (some (.int r1)) M) 0 0 6 [(0, .int v0), (1, .int v1), (2, .int v2), (3, .ref a3), (4, .int v4), (5, .int v5)] [] M := by
  intro n
  induction n with
  | zero => intro v0 v1 v2 v4 v5 h; cases h
  | succ n ih =>
    intro v0 v1 v2 v4 v5 h
    rw [f5_those_6] at h
    refine zg_iload 5 dX5_those_6 rfl ?_
    refine zg_bipush dX5_those_8 zkb_12 ?_
    refine zg_icmp_ge (tgt := 56) dX5_those_10 (by decide) (fun hc => ?_) (fun hc => ?_)
    · replace h := (if_pos hc).symm.trans h
      refine zg_iload 4 dX5_those_56 rfl ?_
      cases h
      exact zg_iret dX5_those_58
    · replace h := (if_neg hc).symm.trans h
      refine zg_iload_n 0 dX5_those_13 rfl rfl ?_
      refine zg_iload 5 dX5_those_14 rfl ?_
      refine zg_iushr dX5_those_16 ?_
      refine zg_iconst dX5_those_17 zki_1 ?_
      refine zg_iand dX5_those_18 ?_
      refine zg_if_eq (tgt := 50) dX5_those_19 (by decide) (fun hc => ?_) (fun hc => ?_)
      · replace h := (if_pos hc).symm.trans h
        exact g5_those_50 h3 (fun u0 u1 u2 u3 u4 h => ih u0 u1 u2 u3 u4 h) _ _ _ _ _ h
      · replace h := (if_neg hc).symm.trans h
        refine zg_iload_n 1 dX5_those_22 rfl rfl ?_
        refine zg_iload_n 2 dX5_those_23 rfl rfl ?_
        refine zg_aload_n 3 dX5_those_24 rfl rfl ?_
        refine zg_iload 5 dX5_those_25 rfl ?_
        refine zg_bipush dX5_those_27 zkb_6 ?_
        refine zg_idiv (by decide) dX5_those_29 ?_
        refine zg_iload 5 dX5_those_30 rfl ?_
        refine zg_bipush dX5_those_32 zkb_6 ?_
        refine zg_irem (by decide) dX5_those_34 ?_
        obtain ⟨x1, hx1, h⟩ := z_bind h
        refine zg_callS (st := []) (k_X5_isSo h3 hx1) zY_X5_isSo ls_X5_22 rfl (zfit_m (by decide) (by decide)) (Nat.le_of_ble_eq_true rfl) dX5_those_35 rfl ?_
        refine zg_if_eq (tgt := 50) dX5_those_38 (by decide) (fun hc => ?_) (fun hc => ?_)
        · replace h := (if_pos hc).symm.trans h
          exact g5_those_50 h3 (fun u0 u1 u2 u3 u4 h => ih u0 u1 u2 u3 u4 h) _ _ _ _ _ h
        · replace h := (if_neg hc).symm.trans h
          refine zg_iload 4 dX5_those_41 rfl ?_
          refine zg_iconst dX5_those_43 zki_1 ?_
          refine zg_iload 5 dX5_those_44 rfl ?_
          refine zg_ishl dX5_those_46 ?_
          refine zg_ior dX5_those_47 ?_
          refine zg_istore (ls' := [(0, .int v0), (1, .int v1), (2, .int v2), (3, .ref a3), (4, .int (v4 ||| (zshl (1 : Int32) v5))), (5, .int v5)]) dX5_those_48 (Nat.le_of_ble_eq_true rfl) rfl ?_
          exact g5_those_50 h3 (fun u0 u1 u2 u3 u4 h => ih u0 u1 u2 u3 u4 h) _ _ _ _ _ h
set_option maxRecDepth 20000 in
set_option maxHeartbeats 4000000 in
theorem k_X5_those {T : List zN} {a3 : Nat} (h3 : zWv T a3) {v0 : Int32} {v1 : Int32} {v2 : Int32} {r1 : Int32} {M : zM} (h : f5_those v0 v1 v2 a3 M = some r1) : zK T yX5_those cX5_those 6 (some .int) 4 [.int v0, .int v1, .int v2, .ref a3] M (some (.int r1)) M := by
  refine zK_of pl_X5 (Nat.le_of_ble_eq_true rfl) ?_
  show zJ T RX5 cX5_those 6 _ 0 0 0 [(0, .int v0), (1, .int v1), (2, .int v2), (3, .ref a3)] [] M
  rw [f5_those] at h
  refine zg_iconst dX5_those_0 zki_0 ?_
  refine zg_istore (ls' := [(0, .int v0), (1, .int v1), (2, .int v2), (3, .ref a3), (4, .int (0 : Int32))]) dX5_those_1 (Nat.le_of_ble_eq_true rfl) rfl ?_
  refine zg_iconst dX5_those_3 zki_0 ?_
  refine zg_istore (ls' := [(0, .int v0), (1, .int v1), (2, .int v2), (3, .ref a3), (4, .int (0 : Int32)), (5, .int (0 : Int32))]) dX5_those_4 (Nat.le_of_ble_eq_true rfl) rfl ?_
  exact g5_those_6 h3 zfuel _ _ _ _ _ h
set_option maxRecDepth 20000 in
set_option maxHeartbeats 4000000 in
theorem g5_fitting_7 {a1 : Nat} (h1 : zWv ztops a1) {r1 : Int32} {M : zM} : ∀ (n : Nat) (v2 : Int32) (v3 : Int32), f5_fitting_7 a1 n v2 v3 M = some r1 → zJ ztops RX5 cX5_fitting 4 (zBm ztops 5 (some .int) (some (.int r1)) M) 0 0 7 [(0, .ref 30), (1, .ref a1), (2, .int v2), (3, .int v3)] [] M := by
  intro n
  induction n with
  | zero => intro v2 v3 h; cases h
  | succ n ih =>
    intro v2 v3 h
    rw [f5_fitting_7] at h
    refine zg_iload_n 3 dX5_fitting_7 rfl rfl ?_
    refine zg_aload_n 0 dX5_fitting_8 rfl rfl ?_
    refine zg_geti fl_X5_18 zt_30 rfl dX5_fitting_9 ?_
    refine zg_icmp_ge (tgt := 39) dX5_fitting_12 (by decide) (fun hc => ?_) (fun hc => ?_)
    · replace h := (if_pos hc).symm.trans h
      refine zg_iload_n 2 dX5_fitting_39 rfl rfl ?_
      cases h
      exact zg_iret dX5_fitting_40
    · replace h := (if_neg hc).symm.trans h
      refine zg_iload_n 2 dX5_fitting_15 rfl rfl ?_
      refine zg_aload_n 0 dX5_fitting_16 rfl rfl ?_
      refine zo_getr 31 1 rfl fl_X5_9 zt_30 rfl dX5_fitting_17 ?_
      refine zg_iload_n 3 dX5_fitting_20 rfl rfl ?_
      obtain ⟨x1, hx1, h⟩ := z_bind h
      refine zo_iald zt_31 hx1 dX5_fitting_21 ?_
      refine zg_aload_n 0 dX5_fitting_22 rfl rfl ?_
      refine zo_getr 32 2 rfl fl_X5_15 zt_30 rfl dX5_fitting_23 ?_
      refine zg_iload_n 3 dX5_fitting_26 rfl rfl ?_
      obtain ⟨x2, hx2, h⟩ := z_bind h
      refine zo_iald zt_32 hx2 dX5_fitting_27 ?_
      refine zg_aload_n 1 dX5_fitting_28 rfl rfl ?_
      obtain ⟨x3, hx3, h⟩ := z_bind h
      refine zg_callS (st := []) (k_X5_those h1 hx3) zY_X5_those ls_X5_49 rfl (zfit_m (by decide) (by decide)) (Nat.le_of_ble_eq_true rfl) dX5_fitting_29 rfl ?_
      refine zg_istore_n (ls' := [(0, .ref 30), (1, .ref a1), (2, .int x3), (3, .int v3)]) dX5_fitting_32 rfl (Nat.le_of_ble_eq_true rfl) rfl ?_
      refine zg_iinc (ls' := [(0, .ref 30), (1, .ref a1), (2, .int x3), (3, .int (v3 + (1 : Int32)))]) 3 dX5_fitting_33 rfl zki_1 (Nat.le_of_ble_eq_true rfl) rfl ?_
      refine zg_goto (tgt := 7) dX5_fitting_36 (by decide) ?_
      exact ih _ _ h
set_option maxRecDepth 20000 in
set_option maxHeartbeats 4000000 in
theorem k_X5_fitting {a1 : Nat} (h1 : zWv ztops a1) {r1 : Int32} {M : zM} (h : f5_fitting a1 M = some r1) : zK ztops yX5_fitting cX5_fitting 4 (some .int) 5 [.ref 30, .ref a1] M (some (.int r1)) M := by
  refine zK_of pl_X5 (Nat.le_of_ble_eq_true rfl) ?_
  show zJ ztops RX5 cX5_fitting 4 _ 0 0 0 [(0, .ref 30), (1, .ref a1)] [] M
  rw [f5_fitting] at h
  refine zg_aload_n 1 dX5_fitting_0 rfl rfl ?_
  obtain ⟨x1, hx1, h⟩ := z_bind h
  refine zg_callV (st := []) (k_X7_all h1 hx1) zY_X7_all lv_X5_45 rfl h1.1 rfl (zfit_m (by decide) (by decide)) (Nat.le_of_ble_eq_true rfl) dX5_fitting_1 rfl ?_
  refine zg_istore_n (ls' := [(0, .ref 30), (1, .ref a1), (2, .int x1)]) dX5_fitting_4 rfl (Nat.le_of_ble_eq_true rfl) rfl ?_
  refine zg_iconst dX5_fitting_5 zki_0 ?_
  refine zg_istore_n (ls' := [(0, .ref 30), (1, .ref a1), (2, .int x1), (3, .int (0 : Int32))]) dX5_fitting_6 rfl (Nat.le_of_ble_eq_true rfl) rfl ?_
  exact g5_fitting_7 h1 zfuel _ _ h
set_option maxRecDepth 20000 in
set_option maxHeartbeats 4000000 in
theorem k_X8_rule {M : zM} {r1 : Int32} {M1 : zM} (h : f8_rule M = some (r1, M1)) : zK ztops yX8_rule cX8_rule 2 (some .int) 5 [.ref 0] M (some (.int r1)) M1 := by
  refine zK_of pl_X8 (Nat.le_of_ble_eq_true rfl) ?_
  show zJ ztops RX8 cX8_rule 2 _ 0 0 0 [(0, .ref 0)] [] M
  rw [f8_rule] at h
  refine zg_aload_n 0 dX8_rule_0 rfl rfl ?_
  refine zo_getr 16 16 rfl fl_X8_43 zt_0 rfl dX8_rule_1 ?_
  refine zg_aload_n 0 dX8_rule_4 rfl rfl ?_
  refine zo_getr 7 7 rfl fl_X8_25 zt_0 rfl dX8_rule_5 ?_
  obtain ⟨p1, hp1, h⟩ := z_bind h
  refine zg_callV (st := []) (k_X4_readFrom zR_16 hp1) zY_X4_readFrom lv_X8_103 rfl zt_16 rfl (zfit_m (by decide) (by decide)) (Nat.le_of_ble_eq_true rfl) dX8_rule_8 rfl ?_
  refine zg_istore_n (ls' := [(0, .ref 0), (1, .int p1.1)]) dX8_rule_11 rfl (Nat.le_of_ble_eq_true rfl) rfl ?_
  refine zg_aload_n 0 dX8_rule_12 rfl rfl ?_
  refine zo_getr 7 7 rfl fl_X8_25 zt_0 rfl dX8_rule_13 ?_
  refine zg_iconst dX8_rule_16 zki_0 ?_
  refine zg_puti fp_X8_83 zt_7 rfl dX8_rule_17 ?_
  refine zg_iload_n 1 dX8_rule_20 rfl rfl ?_
  refine zg_iconst dX8_rule_21 zki_m1 ?_
  refine zg_icmp_eq (tgt := 29) dX8_rule_22 (by decide) (fun hc => ?_) (fun hc => ?_)
  · replace h := (if_pos hc).symm.trans h
    refine zg_aload_n 0 dX8_rule_29 rfl rfl ?_
    refine zo_getr 11 11 rfl fl_X8_39 zt_0 rfl dX8_rule_30 ?_
    refine zg_aload_n 0 dX8_rule_33 rfl rfl ?_
    refine zo_getr 16 16 rfl fl_X8_43 zt_0 rfl dX8_rule_34 ?_
    obtain ⟨M2, hM2, h⟩ := z_bind h
    refine zg_callV (st := []) (k_X4_become zR_11 zR_16 hM2) zY_X4_become lv_X8_104 rfl zt_11 rfl (zfit_m (by decide) (by decide)) (Nat.le_of_ble_eq_true rfl) dX8_rule_37 rfl ?_
    refine zg_iconst dX8_rule_40 zki_0 ?_
    cases h
    exact zg_iret dX8_rule_41
  · replace h := (if_neg hc).symm.trans h
    refine zg_iconst dX8_rule_25 zki_m1 ?_
    refine zg_iload_n 1 dX8_rule_26 rfl rfl ?_
    refine zg_isub dX8_rule_27 ?_
    cases h
    exact zg_iret dX8_rule_28
set_option maxRecDepth 20000 in
set_option maxHeartbeats 4000000 in
theorem k_X8_thread {v1 : Int32} {v2 : Int32} {v3 : Int32} {M : zM} {r1 : Int32} {M1 : zM} (h : f8_thread v1 v2 v3 M = some (r1, M1)) : zK ztops yX8_thread cX8_thread 4 (some .int) 5 [.ref 0, .int v1, .int v2, .int v3] M (some (.int r1)) M1 := by
  refine zK_of pl_X8 (Nat.le_of_ble_eq_true rfl) ?_
  show zJ ztops RX8 cX8_thread 4 _ 0 0 0 [(0, .ref 0), (1, .int v1), (2, .int v2), (3, .int v3)] [] M
  rw [f8_thread] at h
  refine zg_aload_n 0 dX8_thread_0 rfl rfl ?_
  refine zo_getr 1 1 rfl fl_X8_10 zt_0 rfl dX8_thread_1 ?_
  refine zg_iload_n 1 dX8_thread_4 rfl rfl ?_
  refine zg_iload_n 2 dX8_thread_5 rfl rfl ?_
  obtain ⟨x1, hx1, h⟩ := z_bind h
  refine zg_callV (st := []) (k_X7_has zW_1 hx1) zY_X7_has lv_X8_118 rfl zt_1 rfl (zfit_m (by decide) (by decide)) (Nat.le_of_ble_eq_true rfl) dX8_thread_6 rfl ?_
  refine zg_if_eq (tgt := 21) dX8_thread_9 (by decide) (fun hc => ?_) (fun hc => ?_)
  · replace h := (if_pos hc).symm.trans h
    cases h
  · replace h := (if_neg hc).symm.trans h
    refine zg_iload_n 3 dX8_thread_12 rfl rfl ?_
    refine zg_if_lt (tgt := 21) dX8_thread_13 (by decide) (fun hc => ?_) (fun hc => ?_)
    · replace h := (if_pos hc).symm.trans h
      cases h
    · replace h := (if_neg hc).symm.trans h
      refine zg_iload_n 3 dX8_thread_16 rfl rfl ?_
      refine zg_iconst dX8_thread_17 zki_4 ?_
      refine zg_icmp_le (tgt := 29) dX8_thread_18 (by decide) (fun hc => ?_) (fun hc => ?_)
      · replace h := (if_pos hc).symm.trans h
        refine zg_iload_n 3 dX8_thread_29 rfl rfl ?_
        by_cases hc1 : v3 = (0 : Int32)
        · replace h := (if_pos hc1).symm.trans h
          refine zg_tableEq (k := 0) (tgt := 60) dX8_thread_30 hc1 (by decide) (by decide) (by decide) (by decide) ?_
          refine zg_aload_n 0 dX8_thread_60 rfl rfl ?_
          refine zo_getr 1 1 rfl fl_X8_10 zt_0 rfl dX8_thread_61 ?_
          refine zg_iload_n 1 dX8_thread_64 rfl rfl ?_
          refine zg_iload_n 2 dX8_thread_65 rfl rfl ?_
          obtain ⟨x2, hx2, h⟩ := z_bind h
          refine zg_callV (st := []) (k_X7_cellsOf zW_1 hx2) zY_X7_cellsOf lv_X8_121 rfl zt_1 rfl (zfit_m (by decide) (by decide)) (Nat.le_of_ble_eq_true rfl) dX8_thread_66 rfl ?_
          cases h
          exact zg_iret dX8_thread_69
        replace h := (if_neg hc1).symm.trans h
        by_cases hc2 : v3 = (1 : Int32)
        · replace h := (if_pos hc2).symm.trans h
          refine zg_tableEq (k := 1) (tgt := 70) dX8_thread_30 hc2 (by decide) (by decide) (by decide) (by decide) ?_
          refine zg_aload_n 0 dX8_thread_70 rfl rfl ?_
          refine zo_getr 1 1 rfl fl_X8_10 zt_0 rfl dX8_thread_71 ?_
          refine zg_iload_n 1 dX8_thread_74 rfl rfl ?_
          refine zg_iload_n 2 dX8_thread_75 rfl rfl ?_
          obtain ⟨x2, hx2, h⟩ := z_bind h
          refine zg_callV (st := []) (k_X7_changesOf zW_1 hx2) zY_X7_changesOf lv_X8_124 rfl zt_1 rfl (zfit_m (by decide) (by decide)) (Nat.le_of_ble_eq_true rfl) dX8_thread_76 rfl ?_
          cases h
          exact zg_iret dX8_thread_79
        replace h := (if_neg hc2).symm.trans h
        by_cases hc3 : v3 = (2 : Int32)
        · replace h := (if_pos hc3).symm.trans h
          refine zg_tableEq (k := 2) (tgt := 80) dX8_thread_30 hc3 (by decide) (by decide) (by decide) (by decide) ?_
          refine zg_aload_n 0 dX8_thread_80 rfl rfl ?_
          refine zo_getr 1 1 rfl fl_X8_10 zt_0 rfl dX8_thread_81 ?_
          refine zg_iload_n 1 dX8_thread_84 rfl rfl ?_
          refine zg_iload_n 2 dX8_thread_85 rfl rfl ?_
          obtain ⟨x2, hx2, h⟩ := z_bind h
          refine zg_callV (st := []) (k_X7_likesOf zW_1 hx2) zY_X7_likesOf lv_X8_127 rfl zt_1 rfl (zfit_m (by decide) (by decide)) (Nat.le_of_ble_eq_true rfl) dX8_thread_86 rfl ?_
          cases h
          exact zg_iret dX8_thread_89
        replace h := (if_neg hc3).symm.trans h
        by_cases hc4 : v3 = (3 : Int32)
        · replace h := (if_pos hc4).symm.trans h
          refine zg_tableEq (k := 3) (tgt := 90) dX8_thread_30 hc4 (by decide) (by decide) (by decide) (by decide) ?_
          refine zg_aload_n 0 dX8_thread_90 rfl rfl ?_
          refine zo_getr 1 1 rfl fl_X8_10 zt_0 rfl dX8_thread_91 ?_
          refine zg_iload_n 1 dX8_thread_94 rfl rfl ?_
          refine zg_iload_n 2 dX8_thread_95 rfl rfl ?_
          obtain ⟨x2, hx2, h⟩ := z_bind h
          refine zg_callV (st := []) (k_X7_isLoose zW_1 hx2) zY_X7_isLoose lv_X8_130 rfl zt_1 rfl (zfit_m (by decide) (by decide)) (Nat.le_of_ble_eq_true rfl) dX8_thread_96 rfl ?_
          suffices hj : zJ ztops RX8 cX8_thread 4 (zBm ztops 5 (some .int) (some (.int r1)) M1) 0 0 107 [(0, .ref 0), (1, .int v1), (2, .int v2), (3, .int v3)] [.int (if x2 = 0 then (0 : Int32) else (1 : Int32))] M by
            refine zg_if_eq (tgt := 106) dX8_thread_99 (by decide) (fun hc => ?_) (fun hc => ?_)
            · rw [if_pos hc] at hj
              refine zg_iconst dX8_thread_106 zki_0 ?_
              exact hj
            · rw [if_neg hc] at hj
              refine zg_iconst dX8_thread_102 zki_1 ?_
              refine zg_goto (tgt := 107) dX8_thread_103 (by decide) ?_
              exact hj
          cases h
          exact zg_iret dX8_thread_107
        replace h := (if_neg hc4).symm.trans h
        refine zg_tableOut (tgt := 108) dX8_thread_30 (z_tout 4 (fun j hj => by match j, hj with | 0, _ => exact hc1 | 1, _ => exact hc2 | 2, _ => exact hc3 | 3, _ => exact hc4)) (by decide) ?_
        refine zg_bipush dX8_thread_108 zkb_100 ?_
        refine zg_aload_n 0 dX8_thread_110 rfl rfl ?_
        refine zo_getr 11 11 rfl fl_X8_39 zt_0 rfl dX8_thread_111 ?_
        refine zg_aload_n 0 dX8_thread_114 rfl rfl ?_
        refine zo_getr 1 1 rfl fl_X8_10 zt_0 rfl dX8_thread_115 ?_
        refine zg_iload_n 1 dX8_thread_118 rfl rfl ?_
        refine zg_iload_n 2 dX8_thread_119 rfl rfl ?_
        obtain ⟨p2, hp2, h⟩ := z_bind h
        refine zg_callV (st := [.int (100 : Int32)]) (k_X4_pullOf zR_11 zW_1 hp2) zY_X4_pullOf lv_X8_133 rfl zt_11 rfl (zfit_m (by decide) (by decide)) (Nat.le_of_ble_eq_true rfl) dX8_thread_120 rfl ?_
        refine zg_iadd dX8_thread_123 ?_
        cases h
        exact zg_iret dX8_thread_124
      · replace h := (if_neg hc).symm.trans h
        cases h
set_option maxRecDepth 20000 in
set_option maxHeartbeats 4000000 in
theorem k_X8_weaves {v1 : Int32} {v2 : Int32} {v3 : Int32} {M : zM} {r1 : Int32} {M1 : zM} (h : f8_weaves v1 v2 v3 M = some (r1, M1)) : zK ztops yX8_weaves cX8_weaves 7 (some .int) 4 [.ref 0, .int v1, .int v2, .int v3] M (some (.int r1)) M1 := by
  refine zK_of pl_X8 (Nat.le_of_ble_eq_true rfl) ?_
  show zJ ztops RX8 cX8_weaves 7 _ 0 0 0 [(0, .ref 0), (1, .int v1), (2, .int v2), (3, .int v3)] [] M
  rw [f8_weaves] at h
  refine zg_aload_n 0 dX8_weaves_0 rfl rfl ?_
  refine zo_getr 1 1 rfl fl_X8_10 zt_0 rfl dX8_weaves_1 ?_
  obtain ⟨x1, hx1, h⟩ := z_bind h
  refine zg_callV (st := []) (k_X7_shape zW_1 hx1) zY_X7_shape lv_X8_141 rfl zt_1 rfl (zfit_m (by decide) (by decide)) (Nat.le_of_ble_eq_true rfl) dX8_weaves_4 rfl ?_
  refine zg_lstore (ls' := [(0, .ref 0), (1, .int v1), (2, .int v2), (3, .int v3), (4, .long x1)]) dX8_weaves_7 (Nat.le_of_ble_eq_true rfl) rfl ?_
  refine zg_aload_n 0 dX8_weaves_9 rfl rfl ?_
  refine zo_getr 1 1 rfl fl_X8_10 zt_0 rfl dX8_weaves_10 ?_
  refine zg_iload_n 1 dX8_weaves_13 rfl rfl ?_
  refine zg_iload_n 2 dX8_weaves_14 rfl rfl ?_
  refine zg_iload_n 3 dX8_weaves_15 rfl rfl ?_
  obtain ⟨p2, hp2, h⟩ := z_bind h
  refine zg_callV (st := []) (k_X7_weaveIn zW_1 hp2) zY_X7_weaveIn lv_X8_156 rfl zt_1 rfl (zfit_m (by decide) (by decide)) (Nat.le_of_ble_eq_true rfl) dX8_weaves_16 rfl ?_
  refine zg_istore (ls' := [(0, .ref 0), (1, .int v1), (2, .int v2), (3, .int v3), (4, .long x1), (6, .int p2.1)]) dX8_weaves_19 (Nat.le_of_ble_eq_true rfl) rfl ?_
  refine zg_aload_n 0 dX8_weaves_21 rfl rfl ?_
  refine zg_iload 5 dX8_weaves_22 rfl ?_
  refine zg_lload 4 dX8_weaves_24 rfl ?_
  refine zg_aload_n 0 dX8_weaves_26 rfl rfl ?_
  refine zo_getr 1 1 rfl fl_X8_10 zt_0 rfl dX8_weaves_27 ?_
  refine zg_geti fl_X8_145 zt_1 rfl dX8_weaves_30 ?_
  obtain ⟨p3, hp3, h⟩ := z_bind h
  refine zg_callV (st := []) (k_X8_noted hp3) zY_X8_noted lv_X8_159 rfl zt_0 rfl (zfit_m (by decide) (by decide)) (Nat.le_of_ble_eq_true rfl) dX8_weaves_33 rfl ?_
  cases h
  exact zg_iret dX8_weaves_36
set_option maxRecDepth 20000 in
set_option maxHeartbeats 4000000 in
theorem k_X8_draws {v1 : Int32} {v2 : Int32} {M : zM} {r1 : Int32} {M1 : zM} (h : f8_draws v1 v2 M = some (r1, M1)) : zK ztops yX8_draws cX8_draws 6 (some .int) 4 [.ref 0, .int v1, .int v2] M (some (.int r1)) M1 := by
  refine zK_of pl_X8 (Nat.le_of_ble_eq_true rfl) ?_
  show zJ ztops RX8 cX8_draws 6 _ 0 0 0 [(0, .ref 0), (1, .int v1), (2, .int v2)] [] M
  rw [f8_draws] at h
  refine zg_aload_n 0 dX8_draws_0 rfl rfl ?_
  refine zo_getr 1 1 rfl fl_X8_10 zt_0 rfl dX8_draws_1 ?_
  obtain ⟨x1, hx1, h⟩ := z_bind h
  refine zg_callV (st := []) (k_X7_shape zW_1 hx1) zY_X7_shape lv_X8_141 rfl zt_1 rfl (zfit_m (by decide) (by decide)) (Nat.le_of_ble_eq_true rfl) dX8_draws_4 rfl ?_
  refine zg_lstore_n (ls' := [(0, .ref 0), (1, .int v1), (2, .int v2), (3, .long x1)]) dX8_draws_7 rfl (Nat.le_of_ble_eq_true rfl) rfl ?_
  refine zg_aload_n 0 dX8_draws_8 rfl rfl ?_
  refine zo_getr 1 1 rfl fl_X8_10 zt_0 rfl dX8_draws_9 ?_
  refine zg_iload_n 1 dX8_draws_12 rfl rfl ?_
  refine zg_iload_n 2 dX8_draws_13 rfl rfl ?_
  obtain ⟨p2, hp2, h⟩ := z_bind h
  refine zg_callV (st := []) (k_X7_drawOut zW_1 hp2) zY_X7_drawOut lv_X8_163 rfl zt_1 rfl (zfit_m (by decide) (by decide)) (Nat.le_of_ble_eq_true rfl) dX8_draws_14 rfl ?_
  refine zg_istore (ls' := [(0, .ref 0), (1, .int v1), (2, .int v2), (3, .long x1), (5, .int p2.1)]) dX8_draws_17 (Nat.le_of_ble_eq_true rfl) rfl ?_
  refine zg_aload_n 0 dX8_draws_19 rfl rfl ?_
  refine zg_iload 4 dX8_draws_20 rfl ?_
  refine zg_lload_n 3 dX8_draws_22 rfl rfl ?_
  refine zg_aload_n 0 dX8_draws_23 rfl rfl ?_
  refine zo_getr 1 1 rfl fl_X8_10 zt_0 rfl dX8_draws_24 ?_
  refine zg_geti fl_X8_145 zt_1 rfl dX8_draws_27 ?_
  obtain ⟨p3, hp3, h⟩ := z_bind h
  refine zg_callV (st := []) (k_X8_noted hp3) zY_X8_noted lv_X8_159 rfl zt_0 rfl (zfit_m (by decide) (by decide)) (Nat.le_of_ble_eq_true rfl) dX8_draws_30 rfl ?_
  cases h
  exact zg_iret dX8_draws_33
set_option maxRecDepth 20000 in
set_option maxHeartbeats 4000000 in
theorem k_X8_flips {v1 : Int32} {v2 : Int32} {M : zM} {r1 : Int32} {M1 : zM} (h : f8_flips v1 v2 M = some (r1, M1)) : zK ztops yX8_flips cX8_flips 6 (some .int) 5 [.ref 0, .int v1, .int v2] M (some (.int r1)) M1 := by
  refine zK_of pl_X8 (Nat.le_of_ble_eq_true rfl) ?_
  show zJ ztops RX8 cX8_flips 6 _ 0 0 0 [(0, .ref 0), (1, .int v1), (2, .int v2)] [] M
  rw [f8_flips] at h
  refine zg_aload_n 0 dX8_flips_0 rfl rfl ?_
  refine zo_getr 1 1 rfl fl_X8_10 zt_0 rfl dX8_flips_1 ?_
  obtain ⟨x1, hx1, h⟩ := z_bind h
  refine zg_callV (st := []) (k_X7_shape zW_1 hx1) zY_X7_shape lv_X8_141 rfl zt_1 rfl (zfit_m (by decide) (by decide)) (Nat.le_of_ble_eq_true rfl) dX8_flips_4 rfl ?_
  refine zg_lstore_n (ls' := [(0, .ref 0), (1, .int v1), (2, .int v2), (3, .long x1)]) dX8_flips_7 rfl (Nat.le_of_ble_eq_true rfl) rfl ?_
  refine zg_aload_n 0 dX8_flips_8 rfl rfl ?_
  refine zo_getr 1 1 rfl fl_X8_10 zt_0 rfl dX8_flips_9 ?_
  refine zg_iload_n 1 dX8_flips_12 rfl rfl ?_
  refine zg_iload_n 2 dX8_flips_13 rfl rfl ?_
  obtain ⟨p2, hp2, h⟩ := z_bind h
  refine zg_callV (st := []) (k_X7_turnCell zW_1 hp2) zY_X7_turnCell lv_X8_166 rfl zt_1 rfl (zfit_m (by decide) (by decide)) (Nat.le_of_ble_eq_true rfl) dX8_flips_14 rfl ?_
  refine zg_istore (ls' := [(0, .ref 0), (1, .int v1), (2, .int v2), (3, .long x1), (5, .int p2.1)]) dX8_flips_17 (Nat.le_of_ble_eq_true rfl) rfl ?_
  refine zg_aload_n 0 dX8_flips_19 rfl rfl ?_
  refine zg_iload 4 dX8_flips_20 rfl ?_
  refine zg_lload_n 3 dX8_flips_22 rfl rfl ?_
  refine zg_aload_n 0 dX8_flips_23 rfl rfl ?_
  refine zo_getr 1 1 rfl fl_X8_10 zt_0 rfl dX8_flips_24 ?_
  refine zg_geti fl_X8_145 zt_1 rfl dX8_flips_27 ?_
  obtain ⟨p3, hp3, h⟩ := z_bind h
  refine zg_callV (st := []) (k_X8_noted hp3) zY_X8_noted lv_X8_159 rfl zt_0 rfl (zfit_m (by decide) (by decide)) (Nat.le_of_ble_eq_true rfl) dX8_flips_30 rfl ?_
  cases h
  exact zg_iret dX8_flips_33
set_option maxRecDepth 20000 in
set_option maxHeartbeats 4000000 in
theorem k_X8_mirrors {v1 : Int32} {M : zM} {r1 : Int32} {M1 : zM} (h : f8_mirrors v1 M = some (r1, M1)) : zK ztops yX8_mirrors cX8_mirrors 5 (some .int) 4 [.ref 0, .int v1] M (some (.int r1)) M1 := by
  refine zK_of pl_X8 (Nat.le_of_ble_eq_true rfl) ?_
  show zJ ztops RX8 cX8_mirrors 5 _ 0 0 0 [(0, .ref 0), (1, .int v1)] [] M
  rw [f8_mirrors] at h
  refine zg_aload_n 0 dX8_mirrors_0 rfl rfl ?_
  refine zo_getr 1 1 rfl fl_X8_10 zt_0 rfl dX8_mirrors_1 ?_
  obtain ⟨x1, hx1, h⟩ := z_bind h
  refine zg_callV (st := []) (k_X7_shape zW_1 hx1) zY_X7_shape lv_X8_141 rfl zt_1 rfl (zfit_m (by decide) (by decide)) (Nat.le_of_ble_eq_true rfl) dX8_mirrors_4 rfl ?_
  refine zg_lstore_n (ls' := [(0, .ref 0), (1, .int v1), (2, .long x1)]) dX8_mirrors_7 rfl (Nat.le_of_ble_eq_true rfl) rfl ?_
  refine zg_aload_n 0 dX8_mirrors_8 rfl rfl ?_
  refine zo_getr 1 1 rfl fl_X8_10 zt_0 rfl dX8_mirrors_9 ?_
  refine zg_iload_n 1 dX8_mirrors_12 rfl rfl ?_
  obtain ⟨p2, hp2, h⟩ := z_bind h
  refine zg_callV (st := []) (k_X7_turnRound zW_1 hp2) zY_X7_turnRound lv_X8_169 rfl zt_1 rfl (zfit_m (by decide) (by decide)) (Nat.le_of_ble_eq_true rfl) dX8_mirrors_13 rfl ?_
  refine zg_istore (ls' := [(0, .ref 0), (1, .int v1), (2, .long x1), (4, .int p2.1)]) dX8_mirrors_16 (Nat.le_of_ble_eq_true rfl) rfl ?_
  refine zg_aload_n 0 dX8_mirrors_18 rfl rfl ?_
  refine zg_iload 3 dX8_mirrors_19 rfl ?_
  refine zg_lload_n 2 dX8_mirrors_21 rfl rfl ?_
  refine zg_aload_n 0 dX8_mirrors_22 rfl rfl ?_
  refine zo_getr 1 1 rfl fl_X8_10 zt_0 rfl dX8_mirrors_23 ?_
  refine zg_geti fl_X8_145 zt_1 rfl dX8_mirrors_26 ?_
  obtain ⟨p3, hp3, h⟩ := z_bind h
  refine zg_callV (st := []) (k_X8_noted hp3) zY_X8_noted lv_X8_159 rfl zt_0 rfl (zfit_m (by decide) (by decide)) (Nat.le_of_ble_eq_true rfl) dX8_mirrors_29 rfl ?_
  cases h
  exact zg_iret dX8_mirrors_32
set_option maxRecDepth 20000 in
set_option maxHeartbeats 4000000 in
theorem k_X8_next {M : zM} {r1 : Int32} {M1 : zM} (h : f8_next M = some (r1, M1)) : zK ztops yX8_next cX8_next 2 (some .int) 6 [.ref 0] M (some (.int r1)) M1 := by
  refine zK_of pl_X8 (Nat.le_of_ble_eq_true rfl) ?_
  show zJ ztops RX8 cX8_next 2 _ 0 0 0 [(0, .ref 0)] [] M
  rw [f8_next] at h
  refine zg_aload_n 0 dX8_next_0 rfl rfl ?_
  refine zo_getr 11 11 rfl fl_X8_39 zt_0 rfl dX8_next_1 ?_
  refine zg_aload_n 0 dX8_next_4 rfl rfl ?_
  refine zo_getr 1 1 rfl fl_X8_10 zt_0 rfl dX8_next_5 ?_
  obtain ⟨p1, hp1, h⟩ := z_bind h
  refine zg_callV (st := []) (k_X4_goesOf zR_11 zW_1 hp1) zY_X4_goesOf lv_X8_203 rfl zt_11 rfl (zfit_m (by decide) (by decide)) (Nat.le_of_ble_eq_true rfl) dX8_next_8 rfl ?_
  refine zg_istore_n (ls' := [(0, .ref 0), (1, .int p1.1)]) dX8_next_11 rfl (Nat.le_of_ble_eq_true rfl) rfl ?_
  refine zg_iload_n 1 dX8_next_12 rfl rfl ?_
  refine zg_if_ge (tgt := 19) dX8_next_13 (by decide) (fun hc => ?_) (fun hc => ?_)
  · replace h := (if_pos hc).symm.trans h
    refine zg_aload_n 0 dX8_next_19 rfl rfl ?_
    refine zo_getr 9 9 rfl fl_X8_32 zt_0 rfl dX8_next_20 ?_
    refine zg_bipush dX8_next_23 zkb_100 ?_
    refine zg_aload_n 0 dX8_next_25 rfl rfl ?_
    refine zo_getr 11 11 rfl fl_X8_39 zt_0 rfl dX8_next_26 ?_
    refine zg_aload_n 0 dX8_next_29 rfl rfl ?_
    refine zo_getr 1 1 rfl fl_X8_10 zt_0 rfl dX8_next_30 ?_
    refine zg_iload_n 1 dX8_next_33 rfl rfl ?_
    refine zg_bipush dX8_next_34 zkb_6 ?_
    refine zg_idiv (by decide) dX8_next_36 ?_
    refine zg_iload_n 1 dX8_next_37 rfl rfl ?_
    refine zg_bipush dX8_next_38 zkb_6 ?_
    refine zg_irem (by decide) dX8_next_40 ?_
    obtain ⟨p2, hp2, h⟩ := z_bind h
    refine zg_callV (st := [.int (100 : Int32), .ref 9]) (k_X4_pullOf zR_11 zW_1 hp2) zY_X4_pullOf lv_X8_133 rfl zt_11 rfl (zfit_m (by decide) (by decide)) (Nat.le_of_ble_eq_true rfl) dX8_next_41 rfl ?_
    refine zg_iadd dX8_next_44 ?_
    refine zg_i2l dX8_next_45 ?_
    obtain ⟨M3, hM3, h⟩ := z_bind h
    refine zg_callV (st := []) (k_X3_tell hM3) zY_X3_tell lv_X8_207 rfl zt_9 rfl (zfit_m (by decide) (by decide)) (Nat.le_of_ble_eq_true rfl) dX8_next_46 rfl ?_
    refine zg_iload_n 1 dX8_next_49 rfl rfl ?_
    cases h
    exact zg_iret dX8_next_50
  · replace h := (if_neg hc).symm.trans h
    refine zg_bipush dX8_next_16 zkb_m2 ?_
    cases h
    exact zg_iret dX8_next_18
set_option maxRecDepth 20000 in
set_option maxHeartbeats 4000000 in
theorem g8_later_79 {r1 : Int32} {M1 : zM} : ∀ (n : Nat) (v2 : Int32) (M : zM), f8_later_79 n v2 M = some (r1, M1) → zJ ztops RX8 cX8_later 3 (zBm ztops 6 (some .int) (some (.int r1)) M1) 0 0 79 [(0, .ref 0), (2, .int v2)] [] M := by
  intro n
  induction n with
  | zero => intro v2 M h; cases h
  | succ n ih =>
    intro v2 M h
    rw [f8_later_79] at h
    refine zg_iload_n 1 dX8_later_79 rfl rfl ?_
    refine zg_aload_n 0 dX8_later_80 rfl rfl ?_
    refine zo_getr 3 3 rfl fl_X8_16 zt_0 rfl dX8_later_81 ?_
    refine zg_geti fl_X8_100 zt_3 rfl dX8_later_84 ?_
    refine zg_icmp_ge (tgt := 113) dX8_later_87 (by decide) (fun hc => ?_) (fun hc => ?_)
    · replace h := (if_pos hc).symm.trans h
      refine zg_aload_n 0 dX8_later_113 rfl rfl ?_
      refine zo_getr 3 3 rfl fl_X8_16 zt_0 rfl dX8_later_114 ?_
      obtain ⟨x1, hx1, h⟩ := z_bind h
      refine zg_callV (st := []) (k_X7_threads zW_3 hx1) zY_X7_threads lv_X8_191 rfl zt_3 rfl (zfit_m (by decide) (by decide)) (Nat.le_of_ble_eq_true rfl) dX8_later_117 rfl ?_
      cases h
      exact zg_iret dX8_later_120
    · replace h := (if_neg hc).symm.trans h
      refine zg_aload_n 0 dX8_later_90 rfl rfl ?_
      refine zo_getr 9 9 rfl fl_X8_32 zt_0 rfl dX8_later_91 ?_
      refine zg_aload_n 0 dX8_later_94 rfl rfl ?_
      refine zo_getr 3 3 rfl fl_X8_16 zt_0 rfl dX8_later_95 ?_
      refine zg_iconst dX8_later_98 zki_0 ?_
      refine zg_iload_n 1 dX8_later_99 rfl rfl ?_
      obtain ⟨x1, hx1, h⟩ := z_bind h
      refine zg_callV (st := [.ref 9]) (k_X7_cellsOf zW_3 hx1) zY_X7_cellsOf lv_X8_121 rfl zt_3 rfl (zfit_m (by decide) (by decide)) (Nat.le_of_ble_eq_true rfl) dX8_later_100 rfl ?_
      refine zg_i2l dX8_later_103 ?_
      obtain ⟨M2, hM2, h⟩ := z_bind h
      refine zg_callV (st := []) (k_X3_add hM2) zY_X3_add lv_X8_216 rfl zt_9 rfl (zfit_m (by decide) (by decide)) (Nat.le_of_ble_eq_true rfl) dX8_later_104 rfl ?_
      refine zg_iinc (ls' := [(0, .ref 0), (2, .int (v2 + (1 : Int32)))]) 1 dX8_later_107 rfl zki_1 (Nat.le_of_ble_eq_true rfl) rfl ?_
      refine zg_goto (tgt := 79) dX8_later_110 (by decide) ?_
      exact ih _ _ h
set_option maxRecDepth 20000 in
set_option maxHeartbeats 4000000 in
theorem g8_later_25 {r1 : Int32} {M1 : zM} : ∀ (n : Nat) (v1 : Int32) (v2 : Int32) (M : zM), f8_later_25 n v1 v2 M = some (r1, M1) → zJ ztops RX8 cX8_later 3 (zBm ztops 6 (some .int) (some (.int r1)) M1) 0 0 25 [(0, .ref 0), (1, .int v1), (2, .int v2)] [] M := by
  intro n
  induction n with
  | zero => intro v1 v2 M h; cases h
  | succ n ih =>
    intro v1 v2 M h
    rw [f8_later_25] at h
    refine zg_iload_n 2 dX8_later_25 rfl rfl ?_
    refine zg_iload_n 1 dX8_later_26 rfl rfl ?_
    refine zg_icmp_ge (tgt := 54) dX8_later_27 (by decide) (fun hc => ?_) (fun hc => ?_)
    · replace h := (if_pos hc).symm.trans h
      refine zg_aload_n 0 dX8_later_54 rfl rfl ?_
      refine zo_getr 9 9 rfl fl_X8_32 zt_0 rfl dX8_later_55 ?_
      refine zg_aload_n 0 dX8_later_58 rfl rfl ?_
      refine zo_getr 3 3 rfl fl_X8_16 zt_0 rfl dX8_later_59 ?_
      refine zg_geti fl_X8_100 zt_3 rfl dX8_later_62 ?_
      refine zg_i2l dX8_later_65 ?_
      refine zg_aload_n 0 dX8_later_66 rfl rfl ?_
      refine zo_getr 3 3 rfl fl_X8_16 zt_0 rfl dX8_later_67 ?_
      refine zg_geti fl_X8_213 zt_3 rfl dX8_later_70 ?_
      refine zg_i2l dX8_later_73 ?_
      obtain ⟨M1, hM1, h⟩ := z_bind h
      refine zg_callV (st := []) (k_X3_tell_ hM1) zY_X3_tell_ lv_X8_194 rfl zt_9 rfl (zfit_m (by decide) (by decide)) (Nat.le_of_ble_eq_true rfl) dX8_later_74 rfl ?_
      refine zg_iconst dX8_later_77 zki_0 ?_
      refine zg_istore_n (ls' := [(0, .ref 0), (1, .int v1), (2, .int (0 : Int32))]) dX8_later_78 rfl (Nat.le_of_ble_eq_true rfl) rfl ?_
      refine zo_sub (ls' := [(0, .ref 0), (2, .int (0 : Int32))]) [0, 2] rfl ?_
      exact g8_later_79 zfuel _ _ h
    · replace h := (if_neg hc).symm.trans h
      refine zg_aload_n 0 dX8_later_30 rfl rfl ?_
      refine zo_getr 3 3 rfl fl_X8_16 zt_0 rfl dX8_later_31 ?_
      refine zg_aload_n 0 dX8_later_34 rfl rfl ?_
      refine zo_getr 11 11 rfl fl_X8_39 zt_0 rfl dX8_later_35 ?_
      refine zg_aload_n 0 dX8_later_38 rfl rfl ?_
      refine zo_getr 3 3 rfl fl_X8_16 zt_0 rfl dX8_later_39 ?_
      obtain ⟨p1, hp1, h⟩ := z_bind h
      refine zg_callV (st := [.ref 3]) (k_X4_goesOf zR_11 zW_3 hp1) zY_X4_goesOf lv_X8_203 rfl zt_11 rfl (zfit_m (by decide) (by decide)) (Nat.le_of_ble_eq_true rfl) dX8_later_42 rfl ?_
      obtain ⟨M2, hM2, h⟩ := z_bind h
      refine zg_callV (st := []) (k_X7_passNight zW_3 hM2) zY_X7_passNight lv_X8_210 rfl zt_3 rfl (zfit_m (by decide) (by decide)) (Nat.le_of_ble_eq_true rfl) dX8_later_45 rfl ?_
      refine zg_iinc (ls' := [(0, .ref 0), (1, .int v1), (2, .int (v2 + (1 : Int32)))]) 2 dX8_later_48 rfl zki_1 (Nat.le_of_ble_eq_true rfl) rfl ?_
      refine zg_goto (tgt := 25) dX8_later_51 (by decide) ?_
      exact ih _ _ _ h
set_option maxRecDepth 20000 in
set_option maxHeartbeats 4000000 in
theorem k_X8_later {v1 : Int32} {M : zM} {r1 : Int32} {M1 : zM} (h : f8_later v1 M = some (r1, M1)) : zK ztops yX8_later cX8_later 3 (some .int) 6 [.ref 0, .int v1] M (some (.int r1)) M1 := by
  refine zK_of pl_X8 (Nat.le_of_ble_eq_true rfl) ?_
  show zJ ztops RX8 cX8_later 3 _ 0 0 0 [(0, .ref 0), (1, .int v1)] [] M
  rw [f8_later] at h
  refine zg_iload_n 1 dX8_later_0 rfl rfl ?_
  refine zg_if_lt (tgt := 10) dX8_later_1 (by decide) (fun hc => ?_) (fun hc => ?_)
  · replace h := (if_pos hc).symm.trans h
    refine zg_iconst dX8_later_10 zki_m1 ?_
    cases h
    exact zg_iret dX8_later_11
  · replace h := (if_neg hc).symm.trans h
    refine zg_iload_n 1 dX8_later_4 rfl rfl ?_
    refine zg_bipush dX8_later_5 zkb_60 ?_
    refine zg_icmp_le (tgt := 12) dX8_later_7 (by decide) (fun hc => ?_) (fun hc => ?_)
    · replace h := (if_pos hc).symm.trans h
      refine zg_aload_n 0 dX8_later_12 rfl rfl ?_
      refine zo_getr 3 3 rfl fl_X8_16 zt_0 rfl dX8_later_13 ?_
      refine zg_aload_n 0 dX8_later_16 rfl rfl ?_
      refine zo_getr 1 1 rfl fl_X8_10 zt_0 rfl dX8_later_17 ?_
      obtain ⟨M1, hM1, h⟩ := z_bind h
      refine zg_callV (st := []) (k_X7_become zW_3 zW_1 hM1) zY_X7_become lv_X8_93 rfl zt_3 rfl (zfit_m (by decide) (by decide)) (Nat.le_of_ble_eq_true rfl) dX8_later_20 rfl ?_
      refine zg_iconst dX8_later_23 zki_0 ?_
      refine zg_istore_n (ls' := [(0, .ref 0), (1, .int v1), (2, .int (0 : Int32))]) dX8_later_24 rfl (Nat.le_of_ble_eq_true rfl) rfl ?_
      exact g8_later_25 zfuel _ _ _ h
    · replace h := (if_neg hc).symm.trans h
      refine zg_iconst dX8_later_10 zki_m1 ?_
      cases h
      exact zg_iret dX8_later_11
set_option maxRecDepth 20000 in
set_option maxHeartbeats 4000000 in
theorem g8_falls_13 {r1 : Int32} {M1 : zM} : ∀ (n : Nat) (v1 : Int32) (M : zM), f8_falls_13 n v1 M = some (r1, M1) → zJ ztops RX8 cX8_falls 2 (zBm ztops 6 (some .int) (some (.int r1)) M1) 0 0 13 [(0, .ref 0), (1, .int v1)] [] M := by
  intro n
  induction n with
  | zero => intro v1 M h; cases h
  | succ n ih =>
    intro v1 M h
    rw [f8_falls_13] at h
    refine zg_iload_n 1 dX8_falls_13 rfl rfl ?_
    refine zg_bipush dX8_falls_14 zkb_60 ?_
    refine zg_icmp_gt (tgt := 74) dX8_falls_16 (by decide) (fun hc => ?_) (fun hc => ?_)
    · replace h := (if_pos hc).symm.trans h
      refine zg_bipush dX8_falls_74 zkb_m2 ?_
      cases h
      exact zg_iret dX8_falls_76
    · replace h := (if_neg hc).symm.trans h
      refine zg_aload_n 0 dX8_falls_19 rfl rfl ?_
      refine zo_getr 21 21 rfl fl_X8_49 zt_0 rfl dX8_falls_20 ?_
      refine zg_aload_n 0 dX8_falls_23 rfl rfl ?_
      refine zo_getr 3 3 rfl fl_X8_16 zt_0 rfl dX8_falls_24 ?_
      obtain ⟨p1, hp1, h⟩ := z_bind h
      refine zg_callV (st := []) (k_X0_isTogether zW_3 hp1) zY_X0_isTogether lv_X8_218 rfl zt_21 rfl (zfit_m (by decide) (by decide)) (Nat.le_of_ble_eq_true rfl) dX8_falls_27 rfl ?_
      refine zg_if_ne (tgt := 50) dX8_falls_30 (by decide) (fun hc => ?_) (fun hc => ?_)
      · replace h := (if_neg hc).symm.trans h
        refine zg_aload_n 0 dX8_falls_50 rfl rfl ?_
        refine zo_getr 3 3 rfl fl_X8_16 zt_0 rfl dX8_falls_51 ?_
        refine zg_aload_n 0 dX8_falls_54 rfl rfl ?_
        refine zo_getr 11 11 rfl fl_X8_39 zt_0 rfl dX8_falls_55 ?_
        refine zg_aload_n 0 dX8_falls_58 rfl rfl ?_
        refine zo_getr 3 3 rfl fl_X8_16 zt_0 rfl dX8_falls_59 ?_
        obtain ⟨p2, hp2, h⟩ := z_bind h
        refine zg_callV (st := [.ref 3]) (k_X4_goesOf zR_11 zW_3 hp2) zY_X4_goesOf lv_X8_203 rfl zt_11 rfl (zfit_m (by decide) (by decide)) (Nat.le_of_ble_eq_true rfl) dX8_falls_62 rfl ?_
        obtain ⟨M3, hM3, h⟩ := z_bind h
        refine zg_callV (st := []) (k_X7_passNight zW_3 hM3) zY_X7_passNight lv_X8_210 rfl zt_3 rfl (zfit_m (by decide) (by decide)) (Nat.le_of_ble_eq_true rfl) dX8_falls_65 rfl ?_
        refine zg_iinc (ls' := [(0, .ref 0), (1, .int (v1 + (1 : Int32)))]) 1 dX8_falls_68 rfl zki_1 (Nat.le_of_ble_eq_true rfl) rfl ?_
        refine zg_goto (tgt := 13) dX8_falls_71 (by decide) ?_
        exact ih _ _ h
      · replace h := (if_pos hc).symm.trans h
        refine zg_aload_n 0 dX8_falls_33 rfl rfl ?_
        refine zo_getr 9 9 rfl fl_X8_32 zt_0 rfl dX8_falls_34 ?_
        refine zg_aload_n 0 dX8_falls_37 rfl rfl ?_
        refine zo_getr 3 3 rfl fl_X8_16 zt_0 rfl dX8_falls_38 ?_
        obtain ⟨x2, hx2, h⟩ := z_bind h
        refine zg_callV (st := [.ref 9]) (k_X7_threads zW_3 hx2) zY_X7_threads lv_X8_191 rfl zt_3 rfl (zfit_m (by decide) (by decide)) (Nat.le_of_ble_eq_true rfl) dX8_falls_41 rfl ?_
        refine zg_i2l dX8_falls_44 ?_
        obtain ⟨M3, hM3, h⟩ := z_bind h
        refine zg_callV (st := []) (k_X3_tell hM3) zY_X3_tell lv_X8_207 rfl zt_9 rfl (zfit_m (by decide) (by decide)) (Nat.le_of_ble_eq_true rfl) dX8_falls_45 rfl ?_
        refine zg_iload_n 1 dX8_falls_48 rfl rfl ?_
        cases h
        exact zg_iret dX8_falls_49
set_option maxRecDepth 20000 in
set_option maxHeartbeats 4000000 in
theorem k_X8_falls {M : zM} {r1 : Int32} {M1 : zM} (h : f8_falls M = some (r1, M1)) : zK ztops yX8_falls cX8_falls 2 (some .int) 6 [.ref 0] M (some (.int r1)) M1 := by
  refine zK_of pl_X8 (Nat.le_of_ble_eq_true rfl) ?_
  show zJ ztops RX8 cX8_falls 2 _ 0 0 0 [(0, .ref 0)] [] M
  rw [f8_falls] at h
  refine zg_aload_n 0 dX8_falls_0 rfl rfl ?_
  refine zo_getr 3 3 rfl fl_X8_16 zt_0 rfl dX8_falls_1 ?_
  refine zg_aload_n 0 dX8_falls_4 rfl rfl ?_
  refine zo_getr 1 1 rfl fl_X8_10 zt_0 rfl dX8_falls_5 ?_
  obtain ⟨M1, hM1, h⟩ := z_bind h
  refine zg_callV (st := []) (k_X7_become zW_3 zW_1 hM1) zY_X7_become lv_X8_93 rfl zt_3 rfl (zfit_m (by decide) (by decide)) (Nat.le_of_ble_eq_true rfl) dX8_falls_8 rfl ?_
  refine zg_iconst dX8_falls_11 zki_0 ?_
  refine zg_istore_n (ls' := [(0, .ref 0), (1, .int (0 : Int32))]) dX8_falls_12 rfl (Nat.le_of_ble_eq_true rfl) rfl ?_
  exact g8_falls_13 zfuel _ _ h
set_option maxRecDepth 20000 in
set_option maxHeartbeats 4000000 in
theorem g8_rags_92 {r1 : Int32} {M1 : zM} {k40 : Int32 → Int32 → zM → Option (Int32 × zM)} (hk40 : ∀ (v2 : Int32) (v3 : Int32) (M : zM), k40 v2 v3 M = some (r1, M1) → zJ ztops RX8 cX8_rags 4 (zBm ztops 4 (some .int) (some (.int r1)) M1) 0 0 40 [(0, .ref 0), (2, .int v2), (3, .int v3)] [] M) : ∀ (v2 : Int32) (v3 : Int32) (M : zM), f8_rags_92 k40 v2 v3 M = some (r1, M1) → zJ ztops RX8 cX8_rags 4 (zBm ztops 4 (some .int) (some (.int r1)) M1) 0 0 92 [(0, .ref 0), (2, .int v2), (3, .int v3)] [] M := by
  intro v2 v3 M h
  rw [f8_rags_92] at h
  refine zg_iinc (ls' := [(0, .ref 0), (2, .int v2), (3, .int (v3 + (1 : Int32)))]) 2 dX8_rags_92 rfl zki_1 (Nat.le_of_ble_eq_true rfl) rfl ?_
  refine zg_goto (tgt := 40) dX8_rags_95 (by decide) ?_
  exact hk40 _ _ _ h
set_option maxRecDepth 20000 in
set_option maxHeartbeats 4000000 in
theorem g8_rags_40 {r1 : Int32} {M1 : zM} : ∀ (n : Nat) (v2 : Int32) (v3 : Int32) (M : zM), f8_rags_40 n v2 v3 M = some (r1, M1) → zJ ztops RX8 cX8_rags 4 (zBm ztops 4 (some .int) (some (.int r1)) M1) 0 0 40 [(0, .ref 0), (2, .int v2), (3, .int v3)] [] M := by
  intro n
  induction n with
  | zero => intro v2 v3 M h; cases h
  | succ n ih =>
    intro v2 v3 M h
    rw [f8_rags_40] at h
    refine zg_iload_n 2 dX8_rags_40 rfl rfl ?_
    refine zg_iconst dX8_rags_41 zki_1 ?_
    refine zg_aload_n 0 dX8_rags_42 rfl rfl ?_
    refine zo_getr 1 1 rfl fl_X8_10 zt_0 rfl dX8_rags_43 ?_
    refine zg_geti fl_X8_213 zt_1 rfl dX8_rags_46 ?_
    refine zg_ishl dX8_rags_49 ?_
    refine zg_icmp_ge (tgt := 98) dX8_rags_50 (by decide) (fun hc => ?_) (fun hc => ?_)
    · replace h := (if_pos hc).symm.trans h
      refine zg_iload_n 1 dX8_rags_98 rfl rfl ?_
      cases h
      exact zg_iret dX8_rags_99
    · replace h := (if_neg hc).symm.trans h
      refine zg_aload_n 0 dX8_rags_53 rfl rfl ?_
      refine zo_getr 1 1 rfl fl_X8_10 zt_0 rfl dX8_rags_54 ?_
      refine zg_geti fl_X8_213 zt_1 rfl dX8_rags_57 ?_
      refine zg_iload_n 2 dX8_rags_60 rfl rfl ?_
      obtain ⟨x1, hx1, h⟩ := z_bind h
      refine zg_callS (st := [.int (M.1 1 1)]) (k_J6_bitCount_0f7a4 hx1) zY_J6_bitCount_0f7a4 ls_X8_225 rfl (zfit_m (by decide) (by decide)) (Nat.le_of_ble_eq_true rfl) dX8_rags_61 rfl ?_
      refine zg_isub dX8_rags_64 ?_
      refine zg_aload_n 0 dX8_rags_65 rfl rfl ?_
      refine zo_getr 3 3 rfl fl_X8_16 zt_0 rfl dX8_rags_66 ?_
      refine zg_geti fl_X8_213 zt_3 rfl dX8_rags_69 ?_
      refine zg_icmp_ne (tgt := 92) dX8_rags_72 (by decide) (fun hc => ?_) (fun hc => ?_)
      · replace h := (if_neg hc).symm.trans h
        exact g8_rags_92 (fun u0 u1 u2 h => ih u0 u1 u2 h) _ _ _ h
      · replace h := (if_pos hc).symm.trans h
        refine zg_iload_n 1 dX8_rags_75 rfl rfl ?_
        refine zg_aload_n 0 dX8_rags_76 rfl rfl ?_
        refine zg_iload_n 2 dX8_rags_77 rfl rfl ?_
        refine zg_iload_n 1 dX8_rags_78 rfl rfl ?_
        suffices hj : zJ ztops RX8 cX8_rags 4 (zBm ztops 4 (some .int) (some (.int r1)) M1) 0 0 87 [(0, .ref 0), (2, .int v2), (3, .int v3)] [.int (if v2 = 0 then (1 : Int32) else (0 : Int32)), .int v3, .ref 0, .int v2] M by
          refine zg_if_ne (tgt := 86) dX8_rags_79 (by decide) (fun hc => ?_) (fun hc => ?_)
          · rw [if_neg hc] at hj
            refine zg_iconst dX8_rags_86 zki_0 ?_
            exact hj
          · rw [if_pos hc] at hj
            refine zg_iconst dX8_rags_82 zki_1 ?_
            refine zg_goto (tgt := 87) dX8_rags_83 (by decide) ?_
            exact hj
        obtain ⟨p2, hp2, h⟩ := z_bind h
        refine zg_callV (st := [.int v2]) (k_X8_ragsWithout hp2) zY_X8_ragsWithout lv_X8_230 rfl zt_0 rfl (zfit_m (by decide) (by decide)) (Nat.le_of_ble_eq_true rfl) dX8_rags_87 rfl ?_
        refine zg_iadd dX8_rags_90 ?_
        refine zg_istore_n (ls' := [(0, .ref 0), (2, .int (v2 + p2.1)), (3, .int v3)]) dX8_rags_91 rfl (Nat.le_of_ble_eq_true rfl) rfl ?_
        exact g8_rags_92 (fun u0 u1 u2 h => ih u0 u1 u2 h) _ _ _ h
set_option maxRecDepth 20000 in
set_option maxHeartbeats 4000000 in
theorem k_X8_rags {M : zM} {r1 : Int32} {M1 : zM} (h : f8_rags M = some (r1, M1)) : zK ztops yX8_rags cX8_rags 4 (some .int) 4 [.ref 0] M (some (.int r1)) M1 := by
  refine zK_of pl_X8 (Nat.le_of_ble_eq_true rfl) ?_
  show zJ ztops RX8 cX8_rags 4 _ 0 0 0 [(0, .ref 0)] [] M
  rw [f8_rags] at h
  refine zg_aload_n 0 dX8_rags_0 rfl rfl ?_
  refine zo_getr 3 3 rfl fl_X8_16 zt_0 rfl dX8_rags_1 ?_
  refine zg_aload_n 0 dX8_rags_4 rfl rfl ?_
  refine zo_getr 7 7 rfl fl_X8_25 zt_0 rfl dX8_rags_5 ?_
  obtain ⟨p1, hp1, h⟩ := z_bind h
  refine zg_callV (st := []) (k_X7_readFrom zW_3 hp1) zY_X7_readFrom lv_X8_89 rfl zt_3 rfl (zfit_m (by decide) (by decide)) (Nat.le_of_ble_eq_true rfl) dX8_rags_8 rfl ?_
  refine zg_istore_n (ls' := [(0, .ref 0), (1, .int p1.1)]) dX8_rags_11 rfl (Nat.le_of_ble_eq_true rfl) rfl ?_
  refine zg_aload_n 0 dX8_rags_12 rfl rfl ?_
  refine zo_getr 7 7 rfl fl_X8_25 zt_0 rfl dX8_rags_13 ?_
  refine zg_iconst dX8_rags_16 zki_0 ?_
  refine zg_puti fp_X8_83 zt_7 rfl dX8_rags_17 ?_
  refine zg_iload_n 1 dX8_rags_20 rfl rfl ?_
  refine zg_iconst dX8_rags_21 zki_m1 ?_
  refine zg_icmp_eq (tgt := 29) dX8_rags_22 (by decide) (fun hc => ?_) (fun hc => ?_)
  · replace h := (if_pos hc).symm.trans h
    refine zg_aload_n 0 dX8_rags_29 rfl rfl ?_
    refine zo_getr 9 9 rfl fl_X8_32 zt_0 rfl dX8_rags_30 ?_
    obtain ⟨M2, hM2, h⟩ := z_bind h
    refine zg_callV (st := []) (k_X3_clear hM2) zY_X3_clear lv_X8_222 rfl zt_9 rfl (zfit_m (by decide) (by decide)) (Nat.le_of_ble_eq_true rfl) dX8_rags_33 rfl ?_
    refine zg_iconst dX8_rags_36 zki_0 ?_
    refine zg_istore_n (ls' := [(0, .ref 0), (1, .int p1.1), (2, .int (0 : Int32))]) dX8_rags_37 rfl (Nat.le_of_ble_eq_true rfl) rfl ?_
    refine zg_iconst dX8_rags_38 zki_0 ?_
    refine zg_istore_n (ls' := [(0, .ref 0), (1, .int p1.1), (2, .int (0 : Int32)), (3, .int (0 : Int32))]) dX8_rags_39 rfl (Nat.le_of_ble_eq_true rfl) rfl ?_
    refine zo_sub (ls' := [(0, .ref 0), (2, .int (0 : Int32)), (3, .int (0 : Int32))]) [0, 2, 3] rfl ?_
    exact g8_rags_40 zfuel _ _ _ h
  · replace h := (if_neg hc).symm.trans h
    refine zg_iconst dX8_rags_25 zki_m1 ?_
    refine zg_iload_n 1 dX8_rags_26 rfl rfl ?_
    refine zg_isub dX8_rags_27 ?_
    cases h
    exact zg_iret dX8_rags_28
set_option maxRecDepth 20000 in
set_option maxHeartbeats 4000000 in
theorem k_X8_fits {M : zM} {r1 : Int32} {M1 : zM} (h : f8_fits M = some (r1, M1)) : zK ztops yX8_fits cX8_fits 2 (some .int) 6 [.ref 0] M (some (.int r1)) M1 := by
  refine zK_of pl_X8 (Nat.le_of_ble_eq_true rfl) ?_
  show zJ ztops RX8 cX8_fits 2 _ 0 0 0 [(0, .ref 0)] [] M
  rw [f8_fits] at h
  refine zg_aload_n 0 dX8_fits_0 rfl rfl ?_
  refine zo_getr 30 30 rfl fl_X8_63 zt_0 rfl dX8_fits_1 ?_
  refine zg_aload_n 0 dX8_fits_4 rfl rfl ?_
  refine zo_getr 1 1 rfl fl_X8_10 zt_0 rfl dX8_fits_5 ?_
  obtain ⟨x1, hx1, h⟩ := z_bind h
  refine zg_callV (st := []) (k_X5_fitting zW_1 hx1) zY_X5_fitting lv_X8_331 rfl zt_30 rfl (zfit_m (by decide) (by decide)) (Nat.le_of_ble_eq_true rfl) dX8_fits_8 rfl ?_
  refine zg_istore_n (ls' := [(0, .ref 0), (1, .int x1)]) dX8_fits_11 rfl (Nat.le_of_ble_eq_true rfl) rfl ?_
  refine zg_aload_n 0 dX8_fits_12 rfl rfl ?_
  refine zo_getr 9 9 rfl fl_X8_32 zt_0 rfl dX8_fits_13 ?_
  refine zg_iload_n 1 dX8_fits_16 rfl rfl ?_
  obtain ⟨x2, hx2, h⟩ := z_bind h
  refine zg_callS (st := [.ref 9]) (k_J6_bitCount_0f7a4 hx2) zY_J6_bitCount_0f7a4 ls_X8_225 rfl (zfit_m (by decide) (by decide)) (Nat.le_of_ble_eq_true rfl) dX8_fits_17 rfl ?_
  refine zg_i2l dX8_fits_20 ?_
  obtain ⟨M3, hM3, h⟩ := z_bind h
  refine zg_callV (st := []) (k_X3_tell hM3) zY_X3_tell lv_X8_207 rfl zt_9 rfl (zfit_m (by decide) (by decide)) (Nat.le_of_ble_eq_true rfl) dX8_fits_21 rfl ?_
  refine zg_iload_n 1 dX8_fits_24 rfl rfl ?_
  cases h
  exact zg_iret dX8_fits_25
set_option maxRecDepth 20000 in
set_option maxHeartbeats 4000000 in
theorem g8_asks_95 {r1 : Int32} {M1 : zM} {k36 : Int32 → Int32 → Int32 → Int32 → Int32 → zM → Option (Int32 × zM)} (hk36 : ∀ (v1 : Int32) (v2 : Int32) (v3 : Int32) (v4 : Int32) (v5 : Int32) (M : zM), k36 v1 v2 v3 v4 v5 M = some (r1, M1) → zJ ztops RX8 cX8_asks 8 (zBm ztops 6 (some .int) (some (.int r1)) M1) 0 0 36 [(0, .ref 0), (1, .int v1), (2, .int v2), (3, .int v3), (4, .int v4), (5, .int v5)] [] M) : ∀ (v1 : Int32) (v2 : Int32) (v3 : Int32) (v4 : Int32) (v5 : Int32) (M : zM), f8_asks_95 k36 v1 v2 v3 v4 v5 M = some (r1, M1) → zJ ztops RX8 cX8_asks 8 (zBm ztops 6 (some .int) (some (.int r1)) M1) 0 0 95 [(0, .ref 0), (1, .int v1), (2, .int v2), (3, .int v3), (4, .int v4), (5, .int v5)] [] M := by
  intro v1 v2 v3 v4 v5 M h
  rw [f8_asks_95] at h
  refine zg_iinc (ls' := [(0, .ref 0), (1, .int v1), (2, .int v2), (3, .int v3), (4, .int v4), (5, .int (v5 + (1 : Int32)))]) 5 dX8_asks_95 rfl zki_1 (Nat.le_of_ble_eq_true rfl) rfl ?_
  refine zg_goto (tgt := 36) dX8_asks_98 (by decide) ?_
  exact hk36 _ _ _ _ _ _ h
set_option maxRecDepth 20000 in
set_option maxHeartbeats 4000000 in
theorem g8_asks_36 {r1 : Int32} {M1 : zM} {k101 : Int32 → Int32 → Int32 → Int32 → zM → Option (Int32 × zM)} (hk101 : ∀ (v1 : Int32) (v2 : Int32) (v3 : Int32) (v4 : Int32) (M : zM), k101 v1 v2 v3 v4 M = some (r1, M1) → zJ ztops RX8 cX8_asks 8 (zBm ztops 6 (some .int) (some (.int r1)) M1) 0 0 101 [(0, .ref 0), (1, .int v1), (2, .int v2), (3, .int v3), (4, .int v4)] [] M) : ∀ (n : Nat) (v1 : Int32) (v2 : Int32) (v3 : Int32) (v4 : Int32) (v5 : Int32) (M : zM), f8_asks_36 k101 n v1 v2 v3 v4 v5 M = some (r1, M1) → zJ ztops RX8 cX8_asks 8 (zBm ztops 6 (some .int) (some (.int r1)) M1) 0 0 36 [(0, .ref 0), (1, .int v1), (2, .int v2), (3, .int v3), (4, .int v4), (5, .int v5)] [] M := by
  intro n
  induction n with
  | zero => intro v1 v2 v3 v4 v5 M h; cases h
  | succ n ih =>
    intro v1 v2 v3 v4 v5 M h
    rw [f8_asks_36] at h
    refine zg_iload 5 dX8_asks_36 rfl ?_
    refine zg_iload 4 dX8_asks_38 rfl ?_
    obtain ⟨x1, hx1, h⟩ := z_bind h
    refine zg_callS (st := [.int v5]) (k_X5_mostOf hx1) zY_X5_mostOf ls_X8_326 rfl (zfit_m (by decide) (by decide)) (Nat.le_of_ble_eq_true rfl) dX8_asks_40 rfl ?_
    refine zg_icmp_gt (tgt := 101) dX8_asks_43 (by decide) (fun hc => ?_) (fun hc => ?_)
    · replace h := (if_pos hc).symm.trans h
      refine zo_sub (ls' := [(0, .ref 0), (1, .int v1), (2, .int v2), (3, .int v3), (4, .int v4)]) [0, 1, 2, 3, 4] rfl ?_
      exact hk101 _ _ _ _ _ h
    · replace h := (if_neg hc).symm.trans h
      refine zg_iload_n 1 dX8_asks_46 rfl rfl ?_
      refine zg_iload 4 dX8_asks_47 rfl ?_
      refine zg_iload 5 dX8_asks_49 rfl ?_
      refine zg_aload_n 0 dX8_asks_51 rfl rfl ?_
      refine zo_getr 1 1 rfl fl_X8_10 zt_0 rfl dX8_asks_52 ?_
      obtain ⟨x2, hx2, h⟩ := z_bind h
      refine zg_callS (st := []) (k_X5_those zW_1 hx2) zY_X5_those ls_X8_334 rfl (zfit_m (by decide) (by decide)) (Nat.le_of_ble_eq_true rfl) dX8_asks_55 rfl ?_
      obtain ⟨x3, hx3, h⟩ := z_bind h
      refine zg_callS (st := []) (k_J6_bitCount_0f7a4 hx3) zY_J6_bitCount_0f7a4 ls_X8_225 rfl (zfit_m (by decide) (by decide)) (Nat.le_of_ble_eq_true rfl) dX8_asks_58 rfl ?_
      refine zg_istore (ls' := [(0, .ref 0), (1, .int v1), (2, .int v2), (3, .int v3), (4, .int v4), (5, .int v5), (6, .int x3)]) dX8_asks_61 (Nat.le_of_ble_eq_true rfl) rfl ?_
      refine zg_iload 6 dX8_asks_63 rfl ?_
      refine zg_iload_n 1 dX8_asks_65 rfl rfl ?_
      obtain ⟨x4, hx4, h⟩ := z_bind h
      refine zg_callS (st := [.int x3]) (k_J6_bitCount_0f7a4 hx4) zY_J6_bitCount_0f7a4 ls_X8_225 rfl (zfit_m (by decide) (by decide)) (Nat.le_of_ble_eq_true rfl) dX8_asks_66 rfl ?_
      refine zg_iload 6 dX8_asks_69 rfl ?_
      refine zg_isub dX8_asks_71 ?_
      refine zo_max ls_X8_338 ⟨Nat.le_of_ble_eq_true rfl, Nat.le_of_ble_eq_true rfl, Nat.le_refl _, Nat.le_refl _⟩ z_iM z_cmax dX8_asks_72 ?_
      refine zg_istore (ls' := [(0, .ref 0), (1, .int v1), (2, .int v2), (3, .int v3), (4, .int v4), (5, .int v5), (6, .int x3), (7, .int (zmax x3 (x4 - x3)))]) dX8_asks_75 (Nat.le_of_ble_eq_true rfl) rfl ?_
      refine zg_iload 7 dX8_asks_77 rfl ?_
      refine zg_iload_n 2 dX8_asks_79 rfl rfl ?_
      refine zg_icmp_ge (tgt := 95) dX8_asks_80 (by decide) (fun hc => ?_) (fun hc => ?_)
      · replace h := (if_pos hc).symm.trans h
        refine zo_sub (ls' := [(0, .ref 0), (1, .int v1), (2, .int v2), (3, .int v3), (4, .int v4), (5, .int v5)]) [0, 1, 2, 3, 4, 5] rfl ?_
        exact g8_asks_95 (fun u0 u1 u2 u3 u4 u5 h => ih u0 u1 u2 u3 u4 u5 h) _ _ _ _ _ _ h
      · replace h := (if_neg hc).symm.trans h
        refine zg_iload 7 dX8_asks_83 rfl ?_
        refine zg_istore_n (ls' := [(0, .ref 0), (1, .int v1), (2, .int (zmax x3 (x4 - x3))), (3, .int v3), (4, .int v4), (5, .int v5), (6, .int x3), (7, .int (zmax x3 (x4 - x3)))]) dX8_asks_85 rfl (Nat.le_of_ble_eq_true rfl) rfl ?_
        refine zg_bipush dX8_asks_86 zkb_10 ?_
        refine zg_iload 4 dX8_asks_88 rfl ?_
        refine zg_imul dX8_asks_90 ?_
        refine zg_iload 5 dX8_asks_91 rfl ?_
        refine zg_iadd dX8_asks_93 ?_
        refine zg_istore_n (ls' := [(0, .ref 0), (1, .int v1), (2, .int (zmax x3 (x4 - x3))), (3, .int (((10 : Int32) * v4) + v5)), (4, .int v4), (5, .int v5), (6, .int x3), (7, .int (zmax x3 (x4 - x3)))]) dX8_asks_94 rfl (Nat.le_of_ble_eq_true rfl) rfl ?_
        refine zo_sub (ls' := [(0, .ref 0), (1, .int v1), (2, .int (zmax x3 (x4 - x3))), (3, .int (((10 : Int32) * v4) + v5)), (4, .int v4), (5, .int v5)]) [0, 1, 2, 3, 4, 5] rfl ?_
        exact g8_asks_95 (fun u0 u1 u2 u3 u4 u5 h => ih u0 u1 u2 u3 u4 u5 h) _ _ _ _ _ _ h
set_option maxRecDepth 20000 in
set_option maxHeartbeats 4000000 in
theorem g8_asks_27 {r1 : Int32} {M1 : zM} {k101 : Int32 → Int32 → Int32 → Int32 → zM → Option (Int32 × zM)} (hk101 : ∀ (v1 : Int32) (v2 : Int32) (v3 : Int32) (v4 : Int32) (M : zM), k101 v1 v2 v3 v4 M = some (r1, M1) → zJ ztops RX8 cX8_asks 8 (zBm ztops 6 (some .int) (some (.int r1)) M1) 0 0 101 [(0, .ref 0), (1, .int v1), (2, .int v2), (3, .int v3), (4, .int v4)] [] M) : ∀ (n : Nat) (v1 : Int32) (v2 : Int32) (v3 : Int32) (v4 : Int32) (M : zM), f8_asks_27 k101 n v1 v2 v3 v4 M = some (r1, M1) → zJ ztops RX8 cX8_asks 8 (zBm ztops 6 (some .int) (some (.int r1)) M1) 0 0 27 [(0, .ref 0), (1, .int v1), (2, .int v2), (3, .int v3), (4, .int v4)] [] M := by
  intro n
  induction n with
  | zero => intro v1 v2 v3 v4 M h; cases h
  | succ n ih =>
    intro v1 v2 v3 v4 M h
    rw [f8_asks_27] at h
    refine zg_iload 4 dX8_asks_27 rfl ?_
    refine zg_iconst dX8_asks_29 zki_5 ?_
    refine zg_icmp_ge (tgt := 107) dX8_asks_30 (by decide) (fun hc => ?_) (fun hc => ?_)
    · replace h := (if_pos hc).symm.trans h
      refine zg_aload_n 0 dX8_asks_107 rfl rfl ?_
      refine zo_getr 9 9 rfl fl_X8_32 zt_0 rfl dX8_asks_108 ?_
      refine zg_iload_n 2 dX8_asks_111 rfl rfl ?_
      refine zg_i2l dX8_asks_112 ?_
      obtain ⟨M1, hM1, h⟩ := z_bind h
      refine zg_callV (st := []) (k_X3_tell hM1) zY_X3_tell lv_X8_207 rfl zt_9 rfl (zfit_m (by decide) (by decide)) (Nat.le_of_ble_eq_true rfl) dX8_asks_113 rfl ?_
      refine zg_iload_n 3 dX8_asks_116 rfl rfl ?_
      cases h
      exact zg_iret dX8_asks_117
    · replace h := (if_neg hc).symm.trans h
      refine zg_iconst dX8_asks_33 zki_0 ?_
      refine zg_istore (ls' := [(0, .ref 0), (1, .int v1), (2, .int v2), (3, .int v3), (4, .int v4), (5, .int (0 : Int32))]) dX8_asks_34 (Nat.le_of_ble_eq_true rfl) rfl ?_
      exact g8_asks_36 (fun u0 u1 u2 u3 u4 h => g8_asks_101 (fun u0 u1 u2 u3 u4 h => ih u0 u1 u2 u3 u4 h) u0 u1 u2 u3 u4 h) zfuel _ _ _ _ _ _ h
set_option maxRecDepth 20000 in
set_option maxHeartbeats 4000000 in
theorem g8_asks_101 {r1 : Int32} {M1 : zM} {k27 : Int32 → Int32 → Int32 → Int32 → zM → Option (Int32 × zM)} (hk27 : ∀ (v1 : Int32) (v2 : Int32) (v3 : Int32) (v4 : Int32) (M : zM), k27 v1 v2 v3 v4 M = some (r1, M1) → zJ ztops RX8 cX8_asks 8 (zBm ztops 6 (some .int) (some (.int r1)) M1) 0 0 27 [(0, .ref 0), (1, .int v1), (2, .int v2), (3, .int v3), (4, .int v4)] [] M) : ∀ (v1 : Int32) (v2 : Int32) (v3 : Int32) (v4 : Int32) (M : zM), f8_asks_101 k27 v1 v2 v3 v4 M = some (r1, M1) → zJ ztops RX8 cX8_asks 8 (zBm ztops 6 (some .int) (some (.int r1)) M1) 0 0 101 [(0, .ref 0), (1, .int v1), (2, .int v2), (3, .int v3), (4, .int v4)] [] M := by
  intro v1 v2 v3 v4 M h
  rw [f8_asks_101] at h
  refine zg_iinc (ls' := [(0, .ref 0), (1, .int v1), (2, .int v2), (3, .int v3), (4, .int (v4 + (1 : Int32)))]) 4 dX8_asks_101 rfl zki_1 (Nat.le_of_ble_eq_true rfl) rfl ?_
  refine zg_goto (tgt := 27) dX8_asks_104 (by decide) ?_
  exact hk27 _ _ _ _ _ h
set_option maxRecDepth 20000 in
set_option maxHeartbeats 4000000 in
theorem k_X8_asks {M : zM} {r1 : Int32} {M1 : zM} (h : f8_asks M = some (r1, M1)) : zK ztops yX8_asks cX8_asks 8 (some .int) 6 [.ref 0] M (some (.int r1)) M1 := by
  refine zK_of pl_X8 (Nat.le_of_ble_eq_true rfl) ?_
  show zJ ztops RX8 cX8_asks 8 _ 0 0 0 [(0, .ref 0)] [] M
  rw [f8_asks] at h
  refine zg_aload_n 0 dX8_asks_0 rfl rfl ?_
  refine zo_getr 30 30 rfl fl_X8_63 zt_0 rfl dX8_asks_1 ?_
  refine zg_aload_n 0 dX8_asks_4 rfl rfl ?_
  refine zo_getr 1 1 rfl fl_X8_10 zt_0 rfl dX8_asks_5 ?_
  obtain ⟨x1, hx1, h⟩ := z_bind h
  refine zg_callV (st := []) (k_X5_fitting zW_1 hx1) zY_X5_fitting lv_X8_331 rfl zt_30 rfl (zfit_m (by decide) (by decide)) (Nat.le_of_ble_eq_true rfl) dX8_asks_8 rfl ?_
  refine zg_istore_n (ls' := [(0, .ref 0), (1, .int x1)]) dX8_asks_11 rfl (Nat.le_of_ble_eq_true rfl) rfl ?_
  refine zg_iload_n 1 dX8_asks_12 rfl rfl ?_
  refine zg_if_ne (tgt := 19) dX8_asks_13 (by decide) (fun hc => ?_) (fun hc => ?_)
  · replace h := (if_neg hc).symm.trans h
    refine zg_bipush dX8_asks_19 zkb_13 ?_
    refine zg_istore_n (ls' := [(0, .ref 0), (1, .int x1), (2, .int (13 : Int32))]) dX8_asks_21 rfl (Nat.le_of_ble_eq_true rfl) rfl ?_
    refine zg_iconst dX8_asks_22 zki_0 ?_
    refine zg_istore_n (ls' := [(0, .ref 0), (1, .int x1), (2, .int (13 : Int32)), (3, .int (0 : Int32))]) dX8_asks_23 rfl (Nat.le_of_ble_eq_true rfl) rfl ?_
    refine zg_iconst dX8_asks_24 zki_0 ?_
    refine zg_istore (ls' := [(0, .ref 0), (1, .int x1), (2, .int (13 : Int32)), (3, .int (0 : Int32)), (4, .int (0 : Int32))]) dX8_asks_25 (Nat.le_of_ble_eq_true rfl) rfl ?_
    exact g8_asks_27 hk101 zfuel _ _ _ _ _ h
  · replace h := (if_pos hc).symm.trans h
    refine zg_bipush dX8_asks_16 zkb_m2 ?_
    cases h
    exact zg_iret dX8_asks_18
set_option maxRecDepth 20000 in
set_option maxHeartbeats 4000000 in
theorem g8_law_57 {r1 : Int32} {M1 : zM} : ∀ (n : Nat) (v2 : Int32) (v3 : Int32) (M : zM), f8_law_57 n v2 v3 M = some (r1, M1) → zJ ztops RX8 cX8_law 6 (zBm ztops 6 (some .int) (some (.int r1)) M1) 0 0 57 [(0, .ref 0), (2, .int v2), (3, .int v3)] [] M := by
  intro n
  induction n with
  | zero => intro v2 v3 M h; cases h
  | succ n ih =>
    intro v2 v3 M h
    rw [f8_law_57] at h
    refine zg_iload_n 2 dX8_law_57 rfl rfl ?_
    refine zg_bipush dX8_law_58 zkb_10 ?_
    refine zg_icmp_ge (tgt := 128) dX8_law_60 (by decide) (fun hc => ?_) (fun hc => ?_)
    · replace h := (if_pos hc).symm.trans h
      refine zg_aload_n 0 dX8_law_128 rfl rfl ?_
      refine zo_getr 9 9 rfl fl_X8_32 zt_0 rfl dX8_law_129 ?_
      refine zg_aload_n 0 dX8_law_132 rfl rfl ?_
      refine zo_getr 3 3 rfl fl_X8_16 zt_0 rfl dX8_law_133 ?_
      obtain ⟨x1, hx1, h⟩ := z_bind h
      refine zg_callV (st := [.ref 9]) (k_X7_threads zW_3 hx1) zY_X7_threads lv_X8_191 rfl zt_3 rfl (zfit_m (by decide) (by decide)) (Nat.le_of_ble_eq_true rfl) dX8_law_136 rfl ?_
      refine zg_i2l dX8_law_139 ?_
      refine zg_aload_n 0 dX8_law_140 rfl rfl ?_
      refine zo_getr 5 5 rfl fl_X8_19 zt_0 rfl dX8_law_141 ?_
      obtain ⟨x2, hx2, h⟩ := z_bind h
      refine zg_callV (st := [.long (Int32.toInt64 x1), .ref 9]) (k_X7_threads zW_5 hx2) zY_X7_threads lv_X8_191 rfl zt_5 rfl (zfit_m (by decide) (by decide)) (Nat.le_of_ble_eq_true rfl) dX8_law_144 rfl ?_
      refine zg_i2l dX8_law_147 ?_
      obtain ⟨M3, hM3, h⟩ := z_bind h
      refine zg_callV (st := []) (k_X3_tell_ hM3) zY_X3_tell_ lv_X8_194 rfl zt_9 rfl (zfit_m (by decide) (by decide)) (Nat.le_of_ble_eq_true rfl) dX8_law_148 rfl ?_
      refine zg_iload_n 1 dX8_law_151 rfl rfl ?_
      cases h
      exact zg_iret dX8_law_152
    · replace h := (if_neg hc).symm.trans h
      refine zg_aload_n 0 dX8_law_63 rfl rfl ?_
      refine zo_getr 16 16 rfl fl_X8_43 zt_0 rfl dX8_law_64 ?_
      refine zg_aload_n 0 dX8_law_67 rfl rfl ?_
      refine zo_getr 3 3 rfl fl_X8_16 zt_0 rfl dX8_law_68 ?_
      obtain ⟨p1, hp1, h⟩ := z_bind h
      refine zg_callV (st := []) (k_X4_goesOf zR_16 zW_3 hp1) zY_X4_goesOf lv_X8_203 rfl zt_16 rfl (zfit_m (by decide) (by decide)) (Nat.le_of_ble_eq_true rfl) dX8_law_71 rfl ?_
      refine zg_istore (ls' := [(0, .ref 0), (2, .int v2), (3, .int v3), (4, .int p1.1)]) dX8_law_74 (Nat.le_of_ble_eq_true rfl) rfl ?_
      refine zg_aload_n 0 dX8_law_76 rfl rfl ?_
      refine zo_getr 11 11 rfl fl_X8_39 zt_0 rfl dX8_law_77 ?_
      refine zg_aload_n 0 dX8_law_80 rfl rfl ?_
      refine zo_getr 5 5 rfl fl_X8_19 zt_0 rfl dX8_law_81 ?_
      obtain ⟨p2, hp2, h⟩ := z_bind h
      refine zg_callV (st := []) (k_X4_goesOf zR_11 zW_5 hp2) zY_X4_goesOf lv_X8_203 rfl zt_11 rfl (zfit_m (by decide) (by decide)) (Nat.le_of_ble_eq_true rfl) dX8_law_84 rfl ?_
      refine zg_istore (ls' := [(0, .ref 0), (2, .int v2), (3, .int v3), (4, .int p1.1), (5, .int p2.1)]) dX8_law_87 (Nat.le_of_ble_eq_true rfl) rfl ?_
      refine zg_iload_n 1 dX8_law_89 rfl rfl ?_
      refine zg_iload 3 dX8_law_90 rfl ?_
      refine zg_iload 4 dX8_law_92 rfl ?_
      suffices hj : zJ ztops RX8 cX8_law 6 (zBm ztops 6 (some .int) (some (.int r1)) M1) 0 0 102 [(0, .ref 0), (2, .int v2), (3, .int v3), (4, .int p1.1), (5, .int p2.1)] [.int (if p1.1 = p2.1 then (0 : Int32) else (1 : Int32)), .int v2] p2.2 by
        refine zg_icmp_ne (tgt := 101) dX8_law_94 (by decide) (fun hc => ?_) (fun hc => ?_)
        · rw [if_neg hc] at hj
          refine zg_iconst dX8_law_101 zki_1 ?_
          exact hj
        · rw [if_pos hc] at hj
          refine zg_iconst dX8_law_97 zki_0 ?_
          refine zg_goto (tgt := 102) dX8_law_98 (by decide) ?_
          exact hj
      refine zg_iadd dX8_law_102 ?_
      refine zg_istore_n (ls' := [(0, .ref 0), (2, .int (v2 + (if p1.1 = p2.1 then (0 : Int32) else (1 : Int32)))), (3, .int v3), (4, .int p1.1), (5, .int p2.1)]) dX8_law_103 rfl (Nat.le_of_ble_eq_true rfl) rfl ?_
      refine zg_aload_n 0 dX8_law_104 rfl rfl ?_
      refine zo_getr 3 3 rfl fl_X8_16 zt_0 rfl dX8_law_105 ?_
      refine zg_iload 3 dX8_law_108 rfl ?_
      obtain ⟨M3, hM3, h⟩ := z_bind h
      refine zg_callV (st := []) (k_X7_passNight zW_3 hM3) zY_X7_passNight lv_X8_210 rfl zt_3 rfl (zfit_m (by decide) (by decide)) (Nat.le_of_ble_eq_true rfl) dX8_law_110 rfl ?_
      refine zg_aload_n 0 dX8_law_113 rfl rfl ?_
      refine zo_getr 5 5 rfl fl_X8_19 zt_0 rfl dX8_law_114 ?_
      refine zg_iload 4 dX8_law_117 rfl ?_
      obtain ⟨M4, hM4, h⟩ := z_bind h
      refine zg_callV (st := []) (k_X7_passNight zW_5 hM4) zY_X7_passNight lv_X8_210 rfl zt_5 rfl (zfit_m (by decide) (by decide)) (Nat.le_of_ble_eq_true rfl) dX8_law_119 rfl ?_
      refine zg_iinc (ls' := [(0, .ref 0), (2, .int (v2 + (if p1.1 = p2.1 then (0 : Int32) else (1 : Int32)))), (3, .int (v3 + (1 : Int32))), (4, .int p1.1), (5, .int p2.1)]) 2 dX8_law_122 rfl zki_1 (Nat.le_of_ble_eq_true rfl) rfl ?_
      refine zg_goto (tgt := 57) dX8_law_125 (by decide) ?_
      refine zo_sub (ls' := [(0, .ref 0), (2, .int (v2 + (if p1.1 = p2.1 then (0 : Int32) else (1 : Int32)))), (3, .int (v3 + (1 : Int32)))]) [0, 1, 2] rfl ?_
      exact ih _ _ _ h
set_option maxRecDepth 20000 in
set_option maxHeartbeats 4000000 in
theorem k_X8_law {M : zM} {r1 : Int32} {M1 : zM} (h : f8_law M = some (r1, M1)) : zK ztops yX8_law cX8_law 6 (some .int) 6 [.ref 0] M (some (.int r1)) M1 := by
  refine zK_of pl_X8 (Nat.le_of_ble_eq_true rfl) ?_
  show zJ ztops RX8 cX8_law 6 _ 0 0 0 [(0, .ref 0)] [] M
  rw [f8_law] at h
  refine zg_aload_n 0 dX8_law_0 rfl rfl ?_
  refine zo_getr 16 16 rfl fl_X8_43 zt_0 rfl dX8_law_1 ?_
  refine zg_aload_n 0 dX8_law_4 rfl rfl ?_
  refine zo_getr 7 7 rfl fl_X8_25 zt_0 rfl dX8_law_5 ?_
  obtain ⟨p1, hp1, h⟩ := z_bind h
  refine zg_callV (st := []) (k_X4_readFrom zR_16 hp1) zY_X4_readFrom lv_X8_103 rfl zt_16 rfl (zfit_m (by decide) (by decide)) (Nat.le_of_ble_eq_true rfl) dX8_law_8 rfl ?_
  refine zg_istore_n (ls' := [(0, .ref 0), (1, .int p1.1)]) dX8_law_11 rfl (Nat.le_of_ble_eq_true rfl) rfl ?_
  refine zg_aload_n 0 dX8_law_12 rfl rfl ?_
  refine zo_getr 7 7 rfl fl_X8_25 zt_0 rfl dX8_law_13 ?_
  refine zg_iconst dX8_law_16 zki_0 ?_
  refine zg_puti fp_X8_83 zt_7 rfl dX8_law_17 ?_
  refine zg_iload_n 1 dX8_law_20 rfl rfl ?_
  refine zg_iconst dX8_law_21 zki_m1 ?_
  refine zg_icmp_eq (tgt := 31) dX8_law_22 (by decide) (fun hc => ?_) (fun hc => ?_)
  · replace h := (if_pos hc).symm.trans h
    refine zg_aload_n 0 dX8_law_31 rfl rfl ?_
    refine zo_getr 3 3 rfl fl_X8_16 zt_0 rfl dX8_law_32 ?_
    refine zg_aload_n 0 dX8_law_35 rfl rfl ?_
    refine zo_getr 1 1 rfl fl_X8_10 zt_0 rfl dX8_law_36 ?_
    obtain ⟨M2, hM2, h⟩ := z_bind h
    refine zg_callV (st := []) (k_X7_become zW_3 zW_1 hM2) zY_X7_become lv_X8_93 rfl zt_3 rfl (zfit_m (by decide) (by decide)) (Nat.le_of_ble_eq_true rfl) dX8_law_39 rfl ?_
    refine zg_aload_n 0 dX8_law_42 rfl rfl ?_
    refine zo_getr 5 5 rfl fl_X8_19 zt_0 rfl dX8_law_43 ?_
    refine zg_aload_n 0 dX8_law_46 rfl rfl ?_
    refine zo_getr 1 1 rfl fl_X8_10 zt_0 rfl dX8_law_47 ?_
    obtain ⟨M3, hM3, h⟩ := z_bind h
    refine zg_callV (st := []) (k_X7_become zW_5 zW_1 hM3) zY_X7_become lv_X8_93 rfl zt_5 rfl (zfit_m (by decide) (by decide)) (Nat.le_of_ble_eq_true rfl) dX8_law_50 rfl ?_
    refine zg_iconst dX8_law_53 zki_0 ?_
    refine zg_istore_n (ls' := [(0, .ref 0), (1, .int p1.1), (2, .int (0 : Int32))]) dX8_law_54 rfl (Nat.le_of_ble_eq_true rfl) rfl ?_
    refine zg_iconst dX8_law_55 zki_0 ?_
    refine zg_istore_n (ls' := [(0, .ref 0), (1, .int p1.1), (2, .int (0 : Int32)), (3, .int (0 : Int32))]) dX8_law_56 rfl (Nat.le_of_ble_eq_true rfl) rfl ?_
    refine zo_sub (ls' := [(0, .ref 0), (2, .int (0 : Int32)), (3, .int (0 : Int32))]) [0, 2, 3] rfl ?_
    exact g8_law_57 zfuel _ _ _ h
  · replace h := (if_neg hc).symm.trans h
    refine zg_sipush dX8_law_25 zks_m10000 ?_
    refine zg_iload_n 1 dX8_law_28 rfl rfl ?_
    refine zg_isub dX8_law_29 ?_
    cases h
    exact zg_iret dX8_law_30
set_option maxRecDepth 20000 in
set_option maxHeartbeats 4000000 in
theorem g8_years_121 {r1 : Int32} {M1 : zM} {k31 : Int32 → Int32 → zM → Option (Int32 × zM)} (hk31 : ∀ (v2 : Int32) (v3 : Int32) (M : zM), k31 v2 v3 M = some (r1, M1) → zJ ztops RX8 cX8_years 7 (zBm ztops 6 (some .int) (some (.int r1)) M1) 0 0 31 [(0, .ref 0), (2, .int v2), (3, .int v3)] [] M) : ∀ (v2 : Int32) (v3 : Int32) (M : zM), f8_years_121 k31 v2 v3 M = some (r1, M1) → zJ ztops RX8 cX8_years 7 (zBm ztops 6 (some .int) (some (.int r1)) M1) 0 0 121 [(0, .ref 0), (2, .int v2), (3, .int v3)] [] M := by
  intro v2 v3 M h
  rw [f8_years_121] at h
  refine zg_iinc (ls' := [(0, .ref 0), (2, .int v2), (3, .int (v3 + (1 : Int32)))]) 2 dX8_years_121 rfl zki_1 (Nat.le_of_ble_eq_true rfl) rfl ?_
  refine zg_goto (tgt := 31) dX8_years_124 (by decide) ?_
  exact hk31 _ _ _ h
set_option maxRecDepth 20000 in
set_option maxHeartbeats 4000000 in
theorem g8_years_31 {r1 : Int32} {M1 : zM} : ∀ (n : Nat) (v2 : Int32) (v3 : Int32) (M : zM), f8_years_31 n v2 v3 M = some (r1, M1) → zJ ztops RX8 cX8_years 7 (zBm ztops 6 (some .int) (some (.int r1)) M1) 0 0 31 [(0, .ref 0), (2, .int v2), (3, .int v3)] [] M := by
  intro n
  induction n with
  | zero => intro v2 v3 M h; cases h
  | succ n ih =>
    intro v2 v3 M h
    rw [f8_years_31] at h
    refine zg_iload_n 2 dX8_years_31 rfl rfl ?_
    refine zg_iload_n 1 dX8_years_32 rfl rfl ?_
    refine zg_icmp_ge (tgt := 127) dX8_years_33 (by decide) (fun hc => ?_) (fun hc => ?_)
    · replace h := (if_pos hc).symm.trans h
      refine zg_aload_n 0 dX8_years_127 rfl rfl ?_
      refine zo_getr 9 9 rfl fl_X8_32 zt_0 rfl dX8_years_128 ?_
      refine zg_aload_n 0 dX8_years_131 rfl rfl ?_
      refine zo_getr 3 3 rfl fl_X8_16 zt_0 rfl dX8_years_132 ?_
      obtain ⟨x1, hx1, h⟩ := z_bind h
      refine zg_callV (st := [.ref 9]) (k_X7_overs zW_3 hx1) zY_X7_overs lv_X8_364 rfl zt_3 rfl (zfit_m (by decide) (by decide)) (Nat.le_of_ble_eq_true rfl) dX8_years_135 rfl ?_
      refine zg_i2l dX8_years_138 ?_
      refine zg_aload_n 0 dX8_years_139 rfl rfl ?_
      refine zo_getr 21 21 rfl fl_X8_49 zt_0 rfl dX8_years_140 ?_
      refine zg_aload_n 0 dX8_years_143 rfl rfl ?_
      refine zo_getr 3 3 rfl fl_X8_16 zt_0 rfl dX8_years_144 ?_
      obtain ⟨p2, hp2, h⟩ := z_bind h
      refine zg_callV (st := [.long (Int32.toInt64 x1), .ref 9]) (k_X0_isTogether zW_3 hp2) zY_X0_isTogether lv_X8_218 rfl zt_21 rfl (zfit_m (by decide) (by decide)) (Nat.le_of_ble_eq_true rfl) dX8_years_147 rfl ?_
      suffices hj : zJ ztops RX8 cX8_years 7 (zBm ztops 6 (some .int) (some (.int r1)) M1) 0 0 158 [(0, .ref 0), (2, .int v2), (3, .int v3)] [.long (if p2.1 = 0 then (0 : Int64) else (1 : Int64)), .long (Int32.toInt64 x1), .ref 9] p2.2 by
        refine zg_if_eq (tgt := 157) dX8_years_150 (by decide) (fun hc => ?_) (fun hc => ?_)
        · rw [if_pos hc] at hj
          refine zg_lconst dX8_years_157 (v := 0) rfl ?_
          exact hj
        · rw [if_neg hc] at hj
          refine zg_lconst dX8_years_153 (v := 1) rfl ?_
          refine zg_goto (tgt := 158) dX8_years_154 (by decide) ?_
          exact hj
      obtain ⟨M3, hM3, h⟩ := z_bind h
      refine zg_callV (st := []) (k_X3_tell_ hM3) zY_X3_tell_ lv_X8_194 rfl zt_9 rfl (zfit_m (by decide) (by decide)) (Nat.le_of_ble_eq_true rfl) dX8_years_158 rfl ?_
      refine zg_aload_n 0 dX8_years_161 rfl rfl ?_
      refine zo_getr 3 3 rfl fl_X8_16 zt_0 rfl dX8_years_162 ?_
      obtain ⟨x4, hx4, h⟩ := z_bind h
      refine zg_callV (st := []) (k_X7_threads zW_3 hx4) zY_X7_threads lv_X8_191 rfl zt_3 rfl (zfit_m (by decide) (by decide)) (Nat.le_of_ble_eq_true rfl) dX8_years_165 rfl ?_
      cases h
      exact zg_iret dX8_years_168
    · replace h := (if_neg hc).symm.trans h
      refine zg_aload_n 0 dX8_years_36 rfl rfl ?_
      refine zg_iconst dX8_years_37 zki_4 ?_
      obtain ⟨p1, hp1, h⟩ := z_bind h
      refine zg_callV (st := []) (k_X8_drawnBelow hp1) zY_X8_drawnBelow lv_X8_358 rfl zt_0 rfl (zfit_m (by decide) (by decide)) (Nat.le_of_ble_eq_true rfl) dX8_years_38 rfl ?_
      refine zg_istore (ls' := [(0, .ref 0), (2, .int v2), (3, .int v3), (4, .int p1.1)]) dX8_years_41 (Nat.le_of_ble_eq_true rfl) rfl ?_
      refine zg_iload 3 dX8_years_43 rfl ?_
      refine zg_iconst dX8_years_45 zki_2 ?_
      refine zg_icmp_ge (tgt := 70) dX8_years_46 (by decide) (fun hc => ?_) (fun hc => ?_)
      · replace h := (if_pos hc).symm.trans h
        refine zg_iload 3 dX8_years_70 rfl ?_
        refine zg_iconst dX8_years_72 zki_2 ?_
        refine zg_icmp_ne (tgt := 117) dX8_years_73 (by decide) (fun hc => ?_) (fun hc => ?_)
        · replace h := (if_neg hc).symm.trans h
          refine zg_aload_n 0 dX8_years_117 rfl rfl ?_
          obtain ⟨M2, hM2, h⟩ := z_bind h
          refine zg_callV (st := []) (k_X8_weaveDrawn hM2) zY_X8_weaveDrawn lv_X8_361 rfl zt_0 rfl (zfit_m (by decide) (by decide)) (Nat.le_of_ble_eq_true rfl) dX8_years_118 rfl ?_
          refine zo_sub (ls' := [(0, .ref 0), (2, .int v2), (3, .int v3)]) [0, 1, 2] rfl ?_
          exact g8_years_121 (fun u0 u1 u2 h => ih u0 u1 u2 h) _ _ _ h
        · replace h := (if_pos hc).symm.trans h
          refine zg_aload_n 0 dX8_years_76 rfl rfl ?_
          refine zg_aload_n 0 dX8_years_77 rfl rfl ?_
          refine zo_getr 3 3 rfl fl_X8_16 zt_0 rfl dX8_years_78 ?_
          refine zg_geti fl_X8_100 zt_3 rfl dX8_years_81 ?_
          obtain ⟨p2, hp2, h⟩ := z_bind h
          refine zg_callV (st := []) (k_X8_drawnBelow hp2) zY_X8_drawnBelow lv_X8_358 rfl zt_0 rfl (zfit_m (by decide) (by decide)) (Nat.le_of_ble_eq_true rfl) dX8_years_84 rfl ?_
          refine zg_istore (ls' := [(0, .ref 0), (2, .int v2), (3, .int v3), (4, .int p1.1), (5, .int p2.1)]) dX8_years_87 (Nat.le_of_ble_eq_true rfl) rfl ?_
          refine zg_aload_n 0 dX8_years_89 rfl rfl ?_
          refine zg_aload_n 0 dX8_years_90 rfl rfl ?_
          refine zo_getr 3 3 rfl fl_X8_16 zt_0 rfl dX8_years_91 ?_
          refine zg_geti fl_X8_213 zt_3 rfl dX8_years_94 ?_
          obtain ⟨p3, hp3, h⟩ := z_bind h
          refine zg_callV (st := []) (k_X8_drawnBelow hp3) zY_X8_drawnBelow lv_X8_358 rfl zt_0 rfl (zfit_m (by decide) (by decide)) (Nat.le_of_ble_eq_true rfl) dX8_years_97 rfl ?_
          refine zg_istore (ls' := [(0, .ref 0), (2, .int v2), (3, .int v3), (4, .int p1.1), (5, .int p2.1), (6, .int p3.1)]) dX8_years_100 (Nat.le_of_ble_eq_true rfl) rfl ?_
          refine zg_aload_n 0 dX8_years_102 rfl rfl ?_
          refine zo_getr 3 3 rfl fl_X8_16 zt_0 rfl dX8_years_103 ?_
          refine zg_iload 4 dX8_years_106 rfl ?_
          refine zg_iload 5 dX8_years_108 rfl ?_
          obtain ⟨p4, hp4, h⟩ := z_bind h
          refine zg_callV (st := []) (k_X7_turnCell zW_3 hp4) zY_X7_turnCell lv_X8_166 rfl zt_3 rfl (zfit_m (by decide) (by decide)) (Nat.le_of_ble_eq_true rfl) dX8_years_110 rfl ?_
          refine zg_pop dX8_years_113 rfl ?_
          refine zg_goto (tgt := 121) dX8_years_114 (by decide) ?_
          refine zo_sub (ls' := [(0, .ref 0), (2, .int v2), (3, .int v3)]) [0, 1, 2] rfl ?_
          exact g8_years_121 (fun u0 u1 u2 h => ih u0 u1 u2 h) _ _ _ h
      · replace h := (if_neg hc).symm.trans h
        refine zg_aload_n 0 dX8_years_49 rfl rfl ?_
        refine zo_getr 3 3 rfl fl_X8_16 zt_0 rfl dX8_years_50 ?_
        refine zg_aload_n 0 dX8_years_53 rfl rfl ?_
        refine zo_getr 11 11 rfl fl_X8_39 zt_0 rfl dX8_years_54 ?_
        refine zg_aload_n 0 dX8_years_57 rfl rfl ?_
        refine zo_getr 3 3 rfl fl_X8_16 zt_0 rfl dX8_years_58 ?_
        obtain ⟨p2, hp2, h⟩ := z_bind h
        refine zg_callV (st := [.ref 3]) (k_X4_goesOf zR_11 zW_3 hp2) zY_X4_goesOf lv_X8_203 rfl zt_11 rfl (zfit_m (by decide) (by decide)) (Nat.le_of_ble_eq_true rfl) dX8_years_61 rfl ?_
        obtain ⟨M3, hM3, h⟩ := z_bind h
        refine zg_callV (st := []) (k_X7_passNight zW_3 hM3) zY_X7_passNight lv_X8_210 rfl zt_3 rfl (zfit_m (by decide) (by decide)) (Nat.le_of_ble_eq_true rfl) dX8_years_64 rfl ?_
        refine zg_goto (tgt := 121) dX8_years_67 (by decide) ?_
        refine zo_sub (ls' := [(0, .ref 0), (2, .int v2), (3, .int v3)]) [0, 1, 2] rfl ?_
        exact g8_years_121 (fun u0 u1 u2 h => ih u0 u1 u2 h) _ _ _ h
set_option maxRecDepth 20000 in
set_option maxHeartbeats 4000000 in
theorem k_X8_years {v1 : Int32} {v2 : Int32} {M : zM} {r1 : Int32} {M1 : zM} (h : f8_years v1 v2 M = some (r1, M1)) : zK ztops yX8_years cX8_years 7 (some .int) 6 [.ref 0, .int v1, .int v2] M (some (.int r1)) M1 := by
  refine zK_of pl_X8 (Nat.le_of_ble_eq_true rfl) ?_
  show zJ ztops RX8 cX8_years 7 _ 0 0 0 [(0, .ref 0), (1, .int v1), (2, .int v2)] [] M
  rw [f8_years] at h
  refine zg_iload_n 2 dX8_years_0 rfl rfl ?_
  refine zg_iconst dX8_years_1 zki_1 ?_
  refine zg_icmp_lt (tgt := 11) dX8_years_2 (by decide) (fun hc => ?_) (fun hc => ?_)
  · replace h := (if_pos hc).symm.trans h
    refine zg_iconst dX8_years_11 zki_m1 ?_
    cases h
    exact zg_iret dX8_years_12
  · replace h := (if_neg hc).symm.trans h
    refine zg_iload_n 2 dX8_years_5 rfl rfl ?_
    refine zg_bipush dX8_years_6 zkb_60 ?_
    refine zg_icmp_le (tgt := 13) dX8_years_8 (by decide) (fun hc => ?_) (fun hc => ?_)
    · replace h := (if_pos hc).symm.trans h
      refine zg_aload_n 0 dX8_years_13 rfl rfl ?_
      refine zg_iload_n 1 dX8_years_14 rfl rfl ?_
      refine zg_puti fp_X8_79 zt_0 rfl dX8_years_15 ?_
      refine zg_aload_n 0 dX8_years_18 rfl rfl ?_
      refine zo_getr 3 3 rfl fl_X8_16 zt_0 rfl dX8_years_19 ?_
      refine zg_aload_n 0 dX8_years_22 rfl rfl ?_
      refine zo_getr 1 1 rfl fl_X8_10 zt_0 rfl dX8_years_23 ?_
      obtain ⟨M1, hM1, h⟩ := z_bind h
      refine zg_callV (st := []) (k_X7_become zW_3 zW_1 hM1) zY_X7_become lv_X8_93 rfl zt_3 rfl (zfit_m (by decide) (by decide)) (Nat.le_of_ble_eq_true rfl) dX8_years_26 rfl ?_
      refine zg_iconst dX8_years_29 zki_0 ?_
      refine zg_istore_n (ls' := [(0, .ref 0), (1, .int v1), (2, .int v2), (3, .int (0 : Int32))]) dX8_years_30 rfl (Nat.le_of_ble_eq_true rfl) rfl ?_
      refine zo_sub (ls' := [(0, .ref 0), (2, .int v2), (3, .int (0 : Int32))]) [0, 2, 3] rfl ?_
      exact g8_years_31 zfuel _ _ _ h
    · replace h := (if_neg hc).symm.trans h
      refine zg_iconst dX8_years_11 zki_m1 ?_
      cases h
      exact zg_iret dX8_years_12
set_option maxRecDepth 20000 in
set_option maxHeartbeats 4000000 in
theorem g8_passNights_19 {r1 : Int32} {M1 : zM} : ∀ (n : Nat) (v1 : Int32) (v2 : Int32) (v3 : Int32) (v4 : Int32) (M : zM), f8_passNights_19 n v1 v2 v3 v4 M = some (r1, M1) → zJ ztops RX8 cX8_passNights 5 (zBm ztops 6 (some .int) (some (.int r1)) M1) 0 0 19 [(0, .ref 0), (1, .int v1), (2, .int v2), (3, .int v3), (4, .int v4)] [] M := by
  intro n
  induction n with
  | zero => intro v1 v2 v3 v4 M h; cases h
  | succ n ih =>
    intro v1 v2 v3 v4 M h
    rw [f8_passNights_19] at h
    refine zg_iload 4 dX8_passNights_19 rfl ?_
    refine zg_iload_n 1 dX8_passNights_21 rfl rfl ?_
    refine zg_icmp_ge (tgt := 49) dX8_passNights_22 (by decide) (fun hc => ?_) (fun hc => ?_)
    · replace h := (if_pos hc).symm.trans h
      refine zg_aload_n 0 dX8_passNights_49 rfl rfl ?_
      refine zo_getr 9 9 rfl fl_X8_32 zt_0 rfl dX8_passNights_50 ?_
      refine zg_iload_n 2 dX8_passNights_53 rfl rfl ?_
      refine zg_aload_n 0 dX8_passNights_54 rfl rfl ?_
      refine zo_getr 1 1 rfl fl_X8_10 zt_0 rfl dX8_passNights_55 ?_
      refine zg_geti fl_X8_100 zt_1 rfl dX8_passNights_58 ?_
      refine zg_isub dX8_passNights_61 ?_
      refine zg_i2l dX8_passNights_62 ?_
      refine zg_iload_n 3 dX8_passNights_63 rfl rfl ?_
      refine zg_aload_n 0 dX8_passNights_64 rfl rfl ?_
      refine zo_getr 1 1 rfl fl_X8_10 zt_0 rfl dX8_passNights_65 ?_
      refine zg_geti fl_X8_213 zt_1 rfl dX8_passNights_68 ?_
      refine zg_isub dX8_passNights_71 ?_
      refine zg_i2l dX8_passNights_72 ?_
      obtain ⟨M1, hM1, h⟩ := z_bind h
      refine zg_callV (st := []) (k_X3_tell_ hM1) zY_X3_tell_ lv_X8_194 rfl zt_9 rfl (zfit_m (by decide) (by decide)) (Nat.le_of_ble_eq_true rfl) dX8_passNights_73 rfl ?_
      refine zg_aload_n 0 dX8_passNights_76 rfl rfl ?_
      refine zo_getr 1 1 rfl fl_X8_10 zt_0 rfl dX8_passNights_77 ?_
      obtain ⟨x2, hx2, h⟩ := z_bind h
      refine zg_callV (st := []) (k_X7_threads zW_1 hx2) zY_X7_threads lv_X8_191 rfl zt_1 rfl (zfit_m (by decide) (by decide)) (Nat.le_of_ble_eq_true rfl) dX8_passNights_80 rfl ?_
      cases h
      exact zg_iret dX8_passNights_83
    · replace h := (if_neg hc).symm.trans h
      refine zg_aload_n 0 dX8_passNights_25 rfl rfl ?_
      refine zo_getr 1 1 rfl fl_X8_10 zt_0 rfl dX8_passNights_26 ?_
      refine zg_aload_n 0 dX8_passNights_29 rfl rfl ?_
      refine zo_getr 11 11 rfl fl_X8_39 zt_0 rfl dX8_passNights_30 ?_
      refine zg_aload_n 0 dX8_passNights_33 rfl rfl ?_
      refine zo_getr 1 1 rfl fl_X8_10 zt_0 rfl dX8_passNights_34 ?_
      obtain ⟨p1, hp1, h⟩ := z_bind h
      refine zg_callV (st := [.ref 1]) (k_X4_goesOf zR_11 zW_1 hp1) zY_X4_goesOf lv_X8_203 rfl zt_11 rfl (zfit_m (by decide) (by decide)) (Nat.le_of_ble_eq_true rfl) dX8_passNights_37 rfl ?_
      obtain ⟨M2, hM2, h⟩ := z_bind h
      refine zg_callV (st := []) (k_X7_passNight zW_1 hM2) zY_X7_passNight lv_X8_210 rfl zt_1 rfl (zfit_m (by decide) (by decide)) (Nat.le_of_ble_eq_true rfl) dX8_passNights_40 rfl ?_
      refine zg_iinc (ls' := [(0, .ref 0), (1, .int v1), (2, .int v2), (3, .int v3), (4, .int (v4 + (1 : Int32)))]) 4 dX8_passNights_43 rfl zki_1 (Nat.le_of_ble_eq_true rfl) rfl ?_
      refine zg_goto (tgt := 19) dX8_passNights_46 (by decide) ?_
      exact ih _ _ _ _ _ h
set_option maxRecDepth 20000 in
set_option maxHeartbeats 4000000 in
theorem k_X8_passNights {v1 : Int32} {M : zM} {r1 : Int32} {M1 : zM} (h : f8_passNights v1 M = some (r1, M1)) : zK ztops yX8_passNights cX8_passNights 5 (some .int) 6 [.ref 0, .int v1] M (some (.int r1)) M1 := by
  refine zK_of pl_X8 (Nat.le_of_ble_eq_true rfl) ?_
  show zJ ztops RX8 cX8_passNights 5 _ 0 0 0 [(0, .ref 0), (1, .int v1)] [] M
  rw [f8_passNights] at h
  refine zg_aload_n 0 dX8_passNights_0 rfl rfl ?_
  refine zo_getr 1 1 rfl fl_X8_10 zt_0 rfl dX8_passNights_1 ?_
  refine zg_geti fl_X8_100 zt_1 rfl dX8_passNights_4 ?_
  refine zg_istore_n (ls' := [(0, .ref 0), (1, .int v1), (2, .int (M.1 1 0))]) dX8_passNights_7 rfl (Nat.le_of_ble_eq_true rfl) rfl ?_
  refine zg_aload_n 0 dX8_passNights_8 rfl rfl ?_
  refine zo_getr 1 1 rfl fl_X8_10 zt_0 rfl dX8_passNights_9 ?_
  refine zg_geti fl_X8_213 zt_1 rfl dX8_passNights_12 ?_
  refine zg_istore_n (ls' := [(0, .ref 0), (1, .int v1), (2, .int (M.1 1 0)), (3, .int (M.1 1 1))]) dX8_passNights_15 rfl (Nat.le_of_ble_eq_true rfl) rfl ?_
  refine zg_iconst dX8_passNights_16 zki_0 ?_
  refine zg_istore (ls' := [(0, .ref 0), (1, .int v1), (2, .int (M.1 1 0)), (3, .int (M.1 1 1)), (4, .int (0 : Int32))]) dX8_passNights_17 (Nat.le_of_ble_eq_true rfl) rfl ?_
  exact g8_passNights_19 zfuel _ _ _ _ _ h
set_option maxRecDepth 20000 in
set_option maxHeartbeats 4000000 in
theorem k_X8_actAt {v1 : Int32} {M : zM} {r1 : Int32} {M1 : zM} (h : f8_actAt v1 M = some (r1, M1)) : zK ztops yX8_actAt cX8_actAt 4 (some .int) 7 [.ref 0, .int v1] M (some (.int r1)) M1 := by
  refine zK_of pl_X8 (Nat.le_of_ble_eq_true rfl) ?_
  show zJ ztops RX8 cX8_actAt 4 _ 0 0 0 [(0, .ref 0), (1, .int v1)] [] M
  rw [f8_actAt] at h
  refine zg_aload_n 0 dX8_actAt_0 rfl rfl ?_
  refine zo_getr 7 7 rfl fl_X8_25 zt_0 rfl dX8_actAt_1 ?_
  refine zg_iload_n 1 dX8_actAt_4 rfl rfl ?_
  refine zg_iconst dX8_actAt_5 zki_1 ?_
  refine zg_iadd dX8_actAt_6 ?_
  obtain ⟨x1, hx1, h⟩ := z_bind h
  refine zg_callV (st := []) (k_X6_digit hx1) zY_X6_digit lv_X8_401 rfl zt_7 rfl (zfit_m (by decide) (by decide)) (Nat.le_of_ble_eq_true rfl) dX8_actAt_7 rfl ?_
  refine zg_istore_n (ls' := [(0, .ref 0), (1, .int v1), (2, .int x1)]) dX8_actAt_10 rfl (Nat.le_of_ble_eq_true rfl) rfl ?_
  refine zg_aload_n 0 dX8_actAt_11 rfl rfl ?_
  refine zo_getr 7 7 rfl fl_X8_25 zt_0 rfl dX8_actAt_12 ?_
  refine zg_iload_n 1 dX8_actAt_15 rfl rfl ?_
  refine zg_iconst dX8_actAt_16 zki_2 ?_
  refine zg_iadd dX8_actAt_17 ?_
  obtain ⟨x2, hx2, h⟩ := z_bind h
  refine zg_callV (st := []) (k_X6_digit hx2) zY_X6_digit lv_X8_401 rfl zt_7 rfl (zfit_m (by decide) (by decide)) (Nat.le_of_ble_eq_true rfl) dX8_actAt_18 rfl ?_
  refine zg_istore_n (ls' := [(0, .ref 0), (1, .int v1), (2, .int x1), (3, .int x2)]) dX8_actAt_21 rfl (Nat.le_of_ble_eq_true rfl) rfl ?_
  refine zg_aload_n 0 dX8_actAt_22 rfl rfl ?_
  refine zo_getr 7 7 rfl fl_X8_25 zt_0 rfl dX8_actAt_23 ?_
  refine zg_iload_n 1 dX8_actAt_26 rfl rfl ?_
  obtain ⟨x3, hx3, h⟩ := z_bind h
  refine zg_callV (st := []) (k_X6_at hx3) zY_X6_at lv_X8_179 rfl zt_7 rfl (zfit_m (by decide) (by decide)) (Nat.le_of_ble_eq_true rfl) dX8_actAt_27 rfl ?_
  by_cases hc1 : x3 = (100 : Int32)
  · replace h := (if_pos hc1).symm.trans h
    refine zg_lookEq (k := 100) (tgt := 112) dX8_actAt_30 (by decide) hc1 (by decide) (by decide) ?_
    refine zg_aload_n 0 dX8_actAt_112 rfl rfl ?_
    refine zo_getr 1 1 rfl fl_X8_10 zt_0 rfl dX8_actAt_113 ?_
    refine zg_iload_n 2 dX8_actAt_116 rfl rfl ?_
    refine zg_iload_n 3 dX8_actAt_117 rfl rfl ?_
    obtain ⟨p4, hp4, h⟩ := z_bind h
    refine zg_callV (st := []) (k_X7_drawOut zW_1 hp4) zY_X7_drawOut lv_X8_163 rfl zt_1 rfl (zfit_m (by decide) (by decide)) (Nat.le_of_ble_eq_true rfl) dX8_actAt_118 rfl ?_
    cases h
    exact zg_iret dX8_actAt_121
  replace h := (if_neg hc1).symm.trans h
  by_cases hc2 : x3 = (110 : Int32)
  · replace h := (if_pos hc2).symm.trans h
    refine zg_lookEq (k := 110) (tgt := 72) dX8_actAt_30 (by decide) hc2 (by decide) (by decide) ?_
    refine zg_aload_n 0 dX8_actAt_72 rfl rfl ?_
    refine zg_iload_n 2 dX8_actAt_73 rfl rfl ?_
    obtain ⟨p4, hp4, h⟩ := z_bind h
    refine zg_callV (st := []) (k_X8_passNights hp4) zY_X8_passNights lv_X8_152 rfl zt_0 rfl (zfit_m (by decide) (by decide)) (Nat.le_of_ble_eq_true rfl) dX8_actAt_74 rfl ?_
    cases h
    exact zg_iret dX8_actAt_77
  replace h := (if_neg hc2).symm.trans h
  by_cases hc3 : x3 = (116 : Int32)
  · replace h := (if_pos hc3).symm.trans h
    refine zg_lookEq (k := 116) (tgt := 122) dX8_actAt_30 (by decide) hc3 (by decide) (by decide) ?_
    refine zg_aload_n 0 dX8_actAt_122 rfl rfl ?_
    refine zo_getr 1 1 rfl fl_X8_10 zt_0 rfl dX8_actAt_123 ?_
    refine zg_iload_n 2 dX8_actAt_126 rfl rfl ?_
    refine zg_iload_n 3 dX8_actAt_127 rfl rfl ?_
    obtain ⟨p4, hp4, h⟩ := z_bind h
    refine zg_callV (st := []) (k_X7_turnCell zW_1 hp4) zY_X7_turnCell lv_X8_166 rfl zt_1 rfl (zfit_m (by decide) (by decide)) (Nat.le_of_ble_eq_true rfl) dX8_actAt_128 rfl ?_
    cases h
    exact zg_iret dX8_actAt_131
  replace h := (if_neg hc3).symm.trans h
  by_cases hc4 : x3 = (119 : Int32)
  · replace h := (if_pos hc4).symm.trans h
    refine zg_lookEq (k := 119) (tgt := 78) dX8_actAt_30 (by decide) hc4 (by decide) (by decide) ?_
    refine zg_aload_n 0 dX8_actAt_78 rfl rfl ?_
    refine zo_getr 1 1 rfl fl_X8_10 zt_0 rfl dX8_actAt_79 ?_
    refine zg_iload_n 2 dX8_actAt_82 rfl rfl ?_
    refine zg_iload_n 3 dX8_actAt_83 rfl rfl ?_
    refine zg_bipush dX8_actAt_84 zkb_10 ?_
    refine zg_aload_n 0 dX8_actAt_86 rfl rfl ?_
    refine zo_getr 7 7 rfl fl_X8_25 zt_0 rfl dX8_actAt_87 ?_
    refine zg_iload_n 1 dX8_actAt_90 rfl rfl ?_
    refine zg_iconst dX8_actAt_91 zki_3 ?_
    refine zg_iadd dX8_actAt_92 ?_
    obtain ⟨x4, hx4, h⟩ := z_bind h
    refine zg_callV (st := [.int (10 : Int32), .int x2, .int x1, .ref 1]) (k_X6_digit hx4) zY_X6_digit lv_X8_401 rfl zt_7 rfl (zfit_m (by decide) (by decide)) (Nat.le_of_ble_eq_true rfl) dX8_actAt_93 rfl ?_
    refine zg_imul dX8_actAt_96 ?_
    refine zg_aload_n 0 dX8_actAt_97 rfl rfl ?_
    refine zo_getr 7 7 rfl fl_X8_25 zt_0 rfl dX8_actAt_98 ?_
    refine zg_iload_n 1 dX8_actAt_101 rfl rfl ?_
    refine zg_iconst dX8_actAt_102 zki_4 ?_
    refine zg_iadd dX8_actAt_103 ?_
    obtain ⟨x5, hx5, h⟩ := z_bind h
    refine zg_callV (st := [.int ((10 : Int32) * x4), .int x2, .int x1, .ref 1]) (k_X6_digit hx5) zY_X6_digit lv_X8_401 rfl zt_7 rfl (zfit_m (by decide) (by decide)) (Nat.le_of_ble_eq_true rfl) dX8_actAt_104 rfl ?_
    refine zg_iadd dX8_actAt_107 ?_
    obtain ⟨p6, hp6, h⟩ := z_bind h
    refine zg_callV (st := []) (k_X7_weaveIn zW_1 hp6) zY_X7_weaveIn lv_X8_156 rfl zt_1 rfl (zfit_m (by decide) (by decide)) (Nat.le_of_ble_eq_true rfl) dX8_actAt_108 rfl ?_
    cases h
    exact zg_iret dX8_actAt_111
  replace h := (if_neg hc4).symm.trans h
  refine zg_lookup (tgt := 132) dX8_actAt_30 (by decide) ((lv_osw hc1 (by decide)).trans ((lv_osw hc2 (by decide)).trans ((lv_osw hc3 (by decide)).trans ((lv_osw hc4 (by decide)).trans (rfl))))) (by decide) ?_
  refine zg_aload_n 0 dX8_actAt_132 rfl rfl ?_
  refine zo_getr 1 1 rfl fl_X8_10 zt_0 rfl dX8_actAt_133 ?_
  refine zg_iload_n 2 dX8_actAt_136 rfl rfl ?_
  obtain ⟨p4, hp4, h⟩ := z_bind h
  refine zg_callV (st := []) (k_X7_turnRound zW_1 hp4) zY_X7_turnRound lv_X8_169 rfl zt_1 rfl (zfit_m (by decide) (by decide)) (Nat.le_of_ble_eq_true rfl) dX8_actAt_137 rfl ?_
  cases h
  exact zg_iret dX8_actAt_140
set_option maxRecDepth 20000 in
set_option maxHeartbeats 4000000 in
theorem g8_staysApart_51 {r1 : Int32} {M : zM} {k17 : Int32 → Int32 → Int32 → zM → Option Int32} (hk17 : ∀ (v1 : Int32) (v2 : Int32) (v3 : Int32), k17 v1 v2 v3 M = some r1 → zJ ztops RX8 cX8_staysApart 4 (zBm ztops 3 (some .boolean) (some (.int r1)) M) 0 0 17 [(0, .ref 0), (1, .int v1), (2, .int v2), (3, .int v3)] [] M) : ∀ (v1 : Int32) (v2 : Int32) (v3 : Int32), f8_staysApart_51 k17 v1 v2 v3 M = some r1 → zJ ztops RX8 cX8_staysApart 4 (zBm ztops 3 (some .boolean) (some (.int r1)) M) 0 0 51 [(0, .ref 0), (1, .int v1), (2, .int v2), (3, .int v3)] [] M := by
  intro v1 v2 v3 h
  rw [f8_staysApart_51] at h
  refine zg_iinc (ls' := [(0, .ref 0), (1, .int v1), (2, .int v2), (3, .int (v3 + (1 : Int32)))]) 3 dX8_staysApart_51 rfl zki_1 (Nat.le_of_ble_eq_true rfl) rfl ?_
  refine zg_goto (tgt := 17) dX8_staysApart_54 (by decide) ?_
  exact hk17 _ _ _ h
set_option maxRecDepth 20000 in
set_option maxHeartbeats 4000000 in
theorem g8_staysApart_17 {r1 : Int32} {M : zM} {k57 : Int32 → Int32 → zM → Option Int32} (hk57 : ∀ (v1 : Int32) (v2 : Int32), k57 v1 v2 M = some r1 → zJ ztops RX8 cX8_staysApart 4 (zBm ztops 3 (some .boolean) (some (.int r1)) M) 0 0 57 [(0, .ref 0), (1, .int v1), (2, .int v2)] [] M) : ∀ (n : Nat) (v1 : Int32) (v2 : Int32) (v3 : Int32), f8_staysApart_17 k57 n v1 v2 v3 M = some r1 → zJ ztops RX8 cX8_staysApart 4 (zBm ztops 3 (some .boolean) (some (.int r1)) M) 0 0 17 [(0, .ref 0), (1, .int v1), (2, .int v2), (3, .int v3)] [] M := by
  intro n
  induction n with
  | zero => intro v1 v2 v3 h; cases h
  | succ n ih =>
    intro v1 v2 v3 h
    rw [f8_staysApart_17] at h
    refine zg_iload_n 3 dX8_staysApart_17 rfl rfl ?_
    refine zg_aload_n 0 dX8_staysApart_18 rfl rfl ?_
    refine zo_getr 1 1 rfl fl_X8_10 zt_0 rfl dX8_staysApart_19 ?_
    refine zg_geti fl_X8_100 zt_1 rfl dX8_staysApart_22 ?_
    refine zg_icmp_ge (tgt := 57) dX8_staysApart_25 (by decide) (fun hc => ?_) (fun hc => ?_)
    · replace h := (if_pos hc).symm.trans h
      refine zo_sub (ls' := [(0, .ref 0), (1, .int v1), (2, .int v2)]) [0, 1, 2] rfl ?_
      exact hk57 _ _ h
    · replace h := (if_neg hc).symm.trans h
      refine zg_iload_n 1 dX8_staysApart_28 rfl rfl ?_
      refine zg_iload_n 2 dX8_staysApart_29 rfl rfl ?_
      refine zg_iushr dX8_staysApart_30 ?_
      refine zg_iload_n 1 dX8_staysApart_31 rfl rfl ?_
      refine zg_iload_n 3 dX8_staysApart_32 rfl rfl ?_
      refine zg_iushr dX8_staysApart_33 ?_
      refine zg_iand dX8_staysApart_34 ?_
      refine zg_iconst dX8_staysApart_35 zki_1 ?_
      refine zg_iand dX8_staysApart_36 ?_
      refine zg_if_eq (tgt := 51) dX8_staysApart_37 (by decide) (fun hc => ?_) (fun hc => ?_)
      · replace h := (if_pos hc).symm.trans h
        exact g8_staysApart_51 (fun u0 u1 u2 h => ih u0 u1 u2 h) _ _ _ h
      · replace h := (if_neg hc).symm.trans h
        refine zg_aload_n 0 dX8_staysApart_40 rfl rfl ?_
        refine zg_iload_n 2 dX8_staysApart_41 rfl rfl ?_
        refine zg_iload_n 3 dX8_staysApart_42 rfl rfl ?_
        obtain ⟨x1, hx1, h⟩ := z_bind h
        refine zg_callV (st := []) (k_X8_canBeAlike hx1) zY_X8_canBeAlike lv_X8_404 rfl zt_0 rfl (zfit_m (by decide) (by decide)) (Nat.le_of_ble_eq_true rfl) dX8_staysApart_43 rfl ?_
        refine zg_if_eq (tgt := 51) dX8_staysApart_46 (by decide) (fun hc => ?_) (fun hc => ?_)
        · replace h := (if_pos hc).symm.trans h
          exact g8_staysApart_51 (fun u0 u1 u2 h => ih u0 u1 u2 h) _ _ _ h
        · replace h := (if_neg hc).symm.trans h
          refine zg_iconst dX8_staysApart_49 zki_0 ?_
          cases h
          exact zg_zret rfl dX8_staysApart_50
set_option maxRecDepth 20000 in
set_option maxHeartbeats 4000000 in
theorem g8_staysApart_2 {r1 : Int32} {M : zM} {k57 : Int32 → Int32 → zM → Option Int32} (hk57 : ∀ (v1 : Int32) (v2 : Int32), k57 v1 v2 M = some r1 → zJ ztops RX8 cX8_staysApart 4 (zBm ztops 3 (some .boolean) (some (.int r1)) M) 0 0 57 [(0, .ref 0), (1, .int v1), (2, .int v2)] [] M) : ∀ (n : Nat) (v1 : Int32) (v2 : Int32), f8_staysApart_2 k57 n v1 v2 M = some r1 → zJ ztops RX8 cX8_staysApart 4 (zBm ztops 3 (some .boolean) (some (.int r1)) M) 0 0 2 [(0, .ref 0), (1, .int v1), (2, .int v2)] [] M := by
  intro n
  induction n with
  | zero => intro v1 v2 h; cases h
  | succ n ih =>
    intro v1 v2 h
    rw [f8_staysApart_2] at h
    refine zg_iload_n 2 dX8_staysApart_2 rfl rfl ?_
    refine zg_aload_n 0 dX8_staysApart_3 rfl rfl ?_
    refine zo_getr 1 1 rfl fl_X8_10 zt_0 rfl dX8_staysApart_4 ?_
    refine zg_geti fl_X8_100 zt_1 rfl dX8_staysApart_7 ?_
    refine zg_icmp_ge (tgt := 63) dX8_staysApart_10 (by decide) (fun hc => ?_) (fun hc => ?_)
    · replace h := (if_pos hc).symm.trans h
      refine zg_iconst dX8_staysApart_63 zki_1 ?_
      cases h
      exact zg_zret rfl dX8_staysApart_64
    · replace h := (if_neg hc).symm.trans h
      refine zg_iload_n 2 dX8_staysApart_13 rfl rfl ?_
      refine zg_iconst dX8_staysApart_14 zki_1 ?_
      refine zg_iadd dX8_staysApart_15 ?_
      refine zg_istore_n (ls' := [(0, .ref 0), (1, .int v1), (2, .int v2), (3, .int (v2 + (1 : Int32)))]) dX8_staysApart_16 rfl (Nat.le_of_ble_eq_true rfl) rfl ?_
      exact g8_staysApart_17 (fun u0 u1 h => g8_staysApart_57 (fun u0 u1 h => ih u0 u1 h) u0 u1 h) zfuel _ _ _ h
set_option maxRecDepth 20000 in
set_option maxHeartbeats 4000000 in
theorem g8_staysApart_57 {r1 : Int32} {M : zM} {k2 : Int32 → Int32 → zM → Option Int32} (hk2 : ∀ (v1 : Int32) (v2 : Int32), k2 v1 v2 M = some r1 → zJ ztops RX8 cX8_staysApart 4 (zBm ztops 3 (some .boolean) (some (.int r1)) M) 0 0 2 [(0, .ref 0), (1, .int v1), (2, .int v2)] [] M) : ∀ (v1 : Int32) (v2 : Int32), f8_staysApart_57 k2 v1 v2 M = some r1 → zJ ztops RX8 cX8_staysApart 4 (zBm ztops 3 (some .boolean) (some (.int r1)) M) 0 0 57 [(0, .ref 0), (1, .int v1), (2, .int v2)] [] M := by
  intro v1 v2 h
  rw [f8_staysApart_57] at h
  refine zg_iinc (ls' := [(0, .ref 0), (1, .int v1), (2, .int (v2 + (1 : Int32)))]) 2 dX8_staysApart_57 rfl zki_1 (Nat.le_of_ble_eq_true rfl) rfl ?_
  refine zg_goto (tgt := 2) dX8_staysApart_60 (by decide) ?_
  exact hk2 _ _ h
set_option maxRecDepth 20000 in
set_option maxHeartbeats 4000000 in
theorem k_X8_staysApart {v1 : Int32} {r1 : Int32} {M : zM} (h : f8_staysApart v1 M = some r1) : zK ztops yX8_staysApart cX8_staysApart 4 (some .boolean) 3 [.ref 0, .int v1] M (some (.int r1)) M := by
  refine zK_of pl_X8 (Nat.le_of_ble_eq_true rfl) ?_
  show zJ ztops RX8 cX8_staysApart 4 _ 0 0 0 [(0, .ref 0), (1, .int v1)] [] M
  rw [f8_staysApart] at h
  refine zg_iconst dX8_staysApart_0 zki_0 ?_
  refine zg_istore_n (ls' := [(0, .ref 0), (1, .int v1), (2, .int (0 : Int32))]) dX8_staysApart_1 rfl (Nat.le_of_ble_eq_true rfl) rfl ?_
  exact g8_staysApart_2 hk57 zfuel _ _ h
