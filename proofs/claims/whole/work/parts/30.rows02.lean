set_option maxRecDepth 20000 in
set_option maxHeartbeats 4000000 in
theorem g7_fillPicks_43 {T : List zN} {a0 : Nat} (h0 : zWv T a0) {r1 : Int32} {Mr : zM} {k6 : Int32 → Int32 → Int32 → Int32 → Int32 → zM → Option (Int32 × zM)} (hk6 : ∀ (v1 : Int32) (v2 : Int32) (v3 : Int32) (v4 : Int32) (v5 : Int32) (M : zM), k6 v1 v2 v3 v4 v5 M = some (r1, Mr) → zJ T RX7 cX7_fillPicks 6 (zBm T 2 (some .int) (some (.int r1)) Mr) 0 0 6 [(0, .ref a0), (1, .int v1), (2, .int v2), (3, .int v3), (4, .int v4), (5, .int v5)] [] M) : ∀ (v1 : Int32) (v2 : Int32) (v3 : Int32) (v4 : Int32) (v5 : Int32) (s1 : Int32) (s2 : Int32) (M : zM), f7_fillPicks_43 a0 k6 v1 v2 v3 v4 v5 s1 s2 M = some (r1, Mr) → zJ T RX7 cX7_fillPicks 6 (zBm T 2 (some .int) (some (.int r1)) Mr) 0 0 43 [(0, .ref a0), (1, .int v1), (2, .int v2), (3, .int v3), (4, .int v4), (5, .int v5)] [.int s2, .int s1, .ref (a0 + 1)] M := by
  intro v1 v2 v3 v4 v5 s1 s2 M h
  rw [f7_fillPicks_43] at h
  obtain ⟨M1, hM1, h⟩ := z_bind h
  refine zo_iast h0.2 hM1 dX7_fillPicks_43 ?_
  refine zg_iload 4 dX7_fillPicks_44 rfl ?_
  refine zg_aload_n 0 dX7_fillPicks_46 rfl rfl ?_
  refine zo_getr (a0 + 1) 0 rfl fl_X7_21 h0.1 rfl dX7_fillPicks_47 ?_
  refine zg_iload 5 dX7_fillPicks_50 rfl ?_
  obtain ⟨x2, hx2, h⟩ := z_bind h
  refine zo_iald h0.2 hx2 dX7_fillPicks_52 ?_
  refine zg_iadd dX7_fillPicks_53 ?_
  refine zg_istore (ls' := [(0, .ref a0), (1, .int v1), (2, .int v2), (3, .int v3), (4, .int (v4 + x2)), (5, .int v5)]) dX7_fillPicks_54 (Nat.le_of_ble_eq_true rfl) rfl ?_
  refine zg_iinc (ls' := [(0, .ref a0), (1, .int v1), (2, .int v2), (3, .int v3), (4, .int (v4 + x2)), (5, .int (v5 + (1 : Int32)))]) 5 dX7_fillPicks_56 rfl zki_1 (Nat.le_of_ble_eq_true rfl) rfl ?_
  refine zg_goto (tgt := 6) dX7_fillPicks_59 (by decide) ?_
  exact hk6 _ _ _ _ _ _ h
set_option maxRecDepth 20000 in
set_option maxHeartbeats 4000000 in
theorem g7_fillPicks_6 {T : List zN} {a0 : Nat} (h0 : zWv T a0) {r1 : Int32} {Mr : zM} : ∀ (n : Nat) (v1 : Int32) (v2 : Int32) (v3 : Int32) (v4 : Int32) (v5 : Int32) (M : zM), f7_fillPicks_6 a0 n v1 v2 v3 v4 v5 M = some (r1, Mr) → zJ T RX7 cX7_fillPicks 6 (zBm T 2 (some .int) (some (.int r1)) Mr) 0 0 6 [(0, .ref a0), (1, .int v1), (2, .int v2), (3, .int v3), (4, .int v4), (5, .int v5)] [] M := by
  intro n
  induction n with
  | zero => intro v1 v2 v3 v4 v5 M h; cases h
  | succ n ih =>
    intro v1 v2 v3 v4 v5 M h
    rw [f7_fillPicks_6] at h
    refine zg_iload 5 dX7_fillPicks_6 rfl ?_
    refine zg_aload_n 0 dX7_fillPicks_8 rfl rfl ?_
    refine zg_geti fl_X7_9 h0.1 rfl dX7_fillPicks_9 ?_
    refine zg_icmp_ge (tgt := 62) dX7_fillPicks_12 (by decide) (fun hc => ?_) (fun hc => ?_)
    · replace h := (if_pos hc).symm.trans h
      refine zg_aload_n 0 dX7_fillPicks_62 rfl rfl ?_
      obtain ⟨M1, hM1, h⟩ := z_bind h
      refine zg_callV (st := []) (k_X7_settle h0 hM1) zY_X7_settle lv_X7_66 rfl h0.1 rfl (zfit_m (by decide) (by decide)) (Nat.le_of_ble_eq_true rfl) dX7_fillPicks_63 rfl ?_
      refine zg_iload 4 dX7_fillPicks_66 rfl ?_
      obtain ⟨rfl, rfl⟩ := z_ret2 h
      exact zg_iret dX7_fillPicks_68
    · replace h := (if_neg hc).symm.trans h
      refine zg_aload_n 0 dX7_fillPicks_15 rfl rfl ?_
      refine zo_getr (a0 + 1) 0 rfl fl_X7_21 h0.1 rfl dX7_fillPicks_16 ?_
      refine zg_iload 5 dX7_fillPicks_19 rfl ?_
      refine zg_iload 5 dX7_fillPicks_21 rfl ?_
      refine zg_iload_n 1 dX7_fillPicks_23 rfl rfl ?_
      refine zg_icmp_ge (tgt := 42) dX7_fillPicks_24 (by decide) (fun hc => ?_) (fun hc => ?_)
      · replace h := (if_pos hc).symm.trans h
        refine zg_iconst dX7_fillPicks_42 zki_0 ?_
        exact g7_fillPicks_43 h0 (fun u0 u1 u2 u3 u4 u5 h => ih u0 u1 u2 u3 u4 u5 h) _ _ _ _ _ _ _ _ h
      · replace h := (if_neg hc).symm.trans h
        refine zg_iload_n 2 dX7_fillPicks_27 rfl rfl ?_
        refine zg_iload 5 dX7_fillPicks_28 rfl ?_
        refine zg_iload_n 3 dX7_fillPicks_30 rfl rfl ?_
        refine zg_imul dX7_fillPicks_31 ?_
        refine zg_iadd dX7_fillPicks_32 ?_
        refine zg_aload_n 0 dX7_fillPicks_33 rfl rfl ?_
        refine zg_iconst dX7_fillPicks_34 zki_0 ?_
        obtain ⟨x1, hx1, h⟩ := z_bind h
        refine zg_callV (st := [.int (v2 + (v5 * v3)), .int v5, .ref (a0 + 1)]) (k_X7_fullOf h0 hx1) zY_X7_fullOf lv_X7_25 rfl h0.1 rfl (zfit_m (by decide) (by decide)) (Nat.le_of_ble_eq_true rfl) dX7_fillPicks_35 rfl ?_
        refine zg_iand dX7_fillPicks_38 ?_
        refine zg_goto (tgt := 43) dX7_fillPicks_39 (by decide) ?_
        exact g7_fillPicks_43 h0 (fun u0 u1 u2 u3 u4 u5 h => ih u0 u1 u2 u3 u4 u5 h) _ _ _ _ _ _ _ _ h
set_option maxRecDepth 20000 in
set_option maxHeartbeats 4000000 in
theorem k_X7_fillPicks {T : List zN} {a0 : Nat} (h0 : zWv T a0) {v1 : Int32} {v2 : Int32} {v3 : Int32} {M : zM} {r1 : Int32} {Mr : zM} (h : f7_fillPicks a0 v1 v2 v3 M = some (r1, Mr)) : zK T yX7_fillPicks cX7_fillPicks 6 (some .int) 2 [.ref a0, .int v1, .int v2, .int v3] M (some (.int r1)) Mr := by
  refine zK_of pl_X7 (Nat.le_of_ble_eq_true rfl) ?_
  show zJ T RX7 cX7_fillPicks 6 _ 0 0 0 [(0, .ref a0), (1, .int v1), (2, .int v2), (3, .int v3)] [] M
  rw [f7_fillPicks] at h
  refine zg_iconst dX7_fillPicks_0 zki_0 ?_
  refine zg_istore (ls' := [(0, .ref a0), (1, .int v1), (2, .int v2), (3, .int v3), (4, .int (0 : Int32))]) dX7_fillPicks_1 (Nat.le_of_ble_eq_true rfl) rfl ?_
  refine zg_iconst dX7_fillPicks_3 zki_0 ?_
  refine zg_istore (ls' := [(0, .ref a0), (1, .int v1), (2, .int v2), (3, .int v3), (4, .int (0 : Int32)), (5, .int (0 : Int32))]) dX7_fillPicks_4 (Nat.le_of_ble_eq_true rfl) rfl ?_
  exact g7_fillPicks_6 h0 zfuel _ _ _ _ _ _ h
set_option maxRecDepth 20000 in
set_option maxHeartbeats 4000000 in
theorem k_X7_turnCell {T : List zN} {a0 : Nat} (h0 : zWv T a0) {v1 : Int32} {v2 : Int32} {M : zM} {r1 : Int32} {Mr : zM} (h : f7_turnCell a0 v1 v2 M = some (r1, Mr)) : zK T yX7_turnCell cX7_turnCell 3 (some .int) 4 [.ref a0, .int v1, .int v2] M (some (.int r1)) Mr := by
  refine zK_of pl_X7 (Nat.le_of_ble_eq_true rfl) ?_
  show zJ T RX7 cX7_turnCell 3 _ 0 0 0 [(0, .ref a0), (1, .int v1), (2, .int v2)] [] M
  rw [f7_turnCell] at h
  refine zg_aload_n 0 dX7_turnCell_0 rfl rfl ?_
  refine zg_iload_n 1 dX7_turnCell_1 rfl rfl ?_
  refine zg_iload_n 2 dX7_turnCell_2 rfl rfl ?_
  obtain ⟨x1, hx1, h⟩ := z_bind h
  refine zg_callV (st := []) (k_X7_crosses h0 hx1) zY_X7_crosses lv_X7_36 rfl h0.1 rfl (zfit_m (by decide) (by decide)) (Nat.le_of_ble_eq_true rfl) dX7_turnCell_3 rfl ?_
  refine zg_if_ne (tgt := 11) dX7_turnCell_6 (by decide) (fun hc => ?_) (fun hc => ?_)
  · replace h := (if_neg hc).symm.trans h
    refine zg_aload_n 0 dX7_turnCell_11 rfl rfl ?_
    refine zo_getr (a0 + 1) 0 rfl fl_X7_21 h0.1 rfl dX7_turnCell_12 ?_
    refine zg_iload_n 1 dX7_turnCell_15 rfl rfl ?_
    refine zg_dup2 dX7_turnCell_16 rfl rfl ?_
    obtain ⟨x2, hx2, h⟩ := z_bind h
    refine zo_iald h0.2 hx2 dX7_turnCell_17 ?_
    refine zg_iconst dX7_turnCell_18 zki_1 ?_
    refine zg_iload_n 2 dX7_turnCell_19 rfl rfl ?_
    refine zg_ishl dX7_turnCell_20 ?_
    refine zg_ixor dX7_turnCell_21 ?_
    obtain ⟨M3, hM3, h⟩ := z_bind h
    refine zo_iast h0.2 hM3 dX7_turnCell_22 ?_
    refine zg_aload_n 0 dX7_turnCell_23 rfl rfl ?_
    obtain ⟨M4, hM4, h⟩ := z_bind h
    refine zg_callV (st := []) (k_X7_settle h0 hM4) zY_X7_settle lv_X7_66 rfl h0.1 rfl (zfit_m (by decide) (by decide)) (Nat.le_of_ble_eq_true rfl) dX7_turnCell_24 rfl ?_
    refine zg_aload_n 0 dX7_turnCell_27 rfl rfl ?_
    obtain ⟨x5, hx5, h⟩ := z_bind h
    refine zg_callV (st := []) (k_X7_overs h0 hx5) zY_X7_overs lv_X7_93 rfl h0.1 rfl (zfit_m (by decide) (by decide)) (Nat.le_of_ble_eq_true rfl) dX7_turnCell_28 rfl ?_
    obtain ⟨rfl, rfl⟩ := z_ret2 h
    exact zg_iret dX7_turnCell_31
  · replace h := (if_pos hc).symm.trans h
    refine zg_iconst dX7_turnCell_9 zki_m1 ?_
    obtain ⟨rfl, rfl⟩ := z_ret2 h
    exact zg_iret dX7_turnCell_10
set_option maxRecDepth 20000 in
set_option maxHeartbeats 4000000 in
theorem g7_turnedRound_4 {T : List zN} {a0 : Nat} (h0 : zWv T a0) {r1 : Int32} {M : zM} : ∀ (n : Nat) (v1 : Int32) (v2 : Int32) (v3 : Int32), f7_turnedRound_4 a0 n v1 v2 v3 M = some r1 → zJ T RX7 cX7_turnedRound 4 (zBm T 0 (some .int) (some (.int r1)) M) 0 0 4 [(0, .ref a0), (1, .int v1), (2, .int v2), (3, .int v3)] [] M := by
  intro n
  induction n with
  | zero => intro v1 v2 v3 h; cases h
  | succ n ih =>
    intro v1 v2 v3 h
    rw [f7_turnedRound_4] at h
    refine zg_iload_n 3 dX7_turnedRound_4 rfl rfl ?_
    refine zg_aload_n 0 dX7_turnedRound_5 rfl rfl ?_
    refine zg_geti fl_X7_15 h0.1 rfl dX7_turnedRound_6 ?_
    refine zg_icmp_ge (tgt := 28) dX7_turnedRound_9 (by decide) (fun hc => ?_) (fun hc => ?_)
    · replace h := (if_pos hc).symm.trans h
      refine zg_iload_n 2 dX7_turnedRound_28 rfl rfl ?_
      obtain rfl := z_ret1 h
      exact zg_iret dX7_turnedRound_29
    · replace h := (if_neg hc).symm.trans h
      refine zg_iload_n 2 dX7_turnedRound_12 rfl rfl ?_
      refine zg_iconst dX7_turnedRound_13 zki_1 ?_
      refine zg_ishl dX7_turnedRound_14 ?_
      refine zg_iload_n 1 dX7_turnedRound_15 rfl rfl ?_
      refine zg_iload_n 3 dX7_turnedRound_16 rfl rfl ?_
      refine zg_iushr dX7_turnedRound_17 ?_
      refine zg_iconst dX7_turnedRound_18 zki_1 ?_
      refine zg_iand dX7_turnedRound_19 ?_
      refine zg_ior dX7_turnedRound_20 ?_
      refine zg_istore_n (ls' := [(0, .ref a0), (1, .int v1), (2, .int ((zshl v2 (1 : Int32)) ||| ((zushr v1 v3) &&& (1 : Int32)))), (3, .int v3)]) dX7_turnedRound_21 rfl (Nat.le_of_ble_eq_true rfl) rfl ?_
      refine zg_iinc (ls' := [(0, .ref a0), (1, .int v1), (2, .int ((zshl v2 (1 : Int32)) ||| ((zushr v1 v3) &&& (1 : Int32)))), (3, .int (v3 + (1 : Int32)))]) 3 dX7_turnedRound_22 rfl zki_1 (Nat.le_of_ble_eq_true rfl) rfl ?_
      refine zg_goto (tgt := 4) dX7_turnedRound_25 (by decide) ?_
      exact ih _ _ _ h
set_option maxRecDepth 20000 in
set_option maxHeartbeats 4000000 in
theorem k_X7_turnedRound {T : List zN} {a0 : Nat} (h0 : zWv T a0) {v1 : Int32} {r1 : Int32} {M : zM} (h : f7_turnedRound a0 v1 M = some r1) : zK T yX7_turnedRound cX7_turnedRound 4 (some .int) 0 [.ref a0, .int v1] M (some (.int r1)) M := by
  refine zK_of pl_X7 (Nat.le_of_ble_eq_true rfl) ?_
  show zJ T RX7 cX7_turnedRound 4 _ 0 0 0 [(0, .ref a0), (1, .int v1)] [] M
  rw [f7_turnedRound] at h
  refine zg_iconst dX7_turnedRound_0 zki_0 ?_
  refine zg_istore_n (ls' := [(0, .ref a0), (1, .int v1), (2, .int (0 : Int32))]) dX7_turnedRound_1 rfl (Nat.le_of_ble_eq_true rfl) rfl ?_
  refine zg_iconst dX7_turnedRound_2 zki_0 ?_
  refine zg_istore_n (ls' := [(0, .ref a0), (1, .int v1), (2, .int (0 : Int32)), (3, .int (0 : Int32))]) dX7_turnedRound_3 rfl (Nat.le_of_ble_eq_true rfl) rfl ?_
  exact g7_turnedRound_4 h0 zfuel _ _ _ h
set_option maxRecDepth 20000 in
set_option maxHeartbeats 4000000 in
theorem k_X8_sign {v1 : Int32} {M : zM} {r1 : Int32} {Mr : zM} (h : f8_sign v1 M = some (r1, Mr)) : zK ztops yX8_sign cX8_sign 2 (some .int) 2 [.ref 0, .int v1] M (some (.int r1)) Mr := by
  refine zK_of pl_X8 (Nat.le_of_ble_eq_true rfl) ?_
  show zJ ztops RX8 cX8_sign 2 _ 0 0 0 [(0, .ref 0), (1, .int v1)] [] M
  rw [f8_sign] at h
  refine zg_aload_n 0 dX8_sign_0 rfl rfl ?_
  refine zo_getr 7 6 rfl fl_X8_25 zt_0 rfl dX8_sign_1 ?_
  refine zg_geti fl_X8_83 zt_7 rfl dX8_sign_4 ?_
  refine zg_iconst dX8_sign_7 zki_4 ?_
  refine zg_iadd dX8_sign_8 ?_
  refine zg_bipush dX8_sign_9 zkb_80 ?_
  refine zg_icmp_le (tgt := 16) dX8_sign_11 (by decide) (fun hc => ?_) (fun hc => ?_)
  · replace h := (if_pos hc).symm.trans h
    refine zg_aload_n 0 dX8_sign_16 rfl rfl ?_
    refine zo_getr 7 6 rfl fl_X8_25 zt_0 rfl dX8_sign_17 ?_
    refine zg_iload_n 1 dX8_sign_20 rfl rfl ?_
    refine zg_bipush dX8_sign_21 zkb_24 ?_
    refine zg_iushr dX8_sign_23 ?_
    refine zg_sipush dX8_sign_24 zks_255 ?_
    refine zg_iand dX8_sign_27 ?_
    obtain ⟨M1, hM1, h⟩ := z_bind h
    refine zg_callV (st := []) (k_X6_add hM1) zY_X6_add lv_X8_86 rfl zt_7 rfl (zfit_m (by decide) (by decide)) (Nat.le_of_ble_eq_true rfl) dX8_sign_28 rfl ?_
    refine zg_aload_n 0 dX8_sign_31 rfl rfl ?_
    refine zo_getr 7 6 rfl fl_X8_25 zt_0 rfl dX8_sign_32 ?_
    refine zg_iload_n 1 dX8_sign_35 rfl rfl ?_
    refine zg_bipush dX8_sign_36 zkb_16 ?_
    refine zg_iushr dX8_sign_38 ?_
    refine zg_sipush dX8_sign_39 zks_255 ?_
    refine zg_iand dX8_sign_42 ?_
    obtain ⟨M2, hM2, h⟩ := z_bind h
    refine zg_callV (st := []) (k_X6_add hM2) zY_X6_add lv_X8_86 rfl zt_7 rfl (zfit_m (by decide) (by decide)) (Nat.le_of_ble_eq_true rfl) dX8_sign_43 rfl ?_
    refine zg_aload_n 0 dX8_sign_46 rfl rfl ?_
    refine zo_getr 7 6 rfl fl_X8_25 zt_0 rfl dX8_sign_47 ?_
    refine zg_iload_n 1 dX8_sign_50 rfl rfl ?_
    refine zg_bipush dX8_sign_51 zkb_8 ?_
    refine zg_iushr dX8_sign_53 ?_
    refine zg_sipush dX8_sign_54 zks_255 ?_
    refine zg_iand dX8_sign_57 ?_
    obtain ⟨M3, hM3, h⟩ := z_bind h
    refine zg_callV (st := []) (k_X6_add hM3) zY_X6_add lv_X8_86 rfl zt_7 rfl (zfit_m (by decide) (by decide)) (Nat.le_of_ble_eq_true rfl) dX8_sign_58 rfl ?_
    refine zg_aload_n 0 dX8_sign_61 rfl rfl ?_
    refine zo_getr 7 6 rfl fl_X8_25 zt_0 rfl dX8_sign_62 ?_
    refine zg_iload_n 1 dX8_sign_65 rfl rfl ?_
    refine zg_sipush dX8_sign_66 zks_255 ?_
    refine zg_iand dX8_sign_69 ?_
    obtain ⟨M4, hM4, h⟩ := z_bind h
    refine zg_callV (st := []) (k_X6_add hM4) zY_X6_add lv_X8_86 rfl zt_7 rfl (zfit_m (by decide) (by decide)) (Nat.le_of_ble_eq_true rfl) dX8_sign_70 rfl ?_
    refine zg_aload_n 0 dX8_sign_73 rfl rfl ?_
    refine zo_getr 7 6 rfl fl_X8_25 zt_0 rfl dX8_sign_74 ?_
    refine zg_geti fl_X8_83 zt_7 rfl dX8_sign_77 ?_
    obtain ⟨rfl, rfl⟩ := z_ret2 h
    exact zg_iret dX8_sign_80
  · replace h := (if_neg hc).symm.trans h
    refine zg_iconst dX8_sign_14 zki_m1 ?_
    obtain ⟨rfl, rfl⟩ := z_ret2 h
    exact zg_iret dX8_sign_15
set_option maxRecDepth 20000 in
set_option maxHeartbeats 4000000 in
theorem k_X8_end {v1 : Int32} {M : zM} {r1 : Int32} {Mr : zM} (h : f8_end v1 M = some (r1, Mr)) : zK ztops yX8_end cX8_end 2 (some .boolean) 0 [.ref 0, .int v1] M (some (.int r1)) Mr := by
  refine zK_of pl_X8 (Nat.le_of_ble_eq_true rfl) ?_
  show zJ ztops RX8 cX8_end 2 _ 0 0 0 [(0, .ref 0), (1, .int v1)] [] M
  rw [f8_end] at h
  refine zg_iload_n 1 dX8_end_0 rfl rfl ?_
  refine zg_if_lt (tgt := 15) dX8_end_1 (by decide) (fun hc => ?_) (fun hc => ?_)
  · replace h := (if_pos hc).symm.trans h
    refine zg_iconst dX8_end_15 zki_0 ?_
    obtain ⟨rfl, rfl⟩ := z_ret2 h
    exact zg_zret rfl dX8_end_16
  · replace h := (if_neg hc).symm.trans h
    refine zg_iload_n 1 dX8_end_4 rfl rfl ?_
    refine zg_aload_n 0 dX8_end_5 rfl rfl ?_
    refine zo_getr 7 6 rfl fl_X8_25 zt_0 rfl dX8_end_6 ?_
    refine zg_geti fl_X8_83 zt_7 rfl dX8_end_9 ?_
    refine zg_icmp_le (tgt := 17) dX8_end_12 (by decide) (fun hc => ?_) (fun hc => ?_)
    · replace h := (if_pos hc).symm.trans h
      refine zg_aload_n 0 dX8_end_17 rfl rfl ?_
      refine zo_getr 7 6 rfl fl_X8_25 zt_0 rfl dX8_end_18 ?_
      refine zg_iload_n 1 dX8_end_21 rfl rfl ?_
      refine zg_puti fp_X8_83 zt_7 rfl dX8_end_22 ?_
      refine zg_iconst dX8_end_25 zki_1 ?_
      obtain ⟨rfl, rfl⟩ := z_ret2 h
      exact zg_zret rfl dX8_end_26
    · replace h := (if_neg hc).symm.trans h
      refine zg_iconst dX8_end_15 zki_0 ?_
      obtain ⟨rfl, rfl⟩ := z_ret2 h
      exact zg_zret rfl dX8_end_16
set_option maxRecDepth 20000 in
set_option maxHeartbeats 4000000 in
theorem k_X8_cloth {M : zM} {r1 : Int32} {Mr : zM} (h : f8_cloth M = some (r1, Mr)) : zK ztops yX8_cloth cX8_cloth 2 (some .int) 4 [.ref 0] M (some (.int r1)) Mr := by
  refine zK_of pl_X8 (Nat.le_of_ble_eq_true rfl) ?_
  show zJ ztops RX8 cX8_cloth 2 _ 0 0 0 [(0, .ref 0)] [] M
  rw [f8_cloth] at h
  refine zg_aload_n 0 dX8_cloth_0 rfl rfl ?_
  refine zo_getr 3 2 rfl fl_X8_16 zt_0 rfl dX8_cloth_1 ?_
  refine zg_aload_n 0 dX8_cloth_4 rfl rfl ?_
  refine zo_getr 7 6 rfl fl_X8_25 zt_0 rfl dX8_cloth_5 ?_
  obtain ⟨p1, hp1, h⟩ := z_bind h
  refine zg_callV (st := []) (k_X7_readFrom zW_3 hp1) zY_X7_readFrom lv_X8_89 rfl zt_3 rfl (zfit_m (by decide) (by decide)) (Nat.le_of_ble_eq_true rfl) dX8_cloth_8 rfl ?_
  refine zg_istore_n (ls' := [(0, .ref 0), (1, .int p1.1)]) dX8_cloth_11 rfl (Nat.le_of_ble_eq_true rfl) rfl ?_
  refine zg_aload_n 0 dX8_cloth_12 rfl rfl ?_
  refine zo_getr 7 6 rfl fl_X8_25 zt_0 rfl dX8_cloth_13 ?_
  refine zg_iconst dX8_cloth_16 zki_0 ?_
  refine zg_puti fp_X8_83 zt_7 rfl dX8_cloth_17 ?_
  refine zg_iload_n 1 dX8_cloth_20 rfl rfl ?_
  refine zg_iconst dX8_cloth_21 zki_m1 ?_
  refine zg_icmp_eq (tgt := 29) dX8_cloth_22 (by decide) (fun hc => ?_) (fun hc => ?_)
  · replace h := (if_pos hc).symm.trans h
    refine zg_aload_n 0 dX8_cloth_29 rfl rfl ?_
    refine zo_getr 1 0 rfl fl_X8_10 zt_0 rfl dX8_cloth_30 ?_
    refine zg_aload_n 0 dX8_cloth_33 rfl rfl ?_
    refine zo_getr 3 2 rfl fl_X8_16 zt_0 rfl dX8_cloth_34 ?_
    obtain ⟨M2, hM2, h⟩ := z_bind h
    refine zg_callV (st := []) (k_X7_become zW_1 zW_3 hM2) zY_X7_become lv_X8_93 rfl zt_1 rfl (zfit_m (by decide) (by decide)) (Nat.le_of_ble_eq_true rfl) dX8_cloth_37 rfl ?_
    refine zg_aload_n 0 dX8_cloth_40 rfl rfl ?_
    refine zo_getr 33 32 rfl fl_X8_72 zt_0 rfl dX8_cloth_41 ?_
    obtain ⟨M3, hM3, h⟩ := z_bind h
    refine zg_callV (st := []) (k_X2_empty zM_33 hM3) zY_X2_empty lv_X8_97 rfl zt_33 rfl (zfit_m (by decide) (by decide)) (Nat.le_of_ble_eq_true rfl) dX8_cloth_44 rfl ?_
    refine zg_aload_n 0 dX8_cloth_47 rfl rfl ?_
    refine zo_getr 36 35 rfl fl_X8_76 zt_0 rfl dX8_cloth_48 ?_
    obtain ⟨M4, hM4, h⟩ := z_bind h
    refine zg_callV (st := []) (k_X2_empty zM_36 hM4) zY_X2_empty lv_X8_97 rfl zt_36 rfl (zfit_m (by decide) (by decide)) (Nat.le_of_ble_eq_true rfl) dX8_cloth_51 rfl ?_
    refine zg_aload_n 0 dX8_cloth_54 rfl rfl ?_
    refine zo_getr 1 0 rfl fl_X8_10 zt_0 rfl dX8_cloth_55 ?_
    refine zg_geti fl_X8_100 zt_1 rfl dX8_cloth_58 ?_
    obtain ⟨rfl, rfl⟩ := z_ret2 h
    exact zg_iret dX8_cloth_61
  · replace h := (if_neg hc).symm.trans h
    refine zg_iconst dX8_cloth_25 zki_m1 ?_
    refine zg_iload_n 1 dX8_cloth_26 rfl rfl ?_
    refine zg_isub dX8_cloth_27 ?_
    obtain ⟨rfl, rfl⟩ := z_ret2 h
    exact zg_iret dX8_cloth_28
set_option maxRecDepth 20000 in
set_option maxHeartbeats 4000000 in
theorem k_X8_cell {v1 : Int32} {v2 : Int32} {r1 : Int32} {M : zM} (h : f8_cell v1 v2 M = some r1) : zK ztops yX8_cell cX8_cell 3 (some .int) 5 [.ref 0, .int v1, .int v2] M (some (.int r1)) M := by
  refine zK_of pl_X8 (Nat.le_of_ble_eq_true rfl) ?_
  show zJ ztops RX8 cX8_cell 3 _ 0 0 0 [(0, .ref 0), (1, .int v1), (2, .int v2)] [] M
  rw [f8_cell] at h
  refine zg_aload_n 0 dX8_cell_0 rfl rfl ?_
  refine zo_getr 1 0 rfl fl_X8_10 zt_0 rfl dX8_cell_1 ?_
  refine zg_iload_n 1 dX8_cell_4 rfl rfl ?_
  refine zg_iload_n 2 dX8_cell_5 rfl rfl ?_
  obtain ⟨x1, hx1, h⟩ := z_bind h
  refine zg_callV (st := []) (k_X7_crosses zW_1 hx1) zY_X7_crosses lv_X8_107 rfl zt_1 rfl (zfit_m (by decide) (by decide)) (Nat.le_of_ble_eq_true rfl) dX8_cell_6 rfl ?_
  refine zg_if_ne (tgt := 20) dX8_cell_9 (by decide) (fun hc => ?_) (fun hc => ?_)
  · replace h := (if_neg hc).symm.trans h
    refine zg_aload_n 0 dX8_cell_20 rfl rfl ?_
    refine zo_getr 1 0 rfl fl_X8_10 zt_0 rfl dX8_cell_21 ?_
    refine zg_iload_n 1 dX8_cell_24 rfl rfl ?_
    refine zg_iload_n 2 dX8_cell_25 rfl rfl ?_
    obtain ⟨x2, hx2, h⟩ := z_bind h
    refine zg_callV (st := []) (k_X7_overAt zW_1 hx2) zY_X7_overAt lv_X8_114 rfl zt_1 rfl (zfit_m (by decide) (by decide)) (Nat.le_of_ble_eq_true rfl) dX8_cell_26 rfl ?_
    obtain rfl := z_ret1 h
    exact zg_iret dX8_cell_29
  · replace h := (if_pos hc).symm.trans h
    cases h
set_option maxRecDepth 20000 in
set_option maxHeartbeats 4000000 in
theorem g8_sheet_29 {r1 : Int32} {Mr : zM} : ∀ (v1 : Int32) (v2 : Int32) (v3 : Int32) (v4 : Int32) (M : zM), f8_sheet_29 v1 v2 v3 v4 M = some (r1, Mr) → zJ ztops RX8 cX8_sheet 7 (zBm ztops 3 (some .int) (some (.int r1)) Mr) 0 0 29 [(0, .ref 0), (1, .int v1), (2, .int v2), (3, .int v3), (4, .int v4)] [] M := by
  intro v1 v2 v3 v4 M h
  rw [f8_sheet_29] at h
  refine zg_iload_n 1 dX8_sheet_29 rfl rfl ?_
  refine zg_iconst dX8_sheet_30 zki_3 ?_
  suffices hj : zJ ztops RX8 cX8_sheet 7 (zBm ztops 3 (some .int) (some (.int r1)) Mr) 0 0 39 [(0, .ref 0), (1, .int v1), (2, .int v2), (3, .int v3), (4, .int v4)] [.int (if v1 = (3 : Int32) then (0 : Int32) else v2)] M by
    refine zg_icmp_ne (tgt := 38) dX8_sheet_31 (by decide) (fun hc => ?_) (fun hc => ?_)
    · rw [show (if v1 = (3 : Int32) then (0 : Int32) else v2) = v2 from if_neg hc] at hj
      refine zg_iload_n 2 dX8_sheet_38 rfl rfl ?_
      exact hj
    · rw [show (if v1 = (3 : Int32) then (0 : Int32) else v2) = (0 : Int32) from if_pos hc] at hj
      refine zg_iconst dX8_sheet_34 zki_0 ?_
      refine zg_goto (tgt := 39) dX8_sheet_35 (by decide) ?_
      exact hj
  refine zg_istore (ls' := [(0, .ref 0), (1, .int v1), (2, .int v2), (3, .int v3), (4, .int v4), (5, .int (if v1 = (3 : Int32) then (0 : Int32) else v2))]) dX8_sheet_39 (Nat.le_of_ble_eq_true rfl) rfl ?_
  refine zg_aload_n 0 dX8_sheet_41 rfl rfl ?_
  refine zo_getr 1 0 rfl fl_X8_10 zt_0 rfl dX8_sheet_42 ?_
  refine zg_iload 5 dX8_sheet_45 rfl ?_
  refine zg_iload_n 3 dX8_sheet_47 rfl rfl ?_
  refine zg_iload 4 dX8_sheet_48 rfl ?_
  obtain ⟨p1, hp1, h⟩ := z_bind h
  refine zg_callV (st := []) (k_X7_fillPicks zW_1 hp1) zY_X7_fillPicks lv_X8_137 rfl zt_1 rfl (zfit_m (by decide) (by decide)) (Nat.le_of_ble_eq_true rfl) dX8_sheet_50 rfl ?_
  refine zg_istore (ls' := [(0, .ref 0), (1, .int v1), (2, .int v2), (3, .int v3), (4, .int v4), (5, .int (if v1 = (3 : Int32) then (0 : Int32) else v2)), (6, .int p1.1)]) dX8_sheet_53 (Nat.le_of_ble_eq_true rfl) rfl ?_
  refine zg_iload_n 1 dX8_sheet_55 rfl rfl ?_
  refine zg_iconst dX8_sheet_56 zki_3 ?_
  suffices hj : zJ ztops RX8 cX8_sheet 7 (zBm ztops 3 (some .int) (some (.int r1)) Mr) 0 0 67 [(0, .ref 0), (1, .int v1), (2, .int v2), (3, .int v3), (4, .int v4), (5, .int (if v1 = (3 : Int32) then (0 : Int32) else v2)), (6, .int p1.1)] [.int (if v1 = (3 : Int32) then (-3 : Int32) else p1.1)] p1.2 by
    refine zg_icmp_ne (tgt := 65) dX8_sheet_57 (by decide) (fun hc => ?_) (fun hc => ?_)
    · rw [show (if v1 = (3 : Int32) then (-3 : Int32) else p1.1) = p1.1 from if_neg hc] at hj
      refine zg_iload 6 dX8_sheet_65 rfl ?_
      exact hj
    · rw [show (if v1 = (3 : Int32) then (-3 : Int32) else p1.1) = (-3 : Int32) from if_pos hc] at hj
      refine zg_bipush dX8_sheet_60 zkb_m3 ?_
      refine zg_goto (tgt := 67) dX8_sheet_62 (by decide) ?_
      exact hj
  obtain ⟨rfl, rfl⟩ := z_ret2 h
  exact zg_iret dX8_sheet_67
set_option maxRecDepth 20000 in
set_option maxHeartbeats 4000000 in
theorem k_X8_sheet {v1 : Int32} {v2 : Int32} {v3 : Int32} {v4 : Int32} {M : zM} {r1 : Int32} {Mr : zM} (h : f8_sheet v1 v2 v3 v4 M = some (r1, Mr)) : zK ztops yX8_sheet cX8_sheet 7 (some .int) 3 [.ref 0, .int v1, .int v2, .int v3, .int v4] M (some (.int r1)) Mr := by
  refine zK_of pl_X8 (Nat.le_of_ble_eq_true rfl) ?_
  show zJ ztops RX8 cX8_sheet 7 _ 0 0 0 [(0, .ref 0), (1, .int v1), (2, .int v2), (3, .int v3), (4, .int v4)] [] M
  rw [f8_sheet] at h
  refine zg_iload_n 1 dX8_sheet_0 rfl rfl ?_
  refine zg_if_lt (tgt := 15) dX8_sheet_1 (by decide) (fun hc => ?_) (fun hc => ?_)
  · replace h := (if_pos hc).symm.trans h
    refine zg_iconst dX8_sheet_15 zki_m1 ?_
    obtain ⟨rfl, rfl⟩ := z_ret2 h
    exact zg_iret dX8_sheet_16
  · replace h := (if_neg hc).symm.trans h
    refine zg_iload_n 1 dX8_sheet_4 rfl rfl ?_
    refine zg_iconst dX8_sheet_5 zki_3 ?_
    refine zg_icmp_gt (tgt := 15) dX8_sheet_6 (by decide) (fun hc => ?_) (fun hc => ?_)
    · replace h := (if_pos hc).symm.trans h
      refine zg_iconst dX8_sheet_15 zki_m1 ?_
      obtain ⟨rfl, rfl⟩ := z_ret2 h
      exact zg_iret dX8_sheet_16
    · replace h := (if_neg hc).symm.trans h
      refine zg_iload_n 2 dX8_sheet_9 rfl rfl ?_
      refine zg_bipush dX8_sheet_10 zkb_6 ?_
      refine zg_icmp_le (tgt := 17) dX8_sheet_12 (by decide) (fun hc => ?_) (fun hc => ?_)
      · replace h := (if_pos hc).symm.trans h
        refine zg_iload_n 1 dX8_sheet_17 rfl rfl ?_
        refine zg_iconst dX8_sheet_18 zki_3 ?_
        refine zg_icmp_ge (tgt := 29) dX8_sheet_19 (by decide) (fun hc => ?_) (fun hc => ?_)
        · replace h := (if_pos hc).symm.trans h
          exact g8_sheet_29 _ _ _ _ _ h
        · replace h := (if_neg hc).symm.trans h
          refine zg_iload_n 2 dX8_sheet_22 rfl rfl ?_
          refine zg_if_ge (tgt := 29) dX8_sheet_23 (by decide) (fun hc => ?_) (fun hc => ?_)
          · replace h := (if_pos hc).symm.trans h
            exact g8_sheet_29 _ _ _ _ _ h
          · replace h := (if_neg hc).symm.trans h
            refine zg_bipush dX8_sheet_26 zkb_m2 ?_
            obtain ⟨rfl, rfl⟩ := z_ret2 h
            exact zg_iret dX8_sheet_28
      · replace h := (if_neg hc).symm.trans h
        refine zg_iconst dX8_sheet_15 zki_m1 ?_
        obtain ⟨rfl, rfl⟩ := z_ret2 h
        exact zg_iret dX8_sheet_16
set_option maxRecDepth 20000 in
set_option maxHeartbeats 4000000 in
theorem k_X8_loose {M : zM} {r1 : Int32} {Mr : zM} (h : f8_loose M = some (r1, Mr)) : zK ztops yX8_loose cX8_loose 2 (some .int) 3 [.ref 0] M (some (.int r1)) Mr := by
  refine zK_of pl_X8 (Nat.le_of_ble_eq_true rfl) ?_
  show zJ ztops RX8 cX8_loose 2 _ 0 0 0 [(0, .ref 0)] [] M
  rw [f8_loose] at h
  refine zg_aload_n 0 dX8_loose_0 rfl rfl ?_
  refine zo_getr 1 0 rfl fl_X8_10 zt_0 rfl dX8_loose_1 ?_
  refine zg_aload_n 0 dX8_loose_4 rfl rfl ?_
  refine zo_getr 1 0 rfl fl_X8_10 zt_0 rfl dX8_loose_5 ?_
  obtain ⟨x1, hx1, h⟩ := z_bind h
  refine zg_callV (st := [.ref 1]) (k_X7_all zW_1 hx1) zY_X7_all lv_X8_256 rfl zt_1 rfl (zfit_m (by decide) (by decide)) (Nat.le_of_ble_eq_true rfl) dX8_loose_8 rfl ?_
  obtain ⟨x2, hx2, h⟩ := z_bind h
  refine zg_callV (st := []) (k_X7_looseIn zW_1 hx2) zY_X7_looseIn lv_X8_259 rfl zt_1 rfl (zfit_m (by decide) (by decide)) (Nat.le_of_ble_eq_true rfl) dX8_loose_11 rfl ?_
  refine zg_istore_n (ls' := [(0, .ref 0), (1, .int x2)]) dX8_loose_14 rfl (Nat.le_of_ble_eq_true rfl) rfl ?_
  refine zg_aload_n 0 dX8_loose_15 rfl rfl ?_
  refine zo_getr 9 8 rfl fl_X8_32 zt_0 rfl dX8_loose_16 ?_
  refine zg_iload_n 1 dX8_loose_19 rfl rfl ?_
  refine zg_bipush dX8_loose_20 zkb_63 ?_
  refine zg_iand dX8_loose_22 ?_
  obtain ⟨x3, hx3, h⟩ := z_bind h
  refine zg_callS (st := [.ref 9]) (k_J6_bitCount_0f7a4 hx3) zY_J6_bitCount_0f7a4 ls_X8_225 rfl (zfit_m (by decide) (by decide)) (Nat.le_of_ble_eq_true rfl) dX8_loose_23 rfl ?_
  refine zg_i2l dX8_loose_26 ?_
  refine zg_iload_n 1 dX8_loose_27 rfl rfl ?_
  refine zg_bipush dX8_loose_28 zkb_6 ?_
  refine zg_iushr dX8_loose_30 ?_
  obtain ⟨x4, hx4, h⟩ := z_bind h
  refine zg_callS (st := [.long (Int32.toInt64 x3), .ref 9]) (k_J6_bitCount_0f7a4 hx4) zY_J6_bitCount_0f7a4 ls_X8_225 rfl (zfit_m (by decide) (by decide)) (Nat.le_of_ble_eq_true rfl) dX8_loose_31 rfl ?_
  refine zg_i2l dX8_loose_34 ?_
  obtain ⟨M5, hM5, h⟩ := z_bind h
  refine zg_callV (st := []) (k_X3_tell_ hM5) zY_X3_tell_ lv_X8_194 rfl zt_9 rfl (zfit_m (by decide) (by decide)) (Nat.le_of_ble_eq_true rfl) dX8_loose_35 rfl ?_
  refine zg_iload_n 1 dX8_loose_38 rfl rfl ?_
  obtain ⟨rfl, rfl⟩ := z_ret2 h
  exact zg_iret dX8_loose_39
set_option maxRecDepth 20000 in
set_option maxHeartbeats 4000000 in
theorem g8_sheds_50 {r1 : Int32} {Mr : zM} : ∀ (v1 : Int32) (v2 : Int32) (M : zM), f8_sheds_50 v1 v2 M = some (r1, Mr) → zJ ztops RX8 cX8_sheds 4 (zBm ztops 3 (some .int) (some (.int r1)) Mr) 0 0 50 [(0, .ref 0), (1, .int v1), (2, .int v2)] [] M := by
  intro v1 v2 M h
  rw [f8_sheds_50] at h
  refine zg_aload_n 0 dX8_sheds_50 rfl rfl ?_
  refine zo_getr 9 8 rfl fl_X8_32 zt_0 rfl dX8_sheds_51 ?_
  refine zg_iload_n 1 dX8_sheds_54 rfl rfl ?_
  refine zg_i2l dX8_sheds_55 ?_
  refine zg_iload_n 2 dX8_sheds_56 rfl rfl ?_
  refine zg_i2l dX8_sheds_57 ?_
  obtain ⟨M1, hM1, h⟩ := z_bind h
  refine zg_callV (st := []) (k_X3_tell_ hM1) zY_X3_tell_ lv_X8_194 rfl zt_9 rfl (zfit_m (by decide) (by decide)) (Nat.le_of_ble_eq_true rfl) dX8_sheds_58 rfl ?_
  refine zg_iload_n 1 dX8_sheds_61 rfl rfl ?_
  obtain ⟨x2, hx2, h⟩ := z_bind h
  refine zg_callS (st := []) (k_J6_bitCount_0f7a4 hx2) zY_J6_bitCount_0f7a4 ls_X8_225 rfl (zfit_m (by decide) (by decide)) (Nat.le_of_ble_eq_true rfl) dX8_sheds_62 rfl ?_
  obtain ⟨rfl, rfl⟩ := z_ret2 h
  exact zg_iret dX8_sheds_65
set_option maxRecDepth 20000 in
set_option maxHeartbeats 4000000 in
theorem g8_sheds_19 {r1 : Int32} {Mr : zM} : ∀ (n : Nat) (v1 : Int32) (v2 : Int32) (v3 : Int32) (M : zM), f8_sheds_19 n v1 v2 v3 M = some (r1, Mr) → zJ ztops RX8 cX8_sheds 4 (zBm ztops 3 (some .int) (some (.int r1)) Mr) 0 0 19 [(0, .ref 0), (1, .int v1), (2, .int v2), (3, .int v3)] [] M := by
  intro n
  induction n with
  | zero => intro v1 v2 v3 M h; cases h
  | succ n ih =>
    intro v1 v2 v3 M h
    rw [f8_sheds_19] at h
    refine zg_iload_n 3 dX8_sheds_19 rfl rfl ?_
    refine zg_if_eq (tgt := 50) dX8_sheds_20 (by decide) (fun hc => ?_) (fun hc => ?_)
    · replace h := (if_pos hc).symm.trans h
      refine zo_sub (ls' := [(0, .ref 0), (1, .int v1), (2, .int v2)]) [0, 1, 2] rfl ?_
      exact g8_sheds_50 _ _ _ h
    · replace h := (if_neg hc).symm.trans h
      refine zg_iload_n 2 dX8_sheds_23 rfl rfl ?_
      refine zg_bipush dX8_sheds_24 zkb_12 ?_
      refine zg_icmp_gt (tgt := 50) dX8_sheds_26 (by decide) (fun hc => ?_) (fun hc => ?_)
      · replace h := (if_pos hc).symm.trans h
        refine zo_sub (ls' := [(0, .ref 0), (1, .int v1), (2, .int v2)]) [0, 1, 2] rfl ?_
        exact g8_sheds_50 _ _ _ h
      · replace h := (if_neg hc).symm.trans h
        refine zg_iload_n 1 dX8_sheds_29 rfl rfl ?_
        refine zg_iload_n 3 dX8_sheds_30 rfl rfl ?_
        refine zg_iconst dX8_sheds_31 zki_m1 ?_
        refine zg_ixor dX8_sheds_32 ?_
        refine zg_iand dX8_sheds_33 ?_
        refine zg_istore_n (ls' := [(0, .ref 0), (1, .int (v1 &&& (v3 ^^^ (-1 : Int32)))), (2, .int v2), (3, .int v3)]) dX8_sheds_34 rfl (Nat.le_of_ble_eq_true rfl) rfl ?_
        refine zg_iinc (ls' := [(0, .ref 0), (1, .int (v1 &&& (v3 ^^^ (-1 : Int32)))), (2, .int (v2 + (1 : Int32))), (3, .int v3)]) 2 dX8_sheds_35 rfl zki_1 (Nat.le_of_ble_eq_true rfl) rfl ?_
        refine zg_aload_n 0 dX8_sheds_38 rfl rfl ?_
        refine zo_getr 1 0 rfl fl_X8_10 zt_0 rfl dX8_sheds_39 ?_
        refine zg_iload_n 1 dX8_sheds_42 rfl rfl ?_
        obtain ⟨x1, hx1, h⟩ := z_bind h
        refine zg_callV (st := []) (k_X7_looseIn zW_1 hx1) zY_X7_looseIn lv_X8_259 rfl zt_1 rfl (zfit_m (by decide) (by decide)) (Nat.le_of_ble_eq_true rfl) dX8_sheds_43 rfl ?_
        refine zg_istore_n (ls' := [(0, .ref 0), (1, .int (v1 &&& (v3 ^^^ (-1 : Int32)))), (2, .int (v2 + (1 : Int32))), (3, .int x1)]) dX8_sheds_46 rfl (Nat.le_of_ble_eq_true rfl) rfl ?_
        refine zg_goto (tgt := 19) dX8_sheds_47 (by decide) ?_
        exact ih _ _ _ _ h
set_option maxRecDepth 20000 in
set_option maxHeartbeats 4000000 in
theorem k_X8_sheds {M : zM} {r1 : Int32} {Mr : zM} (h : f8_sheds M = some (r1, Mr)) : zK ztops yX8_sheds cX8_sheds 4 (some .int) 3 [.ref 0] M (some (.int r1)) Mr := by
  refine zK_of pl_X8 (Nat.le_of_ble_eq_true rfl) ?_
  show zJ ztops RX8 cX8_sheds 4 _ 0 0 0 [(0, .ref 0)] [] M
  rw [f8_sheds] at h
  refine zg_aload_n 0 dX8_sheds_0 rfl rfl ?_
  refine zo_getr 1 0 rfl fl_X8_10 zt_0 rfl dX8_sheds_1 ?_
  obtain ⟨x1, hx1, h⟩ := z_bind h
  refine zg_callV (st := []) (k_X7_all zW_1 hx1) zY_X7_all lv_X8_256 rfl zt_1 rfl (zfit_m (by decide) (by decide)) (Nat.le_of_ble_eq_true rfl) dX8_sheds_4 rfl ?_
  refine zg_istore_n (ls' := [(0, .ref 0), (1, .int x1)]) dX8_sheds_7 rfl (Nat.le_of_ble_eq_true rfl) rfl ?_
  refine zg_iconst dX8_sheds_8 zki_0 ?_
  refine zg_istore_n (ls' := [(0, .ref 0), (1, .int x1), (2, .int (0 : Int32))]) dX8_sheds_9 rfl (Nat.le_of_ble_eq_true rfl) rfl ?_
  refine zg_aload_n 0 dX8_sheds_10 rfl rfl ?_
  refine zo_getr 1 0 rfl fl_X8_10 zt_0 rfl dX8_sheds_11 ?_
  refine zg_iload_n 1 dX8_sheds_14 rfl rfl ?_
  obtain ⟨x2, hx2, h⟩ := z_bind h
  refine zg_callV (st := []) (k_X7_looseIn zW_1 hx2) zY_X7_looseIn lv_X8_259 rfl zt_1 rfl (zfit_m (by decide) (by decide)) (Nat.le_of_ble_eq_true rfl) dX8_sheds_15 rfl ?_
  refine zg_istore_n (ls' := [(0, .ref 0), (1, .int x1), (2, .int (0 : Int32)), (3, .int x2)]) dX8_sheds_18 rfl (Nat.le_of_ble_eq_true rfl) rfl ?_
  exact g8_sheds_19 zfuel _ _ _ _ h
set_option maxRecDepth 20000 in
set_option maxHeartbeats 4000000 in
theorem k_X8_repeats {M : zM} {r1 : Int32} {Mr : zM} (h : f8_repeats M = some (r1, Mr)) : zK ztops yX8_repeats cX8_repeats 1 (some .int) 3 [.ref 0] M (some (.int r1)) Mr := by
  refine zK_of pl_X8 (Nat.le_of_ble_eq_true rfl) ?_
  show zJ ztops RX8 cX8_repeats 1 _ 0 0 0 [(0, .ref 0)] [] M
  rw [f8_repeats] at h
  refine zg_aload_n 0 dX8_repeats_0 rfl rfl ?_
  refine zo_getr 9 8 rfl fl_X8_32 zt_0 rfl dX8_repeats_1 ?_
  refine zg_aload_n 0 dX8_repeats_4 rfl rfl ?_
  refine zo_getr 1 0 rfl fl_X8_10 zt_0 rfl dX8_repeats_5 ?_
  refine zg_iconst dX8_repeats_8 zki_1 ?_
  obtain ⟨x1, hx1, h⟩ := z_bind h
  refine zg_callV (st := [.ref 9]) (k_X7_repeatOf zW_1 hx1) zY_X7_repeatOf lv_X8_310 rfl zt_1 rfl (zfit_m (by decide) (by decide)) (Nat.le_of_ble_eq_true rfl) dX8_repeats_9 rfl ?_
  refine zg_i2l dX8_repeats_12 ?_
  obtain ⟨M2, hM2, h⟩ := z_bind h
  refine zg_callV (st := []) (k_X3_tell hM2) zY_X3_tell lv_X8_207 rfl zt_9 rfl (zfit_m (by decide) (by decide)) (Nat.le_of_ble_eq_true rfl) dX8_repeats_13 rfl ?_
  refine zg_aload_n 0 dX8_repeats_16 rfl rfl ?_
  refine zo_getr 1 0 rfl fl_X8_10 zt_0 rfl dX8_repeats_17 ?_
  refine zg_iconst dX8_repeats_20 zki_0 ?_
  obtain ⟨x3, hx3, h⟩ := z_bind h
  refine zg_callV (st := []) (k_X7_repeatOf zW_1 hx3) zY_X7_repeatOf lv_X8_310 rfl zt_1 rfl (zfit_m (by decide) (by decide)) (Nat.le_of_ble_eq_true rfl) dX8_repeats_21 rfl ?_
  obtain ⟨rfl, rfl⟩ := z_ret2 h
  exact zg_iret dX8_repeats_24
set_option maxRecDepth 20000 in
set_option maxHeartbeats 4000000 in
theorem k_X8_runs {M : zM} {r1 : Int32} {Mr : zM} (h : f8_runs M = some (r1, Mr)) : zK ztops yX8_runs cX8_runs 1 (some .int) 4 [.ref 0] M (some (.int r1)) Mr := by
  refine zK_of pl_X8 (Nat.le_of_ble_eq_true rfl) ?_
  show zJ ztops RX8 cX8_runs 1 _ 0 0 0 [(0, .ref 0)] [] M
  rw [f8_runs] at h
  refine zg_aload_n 0 dX8_runs_0 rfl rfl ?_
  refine zo_getr 9 8 rfl fl_X8_32 zt_0 rfl dX8_runs_1 ?_
  refine zg_aload_n 0 dX8_runs_4 rfl rfl ?_
  refine zo_getr 1 0 rfl fl_X8_10 zt_0 rfl dX8_runs_5 ?_
  refine zg_iconst dX8_runs_8 zki_0 ?_
  obtain ⟨x1, hx1, h⟩ := z_bind h
  refine zg_callV (st := [.ref 9]) (k_X7_longestRun zW_1 hx1) zY_X7_longestRun lv_X8_313 rfl zt_1 rfl (zfit_m (by decide) (by decide)) (Nat.le_of_ble_eq_true rfl) dX8_runs_9 rfl ?_
  refine zg_i2l dX8_runs_12 ?_
  refine zg_aload_n 0 dX8_runs_13 rfl rfl ?_
  refine zo_getr 1 0 rfl fl_X8_10 zt_0 rfl dX8_runs_14 ?_
  refine zg_iconst dX8_runs_17 zki_1 ?_
  obtain ⟨x2, hx2, h⟩ := z_bind h
  refine zg_callV (st := [.long (Int32.toInt64 x1), .ref 9]) (k_X7_runsAlong zW_1 hx2) zY_X7_runsAlong lv_X8_316 rfl zt_1 rfl (zfit_m (by decide) (by decide)) (Nat.le_of_ble_eq_true rfl) dX8_runs_18 rfl ?_
  refine zg_i2l dX8_runs_21 ?_
  obtain ⟨M3, hM3, h⟩ := z_bind h
  refine zg_callV (st := []) (k_X3_tell_ hM3) zY_X3_tell_ lv_X8_194 rfl zt_9 rfl (zfit_m (by decide) (by decide)) (Nat.le_of_ble_eq_true rfl) dX8_runs_22 rfl ?_
  refine zg_aload_n 0 dX8_runs_25 rfl rfl ?_
  refine zo_getr 9 8 rfl fl_X8_32 zt_0 rfl dX8_runs_26 ?_
  refine zg_aload_n 0 dX8_runs_29 rfl rfl ?_
  refine zo_getr 1 0 rfl fl_X8_10 zt_0 rfl dX8_runs_30 ?_
  refine zg_iconst dX8_runs_33 zki_1 ?_
  obtain ⟨x4, hx4, h⟩ := z_bind h
  refine zg_callV (st := [.ref 9]) (k_X7_longestRun zW_1 hx4) zY_X7_longestRun lv_X8_313 rfl zt_1 rfl (zfit_m (by decide) (by decide)) (Nat.le_of_ble_eq_true rfl) dX8_runs_34 rfl ?_
  refine zg_i2l dX8_runs_37 ?_
  obtain ⟨M5, hM5, h⟩ := z_bind h
  refine zg_callV (st := []) (k_X3_add hM5) zY_X3_add lv_X8_216 rfl zt_9 rfl (zfit_m (by decide) (by decide)) (Nat.le_of_ble_eq_true rfl) dX8_runs_38 rfl ?_
  refine zg_aload_n 0 dX8_runs_41 rfl rfl ?_
  refine zo_getr 1 0 rfl fl_X8_10 zt_0 rfl dX8_runs_42 ?_
  refine zg_iconst dX8_runs_45 zki_0 ?_
  obtain ⟨x6, hx6, h⟩ := z_bind h
  refine zg_callV (st := []) (k_X7_runsAlong zW_1 hx6) zY_X7_runsAlong lv_X8_316 rfl zt_1 rfl (zfit_m (by decide) (by decide)) (Nat.le_of_ble_eq_true rfl) dX8_runs_46 rfl ?_
  obtain ⟨rfl, rfl⟩ := z_ret2 h
  exact zg_iret dX8_runs_49
set_option maxRecDepth 20000 in
set_option maxHeartbeats 4000000 in
theorem g8_twins_57 {r1 : Int32} {Mr : zM} {k21 : Int32 → Int32 → Int32 → zM → Option (Int32 × zM)} (hk21 : ∀ (v1 : Int32) (v2 : Int32) (v3 : Int32) (M : zM), k21 v1 v2 v3 M = some (r1, Mr) → zJ ztops RX8 cX8_twins 4 (zBm ztops 4 (some .int) (some (.int r1)) Mr) 0 0 21 [(0, .ref 0), (1, .int v1), (2, .int v2), (3, .int v3)] [] M) : ∀ (v1 : Int32) (v2 : Int32) (v3 : Int32) (M : zM), f8_twins_57 k21 v1 v2 v3 M = some (r1, Mr) → zJ ztops RX8 cX8_twins 4 (zBm ztops 4 (some .int) (some (.int r1)) Mr) 0 0 57 [(0, .ref 0), (1, .int v1), (2, .int v2), (3, .int v3)] [] M := by
  intro v1 v2 v3 M h
  rw [f8_twins_57] at h
  refine zg_iinc (ls' := [(0, .ref 0), (1, .int v1), (2, .int v2), (3, .int (v3 + (1 : Int32)))]) 3 dX8_twins_57 rfl zki_1 (Nat.le_of_ble_eq_true rfl) rfl ?_
  refine zg_goto (tgt := 21) dX8_twins_60 (by decide) ?_
  exact hk21 _ _ _ _ h
set_option maxRecDepth 20000 in
set_option maxHeartbeats 4000000 in
theorem g8_twins_54 {r1 : Int32} {Mr : zM} {k21 : Int32 → Int32 → Int32 → zM → Option (Int32 × zM)} (hk21 : ∀ (v1 : Int32) (v2 : Int32) (v3 : Int32) (M : zM), k21 v1 v2 v3 M = some (r1, Mr) → zJ ztops RX8 cX8_twins 4 (zBm ztops 4 (some .int) (some (.int r1)) Mr) 0 0 21 [(0, .ref 0), (1, .int v1), (2, .int v2), (3, .int v3)] [] M) : ∀ (v1 : Int32) (v2 : Int32) (v3 : Int32) (M : zM), f8_twins_54 k21 v1 v2 v3 M = some (r1, Mr) → zJ ztops RX8 cX8_twins 4 (zBm ztops 4 (some .int) (some (.int r1)) Mr) 0 0 54 [(0, .ref 0), (1, .int v1), (2, .int v2), (3, .int v3)] [] M := by
  intro v1 v2 v3 M h
  rw [f8_twins_54] at h
  refine zg_iinc (ls' := [(0, .ref 0), (1, .int (v1 + (1 : Int32))), (2, .int v2), (3, .int v3)]) 1 dX8_twins_54 rfl zki_1 (Nat.le_of_ble_eq_true rfl) rfl ?_
  exact g8_twins_57 hk21 _ _ _ _ h
set_option maxRecDepth 20000 in
set_option maxHeartbeats 4000000 in
theorem g8_twins_21 {r1 : Int32} {Mr : zM} {k63 : Int32 → Int32 → zM → Option (Int32 × zM)} (hk63 : ∀ (v1 : Int32) (v2 : Int32) (M : zM), k63 v1 v2 M = some (r1, Mr) → zJ ztops RX8 cX8_twins 4 (zBm ztops 4 (some .int) (some (.int r1)) Mr) 0 0 63 [(0, .ref 0), (1, .int v1), (2, .int v2)] [] M) : ∀ (n : Nat) (v1 : Int32) (v2 : Int32) (v3 : Int32) (M : zM), f8_twins_21 k63 n v1 v2 v3 M = some (r1, Mr) → zJ ztops RX8 cX8_twins 4 (zBm ztops 4 (some .int) (some (.int r1)) Mr) 0 0 21 [(0, .ref 0), (1, .int v1), (2, .int v2), (3, .int v3)] [] M := by
  intro n
  induction n with
  | zero => intro v1 v2 v3 M h; cases h
  | succ n ih =>
    intro v1 v2 v3 M h
    rw [f8_twins_21] at h
    refine zg_iload_n 3 dX8_twins_21 rfl rfl ?_
    refine zg_bipush dX8_twins_22 zkb_12 ?_
    refine zg_icmp_ge (tgt := 63) dX8_twins_24 (by decide) (fun hc => ?_) (fun hc => ?_)
    · replace h := (if_pos hc).symm.trans h
      refine zo_sub (ls' := [(0, .ref 0), (1, .int v1), (2, .int v2)]) [0, 1, 2] rfl ?_
      exact hk63 _ _ _ h
    · replace h := (if_neg hc).symm.trans h
      refine zg_aload_n 0 dX8_twins_27 rfl rfl ?_
      refine zo_getr 1 0 rfl fl_X8_10 zt_0 rfl dX8_twins_28 ?_
      refine zg_iload_n 2 dX8_twins_31 rfl rfl ?_
      refine zg_iload_n 3 dX8_twins_32 rfl rfl ?_
      obtain ⟨x1, hx1, h⟩ := z_bind h
      refine zg_callV (st := []) (k_X7_areTwins zW_1 hx1) zY_X7_areTwins lv_X8_319 rfl zt_1 rfl (zfit_m (by decide) (by decide)) (Nat.le_of_ble_eq_true rfl) dX8_twins_33 rfl ?_
      refine zg_if_eq (tgt := 57) dX8_twins_36 (by decide) (fun hc => ?_) (fun hc => ?_)
      · replace h := (if_pos hc).symm.trans h
        exact g8_twins_57 (fun u0 u1 u2 u3 h => ih u0 u1 u2 u3 h) _ _ _ _ h
      · replace h := (if_neg hc).symm.trans h
        refine zg_iload_n 1 dX8_twins_39 rfl rfl ?_
        refine zg_if_ne (tgt := 54) dX8_twins_40 (by decide) (fun hc => ?_) (fun hc => ?_)
        · replace h := (if_neg hc).symm.trans h
          exact g8_twins_54 (fun u0 u1 u2 u3 h => ih u0 u1 u2 u3 h) _ _ _ _ h
        · replace h := (if_pos hc).symm.trans h
          refine zg_aload_n 0 dX8_twins_43 rfl rfl ?_
          refine zo_getr 9 8 rfl fl_X8_32 zt_0 rfl dX8_twins_44 ?_
          refine zg_iload_n 2 dX8_twins_47 rfl rfl ?_
          refine zg_i2l dX8_twins_48 ?_
          refine zg_iload_n 3 dX8_twins_49 rfl rfl ?_
          refine zg_i2l dX8_twins_50 ?_
          obtain ⟨M2, hM2, h⟩ := z_bind h
          refine zg_callV (st := []) (k_X3_tell_ hM2) zY_X3_tell_ lv_X8_194 rfl zt_9 rfl (zfit_m (by decide) (by decide)) (Nat.le_of_ble_eq_true rfl) dX8_twins_51 rfl ?_
          exact g8_twins_54 (fun u0 u1 u2 u3 h => ih u0 u1 u2 u3 h) _ _ _ _ h
set_option maxRecDepth 20000 in
set_option maxHeartbeats 4000000 in
theorem g8_twins_63 {r1 : Int32} {Mr : zM} {k11 : Int32 → Int32 → zM → Option (Int32 × zM)} (hk11 : ∀ (v1 : Int32) (v2 : Int32) (M : zM), k11 v1 v2 M = some (r1, Mr) → zJ ztops RX8 cX8_twins 4 (zBm ztops 4 (some .int) (some (.int r1)) Mr) 0 0 11 [(0, .ref 0), (1, .int v1), (2, .int v2)] [] M) : ∀ (v1 : Int32) (v2 : Int32) (M : zM), f8_twins_63 k11 v1 v2 M = some (r1, Mr) → zJ ztops RX8 cX8_twins 4 (zBm ztops 4 (some .int) (some (.int r1)) Mr) 0 0 63 [(0, .ref 0), (1, .int v1), (2, .int v2)] [] M := by
  intro v1 v2 M h
  rw [f8_twins_63] at h
  refine zg_iinc (ls' := [(0, .ref 0), (1, .int v1), (2, .int (v2 + (1 : Int32)))]) 2 dX8_twins_63 rfl zki_1 (Nat.le_of_ble_eq_true rfl) rfl ?_
  refine zg_goto (tgt := 11) dX8_twins_66 (by decide) ?_
  exact hk11 _ _ _ h
set_option maxRecDepth 20000 in
set_option maxHeartbeats 4000000 in
theorem g8_twins_11 {r1 : Int32} {Mr : zM} : ∀ (n : Nat) (v1 : Int32) (v2 : Int32) (M : zM), f8_twins_11 n v1 v2 M = some (r1, Mr) → zJ ztops RX8 cX8_twins 4 (zBm ztops 4 (some .int) (some (.int r1)) Mr) 0 0 11 [(0, .ref 0), (1, .int v1), (2, .int v2)] [] M := by
  intro n
  induction n with
  | zero => intro v1 v2 M h; cases h
  | succ n ih =>
    intro v1 v2 M h
    rw [f8_twins_11] at h
    refine zg_iload_n 2 dX8_twins_11 rfl rfl ?_
    refine zg_bipush dX8_twins_12 zkb_12 ?_
    refine zg_icmp_ge (tgt := 69) dX8_twins_14 (by decide) (fun hc => ?_) (fun hc => ?_)
    · replace h := (if_pos hc).symm.trans h
      refine zg_iload_n 1 dX8_twins_69 rfl rfl ?_
      obtain ⟨rfl, rfl⟩ := z_ret2 h
      exact zg_iret dX8_twins_70
    · replace h := (if_neg hc).symm.trans h
      refine zg_iload_n 2 dX8_twins_17 rfl rfl ?_
      refine zg_iconst dX8_twins_18 zki_1 ?_
      refine zg_iadd dX8_twins_19 ?_
      refine zg_istore_n (ls' := [(0, .ref 0), (1, .int v1), (2, .int v2), (3, .int (v2 + (1 : Int32)))]) dX8_twins_20 rfl (Nat.le_of_ble_eq_true rfl) rfl ?_
      exact g8_twins_21 (fun u0 u1 u2 h => g8_twins_63 (fun u0 u1 u2 h => ih u0 u1 u2 h) u0 u1 u2 h) zfuel _ _ _ _ h
set_option maxRecDepth 20000 in
set_option maxHeartbeats 4000000 in
theorem k_X8_twins {M : zM} {r1 : Int32} {Mr : zM} (h : f8_twins M = some (r1, Mr)) : zK ztops yX8_twins cX8_twins 4 (some .int) 4 [.ref 0] M (some (.int r1)) Mr := by
  refine zK_of pl_X8 (Nat.le_of_ble_eq_true rfl) ?_
  show zJ ztops RX8 cX8_twins 4 _ 0 0 0 [(0, .ref 0)] [] M
  rw [f8_twins] at h
  refine zg_aload_n 0 dX8_twins_0 rfl rfl ?_
  refine zo_getr 9 8 rfl fl_X8_32 zt_0 rfl dX8_twins_1 ?_
  obtain ⟨M1, hM1, h⟩ := z_bind h
  refine zg_callV (st := []) (k_X3_clear hM1) zY_X3_clear lv_X8_222 rfl zt_9 rfl (zfit_m (by decide) (by decide)) (Nat.le_of_ble_eq_true rfl) dX8_twins_4 rfl ?_
  refine zg_iconst dX8_twins_7 zki_0 ?_
  refine zg_istore_n (ls' := [(0, .ref 0), (1, .int (0 : Int32))]) dX8_twins_8 rfl (Nat.le_of_ble_eq_true rfl) rfl ?_
  refine zg_iconst dX8_twins_9 zki_0 ?_
  refine zg_istore_n (ls' := [(0, .ref 0), (1, .int (0 : Int32)), (2, .int (0 : Int32))]) dX8_twins_10 rfl (Nat.le_of_ble_eq_true rfl) rfl ?_
  exact g8_twins_11 zfuel _ _ _ h
set_option maxRecDepth 20000 in
set_option maxHeartbeats 4000000 in
theorem k_X8_told {v1 : Int32} {v2 : Int32} {M : zM} {r1 : Int32} {Mr : zM} (h : f8_told v1 v2 M = some (r1, Mr)) : zK ztops yX8_told cX8_told 3 (some .int) 2 [.ref 0, .int v1, .int v2] M (some (.int r1)) Mr := by
  refine zK_of pl_X8 (Nat.le_of_ble_eq_true rfl) ?_
  show zJ ztops RX8 cX8_told 3 _ 0 0 0 [(0, .ref 0), (1, .int v1), (2, .int v2)] [] M
  rw [f8_told] at h
  refine zg_aload_n 0 dX8_told_0 rfl rfl ?_
  refine zo_getr 30 29 rfl fl_X8_63 zt_0 rfl dX8_told_1 ?_
  refine zg_geti fl_X8_325 zt_30 rfl dX8_told_4 ?_
  refine zg_bipush dX8_told_7 zkb_12 ?_
  refine zg_icmp_ge (tgt := 24) dX8_told_9 (by decide) (fun hc => ?_) (fun hc => ?_)
  · replace h := (if_pos hc).symm.trans h
    refine zg_iconst dX8_told_24 zki_m1 ?_
    obtain ⟨rfl, rfl⟩ := z_ret2 h
    exact zg_iret dX8_told_25
  · replace h := (if_neg hc).symm.trans h
    refine zg_iload_n 2 dX8_told_12 rfl rfl ?_
    refine zg_if_lt (tgt := 24) dX8_told_13 (by decide) (fun hc => ?_) (fun hc => ?_)
    · replace h := (if_pos hc).symm.trans h
      refine zg_iconst dX8_told_24 zki_m1 ?_
      obtain ⟨rfl, rfl⟩ := z_ret2 h
      exact zg_iret dX8_told_25
    · replace h := (if_neg hc).symm.trans h
      refine zg_iload_n 2 dX8_told_16 rfl rfl ?_
      refine zg_iload_n 1 dX8_told_17 rfl rfl ?_
      obtain ⟨x1, hx1, h⟩ := z_bind h
      refine zg_callS (st := [.int v2]) (k_X5_mostOf hx1) zY_X5_mostOf ls_X8_326 rfl (zfit_m (by decide) (by decide)) (Nat.le_of_ble_eq_true rfl) dX8_told_18 rfl ?_
      refine zg_icmp_le (tgt := 26) dX8_told_21 (by decide) (fun hc => ?_) (fun hc => ?_)
      · replace h := (if_pos hc).symm.trans h
        refine zg_aload_n 0 dX8_told_26 rfl rfl ?_
        refine zo_getr 30 29 rfl fl_X8_63 zt_0 rfl dX8_told_27 ?_
        refine zg_iload_n 1 dX8_told_30 rfl rfl ?_
        refine zg_iload_n 2 dX8_told_31 rfl rfl ?_
        obtain ⟨M2, hM2, h⟩ := z_bind h
        refine zg_callV (st := []) (k_X5_add hM2) zY_X5_add lv_X8_329 rfl zt_30 rfl (zfit_m (by decide) (by decide)) (Nat.le_of_ble_eq_true rfl) dX8_told_32 rfl ?_
        refine zg_aload_n 0 dX8_told_35 rfl rfl ?_
        refine zo_getr 30 29 rfl fl_X8_63 zt_0 rfl dX8_told_36 ?_
        refine zg_geti fl_X8_325 zt_30 rfl dX8_told_39 ?_
        obtain ⟨rfl, rfl⟩ := z_ret2 h
        exact zg_iret dX8_told_42
      · replace h := (if_neg hc).symm.trans h
        refine zg_iconst dX8_told_24 zki_m1 ?_
        obtain ⟨rfl, rfl⟩ := z_ret2 h
        exact zg_iret dX8_told_25
set_option maxRecDepth 20000 in
set_option maxHeartbeats 4000000 in
theorem k_X8_forget {M : zM} {r1 : Int32} {Mr : zM} (h : f8_forget M = some (r1, Mr)) : zK ztops yX8_forget cX8_forget 2 (some .int) 0 [.ref 0] M (some (.int r1)) Mr := by
  refine zK_of pl_X8 (Nat.le_of_ble_eq_true rfl) ?_
  show zJ ztops RX8 cX8_forget 2 _ 0 0 0 [(0, .ref 0)] [] M
  rw [f8_forget] at h
  refine zg_aload_n 0 dX8_forget_0 rfl rfl ?_
  refine zo_getr 30 29 rfl fl_X8_63 zt_0 rfl dX8_forget_1 ?_
  refine zg_geti fl_X8_325 zt_30 rfl dX8_forget_4 ?_
  refine zg_istore_n (ls' := [(0, .ref 0), (1, .int (M.1 30 2))]) dX8_forget_7 rfl (Nat.le_of_ble_eq_true rfl) rfl ?_
  refine zg_aload_n 0 dX8_forget_8 rfl rfl ?_
  refine zo_getr 30 29 rfl fl_X8_63 zt_0 rfl dX8_forget_9 ?_
  refine zg_iconst dX8_forget_12 zki_0 ?_
  refine zg_puti fp_X8_325 zt_30 rfl dX8_forget_13 ?_
  refine zg_iload_n 1 dX8_forget_16 rfl rfl ?_
  obtain ⟨rfl, rfl⟩ := z_ret2 h
  exact zg_iret dX8_forget_17
set_option maxRecDepth 20000 in
set_option maxHeartbeats 4000000 in
theorem k_X8_keep {v1 : Int32} {M : zM} {r1 : Int32} {Mr : zM} (h : f8_keep v1 M = some (r1, Mr)) : zK ztops yX8_keep cX8_keep 2 (some .boolean) 2 [.ref 0, .int v1] M (some (.int r1)) Mr := by
  refine zK_of pl_X8 (Nat.le_of_ble_eq_true rfl) ?_
  show zJ ztops RX8 cX8_keep 2 _ 0 0 0 [(0, .ref 0), (1, .int v1)] [] M
  rw [f8_keep] at h
  refine zg_iload_n 1 dX8_keep_0 rfl rfl ?_
  refine zg_if_lt (tgt := 9) dX8_keep_1 (by decide) (fun hc => ?_) (fun hc => ?_)
  · replace h := (if_pos hc).symm.trans h
    refine zg_iconst dX8_keep_9 zki_0 ?_
    obtain ⟨rfl, rfl⟩ := z_ret2 h
    exact zg_zret rfl dX8_keep_10
  · replace h := (if_neg hc).symm.trans h
    refine zg_iload_n 1 dX8_keep_4 rfl rfl ?_
    refine zg_iconst dX8_keep_5 zki_3 ?_
    refine zg_icmp_lt (tgt := 11) dX8_keep_6 (by decide) (fun hc => ?_) (fun hc => ?_)
    · replace h := (if_pos hc).symm.trans h
      refine zg_aload_n 0 dX8_keep_11 rfl rfl ?_
      refine zo_getr 36 35 rfl fl_X8_76 zt_0 rfl dX8_keep_12 ?_
      refine zg_iload_n 1 dX8_keep_15 rfl rfl ?_
      refine zg_aload_n 0 dX8_keep_16 rfl rfl ?_
      refine zo_getr 1 0 rfl fl_X8_10 zt_0 rfl dX8_keep_17 ?_
      obtain ⟨x1, hx1, h⟩ := z_bind h
      refine zg_callV (st := [.int v1, .ref 36]) (k_X7_shape zW_1 hx1) zY_X7_shape lv_X8_141 rfl zt_1 rfl (zfit_m (by decide) (by decide)) (Nat.le_of_ble_eq_true rfl) dX8_keep_20 rfl ?_
      refine zg_aload_n 0 dX8_keep_23 rfl rfl ?_
      refine zo_getr 1 0 rfl fl_X8_10 zt_0 rfl dX8_keep_24 ?_
      refine zg_geti fl_X8_145 zt_1 rfl dX8_keep_27 ?_
      obtain ⟨M2, hM2, h⟩ := z_bind h
      refine zg_callV (st := []) (k_X2_put zM_36 hM2) zY_X2_put lv_X8_367 rfl zt_36 rfl (zfit_m (by decide) (by decide)) (Nat.le_of_ble_eq_true rfl) dX8_keep_30 rfl ?_
      refine zg_iconst dX8_keep_33 zki_1 ?_
      obtain ⟨rfl, rfl⟩ := z_ret2 h
      exact zg_zret rfl dX8_keep_34
    · replace h := (if_neg hc).symm.trans h
      refine zg_iconst dX8_keep_9 zki_0 ?_
      obtain ⟨rfl, rfl⟩ := z_ret2 h
      exact zg_zret rfl dX8_keep_10
set_option maxRecDepth 20000 in
set_option maxHeartbeats 4000000 in
theorem k_X8_count {v1 : Int32} {r1 : Int32} {M : zM} (h : f8_count v1 M = some r1) : zK ztops yX8_count cX8_count 2 (some .int) 3 [.ref 0, .int v1] M (some (.int r1)) M := by
  refine zK_of pl_X8 (Nat.le_of_ble_eq_true rfl) ?_
  show zJ ztops RX8 cX8_count 2 _ 0 0 0 [(0, .ref 0), (1, .int v1)] [] M
  rw [f8_count] at h
  refine zg_iload_n 1 dX8_count_0 rfl rfl ?_
  by_cases hc1 : v1 = (0 : Int32)
  · replace h := (if_pos hc1).symm.trans h
    refine zg_tableEq (k := 0) (off := 47) (tgt := 48) dX8_count_1 hc1 (by decide) (by decide) (by decide) (by decide) ?_
    refine zg_aload_n 0 dX8_count_48 rfl rfl ?_
    refine zo_getr 1 0 rfl fl_X8_10 zt_0 rfl dX8_count_49 ?_
    refine zg_geti fl_X8_100 zt_1 rfl dX8_count_52 ?_
    obtain rfl := z_ret1 h
    exact zg_iret dX8_count_55
  replace h := (if_neg hc1).symm.trans h
  by_cases hc2 : v1 = (1 : Int32)
  · replace h := (if_pos hc2).symm.trans h
    refine zg_tableEq (k := 1) (off := 55) (tgt := 56) dX8_count_1 hc2 (by decide) (by decide) (by decide) (by decide) ?_
    refine zg_aload_n 0 dX8_count_56 rfl rfl ?_
    refine zo_getr 1 0 rfl fl_X8_10 zt_0 rfl dX8_count_57 ?_
    refine zg_geti fl_X8_213 zt_1 rfl dX8_count_60 ?_
    obtain rfl := z_ret1 h
    exact zg_iret dX8_count_63
  replace h := (if_neg hc2).symm.trans h
  by_cases hc3 : v1 = (2 : Int32)
  · replace h := (if_pos hc3).symm.trans h
    refine zg_tableEq (k := 2) (off := 63) (tgt := 64) dX8_count_1 hc3 (by decide) (by decide) (by decide) (by decide) ?_
    refine zg_aload_n 0 dX8_count_64 rfl rfl ?_
    refine zo_getr 1 0 rfl fl_X8_10 zt_0 rfl dX8_count_65 ?_
    refine zg_geti fl_X8_145 zt_1 rfl dX8_count_68 ?_
    obtain rfl := z_ret1 h
    exact zg_iret dX8_count_71
  replace h := (if_neg hc3).symm.trans h
  by_cases hc4 : v1 = (3 : Int32)
  · replace h := (if_pos hc4).symm.trans h
    refine zg_tableEq (k := 3) (off := 71) (tgt := 72) dX8_count_1 hc4 (by decide) (by decide) (by decide) (by decide) ?_
    refine zg_aload_n 0 dX8_count_72 rfl rfl ?_
    refine zo_getr 1 0 rfl fl_X8_10 zt_0 rfl dX8_count_73 ?_
    obtain ⟨x1, hx1, h⟩ := z_bind h
    refine zg_callV (st := []) (k_X7_overs zW_1 hx1) zY_X7_overs lv_X8_364 rfl zt_1 rfl (zfit_m (by decide) (by decide)) (Nat.le_of_ble_eq_true rfl) dX8_count_76 rfl ?_
    obtain rfl := z_ret1 h
    exact zg_iret dX8_count_79
  replace h := (if_neg hc4).symm.trans h
  by_cases hc5 : v1 = (4 : Int32)
  · replace h := (if_pos hc5).symm.trans h
    refine zg_tableEq (k := 4) (off := 79) (tgt := 80) dX8_count_1 hc5 (by decide) (by decide) (by decide) (by decide) ?_
    refine zg_aload_n 0 dX8_count_80 rfl rfl ?_
    refine zo_getr 30 29 rfl fl_X8_63 zt_0 rfl dX8_count_81 ?_
    refine zg_geti fl_X8_325 zt_30 rfl dX8_count_84 ?_
    obtain rfl := z_ret1 h
    exact zg_iret dX8_count_87
  replace h := (if_neg hc5).symm.trans h
  by_cases hc6 : v1 = (5 : Int32)
  · replace h := (if_pos hc6).symm.trans h
    refine zg_tableEq (k := 5) (off := 87) (tgt := 88) dX8_count_1 hc6 (by decide) (by decide) (by decide) (by decide) ?_
    refine zg_aload_n 0 dX8_count_88 rfl rfl ?_
    refine zo_getr 33 32 rfl fl_X8_72 zt_0 rfl dX8_count_89 ?_
    refine zg_geti fl_X8_198 zt_33 rfl dX8_count_92 ?_
    obtain rfl := z_ret1 h
    exact zg_iret dX8_count_95
  replace h := (if_neg hc6).symm.trans h
  by_cases hc7 : v1 = (6 : Int32)
  · replace h := (if_pos hc7).symm.trans h
    refine zg_tableEq (k := 6) (off := 95) (tgt := 96) dX8_count_1 hc7 (by decide) (by decide) (by decide) (by decide) ?_
    refine zg_aload_n 0 dX8_count_96 rfl rfl ?_
    refine zo_getr 9 8 rfl fl_X8_32 zt_0 rfl dX8_count_97 ?_
    refine zg_geti fl_X8_374 zt_9 rfl dX8_count_100 ?_
    obtain rfl := z_ret1 h
    exact zg_iret dX8_count_103
  replace h := (if_neg hc7).symm.trans h
  by_cases hc8 : v1 = (7 : Int32)
  · replace h := (if_pos hc8).symm.trans h
    refine zg_tableEq (k := 7) (off := 103) (tgt := 104) dX8_count_1 hc8 (by decide) (by decide) (by decide) (by decide) ?_
    refine zg_aload_n 0 dX8_count_104 rfl rfl ?_
    refine zo_getr 7 6 rfl fl_X8_25 zt_0 rfl dX8_count_105 ?_
    refine zg_geti fl_X8_83 zt_7 rfl dX8_count_108 ?_
    obtain rfl := z_ret1 h
    exact zg_iret dX8_count_111
  replace h := (if_neg hc8).symm.trans h
  refine zg_tableOut (tgt := 112) dX8_count_1 (z_tout 8 (fun j hj => by match j, hj with | 0, _ => exact hc1 | 1, _ => exact hc2 | 2, _ => exact hc3 | 3, _ => exact hc4 | 4, _ => exact hc5 | 5, _ => exact hc6 | 6, _ => exact hc7 | 7, _ => exact hc8 | j + 8, hj => exact absurd hj (by omega)) (by decide)) (by decide) ?_
  refine zg_bipush dX8_count_112 zkb_m100 ?_
  obtain rfl := z_ret1 h
  exact zg_iret dX8_count_114
set_option maxRecDepth 20000 in
set_option maxHeartbeats 4000000 in
theorem k_X8_row {v1 : Int32} {r1 : Int64} {M : zM} (h : f8_row v1 M = some r1) : zK ztops yX8_row cX8_row 2 (some .long) 0 [.ref 0, .int v1] M (some (.long r1)) M := by
  refine zK_of pl_X8 (Nat.le_of_ble_eq_true rfl) ?_
  show zJ ztops RX8 cX8_row 2 _ 0 0 0 [(0, .ref 0), (1, .int v1)] [] M
  rw [f8_row] at h
  refine zg_iload_n 1 dX8_row_0 rfl rfl ?_
  refine zg_if_lt (tgt := 15) dX8_row_1 (by decide) (fun hc => ?_) (fun hc => ?_)
  · replace h := (if_pos hc).symm.trans h
    cases h
  · replace h := (if_neg hc).symm.trans h
    refine zg_iload_n 1 dX8_row_4 rfl rfl ?_
    refine zg_aload_n 0 dX8_row_5 rfl rfl ?_
    refine zo_getr 9 8 rfl fl_X8_32 zt_0 rfl dX8_row_6 ?_
    refine zg_geti fl_X8_374 zt_9 rfl dX8_row_9 ?_
    refine zg_icmp_lt (tgt := 23) dX8_row_12 (by decide) (fun hc => ?_) (fun hc => ?_)
    · replace h := (if_pos hc).symm.trans h
      refine zg_aload_n 0 dX8_row_23 rfl rfl ?_
      refine zo_getr 9 8 rfl fl_X8_32 zt_0 rfl dX8_row_24 ?_
      refine zo_getr 10 0 rfl fl_X8_375 zt_9 rfl dX8_row_27 ?_
      refine zg_iload_n 1 dX8_row_30 rfl rfl ?_
      obtain ⟨x1, hx1, h⟩ := z_bind h
      refine zo_lald zt_10 hx1 dX8_row_31 ?_
      obtain rfl := z_ret1 h
      exact zg_lret dX8_row_32
    · replace h := (if_neg hc).symm.trans h
      cases h
set_option maxRecDepth 20000 in
set_option maxHeartbeats 4000000 in
theorem k_X8_digitsOf {T : List zN} {v0 : Int32} {r1 : Nat} {M : zM} (h : f8_digitsOf v0 = some r1) : zK T yX8_digitsOf cX8_digitsOf 1 (some (.object "java/lang/String")) 0 [.int v0] M (some (.ref (1000 + r1))) M := by
  refine zK_of pl_X8 (Nat.le_of_ble_eq_true rfl) ?_
  show zJ T RX8 cX8_digitsOf 1 _ 0 0 0 [(0, .int v0)] [] M
  rw [f8_digitsOf] at h
  refine zg_iload_n 0 dX8_digitsOf_0 rfl rfl ?_
  by_cases hc1 : v0 = (100 : Int32)
  · replace h := (if_pos hc1).symm.trans h
    refine zg_lookEq (k := 100) (off := 59) (tgt := 60) dX8_digitsOf_1 (by decide) hc1 (by decide) (by decide) ?_
    refine zg_ldcSw (q := 2) rfl dX8_digitsOf_60 ?_
    obtain rfl := z_ret1 h
    exact zg_aret dX8_digitsOf_63
  replace h := (if_neg hc1).symm.trans h
  by_cases hc2 : v0 = (109 : Int32)
  · replace h := (if_pos hc2).symm.trans h
    refine zg_lookEq (k := 109) (off := 67) (tgt := 68) dX8_digitsOf_1 (by decide) hc2 (by decide) (by decide) ?_
    refine zg_ldcSw (q := 4) rfl dX8_digitsOf_68 ?_
    obtain rfl := z_ret1 h
    exact zg_aret dX8_digitsOf_71
  replace h := (if_neg hc2).symm.trans h
  by_cases hc3 : v0 = (110 : Int32)
  · replace h := (if_pos hc3).symm.trans h
    refine zg_lookEq (k := 110) (off := 51) (tgt := 52) dX8_digitsOf_1 (by decide) hc3 (by decide) (by decide) ?_
    refine zg_ldcSw (q := 0) rfl dX8_digitsOf_52 ?_
    obtain rfl := z_ret1 h
    exact zg_aret dX8_digitsOf_55
  replace h := (if_neg hc3).symm.trans h
  by_cases hc4 : v0 = (116 : Int32)
  · replace h := (if_pos hc4).symm.trans h
    refine zg_lookEq (k := 116) (off := 63) (tgt := 64) dX8_digitsOf_1 (by decide) hc4 (by decide) (by decide) ?_
    refine zg_ldcSw (q := 3) rfl dX8_digitsOf_64 ?_
    obtain rfl := z_ret1 h
    exact zg_aret dX8_digitsOf_67
  replace h := (if_neg hc4).symm.trans h
  by_cases hc5 : v0 = (119 : Int32)
  · replace h := (if_pos hc5).symm.trans h
    refine zg_lookEq (k := 119) (off := 55) (tgt := 56) dX8_digitsOf_1 (by decide) hc5 (by decide) (by decide) ?_
    refine zg_ldcSw (q := 1) rfl dX8_digitsOf_56 ?_
    obtain rfl := z_ret1 h
    exact zg_aret dX8_digitsOf_59
  replace h := (if_neg hc5).symm.trans h
  refine zg_lookup (off := 71) (tgt := 72) dX8_digitsOf_1 (by decide) ((lv_osw hc1 (by decide)).trans ((lv_osw hc2 (by decide)).trans ((lv_osw hc3 (by decide)).trans ((lv_osw hc4 (by decide)).trans ((lv_osw hc5 (by decide)).trans (rfl)))))) (by decide) ?_
  refine zg_ldcSw (q := 5) rfl dX8_digitsOf_72 ?_
  obtain rfl := z_ret1 h
  exact zg_aret dX8_digitsOf_75
set_option maxRecDepth 20000 in
set_option maxHeartbeats 4000000 in
theorem g8_workFault_88 {r1 : Int32} {M : zM} {k22 : Nat → Int32 → Int32 → Int32 → zM → Option Int32} (hk22 : ∀ (v1 : Nat) (v2 : Int32) (v3 : Int32) (v4 : Int32), k22 v1 v2 v3 v4 M = some r1 → zJ ztops RX8 cX8_workFault 6 (zBm ztops 6 (some .int) (some (.int r1)) M) 0 0 22 [(0, .ref 0), (1, .ref (1000 + v1)), (2, .int v2), (3, .int v3), (4, .int v4)] [] M) : ∀ (v1 : Nat) (v2 : Int32) (v3 : Int32) (v4 : Int32), f8_workFault_88 k22 v1 v2 v3 v4 M = some r1 → zJ ztops RX8 cX8_workFault 6 (zBm ztops 6 (some .int) (some (.int r1)) M) 0 0 88 [(0, .ref 0), (1, .ref (1000 + v1)), (2, .int v2), (3, .int v3), (4, .int v4)] [] M := by
  intro v1 v2 v3 v4 h
  rw [f8_workFault_88] at h
  refine zg_iinc (ls' := [(0, .ref 0), (1, .ref (1000 + v1)), (2, .int v2), (3, .int v3), (4, .int (v4 + (1 : Int32)))]) 4 dX8_workFault_88 rfl zki_1 (Nat.le_of_ble_eq_true rfl) rfl ?_
  refine zg_goto (tgt := 22) dX8_workFault_91 (by decide) ?_
  exact hk22 _ _ _ _ h
set_option maxRecDepth 20000 in
set_option maxHeartbeats 4000000 in
theorem g8_workFault_22 {r1 : Int32} {M : zM} : ∀ (n : Nat) (v1 : Nat) (v2 : Int32) (v3 : Int32) (v4 : Int32), f8_workFault_22 n v1 v2 v3 v4 M = some r1 → zJ ztops RX8 cX8_workFault 6 (zBm ztops 6 (some .int) (some (.int r1)) M) 0 0 22 [(0, .ref 0), (1, .ref (1000 + v1)), (2, .int v2), (3, .int v3), (4, .int v4)] [] M := by
  intro n
  induction n with
  | zero => intro v1 v2 v3 v4 h; cases h
  | succ n ih =>
    intro v1 v2 v3 v4 h
    rw [f8_workFault_22] at h
    refine zg_iload 4 dX8_workFault_22 rfl ?_
    refine zg_iload_n 3 dX8_workFault_24 rfl rfl ?_
    refine zg_icmp_ge (tgt := 94) dX8_workFault_25 (by decide) (fun hc => ?_) (fun hc => ?_)
    · replace h := (if_pos hc).symm.trans h
      refine zg_aload_n 0 dX8_workFault_94 rfl rfl ?_
      refine zo_getr 7 6 rfl fl_X8_25 zt_0 rfl dX8_workFault_95 ?_
      refine zg_geti fl_X8_83 zt_7 rfl dX8_workFault_98 ?_
      refine zg_bipush dX8_workFault_101 zkb_60 ?_
      refine zg_icmp_le (tgt := 109) dX8_workFault_103 (by decide) (fun hc => ?_) (fun hc => ?_)
      · replace h := (if_pos hc).symm.trans h
        refine zg_iload_n 2 dX8_workFault_109 rfl rfl ?_
        refine zg_aload_n 1 dX8_workFault_110 rfl rfl ?_
        obtain ⟨x1, hx1, h⟩ := z_bind h
        refine zo_slen (st := [.int v2]) (zfit_m (by decide) (by decide)) (Nat.le_of_ble_eq_true rfl) lv_X8_186 hx1 dX8_workFault_111 ?_
        suffices hj : zJ ztops RX8 cX8_workFault 6 (zBm ztops 6 (some .int) (some (.int r1)) M) 0 0 128 [(0, .ref 0), (1, .ref (1000 + v1)), (2, .int v2), (3, .int v3), (4, .int v4)] [.int (if x1 ≤ v2 then (-1 : Int32) else (M.1 7 1))] M by
          refine zg_icmp_ge (tgt := 127) dX8_workFault_114 (by decide) (fun hc => ?_) (fun hc => ?_)
          · rw [show (if x1 ≤ v2 then (-1 : Int32) else (M.1 7 1)) = (-1 : Int32) from if_pos hc] at hj
            refine zg_iconst dX8_workFault_127 zki_m1 ?_
            exact hj
          · rw [show (if x1 ≤ v2 then (-1 : Int32) else (M.1 7 1)) = (M.1 7 1) from if_neg hc] at hj
            refine zg_aload_n 0 dX8_workFault_117 rfl rfl ?_
            refine zo_getr 7 6 rfl fl_X8_25 zt_0 rfl dX8_workFault_118 ?_
            refine zg_geti fl_X8_83 zt_7 rfl dX8_workFault_121 ?_
            refine zg_goto (tgt := 128) dX8_workFault_124 (by decide) ?_
            exact hj
        obtain rfl := z_ret1 h
        exact zg_iret dX8_workFault_128
      · replace h := (if_neg hc).symm.trans h
        refine zg_bipush dX8_workFault_106 zkb_60 ?_
        obtain rfl := z_ret1 h
        exact zg_iret dX8_workFault_108
    · replace h := (if_neg hc).symm.trans h
      refine zg_aload_n 0 dX8_workFault_28 rfl rfl ?_
      refine zo_getr 7 6 rfl fl_X8_25 zt_0 rfl dX8_workFault_29 ?_
      refine zg_iload 4 dX8_workFault_32 rfl ?_
      obtain ⟨x1, hx1, h⟩ := z_bind h
      refine zg_callV (st := []) (k_X6_at hx1) zY_X6_at lv_X8_179 rfl zt_7 rfl (zfit_m (by decide) (by decide)) (Nat.le_of_ble_eq_true rfl) dX8_workFault_34 rfl ?_
      refine zg_istore (ls' := [(0, .ref 0), (1, .ref (1000 + v1)), (2, .int v2), (3, .int v3), (4, .int v4), (5, .int x1)]) dX8_workFault_37 (Nat.le_of_ble_eq_true rfl) rfl ?_
      refine zg_iload_n 2 dX8_workFault_39 rfl rfl ?_
      refine zg_aload_n 1 dX8_workFault_40 rfl rfl ?_
      obtain ⟨x2, hx2, h⟩ := z_bind h
      refine zo_slen (st := [.int v2]) (zfit_m (by decide) (by decide)) (Nat.le_of_ble_eq_true rfl) lv_X8_186 hx2 dX8_workFault_41 ?_
      refine zg_icmp_ne (tgt := 65) dX8_workFault_44 (by decide) (fun hc => ?_) (fun hc => ?_)
      · replace h := (if_neg hc).symm.trans h
        refine zg_iload 5 dX8_workFault_65 rfl ?_
        refine zg_bipush dX8_workFault_67 zkb_48 ?_
        refine zg_icmp_lt (tgt := 82) dX8_workFault_69 (by decide) (fun hc => ?_) (fun hc => ?_)
        · replace h := (if_pos hc).symm.trans h
          refine zg_iload 4 dX8_workFault_82 rfl ?_
          obtain rfl := z_ret1 h
          exact zg_iret dX8_workFault_84
        · replace h := (if_neg hc).symm.trans h
          refine zg_iload 5 dX8_workFault_72 rfl ?_
          refine zg_aload_n 1 dX8_workFault_74 rfl rfl ?_
          refine zg_iload_n 2 dX8_workFault_75 rfl rfl ?_
          obtain ⟨x3, hx3, h⟩ := z_bind h
          refine zo_schr (st := [.int x1]) (zfit_m (by decide) (by decide)) (Nat.le_of_ble_eq_true rfl) lv_X8_397 hx3 dX8_workFault_76 ?_
          refine zg_icmp_le (tgt := 85) dX8_workFault_79 (by decide) (fun hc => ?_) (fun hc => ?_)
          · replace h := (if_pos hc).symm.trans h
            refine zg_iinc (ls' := [(0, .ref 0), (1, .ref (1000 + v1)), (2, .int (v2 + (1 : Int32))), (3, .int v3), (4, .int v4), (5, .int x1)]) 2 dX8_workFault_85 rfl zki_1 (Nat.le_of_ble_eq_true rfl) rfl ?_
            refine zo_sub (ls' := [(0, .ref 0), (1, .ref (1000 + v1)), (2, .int (v2 + (1 : Int32))), (3, .int v3), (4, .int v4)]) [0, 1, 2, 3, 4] rfl ?_
            exact g8_workFault_88 (fun u0 u1 u2 u3 h => ih u0 u1 u2 u3 h) _ _ _ _ h
          · replace h := (if_neg hc).symm.trans h
            refine zg_iload 4 dX8_workFault_82 rfl ?_
            obtain rfl := z_ret1 h
            exact zg_iret dX8_workFault_84
      · replace h := (if_pos hc).symm.trans h
        refine zg_iload 5 dX8_workFault_47 rfl ?_
        obtain ⟨x3, hx3, h⟩ := z_bind h
        refine zg_callS (st := []) (k_X8_digitsOf hx3) zY_X8_digitsOf ls_X8_182 rfl (zfit_m (by decide) (by decide)) (Nat.le_of_ble_eq_true rfl) dX8_workFault_49 rfl ?_
        refine zg_astore_n (ls' := [(0, .ref 0), (1, .ref (1000 + x3)), (2, .int v2), (3, .int v3), (4, .int v4), (5, .int x1)]) dX8_workFault_52 rfl (Nat.le_of_ble_eq_true rfl) rfl ?_
        refine zg_iconst dX8_workFault_53 zki_0 ?_
        refine zg_istore_n (ls' := [(0, .ref 0), (1, .ref (1000 + x3)), (2, .int (0 : Int32)), (3, .int v3), (4, .int v4), (5, .int x1)]) dX8_workFault_54 rfl (Nat.le_of_ble_eq_true rfl) rfl ?_
        refine zg_aload_n 1 dX8_workFault_55 rfl rfl ?_
        obtain ⟨x4, hx4, h⟩ := z_bind h
        refine zo_semp (st := []) (zfit_m (by decide) (by decide)) (Nat.le_of_ble_eq_true rfl) lv_X8_393 hx4 dX8_workFault_56 ?_
        refine zg_if_eq (tgt := 88) dX8_workFault_59 (by decide) (fun hc => ?_) (fun hc => ?_)
        · replace h := (if_pos hc).symm.trans h
          refine zo_sub (ls' := [(0, .ref 0), (1, .ref (1000 + x3)), (2, .int (0 : Int32)), (3, .int v3), (4, .int v4)]) [0, 1, 2, 3, 4] rfl ?_
          exact g8_workFault_88 (fun u0 u1 u2 u3 h => ih u0 u1 u2 u3 h) _ _ _ _ h
        · replace h := (if_neg hc).symm.trans h
          refine zg_iload 4 dX8_workFault_62 rfl ?_
          obtain rfl := z_ret1 h
          exact zg_iret dX8_workFault_64
set_option maxRecDepth 20000 in
set_option maxHeartbeats 4000000 in
theorem k_X8_workFault {r1 : Int32} {M : zM} (h : f8_workFault M = some r1) : zK ztops yX8_workFault cX8_workFault 6 (some .int) 6 [.ref 0] M (some (.int r1)) M := by
  refine zK_of pl_X8 (Nat.le_of_ble_eq_true rfl) ?_
  show zJ ztops RX8 cX8_workFault 6 _ 0 0 0 [(0, .ref 0)] [] M
  rw [f8_workFault] at h
  refine zg_ldcSw (q := 5) rfl dX8_workFault_0 ?_
  refine zg_astore_n (ls' := [(0, .ref 0), (1, .ref (1000 + 5))]) dX8_workFault_3 rfl (Nat.le_of_ble_eq_true rfl) rfl ?_
  refine zg_iconst dX8_workFault_4 zki_0 ?_
  refine zg_istore_n (ls' := [(0, .ref 0), (1, .ref (1000 + 5)), (2, .int (0 : Int32))]) dX8_workFault_5 rfl (Nat.le_of_ble_eq_true rfl) rfl ?_
  refine zg_aload_n 0 dX8_workFault_6 rfl rfl ?_
  refine zo_getr 7 6 rfl fl_X8_25 zt_0 rfl dX8_workFault_7 ?_
  refine zg_geti fl_X8_83 zt_7 rfl dX8_workFault_10 ?_
  refine zg_bipush dX8_workFault_13 zkb_60 ?_
  refine zo_min ls_X8_390 ⟨Nat.le_of_ble_eq_true rfl, Nat.le_of_ble_eq_true rfl, Nat.le_refl _, Nat.le_refl _⟩ z_iM z_cmin dX8_workFault_15 ?_
  refine zg_istore_n (ls' := [(0, .ref 0), (1, .ref (1000 + 5)), (2, .int (0 : Int32)), (3, .int (zmin (M.1 7 1) (60 : Int32)))]) dX8_workFault_18 rfl (Nat.le_of_ble_eq_true rfl) rfl ?_
  refine zg_iconst dX8_workFault_19 zki_0 ?_
  refine zg_istore (ls' := [(0, .ref 0), (1, .ref (1000 + 5)), (2, .int (0 : Int32)), (3, .int (zmin (M.1 7 1) (60 : Int32))), (4, .int (0 : Int32))]) dX8_workFault_20 (Nat.le_of_ble_eq_true rfl) rfl ?_
  exact g8_workFault_22 zfuel _ _ _ _ h
set_option maxRecDepth 20000 in
set_option maxHeartbeats 4000000 in
theorem g8_checkSum_4 {T : List zN} {r1 : Int32} {M : zM} : ∀ (n : Nat) (v0 : Int32) (v1 : Int32) (v2 : Int32) (v3 : Int32), f8_checkSum_4 n v0 v1 v2 v3 = some r1 → zJ T RX8 cX8_checkSum 4 (zBm T 0 (some .int) (some (.int r1)) M) 0 0 4 [(0, .int v0), (1, .int v1), (2, .int v2), (3, .int v3)] [] M := by
  intro n
  induction n with
  | zero => intro v0 v1 v2 v3 h; cases h
  | succ n ih =>
    intro v0 v1 v2 v3 h
    rw [f8_checkSum_4] at h
    refine zg_iload_n 3 dX8_checkSum_4 rfl rfl ?_
    refine zg_iload_n 1 dX8_checkSum_5 rfl rfl ?_
    refine zg_icmp_ge (tgt := 27) dX8_checkSum_6 (by decide) (fun hc => ?_) (fun hc => ?_)
    · replace h := (if_pos hc).symm.trans h
      refine zg_iload_n 2 dX8_checkSum_27 rfl rfl ?_
      obtain rfl := z_ret1 h
      exact zg_iret dX8_checkSum_28
    · replace h := (if_neg hc).symm.trans h
      refine zg_iload_n 2 dX8_checkSum_9 rfl rfl ?_
      refine zg_iload_n 0 dX8_checkSum_10 rfl rfl ?_
      refine zg_iload_n 3 dX8_checkSum_11 rfl rfl ?_
      refine zg_iushr dX8_checkSum_12 ?_
      refine zg_iconst dX8_checkSum_13 zki_1 ?_
      refine zg_iand dX8_checkSum_14 ?_
      refine zg_iload_n 3 dX8_checkSum_15 rfl rfl ?_
      refine zg_iconst dX8_checkSum_16 zki_1 ?_
      refine zg_iadd dX8_checkSum_17 ?_
      refine zg_imul dX8_checkSum_18 ?_
      refine zg_iadd dX8_checkSum_19 ?_
      refine zg_istore_n (ls' := [(0, .int v0), (1, .int v1), (2, .int (v2 + (((zushr v0 v3) &&& (1 : Int32)) * (v3 + (1 : Int32))))), (3, .int v3)]) dX8_checkSum_20 rfl (Nat.le_of_ble_eq_true rfl) rfl ?_
      refine zg_iinc (ls' := [(0, .int v0), (1, .int v1), (2, .int (v2 + (((zushr v0 v3) &&& (1 : Int32)) * (v3 + (1 : Int32))))), (3, .int (v3 + (1 : Int32)))]) 3 dX8_checkSum_21 rfl zki_1 (Nat.le_of_ble_eq_true rfl) rfl ?_
      refine zg_goto (tgt := 4) dX8_checkSum_24 (by decide) ?_
      exact ih _ _ _ _ h
set_option maxRecDepth 20000 in
set_option maxHeartbeats 4000000 in
theorem k_X8_checkSum {T : List zN} {v0 : Int32} {v1 : Int32} {r1 : Int32} {M : zM} (h : f8_checkSum v0 v1 = some r1) : zK T yX8_checkSum cX8_checkSum 4 (some .int) 0 [.int v0, .int v1] M (some (.int r1)) M := by
  refine zK_of pl_X8 (Nat.le_of_ble_eq_true rfl) ?_
  show zJ T RX8 cX8_checkSum 4 _ 0 0 0 [(0, .int v0), (1, .int v1)] [] M
  rw [f8_checkSum] at h
  refine zg_iconst dX8_checkSum_0 zki_0 ?_
  refine zg_istore_n (ls' := [(0, .int v0), (1, .int v1), (2, .int (0 : Int32))]) dX8_checkSum_1 rfl (Nat.le_of_ble_eq_true rfl) rfl ?_
  refine zg_iconst dX8_checkSum_2 zki_0 ?_
  refine zg_istore_n (ls' := [(0, .int v0), (1, .int v1), (2, .int (0 : Int32)), (3, .int (0 : Int32))]) dX8_checkSum_3 rfl (Nat.le_of_ble_eq_true rfl) rfl ?_
  exact g8_checkSum_4 zfuel _ _ _ _ h
set_option maxRecDepth 20000 in
set_option maxHeartbeats 4000000 in
theorem g8_mendingCell_81 {r1 : Int32} {Mr : zM} {k2 : Int32 → Int32 → zM → Option (Int32 × zM)} (hk2 : ∀ (v2 : Int32) (v3 : Int32) (M : zM), k2 v2 v3 M = some (r1, Mr) → zJ ztops RX8 cX8_mendingCell 5 (zBm ztops 4 (some .int) (some (.int r1)) Mr) 0 0 2 [(0, .ref 0), (2, .int v2), (3, .int v3)] [] M) : ∀ (v2 : Int32) (v3 : Int32) (M : zM), f8_mendingCell_81 k2 v2 v3 M = some (r1, Mr) → zJ ztops RX8 cX8_mendingCell 5 (zBm ztops 4 (some .int) (some (.int r1)) Mr) 0 0 81 [(0, .ref 0), (2, .int v2), (3, .int v3)] [] M := by
  intro v2 v3 M h
  rw [f8_mendingCell_81] at h
  refine zg_iinc (ls' := [(0, .ref 0), (2, .int v2), (3, .int (v3 + (1 : Int32)))]) 2 dX8_mendingCell_81 rfl zki_1 (Nat.le_of_ble_eq_true rfl) rfl ?_
  refine zg_goto (tgt := 2) dX8_mendingCell_84 (by decide) ?_
  exact hk2 _ _ _ h
set_option maxRecDepth 20000 in
set_option maxHeartbeats 4000000 in
theorem g8_mendingCell_2 {r1 : Int32} {Mr : zM} : ∀ (n : Nat) (v2 : Int32) (v3 : Int32) (M : zM), f8_mendingCell_2 n v2 v3 M = some (r1, Mr) → zJ ztops RX8 cX8_mendingCell 5 (zBm ztops 4 (some .int) (some (.int r1)) Mr) 0 0 2 [(0, .ref 0), (2, .int v2), (3, .int v3)] [] M := by
  intro n
  induction n with
  | zero => intro v2 v3 M h; cases h
  | succ n ih =>
    intro v2 v3 M h
    rw [f8_mendingCell_2] at h
    refine zg_iload_n 2 dX8_mendingCell_2 rfl rfl ?_
    refine zg_bipush dX8_mendingCell_3 zkb_6 ?_
    refine zg_aload_n 0 dX8_mendingCell_5 rfl rfl ?_
    refine zo_getr 1 0 rfl fl_X8_10 zt_0 rfl dX8_mendingCell_6 ?_
    refine zg_geti fl_X8_100 zt_1 rfl dX8_mendingCell_9 ?_
    refine zg_imul dX8_mendingCell_12 ?_
    refine zg_icmp_ge (tgt := 87) dX8_mendingCell_13 (by decide) (fun hc => ?_) (fun hc => ?_)
    · replace h := (if_pos hc).symm.trans h
      refine zg_iconst dX8_mendingCell_87 zki_m1 ?_
      obtain ⟨rfl, rfl⟩ := z_ret2 h
      exact zg_iret dX8_mendingCell_88
    · replace h := (if_neg hc).symm.trans h
      refine zg_aload_n 0 dX8_mendingCell_16 rfl rfl ?_
      refine zo_getr 1 0 rfl fl_X8_10 zt_0 rfl dX8_mendingCell_17 ?_
      refine zg_iload_n 2 dX8_mendingCell_20 rfl rfl ?_
      refine zg_bipush dX8_mendingCell_21 zkb_6 ?_
      refine zg_idiv (by decide) dX8_mendingCell_23 ?_
      refine zg_iload_n 2 dX8_mendingCell_24 rfl rfl ?_
      refine zg_bipush dX8_mendingCell_25 zkb_6 ?_
      refine zg_irem (by decide) dX8_mendingCell_27 ?_
      obtain ⟨x1, hx1, h⟩ := z_bind h
      refine zg_callV (st := []) (k_X7_crosses zW_1 hx1) zY_X7_crosses lv_X8_107 rfl zt_1 rfl (zfit_m (by decide) (by decide)) (Nat.le_of_ble_eq_true rfl) dX8_mendingCell_28 rfl ?_
      refine zg_if_eq (tgt := 81) dX8_mendingCell_31 (by decide) (fun hc => ?_) (fun hc => ?_)
      · replace h := (if_pos hc).symm.trans h
        exact g8_mendingCell_81 (fun u0 u1 u2 h => ih u0 u1 u2 h) _ _ _ h
      · replace h := (if_neg hc).symm.trans h
        refine zg_aload_n 0 dX8_mendingCell_34 rfl rfl ?_
        refine zo_getr 21 20 rfl fl_X8_49 zt_0 rfl dX8_mendingCell_35 ?_
        refine zg_iload_n 2 dX8_mendingCell_38 rfl rfl ?_
        refine zg_bipush dX8_mendingCell_39 zkb_6 ?_
        refine zg_idiv (by decide) dX8_mendingCell_41 ?_
        refine zg_iload_n 2 dX8_mendingCell_42 rfl rfl ?_
        refine zg_bipush dX8_mendingCell_43 zkb_6 ?_
        refine zg_irem (by decide) dX8_mendingCell_45 ?_
        obtain ⟨M2, hM2, h⟩ := z_bind h
        refine zg_callV (st := []) (k_X0_turn hM2) zY_X0_turn lv_X8_282 rfl zt_21 rfl (zfit_m (by decide) (by decide)) (Nat.le_of_ble_eq_true rfl) dX8_mendingCell_46 rfl ?_
        refine zg_aload_n 0 dX8_mendingCell_49 rfl rfl ?_
        refine zo_getr 21 20 rfl fl_X8_49 zt_0 rfl dX8_mendingCell_50 ?_
        refine zg_iload_n 1 dX8_mendingCell_53 rfl rfl ?_
        obtain ⟨x3, hx3, h⟩ := z_bind h
        refine zg_callV (st := []) (k_X0_areTogether hx3) zY_X0_areTogether lv_X8_276 rfl zt_21 rfl (zfit_m (by decide) (by decide)) (Nat.le_of_ble_eq_true rfl) dX8_mendingCell_54 rfl ?_
        refine zg_istore (ls' := [(0, .ref 0), (2, .int v2), (3, .int v3), (4, .int x3)]) dX8_mendingCell_57 (Nat.le_of_ble_eq_true rfl) rfl ?_
        refine zg_aload_n 0 dX8_mendingCell_59 rfl rfl ?_
        refine zo_getr 21 20 rfl fl_X8_49 zt_0 rfl dX8_mendingCell_60 ?_
        refine zg_iload_n 2 dX8_mendingCell_63 rfl rfl ?_
        refine zg_bipush dX8_mendingCell_64 zkb_6 ?_
        refine zg_idiv (by decide) dX8_mendingCell_66 ?_
        refine zg_iload_n 2 dX8_mendingCell_67 rfl rfl ?_
        refine zg_bipush dX8_mendingCell_68 zkb_6 ?_
        refine zg_irem (by decide) dX8_mendingCell_70 ?_
        obtain ⟨M4, hM4, h⟩ := z_bind h
        refine zg_callV (st := []) (k_X0_turn hM4) zY_X0_turn lv_X8_282 rfl zt_21 rfl (zfit_m (by decide) (by decide)) (Nat.le_of_ble_eq_true rfl) dX8_mendingCell_71 rfl ?_
        refine zg_iload 3 dX8_mendingCell_74 rfl ?_
        refine zg_if_eq (tgt := 81) dX8_mendingCell_76 (by decide) (fun hc => ?_) (fun hc => ?_)
        · replace h := (if_pos hc).symm.trans h
          refine zo_sub (ls' := [(0, .ref 0), (2, .int v2), (3, .int v3)]) [0, 1, 2] rfl ?_
          exact g8_mendingCell_81 (fun u0 u1 u2 h => ih u0 u1 u2 h) _ _ _ h
        · replace h := (if_neg hc).symm.trans h
          refine zg_iload_n 2 dX8_mendingCell_79 rfl rfl ?_
          obtain ⟨rfl, rfl⟩ := z_ret2 h
          exact zg_iret dX8_mendingCell_80
set_option maxRecDepth 20000 in
set_option maxHeartbeats 4000000 in
theorem k_X8_mendingCell {v1 : Int32} {v2 : Int32} {M : zM} {r1 : Int32} {Mr : zM} (h : f8_mendingCell v1 v2 M = some (r1, Mr)) : zK ztops yX8_mendingCell cX8_mendingCell 5 (some .int) 4 [.ref 0, .int v1, .int v2] M (some (.int r1)) Mr := by
  refine zK_of pl_X8 (Nat.le_of_ble_eq_true rfl) ?_
  show zJ ztops RX8 cX8_mendingCell 5 _ 0 0 0 [(0, .ref 0), (1, .int v1), (2, .int v2)] [] M
  rw [f8_mendingCell] at h
  refine zg_iload_n 1 dX8_mendingCell_0 rfl rfl ?_
  refine zg_istore_n (ls' := [(0, .ref 0), (1, .int v1), (2, .int v2), (3, .int v1)]) dX8_mendingCell_1 rfl (Nat.le_of_ble_eq_true rfl) rfl ?_
  refine zo_sub (ls' := [(0, .ref 0), (2, .int v2), (3, .int v1)]) [0, 2, 3] rfl ?_
  exact g8_mendingCell_2 zfuel _ _ _ h
set_option maxRecDepth 20000 in
set_option maxHeartbeats 4000000 in
theorem g8_differences_20 {r1 : Int32} {M : zM} {k92 : Int32 → Int32 → Int32 → Int32 → zM → Option Int32} (hk92 : ∀ (v1 : Int32) (v2 : Int32) (v3 : Int32) (v4 : Int32), k92 v1 v2 v3 v4 M = some r1 → zJ ztops RX8 cX8_differences 8 (zBm ztops 5 (some .int) (some (.int r1)) M) 0 0 92 [(0, .ref 0), (1, .int v1), (2, .int v2), (3, .int v3), (4, .int v4)] [] M) : ∀ (n : Nat) (v1 : Int32) (v2 : Int32) (v3 : Int32) (v4 : Int32) (v5 : Int32), f8_differences_20 k92 n v1 v2 v3 v4 v5 M = some r1 → zJ ztops RX8 cX8_differences 8 (zBm ztops 5 (some .int) (some (.int r1)) M) 0 0 20 [(0, .ref 0), (1, .int v1), (2, .int v2), (3, .int v3), (4, .int v4), (5, .int v5)] [] M := by
  intro n
  induction n with
  | zero => intro v1 v2 v3 v4 v5 h; cases h
  | succ n ih =>
    intro v1 v2 v3 v4 v5 h
    rw [f8_differences_20] at h
    refine zg_iload 5 dX8_differences_20 rfl ?_
    refine zg_aload_n 0 dX8_differences_22 rfl rfl ?_
    refine zo_getr 1 0 rfl fl_X8_10 zt_0 rfl dX8_differences_23 ?_
    refine zg_geti fl_X8_213 zt_1 rfl dX8_differences_26 ?_
    refine zg_icmp_ge (tgt := 92) dX8_differences_29 (by decide) (fun hc => ?_) (fun hc => ?_)
    · replace h := (if_pos hc).symm.trans h
      refine zo_sub (ls' := [(0, .ref 0), (1, .int v1), (2, .int v2), (3, .int v3), (4, .int v4)]) [0, 1, 2, 3, 4] rfl ?_
      exact hk92 _ _ _ _ h
    · replace h := (if_neg hc).symm.trans h
      refine zg_iload 4 dX8_differences_32 rfl ?_
      refine zg_iload_n 1 dX8_differences_34 rfl rfl ?_
      refine zg_iadd dX8_differences_35 ?_
      refine zg_aload_n 0 dX8_differences_36 rfl rfl ?_
      refine zo_getr 1 0 rfl fl_X8_10 zt_0 rfl dX8_differences_37 ?_
      refine zg_geti fl_X8_100 zt_1 rfl dX8_differences_40 ?_
      obtain ⟨x1, hx1, h⟩ := z_bind h
      refine zo_irem hx1 dX8_differences_43 ?_
      refine zg_istore (ls' := [(0, .ref 0), (1, .int v1), (2, .int v2), (3, .int v3), (4, .int v4), (5, .int v5), (6, .int x1)]) dX8_differences_44 (Nat.le_of_ble_eq_true rfl) rfl ?_
      refine zg_iload 5 dX8_differences_46 rfl ?_
      refine zg_iload_n 2 dX8_differences_48 rfl rfl ?_
      refine zg_iadd dX8_differences_49 ?_
      refine zg_aload_n 0 dX8_differences_50 rfl rfl ?_
      refine zo_getr 1 0 rfl fl_X8_10 zt_0 rfl dX8_differences_51 ?_
      refine zg_geti fl_X8_213 zt_1 rfl dX8_differences_54 ?_
      obtain ⟨x2, hx2, h⟩ := z_bind h
      refine zo_irem hx2 dX8_differences_57 ?_
      refine zg_istore (ls' := [(0, .ref 0), (1, .int v1), (2, .int v2), (3, .int v3), (4, .int v4), (5, .int v5), (6, .int x1), (7, .int x2)]) dX8_differences_58 (Nat.le_of_ble_eq_true rfl) rfl ?_
      refine zg_iload_n 3 dX8_differences_60 rfl rfl ?_
      refine zg_aload_n 0 dX8_differences_61 rfl rfl ?_
      refine zo_getr 3 2 rfl fl_X8_16 zt_0 rfl dX8_differences_62 ?_
      refine zg_iload 4 dX8_differences_65 rfl ?_
      refine zg_iload 5 dX8_differences_67 rfl ?_
      obtain ⟨x3, hx3, h⟩ := z_bind h
      refine zg_callV (st := [.int v3]) (k_X7_overAt zW_3 hx3) zY_X7_overAt lv_X8_114 rfl zt_3 rfl (zfit_m (by decide) (by decide)) (Nat.le_of_ble_eq_true rfl) dX8_differences_69 rfl ?_
      refine zg_aload_n 0 dX8_differences_72 rfl rfl ?_
      refine zo_getr 1 0 rfl fl_X8_10 zt_0 rfl dX8_differences_73 ?_
      refine zg_iload 6 dX8_differences_76 rfl ?_
      refine zg_iload 7 dX8_differences_78 rfl ?_
      obtain ⟨x4, hx4, h⟩ := z_bind h
      refine zg_callV (st := [.int x3, .int v3]) (k_X7_overAt zW_1 hx4) zY_X7_overAt lv_X8_114 rfl zt_1 rfl (zfit_m (by decide) (by decide)) (Nat.le_of_ble_eq_true rfl) dX8_differences_80 rfl ?_
      refine zg_ixor dX8_differences_83 ?_
      refine zg_iadd dX8_differences_84 ?_
      refine zg_istore_n (ls' := [(0, .ref 0), (1, .int v1), (2, .int v2), (3, .int (v3 + (x3 ^^^ x4))), (4, .int v4), (5, .int v5), (6, .int x1), (7, .int x2)]) dX8_differences_85 rfl (Nat.le_of_ble_eq_true rfl) rfl ?_
      refine zg_iinc (ls' := [(0, .ref 0), (1, .int v1), (2, .int v2), (3, .int (v3 + (x3 ^^^ x4))), (4, .int v4), (5, .int (v5 + (1 : Int32))), (6, .int x1), (7, .int x2)]) 5 dX8_differences_86 rfl zki_1 (Nat.le_of_ble_eq_true rfl) rfl ?_
      refine zg_goto (tgt := 20) dX8_differences_89 (by decide) ?_
      refine zo_sub (ls' := [(0, .ref 0), (1, .int v1), (2, .int v2), (3, .int (v3 + (x3 ^^^ x4))), (4, .int v4), (5, .int (v5 + (1 : Int32)))]) [0, 1, 2, 3, 4, 5] rfl ?_
      exact ih _ _ _ _ _ h
set_option maxRecDepth 20000 in
set_option maxHeartbeats 4000000 in
theorem g8_differences_92 {r1 : Int32} {M : zM} {k5 : Int32 → Int32 → Int32 → Int32 → zM → Option Int32} (hk5 : ∀ (v1 : Int32) (v2 : Int32) (v3 : Int32) (v4 : Int32), k5 v1 v2 v3 v4 M = some r1 → zJ ztops RX8 cX8_differences 8 (zBm ztops 5 (some .int) (some (.int r1)) M) 0 0 5 [(0, .ref 0), (1, .int v1), (2, .int v2), (3, .int v3), (4, .int v4)] [] M) : ∀ (v1 : Int32) (v2 : Int32) (v3 : Int32) (v4 : Int32), f8_differences_92 k5 v1 v2 v3 v4 M = some r1 → zJ ztops RX8 cX8_differences 8 (zBm ztops 5 (some .int) (some (.int r1)) M) 0 0 92 [(0, .ref 0), (1, .int v1), (2, .int v2), (3, .int v3), (4, .int v4)] [] M := by
  intro v1 v2 v3 v4 h
  rw [f8_differences_92] at h
  refine zg_iinc (ls' := [(0, .ref 0), (1, .int v1), (2, .int v2), (3, .int v3), (4, .int (v4 + (1 : Int32)))]) 4 dX8_differences_92 rfl zki_1 (Nat.le_of_ble_eq_true rfl) rfl ?_
  refine zg_goto (tgt := 5) dX8_differences_95 (by decide) ?_
  exact hk5 _ _ _ _ h
set_option maxRecDepth 20000 in
set_option maxHeartbeats 4000000 in
theorem g8_differences_5 {r1 : Int32} {M : zM} : ∀ (n : Nat) (v1 : Int32) (v2 : Int32) (v3 : Int32) (v4 : Int32), f8_differences_5 n v1 v2 v3 v4 M = some r1 → zJ ztops RX8 cX8_differences 8 (zBm ztops 5 (some .int) (some (.int r1)) M) 0 0 5 [(0, .ref 0), (1, .int v1), (2, .int v2), (3, .int v3), (4, .int v4)] [] M := by
  intro n
  induction n with
  | zero => intro v1 v2 v3 v4 h; cases h
  | succ n ih =>
    intro v1 v2 v3 v4 h
    rw [f8_differences_5] at h
    refine zg_iload 4 dX8_differences_5 rfl ?_
    refine zg_aload_n 0 dX8_differences_7 rfl rfl ?_
    refine zo_getr 1 0 rfl fl_X8_10 zt_0 rfl dX8_differences_8 ?_
    refine zg_geti fl_X8_100 zt_1 rfl dX8_differences_11 ?_
    refine zg_icmp_ge (tgt := 98) dX8_differences_14 (by decide) (fun hc => ?_) (fun hc => ?_)
    · replace h := (if_pos hc).symm.trans h
      refine zg_iload_n 3 dX8_differences_98 rfl rfl ?_
      obtain rfl := z_ret1 h
      exact zg_iret dX8_differences_99
    · replace h := (if_neg hc).symm.trans h
      refine zg_iconst dX8_differences_17 zki_0 ?_
      refine zg_istore (ls' := [(0, .ref 0), (1, .int v1), (2, .int v2), (3, .int v3), (4, .int v4), (5, .int (0 : Int32))]) dX8_differences_18 (Nat.le_of_ble_eq_true rfl) rfl ?_
      exact g8_differences_20 (fun u0 u1 u2 u3 h => g8_differences_92 (fun u0 u1 u2 u3 h => ih u0 u1 u2 u3 h) u0 u1 u2 u3 h) zfuel _ _ _ _ _ h
set_option maxRecDepth 20000 in
set_option maxHeartbeats 4000000 in
theorem k_X8_differences {v1 : Int32} {v2 : Int32} {r1 : Int32} {M : zM} (h : f8_differences v1 v2 M = some r1) : zK ztops yX8_differences cX8_differences 8 (some .int) 5 [.ref 0, .int v1, .int v2] M (some (.int r1)) M := by
  refine zK_of pl_X8 (Nat.le_of_ble_eq_true rfl) ?_
  show zJ ztops RX8 cX8_differences 8 _ 0 0 0 [(0, .ref 0), (1, .int v1), (2, .int v2)] [] M
  rw [f8_differences] at h
  refine zg_iconst dX8_differences_0 zki_0 ?_
  refine zg_istore_n (ls' := [(0, .ref 0), (1, .int v1), (2, .int v2), (3, .int (0 : Int32))]) dX8_differences_1 rfl (Nat.le_of_ble_eq_true rfl) rfl ?_
  refine zg_iconst dX8_differences_2 zki_0 ?_
  refine zg_istore (ls' := [(0, .ref 0), (1, .int v1), (2, .int v2), (3, .int (0 : Int32)), (4, .int (0 : Int32))]) dX8_differences_3 (Nat.le_of_ble_eq_true rfl) rfl ?_
  exact g8_differences_5 zfuel _ _ _ _ h
set_option maxRecDepth 20000 in
set_option maxHeartbeats 4000000 in
theorem g8_otherwise_20 {r1 : Int32} {M : zM} {k110 : Int32 → Int32 → Int32 → Int32 → zM → Option Int32} (hk110 : ∀ (v1 : Int32) (v2 : Int32) (v3 : Int32) (v4 : Int32), k110 v1 v2 v3 v4 M = some r1 → zJ ztops RX8 cX8_otherwise 8 (zBm ztops 5 (some .int) (some (.int r1)) M) 0 0 110 [(0, .ref 0), (1, .int v1), (2, .int v2), (3, .int v3), (4, .int v4)] [] M) : ∀ (n : Nat) (v1 : Int32) (v2 : Int32) (v3 : Int32) (v4 : Int32) (v5 : Int32), f8_otherwise_20 k110 n v1 v2 v3 v4 v5 M = some r1 → zJ ztops RX8 cX8_otherwise 8 (zBm ztops 5 (some .int) (some (.int r1)) M) 0 0 20 [(0, .ref 0), (1, .int v1), (2, .int v2), (3, .int v3), (4, .int v4), (5, .int v5)] [] M := by
  intro n
  induction n with
  | zero => intro v1 v2 v3 v4 v5 h; cases h
  | succ n ih =>
    intro v1 v2 v3 v4 v5 h
    rw [f8_otherwise_20] at h
    refine zg_iload 5 dX8_otherwise_20 rfl ?_
    refine zg_aload_n 0 dX8_otherwise_22 rfl rfl ?_
    refine zo_getr 1 0 rfl fl_X8_10 zt_0 rfl dX8_otherwise_23 ?_
    refine zg_geti fl_X8_213 zt_1 rfl dX8_otherwise_26 ?_
    refine zg_icmp_ge (tgt := 110) dX8_otherwise_29 (by decide) (fun hc => ?_) (fun hc => ?_)
    · replace h := (if_pos hc).symm.trans h
      refine zo_sub (ls' := [(0, .ref 0), (1, .int v1), (2, .int v2), (3, .int v3), (4, .int v4)]) [0, 1, 2, 3, 4] rfl ?_
      exact hk110 _ _ _ _ h
    · replace h := (if_neg hc).symm.trans h
      refine zg_iload_n 1 dX8_otherwise_32 rfl rfl ?_
      suffices hj : zJ ztops RX8 cX8_otherwise 8 (zBm ztops 5 (some .int) (some (.int r1)) M) 0 0 53 [(0, .ref 0), (1, .int v1), (2, .int v2), (3, .int v3), (4, .int v4), (5, .int v5)] [.int (if v1 = 0 then v4 else (((M.1 1 0) - (1 : Int32)) - v4))] M by
        refine zg_if_eq (tgt := 51) dX8_otherwise_33 (by decide) (fun hc => ?_) (fun hc => ?_)
        · rw [show (if v1 = 0 then v4 else (((M.1 1 0) - (1 : Int32)) - v4)) = v4 from if_pos hc] at hj
          refine zg_iload 4 dX8_otherwise_51 rfl ?_
          exact hj
        · rw [show (if v1 = 0 then v4 else (((M.1 1 0) - (1 : Int32)) - v4)) = (((M.1 1 0) - (1 : Int32)) - v4) from if_neg hc] at hj
          refine zg_aload_n 0 dX8_otherwise_36 rfl rfl ?_
          refine zo_getr 1 0 rfl fl_X8_10 zt_0 rfl dX8_otherwise_37 ?_
          refine zg_geti fl_X8_100 zt_1 rfl dX8_otherwise_40 ?_
          refine zg_iconst dX8_otherwise_43 zki_1 ?_
          refine zg_isub dX8_otherwise_44 ?_
          refine zg_iload 4 dX8_otherwise_45 rfl ?_
          refine zg_isub dX8_otherwise_47 ?_
          refine zg_goto (tgt := 53) dX8_otherwise_48 (by decide) ?_
          exact hj
      refine zg_istore (ls' := [(0, .ref 0), (1, .int v1), (2, .int v2), (3, .int v3), (4, .int v4), (5, .int v5), (6, .int (if v1 = 0 then v4 else (((M.1 1 0) - (1 : Int32)) - v4)))]) dX8_otherwise_53 (Nat.le_of_ble_eq_true rfl) rfl ?_
      refine zg_iload_n 2 dX8_otherwise_55 rfl rfl ?_
      suffices hj : zJ ztops RX8 cX8_otherwise 8 (zBm ztops 5 (some .int) (some (.int r1)) M) 0 0 76 [(0, .ref 0), (1, .int v1), (2, .int v2), (3, .int v3), (4, .int v4), (5, .int v5), (6, .int (if v1 = 0 then v4 else (((M.1 1 0) - (1 : Int32)) - v4)))] [.int (if v2 = 0 then v5 else (((M.1 1 1) - (1 : Int32)) - v5))] M by
        refine zg_if_eq (tgt := 74) dX8_otherwise_56 (by decide) (fun hc => ?_) (fun hc => ?_)
        · rw [show (if v2 = 0 then v5 else (((M.1 1 1) - (1 : Int32)) - v5)) = v5 from if_pos hc] at hj
          refine zg_iload 5 dX8_otherwise_74 rfl ?_
          exact hj
        · rw [show (if v2 = 0 then v5 else (((M.1 1 1) - (1 : Int32)) - v5)) = (((M.1 1 1) - (1 : Int32)) - v5) from if_neg hc] at hj
          refine zg_aload_n 0 dX8_otherwise_59 rfl rfl ?_
          refine zo_getr 1 0 rfl fl_X8_10 zt_0 rfl dX8_otherwise_60 ?_
          refine zg_geti fl_X8_213 zt_1 rfl dX8_otherwise_63 ?_
          refine zg_iconst dX8_otherwise_66 zki_1 ?_
          refine zg_isub dX8_otherwise_67 ?_
          refine zg_iload 5 dX8_otherwise_68 rfl ?_
          refine zg_isub dX8_otherwise_70 ?_
          refine zg_goto (tgt := 76) dX8_otherwise_71 (by decide) ?_
          exact hj
      refine zg_istore (ls' := [(0, .ref 0), (1, .int v1), (2, .int v2), (3, .int v3), (4, .int v4), (5, .int v5), (6, .int (if v1 = 0 then v4 else (((M.1 1 0) - (1 : Int32)) - v4))), (7, .int (if v2 = 0 then v5 else (((M.1 1 1) - (1 : Int32)) - v5)))]) dX8_otherwise_76 (Nat.le_of_ble_eq_true rfl) rfl ?_
      refine zg_iload_n 3 dX8_otherwise_78 rfl rfl ?_
      refine zg_aload_n 0 dX8_otherwise_79 rfl rfl ?_
      refine zo_getr 1 0 rfl fl_X8_10 zt_0 rfl dX8_otherwise_80 ?_
      refine zg_iload 4 dX8_otherwise_83 rfl ?_
      refine zg_iload 5 dX8_otherwise_85 rfl ?_
      obtain ⟨x1, hx1, h⟩ := z_bind h
      refine zg_callV (st := [.int v3]) (k_X7_overAt zW_1 hx1) zY_X7_overAt lv_X8_114 rfl zt_1 rfl (zfit_m (by decide) (by decide)) (Nat.le_of_ble_eq_true rfl) dX8_otherwise_87 rfl ?_
      refine zg_aload_n 0 dX8_otherwise_90 rfl rfl ?_
      refine zo_getr 1 0 rfl fl_X8_10 zt_0 rfl dX8_otherwise_91 ?_
      refine zg_iload 6 dX8_otherwise_94 rfl ?_
      refine zg_iload 7 dX8_otherwise_96 rfl ?_
      obtain ⟨x2, hx2, h⟩ := z_bind h
      refine zg_callV (st := [.int x1, .int v3]) (k_X7_overAt zW_1 hx2) zY_X7_overAt lv_X8_114 rfl zt_1 rfl (zfit_m (by decide) (by decide)) (Nat.le_of_ble_eq_true rfl) dX8_otherwise_98 rfl ?_
      refine zg_ixor dX8_otherwise_101 ?_
      refine zg_iadd dX8_otherwise_102 ?_
      refine zg_istore_n (ls' := [(0, .ref 0), (1, .int v1), (2, .int v2), (3, .int (v3 + (x1 ^^^ x2))), (4, .int v4), (5, .int v5), (6, .int (if v1 = 0 then v4 else (((M.1 1 0) - (1 : Int32)) - v4))), (7, .int (if v2 = 0 then v5 else (((M.1 1 1) - (1 : Int32)) - v5)))]) dX8_otherwise_103 rfl (Nat.le_of_ble_eq_true rfl) rfl ?_
      refine zg_iinc (ls' := [(0, .ref 0), (1, .int v1), (2, .int v2), (3, .int (v3 + (x1 ^^^ x2))), (4, .int v4), (5, .int (v5 + (1 : Int32))), (6, .int (if v1 = 0 then v4 else (((M.1 1 0) - (1 : Int32)) - v4))), (7, .int (if v2 = 0 then v5 else (((M.1 1 1) - (1 : Int32)) - v5)))]) 5 dX8_otherwise_104 rfl zki_1 (Nat.le_of_ble_eq_true rfl) rfl ?_
      refine zg_goto (tgt := 20) dX8_otherwise_107 (by decide) ?_
      refine zo_sub (ls' := [(0, .ref 0), (1, .int v1), (2, .int v2), (3, .int (v3 + (x1 ^^^ x2))), (4, .int v4), (5, .int (v5 + (1 : Int32)))]) [0, 1, 2, 3, 4, 5] rfl ?_
      exact ih _ _ _ _ _ h
set_option maxRecDepth 20000 in
set_option maxHeartbeats 4000000 in
theorem g8_otherwise_110 {r1 : Int32} {M : zM} {k5 : Int32 → Int32 → Int32 → Int32 → zM → Option Int32} (hk5 : ∀ (v1 : Int32) (v2 : Int32) (v3 : Int32) (v4 : Int32), k5 v1 v2 v3 v4 M = some r1 → zJ ztops RX8 cX8_otherwise 8 (zBm ztops 5 (some .int) (some (.int r1)) M) 0 0 5 [(0, .ref 0), (1, .int v1), (2, .int v2), (3, .int v3), (4, .int v4)] [] M) : ∀ (v1 : Int32) (v2 : Int32) (v3 : Int32) (v4 : Int32), f8_otherwise_110 k5 v1 v2 v3 v4 M = some r1 → zJ ztops RX8 cX8_otherwise 8 (zBm ztops 5 (some .int) (some (.int r1)) M) 0 0 110 [(0, .ref 0), (1, .int v1), (2, .int v2), (3, .int v3), (4, .int v4)] [] M := by
  intro v1 v2 v3 v4 h
  rw [f8_otherwise_110] at h
  refine zg_iinc (ls' := [(0, .ref 0), (1, .int v1), (2, .int v2), (3, .int v3), (4, .int (v4 + (1 : Int32)))]) 4 dX8_otherwise_110 rfl zki_1 (Nat.le_of_ble_eq_true rfl) rfl ?_
  refine zg_goto (tgt := 5) dX8_otherwise_113 (by decide) ?_
  exact hk5 _ _ _ _ h
set_option maxRecDepth 20000 in
set_option maxHeartbeats 4000000 in
theorem g8_otherwise_5 {r1 : Int32} {M : zM} : ∀ (n : Nat) (v1 : Int32) (v2 : Int32) (v3 : Int32) (v4 : Int32), f8_otherwise_5 n v1 v2 v3 v4 M = some r1 → zJ ztops RX8 cX8_otherwise 8 (zBm ztops 5 (some .int) (some (.int r1)) M) 0 0 5 [(0, .ref 0), (1, .int v1), (2, .int v2), (3, .int v3), (4, .int v4)] [] M := by
  intro n
  induction n with
  | zero => intro v1 v2 v3 v4 h; cases h
  | succ n ih =>
    intro v1 v2 v3 v4 h
    rw [f8_otherwise_5] at h
    refine zg_iload 4 dX8_otherwise_5 rfl ?_
    refine zg_aload_n 0 dX8_otherwise_7 rfl rfl ?_
    refine zo_getr 1 0 rfl fl_X8_10 zt_0 rfl dX8_otherwise_8 ?_
    refine zg_geti fl_X8_100 zt_1 rfl dX8_otherwise_11 ?_
    refine zg_icmp_ge (tgt := 116) dX8_otherwise_14 (by decide) (fun hc => ?_) (fun hc => ?_)
    · replace h := (if_pos hc).symm.trans h
      refine zg_iload_n 3 dX8_otherwise_116 rfl rfl ?_
      obtain rfl := z_ret1 h
      exact zg_iret dX8_otherwise_117
    · replace h := (if_neg hc).symm.trans h
      refine zg_iconst dX8_otherwise_17 zki_0 ?_
      refine zg_istore (ls' := [(0, .ref 0), (1, .int v1), (2, .int v2), (3, .int v3), (4, .int v4), (5, .int (0 : Int32))]) dX8_otherwise_18 (Nat.le_of_ble_eq_true rfl) rfl ?_
      exact g8_otherwise_20 (fun u0 u1 u2 u3 h => g8_otherwise_110 (fun u0 u1 u2 u3 h => ih u0 u1 u2 u3 h) u0 u1 u2 u3 h) zfuel _ _ _ _ _ h
set_option maxRecDepth 20000 in
set_option maxHeartbeats 4000000 in
theorem k_X8_otherwise {v1 : Int32} {v2 : Int32} {r1 : Int32} {M : zM} (h : f8_otherwise v1 v2 M = some r1) : zK ztops yX8_otherwise cX8_otherwise 8 (some .int) 5 [.ref 0, .int v1, .int v2] M (some (.int r1)) M := by
  refine zK_of pl_X8 (Nat.le_of_ble_eq_true rfl) ?_
  show zJ ztops RX8 cX8_otherwise 8 _ 0 0 0 [(0, .ref 0), (1, .int v1), (2, .int v2)] [] M
  rw [f8_otherwise] at h
  refine zg_iconst dX8_otherwise_0 zki_0 ?_
  refine zg_istore_n (ls' := [(0, .ref 0), (1, .int v1), (2, .int v2), (3, .int (0 : Int32))]) dX8_otherwise_1 rfl (Nat.le_of_ble_eq_true rfl) rfl ?_
  refine zg_iconst dX8_otherwise_2 zki_0 ?_
  refine zg_istore (ls' := [(0, .ref 0), (1, .int v1), (2, .int v2), (3, .int (0 : Int32)), (4, .int (0 : Int32))]) dX8_otherwise_3 (Nat.le_of_ble_eq_true rfl) rfl ?_
  exact g8_otherwise_5 zfuel _ _ _ _ h
