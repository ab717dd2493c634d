set_option maxRecDepth 20000 in
set_option maxHeartbeats 4000000 in
theorem k_X8_weaveDrawn {M : zM} {Mr : zM} (h : f8_weaveDrawn M = some Mr) : zK ztops yX8_weaveDrawn cX8_weaveDrawn 4 (none) 3 [.ref 0] M none Mr := by
  refine zK_of pl_X8 (Nat.le_of_ble_eq_true rfl) ?_
  show zJ ztops RX8 cX8_weaveDrawn 4 _ 0 0 0 [(0, .ref 0)] [] M
  rw [f8_weaveDrawn] at h
  refine zg_aload_n 0 dX8_weaveDrawn_0 rfl rfl ?_
  refine zg_iconst dX8_weaveDrawn_1 zki_2 ?_
  obtain ⟨p1, hp1, h⟩ := z_bind h
  refine zg_callV (st := []) (k_X8_drawnBelow hp1) zY_X8_drawnBelow lv_X8_358 rfl zt_0 rfl (zfit_m (by decide) (by decide)) (Nat.le_of_ble_eq_true rfl) dX8_weaveDrawn_2 rfl ?_
  refine zg_istore_n (ls' := [(0, .ref 0), (1, .int p1.1)]) dX8_weaveDrawn_5 rfl (Nat.le_of_ble_eq_true rfl) rfl ?_
  refine zg_aload_n 0 dX8_weaveDrawn_6 rfl rfl ?_
  refine zg_aload_n 0 dX8_weaveDrawn_7 rfl rfl ?_
  refine zo_getr 3 2 rfl fl_X8_16 zt_0 rfl dX8_weaveDrawn_8 ?_
  refine zg_iload_n 1 dX8_weaveDrawn_11 rfl rfl ?_
  obtain ⟨x2, hx2, h⟩ := z_bind h
  refine zg_callV (st := [.ref 0]) (k_X7_sizeOf zW_3 hx2) zY_X7_sizeOf lv_X8_414 rfl zt_3 rfl (zfit_m (by decide) (by decide)) (Nat.le_of_ble_eq_true rfl) dX8_weaveDrawn_12 rfl ?_
  refine zg_iconst dX8_weaveDrawn_15 zki_1 ?_
  refine zg_iadd dX8_weaveDrawn_16 ?_
  obtain ⟨p3, hp3, h⟩ := z_bind h
  refine zg_callV (st := []) (k_X8_drawnBelow hp3) zY_X8_drawnBelow lv_X8_358 rfl zt_0 rfl (zfit_m (by decide) (by decide)) (Nat.le_of_ble_eq_true rfl) dX8_weaveDrawn_17 rfl ?_
  refine zg_istore_n (ls' := [(0, .ref 0), (1, .int p1.1), (2, .int p3.1)]) dX8_weaveDrawn_20 rfl (Nat.le_of_ble_eq_true rfl) rfl ?_
  refine zg_aload_n 0 dX8_weaveDrawn_21 rfl rfl ?_
  refine zg_bipush dX8_weaveDrawn_22 zkb_64 ?_
  obtain ⟨p4, hp4, h⟩ := z_bind h
  refine zg_callV (st := []) (k_X8_drawnBelow hp4) zY_X8_drawnBelow lv_X8_358 rfl zt_0 rfl (zfit_m (by decide) (by decide)) (Nat.le_of_ble_eq_true rfl) dX8_weaveDrawn_24 rfl ?_
  refine zg_aload_n 0 dX8_weaveDrawn_27 rfl rfl ?_
  refine zo_getr 3 2 rfl fl_X8_16 zt_0 rfl dX8_weaveDrawn_28 ?_
  refine zg_iload_n 1 dX8_weaveDrawn_31 rfl rfl ?_
  obtain ⟨x5, hx5, h⟩ := z_bind h
  refine zg_callV (st := [.int p4.1]) (k_X7_fullOf zW_3 hx5) zY_X7_fullOf lv_X8_417 rfl zt_3 rfl (zfit_m (by decide) (by decide)) (Nat.le_of_ble_eq_true rfl) dX8_weaveDrawn_32 rfl ?_
  refine zg_iand dX8_weaveDrawn_35 ?_
  refine zg_istore_n (ls' := [(0, .ref 0), (1, .int p1.1), (2, .int p3.1), (3, .int (p4.1 &&& x5))]) dX8_weaveDrawn_36 rfl (Nat.le_of_ble_eq_true rfl) rfl ?_
  refine zg_aload_n 0 dX8_weaveDrawn_37 rfl rfl ?_
  refine zo_getr 3 2 rfl fl_X8_16 zt_0 rfl dX8_weaveDrawn_38 ?_
  refine zg_iload_n 1 dX8_weaveDrawn_41 rfl rfl ?_
  refine zg_iload_n 2 dX8_weaveDrawn_42 rfl rfl ?_
  refine zg_iload_n 3 dX8_weaveDrawn_43 rfl rfl ?_
  obtain ⟨p6, hp6, h⟩ := z_bind h
  refine zg_callV (st := []) (k_X7_weaveIn zW_3 hp6) zY_X7_weaveIn lv_X8_156 rfl zt_3 rfl (zfit_m (by decide) (by decide)) (Nat.le_of_ble_eq_true rfl) dX8_weaveDrawn_44 rfl ?_
  refine zg_pop dX8_weaveDrawn_47 rfl ?_
  obtain rfl := z_ret1 h
  exact zg_vret dX8_weaveDrawn_48
set_option maxRecDepth 20000 in
set_option maxHeartbeats 4000000 in
theorem g4_readFrom_94 {a0 : Nat} (h0 : zRu ztops a0) {r1 : Int32} {Mr : zM} {k52 : Int32 → Int32 → zM → Option (Int32 × zM)} (hk52 : ∀ (v2 : Int32) (v3 : Int32) (M : zM), k52 v2 v3 M = some (r1, Mr) → zJ ztops RX4 cX4_readFrom 5 (zBm ztops 4 (some .int) (some (.int r1)) Mr) 0 0 52 [(0, .ref a0), (1, .ref 7), (2, .int v2), (3, .int v3)] [] M) : ∀ (v2 : Int32) (v3 : Int32) (M : zM), f4_readFrom_94 a0 k52 v2 v3 M = some (r1, Mr) → zJ ztops RX4 cX4_readFrom 5 (zBm ztops 4 (some .int) (some (.int r1)) Mr) 0 0 94 [(0, .ref a0), (1, .ref 7), (2, .int v2), (3, .int v3)] [] M := by
  intro v2 v3 M h
  rw [f4_readFrom_94] at h
  refine zg_iinc (ls' := [(0, .ref a0), (1, .ref 7), (2, .int v2), (3, .int (v3 + (1 : Int32)))]) 3 dX4_readFrom_94 rfl zki_1 (Nat.le_of_ble_eq_true rfl) rfl ?_
  refine zg_goto (tgt := 52) dX4_readFrom_97 (by decide) ?_
  exact hk52 _ _ _ h
set_option maxRecDepth 20000 in
set_option maxHeartbeats 4000000 in
theorem g4_readFrom_52 {a0 : Nat} (h0 : zRu ztops a0) {r1 : Int32} {Mr : zM} : ∀ (n : Nat) (v2 : Int32) (v3 : Int32) (M : zM), f4_readFrom_52 a0 n v2 v3 M = some (r1, Mr) → zJ ztops RX4 cX4_readFrom 5 (zBm ztops 4 (some .int) (some (.int r1)) Mr) 0 0 52 [(0, .ref a0), (1, .ref 7), (2, .int v2), (3, .int v3)] [] M := by
  intro n
  induction n with
  | zero => intro v2 v3 M h; cases h
  | succ n ih =>
    intro v2 v3 M h
    rw [f4_readFrom_52] at h
    refine zg_iload_n 3 dX4_readFrom_52 rfl rfl ?_
    refine zg_iload_n 2 dX4_readFrom_53 rfl rfl ?_
    refine zg_icmp_ge (tgt := 100) dX4_readFrom_54 (by decide) (fun hc => ?_) (fun hc => ?_)
    · replace h := (if_pos hc).symm.trans h
      refine zg_aload_n 1 dX4_readFrom_100 rfl rfl ?_
      refine zg_geti fl_X4_48 zt_7 rfl dX4_readFrom_101 ?_
      refine zg_bipush dX4_readFrom_104 zkb_40 ?_
      refine zg_icmp_le (tgt := 112) dX4_readFrom_106 (by decide) (fun hc => ?_) (fun hc => ?_)
      · replace h := (if_pos hc).symm.trans h
        refine zg_aload_n 0 dX4_readFrom_112 rfl rfl ?_
        refine zg_geti fl_X4_44 h0.1 rfl dX4_readFrom_113 ?_
        refine zg_if_ne (tgt := 126) dX4_readFrom_116 (by decide) (fun hc => ?_) (fun hc => ?_)
        · replace h := (if_neg hc).symm.trans h
          refine zg_aload_n 1 dX4_readFrom_126 rfl rfl ?_
          refine zg_geti fl_X4_48 zt_7 rfl dX4_readFrom_127 ?_
          obtain ⟨rfl, rfl⟩ := z_ret2 h
          exact zg_iret dX4_readFrom_130
        · replace h := (if_pos hc).symm.trans h
          refine zg_aload_n 0 dX4_readFrom_119 rfl rfl ?_
          refine zg_geti fl_X4_41 h0.1 rfl dX4_readFrom_120 ?_
          refine zg_if_le (tgt := 131) dX4_readFrom_123 (by decide) (fun hc => ?_) (fun hc => ?_)
          · replace h := (if_pos hc).symm.trans h
            refine zg_aload_n 0 dX4_readFrom_131 rfl rfl ?_
            refine zg_iconst dX4_readFrom_132 zki_1 ?_
            obtain ⟨M1, hM1, h⟩ := z_bind h
            refine zg_callV (st := []) (k_X4_release h0 hM1) zY_X4_release lv_X4_68 rfl h0.1 rfl (zfit_m (by decide) (by decide)) (Nat.le_of_ble_eq_true rfl) dX4_readFrom_133 rfl ?_
            refine zg_iconst dX4_readFrom_136 zki_m1 ?_
            obtain ⟨rfl, rfl⟩ := z_ret2 h
            exact zg_iret dX4_readFrom_137
          · replace h := (if_neg hc).symm.trans h
            refine zg_aload_n 1 dX4_readFrom_126 rfl rfl ?_
            refine zg_geti fl_X4_48 zt_7 rfl dX4_readFrom_127 ?_
            obtain ⟨rfl, rfl⟩ := z_ret2 h
            exact zg_iret dX4_readFrom_130
      · replace h := (if_neg hc).symm.trans h
        refine zg_bipush dX4_readFrom_109 zkb_40 ?_
        obtain ⟨rfl, rfl⟩ := z_ret2 h
        exact zg_iret dX4_readFrom_111
    · replace h := (if_neg hc).symm.trans h
      refine zg_aload_n 1 dX4_readFrom_57 rfl rfl ?_
      refine zg_iload_n 3 dX4_readFrom_58 rfl rfl ?_
      obtain ⟨x1, hx1, h⟩ := z_bind h
      refine zg_callV (st := []) (k_X6_at hx1) zY_X6_at lv_X4_57 rfl zt_7 rfl (zfit_m (by decide) (by decide)) (Nat.le_of_ble_eq_true rfl) dX4_readFrom_59 rfl ?_
      refine zg_istore (ls' := [(0, .ref a0), (1, .ref 7), (2, .int v2), (3, .int v3), (4, .int x1)]) dX4_readFrom_62 (Nat.le_of_ble_eq_true rfl) rfl ?_
      refine zg_aload_n 0 dX4_readFrom_64 rfl rfl ?_
      refine zg_geti fl_X4_44 h0.1 rfl dX4_readFrom_65 ?_
      refine zg_if_eq (tgt := 83) dX4_readFrom_68 (by decide) (fun hc => ?_) (fun hc => ?_)
      · replace h := (if_pos hc).symm.trans h
        refine zg_aload_n 0 dX4_readFrom_83 rfl rfl ?_
        refine zg_iload 4 dX4_readFrom_84 rfl ?_
        obtain ⟨p2, hp2, h⟩ := z_bind h
        refine zg_callV (st := []) (k_X4_takesJoin h0 hp2) zY_X4_takesJoin lv_X4_65 rfl h0.1 rfl (zfit_m (by decide) (by decide)) (Nat.le_of_ble_eq_true rfl) dX4_readFrom_86 rfl ?_
        refine zg_if_ne (tgt := 94) dX4_readFrom_89 (by decide) (fun hc => ?_) (fun hc => ?_)
        · replace h := (if_neg hc).symm.trans h
          refine zo_sub (ls' := [(0, .ref a0), (1, .ref 7), (2, .int v2), (3, .int v3)]) [0, 1, 2, 3] rfl ?_
          exact g4_readFrom_94 h0 (fun u0 u1 u2 h => ih u0 u1 u2 h) _ _ _ h
        · replace h := (if_pos hc).symm.trans h
          refine zg_iload_n 3 dX4_readFrom_92 rfl rfl ?_
          obtain ⟨rfl, rfl⟩ := z_ret2 h
          exact zg_iret dX4_readFrom_93
      · replace h := (if_neg hc).symm.trans h
        refine zg_aload_n 0 dX4_readFrom_71 rfl rfl ?_
        refine zg_iload 4 dX4_readFrom_72 rfl ?_
        obtain ⟨p2, hp2, h⟩ := z_bind h
        refine zg_callV (st := []) (k_X4_takesThing h0 hp2) zY_X4_takesThing lv_X4_61 rfl h0.1 rfl (zfit_m (by decide) (by decide)) (Nat.le_of_ble_eq_true rfl) dX4_readFrom_74 rfl ?_
        refine zg_if_ne (tgt := 94) dX4_readFrom_77 (by decide) (fun hc => ?_) (fun hc => ?_)
        · replace h := (if_neg hc).symm.trans h
          refine zo_sub (ls' := [(0, .ref a0), (1, .ref 7), (2, .int v2), (3, .int v3)]) [0, 1, 2, 3] rfl ?_
          exact g4_readFrom_94 h0 (fun u0 u1 u2 h => ih u0 u1 u2 h) _ _ _ h
        · replace h := (if_pos hc).symm.trans h
          refine zg_goto (tgt := 92) dX4_readFrom_80 (by decide) ?_
          refine zg_iload_n 3 dX4_readFrom_92 rfl rfl ?_
          obtain ⟨rfl, rfl⟩ := z_ret2 h
          exact zg_iret dX4_readFrom_93
set_option maxRecDepth 20000 in
set_option maxHeartbeats 4000000 in
theorem k_X4_readFrom {a0 : Nat} (h0 : zRu ztops a0) {M : zM} {r1 : Int32} {Mr : zM} (h : f4_readFrom a0 M = some (r1, Mr)) : zK ztops yX4_readFrom cX4_readFrom 5 (some .int) 4 [.ref a0, .ref 7] M (some (.int r1)) Mr := by
  refine zK_of pl_X4 (Nat.le_of_ble_eq_true rfl) ?_
  show zJ ztops RX4 cX4_readFrom 5 _ 0 0 0 [(0, .ref a0), (1, .ref 7)] [] M
  rw [f4_readFrom] at h
  refine zg_aload_n 0 dX4_readFrom_0 rfl rfl ?_
  refine zg_iconst dX4_readFrom_1 zki_0 ?_
  refine zg_puti fp_X4_15 h0.1 rfl dX4_readFrom_2 ?_
  refine zg_aload_n 0 dX4_readFrom_5 rfl rfl ?_
  refine zg_iconst dX4_readFrom_6 zki_0 ?_
  refine zg_puti fp_X4_38 h0.1 rfl dX4_readFrom_7 ?_
  refine zg_aload_n 0 dX4_readFrom_10 rfl rfl ?_
  refine zg_iconst dX4_readFrom_11 zki_0 ?_
  refine zg_puti fp_X4_41 h0.1 rfl dX4_readFrom_12 ?_
  refine zg_aload_n 0 dX4_readFrom_15 rfl rfl ?_
  refine zo_getr (a0 + 3) 2 rfl fl_X4_22 h0.1 rfl dX4_readFrom_16 ?_
  refine zg_iconst dX4_readFrom_19 zki_0 ?_
  refine zg_iconst dX4_readFrom_20 zki_0 ?_
  obtain ⟨M1, hM1, h⟩ := z_bind h
  refine zo_zast h0.2.2.2.1 hM1 dX4_readFrom_21 ?_
  refine zg_aload_n 0 dX4_readFrom_22 rfl rfl ?_
  refine zg_iconst dX4_readFrom_23 zki_1 ?_
  refine zg_putz fp_X4_44 rfl h0.1 rfl dX4_readFrom_24 ?_
  refine zg_aload_n 1 dX4_readFrom_27 rfl rfl ?_
  refine zg_geti fl_X4_48 zt_7 rfl dX4_readFrom_28 ?_
  refine zg_if_ne (tgt := 40) dX4_readFrom_31 (by decide) (fun hc => ?_) (fun hc => ?_)
  · replace h := (if_neg hc).symm.trans h
    refine zg_aload_n 1 dX4_readFrom_40 rfl rfl ?_
    refine zg_geti fl_X4_48 zt_7 rfl dX4_readFrom_41 ?_
    refine zg_bipush dX4_readFrom_44 zkb_40 ?_
    refine zo_min ls_X4_51 ⟨Nat.le_of_ble_eq_true rfl, Nat.le_of_ble_eq_true rfl, Nat.le_refl _, Nat.le_refl _⟩ z_iM z_cmin dX4_readFrom_46 ?_
    refine zg_istore_n (ls' := [(0, .ref a0), (1, .ref 7), (2, .int (zmin ((zsi M1 a0 7 (1 : Int32)).1 7 1) (40 : Int32)))]) dX4_readFrom_49 rfl (Nat.le_of_ble_eq_true rfl) rfl ?_
    refine zg_iconst dX4_readFrom_50 zki_0 ?_
    refine zg_istore_n (ls' := [(0, .ref a0), (1, .ref 7), (2, .int (zmin ((zsi M1 a0 7 (1 : Int32)).1 7 1) (40 : Int32))), (3, .int (0 : Int32))]) dX4_readFrom_51 rfl (Nat.le_of_ble_eq_true rfl) rfl ?_
    exact g4_readFrom_52 h0 zfuel _ _ _ h
  · replace h := (if_pos hc).symm.trans h
    refine zg_aload_n 0 dX4_readFrom_34 rfl rfl ?_
    obtain ⟨M2, hM2, h⟩ := z_bind h
    refine zg_callV (st := []) (k_X4_putPlainRule h0 hM2) zY_X4_putPlainRule lv_X4_29 rfl h0.1 rfl (zfit_m (by decide) (by decide)) (Nat.le_of_ble_eq_true rfl) dX4_readFrom_35 rfl ?_
    refine zg_iconst dX4_readFrom_38 zki_m1 ?_
    obtain ⟨rfl, rfl⟩ := z_ret2 h
    exact zg_iret dX4_readFrom_39
set_option maxRecDepth 20000 in
set_option maxHeartbeats 4000000 in
theorem g4_pullOf_163 {T : List zN} {a0 : Nat} {a1 : Nat} (h0 : zRu T a0) (h1 : zWv T a1) {r1 : Int32} {Mr : zM} {k6 : Int32 → Int32 → Int32 → Int32 → zM → Option (Int32 × zM)} (hk6 : ∀ (v2 : Int32) (v3 : Int32) (v4 : Int32) (v5 : Int32) (M : zM), k6 v2 v3 v4 v5 M = some (r1, Mr) → zJ T RX4 cX4_pullOf 8 (zBm T 4 (some .int) (some (.int r1)) Mr) 0 0 6 [(0, .ref a0), (1, .ref a1), (2, .int v2), (3, .int v3), (4, .int v4), (5, .int v5)] [] M) : ∀ (v2 : Int32) (v3 : Int32) (v4 : Int32) (v5 : Int32) (M : zM), f4_pullOf_163 a0 a1 k6 v2 v3 v4 v5 M = some (r1, Mr) → zJ T RX4 cX4_pullOf 8 (zBm T 4 (some .int) (some (.int r1)) Mr) 0 0 163 [(0, .ref a0), (1, .ref a1), (2, .int v2), (3, .int v3), (4, .int v4), (5, .int v5)] [] M := by
  intro v2 v3 v4 v5 M h
  rw [f4_pullOf_163] at h
  refine zg_iinc (ls' := [(0, .ref a0), (1, .ref a1), (2, .int v2), (3, .int v3), (4, .int v4), (5, .int (v5 + (1 : Int32)))]) 5 dX4_pullOf_163 rfl zki_1 (Nat.le_of_ble_eq_true rfl) rfl ?_
  refine zg_goto (tgt := 6) dX4_pullOf_166 (by decide) ?_
  exact hk6 _ _ _ _ _ h
set_option maxRecDepth 20000 in
set_option maxHeartbeats 4000000 in
theorem g4_pullOf_77 {T : List zN} {a0 : Nat} {a1 : Nat} (h0 : zRu T a0) (h1 : zWv T a1) {r1 : Int32} {Mr : zM} {k6 : Int32 → Int32 → Int32 → Int32 → zM → Option (Int32 × zM)} (hk6 : ∀ (v2 : Int32) (v3 : Int32) (v4 : Int32) (v5 : Int32) (M : zM), k6 v2 v3 v4 v5 M = some (r1, Mr) → zJ T RX4 cX4_pullOf 8 (zBm T 4 (some .int) (some (.int r1)) Mr) 0 0 6 [(0, .ref a0), (1, .ref a1), (2, .int v2), (3, .int v3), (4, .int v4), (5, .int v5)] [] M) : ∀ (v2 : Int32) (v3 : Int32) (v4 : Int32) (v5 : Int32) (s1 : Int32) (s2 : Int32) (M : zM), f4_pullOf_77 a0 a1 k6 v2 v3 v4 v5 s1 s2 M = some (r1, Mr) → zJ T RX4 cX4_pullOf 8 (zBm T 4 (some .int) (some (.int r1)) Mr) 0 0 77 [(0, .ref a0), (1, .ref a1), (2, .int v2), (3, .int v3), (4, .int v4), (5, .int v5)] [.int s2, .int s1, .ref (a0 + 4)] M := by
  intro v2 v3 v4 v5 s1 s2 M h
  rw [f4_pullOf_77] at h
  obtain ⟨M1, hM1, h⟩ := z_bind h
  refine zo_iast h0.2.2.2.2 hM1 dX4_pullOf_77 ?_
  refine zg_iinc (ls' := [(0, .ref a0), (1, .ref a1), (2, .int v2), (3, .int v3), (4, .int (v4 + (1 : Int32))), (5, .int v5)]) 4 dX4_pullOf_78 rfl zki_1 (Nat.le_of_ble_eq_true rfl) rfl ?_
  refine zg_goto (tgt := 163) dX4_pullOf_81 (by decide) ?_
  exact g4_pullOf_163 h0 h1 hk6 _ _ _ _ _ h
set_option maxRecDepth 20000 in
set_option maxHeartbeats 4000000 in
theorem g4_pullOf_120 {T : List zN} {a0 : Nat} {a1 : Nat} (h0 : zRu T a0) (h1 : zWv T a1) {r1 : Int32} {Mr : zM} {k6 : Int32 → Int32 → Int32 → Int32 → zM → Option (Int32 × zM)} (hk6 : ∀ (v2 : Int32) (v3 : Int32) (v4 : Int32) (v5 : Int32) (M : zM), k6 v2 v3 v4 v5 M = some (r1, Mr) → zJ T RX4 cX4_pullOf 8 (zBm T 4 (some .int) (some (.int r1)) Mr) 0 0 6 [(0, .ref a0), (1, .ref a1), (2, .int v2), (3, .int v3), (4, .int v4), (5, .int v5)] [] M) : ∀ (v2 : Int32) (v3 : Int32) (v4 : Int32) (v5 : Int32) (v6 : Int32) (M : zM), f4_pullOf_120 a0 a1 k6 v2 v3 v4 v5 v6 M = some (r1, Mr) → zJ T RX4 cX4_pullOf 8 (zBm T 4 (some .int) (some (.int r1)) Mr) 0 0 120 [(0, .ref a0), (1, .ref a1), (2, .int v2), (3, .int v3), (4, .int v4), (5, .int v5), (6, .int v6)] [] M := by
  intro v2 v3 v4 v5 v6 M h
  rw [f4_pullOf_120] at h
  refine zg_iload 4 dX4_pullOf_120 rfl ?_
  refine zg_iconst dX4_pullOf_122 zki_2 ?_
  refine zg_icmp_lt (tgt := 163) dX4_pullOf_123 (by decide) (fun hc => ?_) (fun hc => ?_)
  · replace h := (if_pos hc).symm.trans h
    refine zo_sub (ls' := [(0, .ref a0), (1, .ref a1), (2, .int v2), (3, .int v3), (4, .int v4), (5, .int v5)]) [0, 1, 2, 3, 4, 5] rfl ?_
    exact g4_pullOf_163 h0 h1 hk6 _ _ _ _ _ h
  · replace h := (if_neg hc).symm.trans h
    refine zg_iinc (ls' := [(0, .ref a0), (1, .ref a1), (2, .int v2), (3, .int v3), (4, .int (v4 + (-1 : Int32))), (5, .int v5), (6, .int v6)]) 4 dX4_pullOf_126 rfl zki_m1 (Nat.le_of_ble_eq_true rfl) rfl ?_
    refine zg_aload_n 0 dX4_pullOf_129 rfl rfl ?_
    refine zo_getr (a0 + 4) 3 rfl fl_X4_26 h0.1 rfl dX4_pullOf_130 ?_
    refine zg_iload 4 dX4_pullOf_133 rfl ?_
    refine zg_iconst dX4_pullOf_135 zki_1 ?_
    refine zg_isub dX4_pullOf_136 ?_
    refine zg_iload 6 dX4_pullOf_137 rfl ?_
    refine zg_sipush dX4_pullOf_139 zks_1000 ?_
    refine zg_isub dX4_pullOf_142 ?_
    refine zg_aload_n 0 dX4_pullOf_143 rfl rfl ?_
    refine zo_getr (a0 + 4) 3 rfl fl_X4_26 h0.1 rfl dX4_pullOf_144 ?_
    refine zg_iload 4 dX4_pullOf_147 rfl ?_
    refine zg_iconst dX4_pullOf_149 zki_1 ?_
    refine zg_isub dX4_pullOf_150 ?_
    obtain ⟨x1, hx1, h⟩ := z_bind h
    refine zo_iald h0.2.2.2.2 hx1 dX4_pullOf_151 ?_
    refine zg_aload_n 0 dX4_pullOf_152 rfl rfl ?_
    refine zo_getr (a0 + 4) 3 rfl fl_X4_26 h0.1 rfl dX4_pullOf_153 ?_
    refine zg_iload 4 dX4_pullOf_156 rfl ?_
    obtain ⟨x2, hx2, h⟩ := z_bind h
    refine zo_iald h0.2.2.2.2 hx2 dX4_pullOf_158 ?_
    obtain ⟨x3, hx3, h⟩ := z_bind h
    refine zg_callS (st := [.int ((v4 + (-1 : Int32)) - (1 : Int32)), .ref (a0 + 4)]) (k_X4_joined hx3) zY_X4_joined ls_X4_91 rfl (zfit_m (by decide) (by decide)) (Nat.le_of_ble_eq_true rfl) dX4_pullOf_159 rfl ?_
    obtain ⟨M4, hM4, h⟩ := z_bind h
    refine zo_iast h0.2.2.2.2 hM4 dX4_pullOf_162 ?_
    refine zo_sub (ls' := [(0, .ref a0), (1, .ref a1), (2, .int v2), (3, .int v3), (4, .int (v4 + (-1 : Int32))), (5, .int v5)]) [0, 1, 2, 3, 4, 5] rfl ?_
    exact g4_pullOf_163 h0 h1 hk6 _ _ _ _ _ h
set_option maxRecDepth 20000 in
set_option maxHeartbeats 4000000 in
theorem g4_pullOf_84 {T : List zN} {a0 : Nat} {a1 : Nat} (h0 : zRu T a0) (h1 : zWv T a1) {r1 : Int32} {Mr : zM} {k6 : Int32 → Int32 → Int32 → Int32 → zM → Option (Int32 × zM)} (hk6 : ∀ (v2 : Int32) (v3 : Int32) (v4 : Int32) (v5 : Int32) (M : zM), k6 v2 v3 v4 v5 M = some (r1, Mr) → zJ T RX4 cX4_pullOf 8 (zBm T 4 (some .int) (some (.int r1)) Mr) 0 0 6 [(0, .ref a0), (1, .ref a1), (2, .int v2), (3, .int v3), (4, .int v4), (5, .int v5)] [] M) : ∀ (v2 : Int32) (v3 : Int32) (v4 : Int32) (v5 : Int32) (v6 : Int32) (M : zM), f4_pullOf_84 a0 a1 k6 v2 v3 v4 v5 v6 M = some (r1, Mr) → zJ T RX4 cX4_pullOf 8 (zBm T 4 (some .int) (some (.int r1)) Mr) 0 0 84 [(0, .ref a0), (1, .ref a1), (2, .int v2), (3, .int v3), (4, .int v4), (5, .int v5), (6, .int v6)] [] M := by
  intro v2 v3 v4 v5 v6 M h
  rw [f4_pullOf_84] at h
  refine zg_iload 6 dX4_pullOf_84 rfl ?_
  refine zg_sipush dX4_pullOf_86 zks_1256 ?_
  refine zg_icmp_ne (tgt := 120) dX4_pullOf_89 (by decide) (fun hc => ?_) (fun hc => ?_)
  · replace h := (if_neg hc).symm.trans h
    exact g4_pullOf_120 h0 h1 hk6 _ _ _ _ _ _ h
  · replace h := (if_pos hc).symm.trans h
    refine zg_iload 4 dX4_pullOf_92 rfl ?_
    refine zg_iconst dX4_pullOf_94 zki_1 ?_
    refine zg_icmp_lt (tgt := 120) dX4_pullOf_95 (by decide) (fun hc => ?_) (fun hc => ?_)
    · replace h := (if_pos hc).symm.trans h
      exact g4_pullOf_120 h0 h1 hk6 _ _ _ _ _ _ h
    · replace h := (if_neg hc).symm.trans h
      refine zg_aload_n 0 dX4_pullOf_98 rfl rfl ?_
      refine zo_getr (a0 + 4) 3 rfl fl_X4_26 h0.1 rfl dX4_pullOf_99 ?_
      refine zg_iload 4 dX4_pullOf_102 rfl ?_
      refine zg_iconst dX4_pullOf_104 zki_1 ?_
      refine zg_isub dX4_pullOf_105 ?_
      refine zg_aload_n 0 dX4_pullOf_106 rfl rfl ?_
      refine zo_getr (a0 + 4) 3 rfl fl_X4_26 h0.1 rfl dX4_pullOf_107 ?_
      refine zg_iload 4 dX4_pullOf_110 rfl ?_
      refine zg_iconst dX4_pullOf_112 zki_1 ?_
      refine zg_isub dX4_pullOf_113 ?_
      obtain ⟨x1, hx1, h⟩ := z_bind h
      refine zo_iald h0.2.2.2.2 hx1 dX4_pullOf_114 ?_
      refine zg_ineg dX4_pullOf_115 ?_
      obtain ⟨M2, hM2, h⟩ := z_bind h
      refine zo_iast h0.2.2.2.2 hM2 dX4_pullOf_116 ?_
      refine zg_goto (tgt := 163) dX4_pullOf_117 (by decide) ?_
      refine zo_sub (ls' := [(0, .ref a0), (1, .ref a1), (2, .int v2), (3, .int v3), (4, .int v4), (5, .int v5)]) [0, 1, 2, 3, 4, 5] rfl ?_
      exact g4_pullOf_163 h0 h1 hk6 _ _ _ _ _ h
set_option maxRecDepth 20000 in
set_option maxHeartbeats 4000000 in
theorem g4_pullOf_6 {T : List zN} {a0 : Nat} {a1 : Nat} (h0 : zRu T a0) (h1 : zWv T a1) {r1 : Int32} {Mr : zM} : ∀ (n : Nat) (v2 : Int32) (v3 : Int32) (v4 : Int32) (v5 : Int32) (M : zM), f4_pullOf_6 a0 a1 n v2 v3 v4 v5 M = some (r1, Mr) → zJ T RX4 cX4_pullOf 8 (zBm T 4 (some .int) (some (.int r1)) Mr) 0 0 6 [(0, .ref a0), (1, .ref a1), (2, .int v2), (3, .int v3), (4, .int v4), (5, .int v5)] [] M := by
  intro n
  induction n with
  | zero => intro v2 v3 v4 v5 M h; cases h
  | succ n ih =>
    intro v2 v3 v4 v5 M h
    rw [f4_pullOf_6] at h
    refine zg_iload 5 dX4_pullOf_6 rfl ?_
    refine zg_aload_n 0 dX4_pullOf_8 rfl rfl ?_
    refine zg_geti fl_X4_15 h0.1 rfl dX4_pullOf_9 ?_
    refine zg_icmp_ge (tgt := 169) dX4_pullOf_12 (by decide) (fun hc => ?_) (fun hc => ?_)
    · replace h := (if_pos hc).symm.trans h
      refine zg_bipush dX4_pullOf_169 zkb_m99 ?_
      refine zg_bipush dX4_pullOf_171 zkb_99 ?_
      refine zg_aload_n 0 dX4_pullOf_173 rfl rfl ?_
      refine zo_getr (a0 + 4) 3 rfl fl_X4_26 h0.1 rfl dX4_pullOf_174 ?_
      refine zg_iconst dX4_pullOf_177 zki_0 ?_
      refine zo_ialdc 0 h0.2.2.2.2 (by decide) rfl dX4_pullOf_178 ?_
      refine zo_min ls_X4_51 ⟨Nat.le_of_ble_eq_true rfl, Nat.le_of_ble_eq_true rfl, Nat.le_refl _, Nat.le_refl _⟩ z_iM z_cmin dX4_pullOf_179 ?_
      refine zo_max ls_X4_95 ⟨Nat.le_of_ble_eq_true rfl, Nat.le_of_ble_eq_true rfl, Nat.le_refl _, Nat.le_refl _⟩ z_iM z_cmax dX4_pullOf_182 ?_
      obtain ⟨rfl, rfl⟩ := z_ret2 h
      exact zg_iret dX4_pullOf_185
    · replace h := (if_neg hc).symm.trans h
      refine zg_aload_n 0 dX4_pullOf_15 rfl rfl ?_
      refine zo_getr (a0 + 1) 0 rfl fl_X4_11 h0.1 rfl dX4_pullOf_16 ?_
      refine zg_iload 5 dX4_pullOf_19 rfl ?_
      obtain ⟨x1, hx1, h⟩ := z_bind h
      refine zo_iald h0.2.1 hx1 dX4_pullOf_21 ?_
      refine zg_istore (ls' := [(0, .ref a0), (1, .ref a1), (2, .int v2), (3, .int v3), (4, .int v4), (5, .int v5), (6, .int x1)]) dX4_pullOf_22 (Nat.le_of_ble_eq_true rfl) rfl ?_
      refine zg_iload 6 dX4_pullOf_24 rfl ?_
      obtain ⟨x2, hx2, h⟩ := z_bind h
      refine zg_callS (st := []) (k_X4_bindingOf hx2) zY_X4_bindingOf ls_X4_84 rfl (zfit_m (by decide) (by decide)) (Nat.le_of_ble_eq_true rfl) dX4_pullOf_26 rfl ?_
      refine zg_istore (ls' := [(0, .ref a0), (1, .ref a1), (2, .int v2), (3, .int v3), (4, .int v4), (5, .int v5), (6, .int x1), (7, .int x2)]) dX4_pullOf_29 (Nat.le_of_ble_eq_true rfl) rfl ?_
      refine zg_iload 7 dX4_pullOf_31 rfl ?_
      refine zg_if_ne (tgt := 84) dX4_pullOf_33 (by decide) (fun hc => ?_) (fun hc => ?_)
      · replace h := (if_neg hc).symm.trans h
        refine zo_sub (ls' := [(0, .ref a0), (1, .ref a1), (2, .int v2), (3, .int v3), (4, .int v4), (5, .int v5), (6, .int x1)]) [0, 1, 2, 3, 4, 5, 6] rfl ?_
        exact g4_pullOf_84 h0 h1 (fun u0 u1 u2 u3 u4 h => ih u0 u1 u2 u3 u4 h) _ _ _ _ _ _ h
      · replace h := (if_pos hc).symm.trans h
        refine zg_iload 4 dX4_pullOf_36 rfl ?_
        refine zg_aload_n 0 dX4_pullOf_38 rfl rfl ?_
        refine zo_getr (a0 + 4) 3 rfl fl_X4_26 h0.1 rfl dX4_pullOf_39 ?_
        refine zg_alen (v := (40 : Int32)) h0.2.2.2.2 (by decide) rfl dX4_pullOf_42 ?_
        refine zg_icmp_ge (tgt := 84) dX4_pullOf_43 (by decide) (fun hc => ?_) (fun hc => ?_)
        · replace h := (if_pos hc).symm.trans h
          refine zo_sub (ls' := [(0, .ref a0), (1, .ref a1), (2, .int v2), (3, .int v3), (4, .int v4), (5, .int v5), (6, .int x1)]) [0, 1, 2, 3, 4, 5, 6] rfl ?_
          exact g4_pullOf_84 h0 h1 (fun u0 u1 u2 u3 u4 h => ih u0 u1 u2 u3 u4 h) _ _ _ _ _ _ h
        · replace h := (if_neg hc).symm.trans h
          refine zg_aload_n 0 dX4_pullOf_46 rfl rfl ?_
          refine zo_getr (a0 + 4) 3 rfl fl_X4_26 h0.1 rfl dX4_pullOf_47 ?_
          refine zg_iload 4 dX4_pullOf_50 rfl ?_
          refine zg_iload 6 dX4_pullOf_52 rfl ?_
          refine zg_sipush dX4_pullOf_54 zks_1000 ?_
          refine zg_icmp_ge (tgt := 65) dX4_pullOf_57 (by decide) (fun hc => ?_) (fun hc => ?_)
          · replace h := (if_pos hc).symm.trans h
            refine zg_iload 6 dX4_pullOf_65 rfl ?_
            refine zg_sipush dX4_pullOf_67 zks_1000 ?_
            refine zg_isub dX4_pullOf_70 ?_
            refine zg_aload_n 1 dX4_pullOf_71 rfl rfl ?_
            refine zg_iload_n 2 dX4_pullOf_72 rfl rfl ?_
            refine zg_iload_n 3 dX4_pullOf_73 rfl rfl ?_
            obtain ⟨x3, hx3, h⟩ := z_bind h
            refine zg_callS (st := [.int v4, .ref (a0 + 4)]) (k_X4_traitOf h1 hx3) zY_X4_traitOf ls_X4_87 rfl (zfit_m (by decide) (by decide)) (Nat.le_of_ble_eq_true rfl) dX4_pullOf_74 rfl ?_
            refine zo_sub (ls' := [(0, .ref a0), (1, .ref a1), (2, .int v2), (3, .int v3), (4, .int v4), (5, .int v5)]) [0, 1, 2, 3, 4, 5] rfl ?_
            exact g4_pullOf_77 h0 h1 (fun u0 u1 u2 u3 u4 h => ih u0 u1 u2 u3 u4 h) _ _ _ _ _ _ _ h
          · replace h := (if_neg hc).symm.trans h
            refine zg_iload 6 dX4_pullOf_60 rfl ?_
            refine zg_goto (tgt := 77) dX4_pullOf_62 (by decide) ?_
            refine zo_sub (ls' := [(0, .ref a0), (1, .ref a1), (2, .int v2), (3, .int v3), (4, .int v4), (5, .int v5)]) [0, 1, 2, 3, 4, 5] rfl ?_
            exact g4_pullOf_77 h0 h1 (fun u0 u1 u2 u3 u4 h => ih u0 u1 u2 u3 u4 h) _ _ _ _ _ _ _ h
set_option maxRecDepth 20000 in
set_option maxHeartbeats 4000000 in
theorem k_X4_pullOf {T : List zN} {a0 : Nat} {a1 : Nat} (h0 : zRu T a0) (h1 : zWv T a1) {v2 : Int32} {v3 : Int32} {M : zM} {r1 : Int32} {Mr : zM} (h : f4_pullOf a0 a1 v2 v3 M = some (r1, Mr)) : zK T yX4_pullOf cX4_pullOf 8 (some .int) 4 [.ref a0, .ref a1, .int v2, .int v3] M (some (.int r1)) Mr := by
  refine zK_of pl_X4 (Nat.le_of_ble_eq_true rfl) ?_
  show zJ T RX4 cX4_pullOf 8 _ 0 0 0 [(0, .ref a0), (1, .ref a1), (2, .int v2), (3, .int v3)] [] M
  rw [f4_pullOf] at h
  refine zg_iconst dX4_pullOf_0 zki_0 ?_
  refine zg_istore (ls' := [(0, .ref a0), (1, .ref a1), (2, .int v2), (3, .int v3), (4, .int (0 : Int32))]) dX4_pullOf_1 (Nat.le_of_ble_eq_true rfl) rfl ?_
  refine zg_iconst dX4_pullOf_3 zki_0 ?_
  refine zg_istore (ls' := [(0, .ref a0), (1, .ref a1), (2, .int v2), (3, .int v3), (4, .int (0 : Int32)), (5, .int (0 : Int32))]) dX4_pullOf_4 (Nat.le_of_ble_eq_true rfl) rfl ?_
  exact g4_pullOf_6 h0 h1 zfuel _ _ _ _ _ h
set_option maxRecDepth 20000 in
set_option maxHeartbeats 4000000 in
theorem g4_goesOf_57 {T : List zN} {a0 : Nat} {a1 : Nat} (h0 : zRu T a0) (h1 : zWv T a1) {r1 : Int32} {Mr : zM} {k17 : Int32 → Int32 → Int32 → Int32 → zM → Option (Int32 × zM)} (hk17 : ∀ (v2 : Int32) (v3 : Int32) (v4 : Int32) (v5 : Int32) (M : zM), k17 v2 v3 v4 v5 M = some (r1, Mr) → zJ T RX4 cX4_goesOf 7 (zBm T 5 (some .int) (some (.int r1)) Mr) 0 0 17 [(0, .ref a0), (1, .ref a1), (2, .int v2), (3, .int v3), (4, .int v4), (5, .int v5)] [] M) : ∀ (v2 : Int32) (v3 : Int32) (v4 : Int32) (v5 : Int32) (M : zM), f4_goesOf_57 a0 a1 k17 v2 v3 v4 v5 M = some (r1, Mr) → zJ T RX4 cX4_goesOf 7 (zBm T 5 (some .int) (some (.int r1)) Mr) 0 0 57 [(0, .ref a0), (1, .ref a1), (2, .int v2), (3, .int v3), (4, .int v4), (5, .int v5)] [] M := by
  intro v2 v3 v4 v5 M h
  rw [f4_goesOf_57] at h
  refine zg_iinc (ls' := [(0, .ref a0), (1, .ref a1), (2, .int v2), (3, .int v3), (4, .int v4), (5, .int (v5 + (1 : Int32)))]) 5 dX4_goesOf_57 rfl zki_1 (Nat.le_of_ble_eq_true rfl) rfl ?_
  refine zg_goto (tgt := 17) dX4_goesOf_60 (by decide) ?_
  exact hk17 _ _ _ _ _ h
set_option maxRecDepth 20000 in
set_option maxHeartbeats 4000000 in
theorem g4_goesOf_17 {T : List zN} {a0 : Nat} {a1 : Nat} (h0 : zRu T a0) (h1 : zWv T a1) {r1 : Int32} {Mr : zM} {k63 : Int32 → Int32 → Int32 → zM → Option (Int32 × zM)} (hk63 : ∀ (v2 : Int32) (v3 : Int32) (v4 : Int32) (M : zM), k63 v2 v3 v4 M = some (r1, Mr) → zJ T RX4 cX4_goesOf 7 (zBm T 5 (some .int) (some (.int r1)) Mr) 0 0 63 [(0, .ref a0), (1, .ref a1), (2, .int v2), (3, .int v3), (4, .int v4)] [] M) : ∀ (n : Nat) (v2 : Int32) (v3 : Int32) (v4 : Int32) (v5 : Int32) (M : zM), f4_goesOf_17 a0 a1 k63 n v2 v3 v4 v5 M = some (r1, Mr) → zJ T RX4 cX4_goesOf 7 (zBm T 5 (some .int) (some (.int r1)) Mr) 0 0 17 [(0, .ref a0), (1, .ref a1), (2, .int v2), (3, .int v3), (4, .int v4), (5, .int v5)] [] M := by
  intro n
  induction n with
  | zero => intro v2 v3 v4 v5 M h; cases h
  | succ n ih =>
    intro v2 v3 v4 v5 M h
    rw [f4_goesOf_17] at h
    refine zg_iload 5 dX4_goesOf_17 rfl ?_
    refine zg_aload_n 1 dX4_goesOf_19 rfl rfl ?_
    refine zg_iload 4 dX4_goesOf_20 rfl ?_
    obtain ⟨x1, hx1, h⟩ := z_bind h
    refine zg_callV (st := [.int v5]) (k_X7_sizeOf h1 hx1) zY_X7_sizeOf lv_X4_111 rfl h1.1 rfl (zfit_m (by decide) (by decide)) (Nat.le_of_ble_eq_true rfl) dX4_goesOf_22 rfl ?_
    refine zg_icmp_ge (tgt := 63) dX4_goesOf_25 (by decide) (fun hc => ?_) (fun hc => ?_)
    · replace h := (if_pos hc).symm.trans h
      refine zo_sub (ls' := [(0, .ref a0), (1, .ref a1), (2, .int v2), (3, .int v3), (4, .int v4)]) [0, 1, 2, 3, 4] rfl ?_
      exact hk63 _ _ _ _ h
    · replace h := (if_neg hc).symm.trans h
      refine zg_aload_n 0 dX4_goesOf_28 rfl rfl ?_
      refine zg_aload_n 1 dX4_goesOf_29 rfl rfl ?_
      refine zg_iload 4 dX4_goesOf_30 rfl ?_
      refine zg_iload 5 dX4_goesOf_32 rfl ?_
      obtain ⟨p2, hp2, h⟩ := z_bind h
      refine zg_callV (st := []) (k_X4_pullOf h0 h1 hp2) zY_X4_pullOf lv_X4_120 rfl h0.1 rfl (zfit_m (by decide) (by decide)) (Nat.le_of_ble_eq_true rfl) dX4_goesOf_34 rfl ?_
      refine zg_istore (ls' := [(0, .ref a0), (1, .ref a1), (2, .int v2), (3, .int v3), (4, .int v4), (5, .int v5), (6, .int p2.1)]) dX4_goesOf_37 (Nat.le_of_ble_eq_true rfl) rfl ?_
      refine zg_iload 6 dX4_goesOf_39 rfl ?_
      refine zg_iload_n 2 dX4_goesOf_41 rfl rfl ?_
      refine zg_icmp_le (tgt := 57) dX4_goesOf_42 (by decide) (fun hc => ?_) (fun hc => ?_)
      · replace h := (if_pos hc).symm.trans h
        refine zo_sub (ls' := [(0, .ref a0), (1, .ref a1), (2, .int v2), (3, .int v3), (4, .int v4), (5, .int v5)]) [0, 1, 2, 3, 4, 5] rfl ?_
        exact g4_goesOf_57 h0 h1 (fun u0 u1 u2 u3 u4 h => ih u0 u1 u2 u3 u4 h) _ _ _ _ _ h
      · replace h := (if_neg hc).symm.trans h
        refine zg_iload 6 dX4_goesOf_45 rfl ?_
        refine zg_istore_n (ls' := [(0, .ref a0), (1, .ref a1), (2, .int p2.1), (3, .int v3), (4, .int v4), (5, .int v5), (6, .int p2.1)]) dX4_goesOf_47 rfl (Nat.le_of_ble_eq_true rfl) rfl ?_
        refine zg_bipush dX4_goesOf_48 zkb_6 ?_
        refine zg_iload 4 dX4_goesOf_50 rfl ?_
        refine zg_imul dX4_goesOf_52 ?_
        refine zg_iload 5 dX4_goesOf_53 rfl ?_
        refine zg_iadd dX4_goesOf_55 ?_
        refine zg_istore_n (ls' := [(0, .ref a0), (1, .ref a1), (2, .int p2.1), (3, .int (((6 : Int32) * v4) + v5)), (4, .int v4), (5, .int v5), (6, .int p2.1)]) dX4_goesOf_56 rfl (Nat.le_of_ble_eq_true rfl) rfl ?_
        refine zo_sub (ls' := [(0, .ref a0), (1, .ref a1), (2, .int p2.1), (3, .int (((6 : Int32) * v4) + v5)), (4, .int v4), (5, .int v5)]) [0, 1, 2, 3, 4, 5] rfl ?_
        exact g4_goesOf_57 h0 h1 (fun u0 u1 u2 u3 u4 h => ih u0 u1 u2 u3 u4 h) _ _ _ _ _ h
set_option maxRecDepth 20000 in
set_option maxHeartbeats 4000000 in
theorem g4_goesOf_63 {T : List zN} {a0 : Nat} {a1 : Nat} (h0 : zRu T a0) (h1 : zWv T a1) {r1 : Int32} {Mr : zM} {k8 : Int32 → Int32 → Int32 → zM → Option (Int32 × zM)} (hk8 : ∀ (v2 : Int32) (v3 : Int32) (v4 : Int32) (M : zM), k8 v2 v3 v4 M = some (r1, Mr) → zJ T RX4 cX4_goesOf 7 (zBm T 5 (some .int) (some (.int r1)) Mr) 0 0 8 [(0, .ref a0), (1, .ref a1), (2, .int v2), (3, .int v3), (4, .int v4)] [] M) : ∀ (v2 : Int32) (v3 : Int32) (v4 : Int32) (M : zM), f4_goesOf_63 a0 a1 k8 v2 v3 v4 M = some (r1, Mr) → zJ T RX4 cX4_goesOf 7 (zBm T 5 (some .int) (some (.int r1)) Mr) 0 0 63 [(0, .ref a0), (1, .ref a1), (2, .int v2), (3, .int v3), (4, .int v4)] [] M := by
  intro v2 v3 v4 M h
  rw [f4_goesOf_63] at h
  refine zg_iinc (ls' := [(0, .ref a0), (1, .ref a1), (2, .int v2), (3, .int v3), (4, .int (v4 + (1 : Int32)))]) 4 dX4_goesOf_63 rfl zki_1 (Nat.le_of_ble_eq_true rfl) rfl ?_
  refine zg_goto (tgt := 8) dX4_goesOf_66 (by decide) ?_
  exact hk8 _ _ _ _ h
set_option maxRecDepth 20000 in
set_option maxHeartbeats 4000000 in
theorem g4_goesOf_8 {T : List zN} {a0 : Nat} {a1 : Nat} (h0 : zRu T a0) (h1 : zWv T a1) {r1 : Int32} {Mr : zM} : ∀ (n : Nat) (v2 : Int32) (v3 : Int32) (v4 : Int32) (M : zM), f4_goesOf_8 a0 a1 n v2 v3 v4 M = some (r1, Mr) → zJ T RX4 cX4_goesOf 7 (zBm T 5 (some .int) (some (.int r1)) Mr) 0 0 8 [(0, .ref a0), (1, .ref a1), (2, .int v2), (3, .int v3), (4, .int v4)] [] M := by
  intro n
  induction n with
  | zero => intro v2 v3 v4 M h; cases h
  | succ n ih =>
    intro v2 v3 v4 M h
    rw [f4_goesOf_8] at h
    refine zg_iload 4 dX4_goesOf_8 rfl ?_
    refine zg_iconst dX4_goesOf_10 zki_1 ?_
    refine zg_icmp_gt (tgt := 69) dX4_goesOf_11 (by decide) (fun hc => ?_) (fun hc => ?_)
    · replace h := (if_pos hc).symm.trans h
      refine zg_aload_n 1 dX4_goesOf_69 rfl rfl ?_
      refine zg_iload_n 3 dX4_goesOf_70 rfl rfl ?_
      refine zg_bipush dX4_goesOf_71 zkb_6 ?_
      refine zg_idiv (by decide) dX4_goesOf_73 ?_
      obtain ⟨x1, hx1, h⟩ := z_bind h
      refine zg_callV (st := []) (k_X7_sizeOf h1 hx1) zY_X7_sizeOf lv_X4_111 rfl h1.1 rfl (zfit_m (by decide) (by decide)) (Nat.le_of_ble_eq_true rfl) dX4_goesOf_74 rfl ?_
      refine zg_iconst dX4_goesOf_77 zki_1 ?_
      suffices hj : zJ T RX4 cX4_goesOf 7 (zBm T 5 (some .int) (some (.int r1)) Mr) 0 0 87 [(0, .ref a0), (1, .ref a1), (2, .int v2), (3, .int v3), (4, .int v4)] [.int (if x1 ≤ (1 : Int32) then (-2 : Int32) else v3)] M by
        refine zg_icmp_le (tgt := 85) dX4_goesOf_78 (by decide) (fun hc => ?_) (fun hc => ?_)
        · rw [show (if x1 ≤ (1 : Int32) then (-2 : Int32) else v3) = (-2 : Int32) from if_pos hc] at hj
          refine zg_bipush dX4_goesOf_85 zkb_m2 ?_
          exact hj
        · rw [show (if x1 ≤ (1 : Int32) then (-2 : Int32) else v3) = v3 from if_neg hc] at hj
          refine zg_iload_n 3 dX4_goesOf_81 rfl rfl ?_
          refine zg_goto (tgt := 87) dX4_goesOf_82 (by decide) ?_
          exact hj
      obtain ⟨rfl, rfl⟩ := z_ret2 h
      exact zg_iret dX4_goesOf_87
    · replace h := (if_neg hc).symm.trans h
      refine zg_iconst dX4_goesOf_14 zki_0 ?_
      refine zg_istore (ls' := [(0, .ref a0), (1, .ref a1), (2, .int v2), (3, .int v3), (4, .int v4), (5, .int (0 : Int32))]) dX4_goesOf_15 (Nat.le_of_ble_eq_true rfl) rfl ?_
      exact g4_goesOf_17 h0 h1 (fun u0 u1 u2 u3 h => g4_goesOf_63 h0 h1 (fun u0 u1 u2 u3 h => ih u0 u1 u2 u3 h) u0 u1 u2 u3 h) zfuel _ _ _ _ _ h
set_option maxRecDepth 20000 in
set_option maxHeartbeats 4000000 in
theorem k_X4_goesOf {T : List zN} {a0 : Nat} {a1 : Nat} (h0 : zRu T a0) (h1 : zWv T a1) {M : zM} {r1 : Int32} {Mr : zM} (h : f4_goesOf a0 a1 M = some (r1, Mr)) : zK T yX4_goesOf cX4_goesOf 7 (some .int) 5 [.ref a0, .ref a1] M (some (.int r1)) Mr := by
  refine zK_of pl_X4 (Nat.le_of_ble_eq_true rfl) ?_
  show zJ T RX4 cX4_goesOf 7 _ 0 0 0 [(0, .ref a0), (1, .ref a1)] [] M
  rw [f4_goesOf] at h
  refine zg_bipush dX4_goesOf_0 zkb_m100 ?_
  refine zg_istore_n (ls' := [(0, .ref a0), (1, .ref a1), (2, .int (-100 : Int32))]) dX4_goesOf_2 rfl (Nat.le_of_ble_eq_true rfl) rfl ?_
  refine zg_iconst dX4_goesOf_3 zki_0 ?_
  refine zg_istore_n (ls' := [(0, .ref a0), (1, .ref a1), (2, .int (-100 : Int32)), (3, .int (0 : Int32))]) dX4_goesOf_4 rfl (Nat.le_of_ble_eq_true rfl) rfl ?_
  refine zg_iconst dX4_goesOf_5 zki_0 ?_
  refine zg_istore (ls' := [(0, .ref a0), (1, .ref a1), (2, .int (-100 : Int32)), (3, .int (0 : Int32)), (4, .int (0 : Int32))]) dX4_goesOf_6 (Nat.le_of_ble_eq_true rfl) rfl ?_
  exact g4_goesOf_8 h0 h1 zfuel _ _ _ _ h
set_option maxRecDepth 20000 in
set_option maxHeartbeats 4000000 in
theorem g5_those_50 {T : List zN} {a3 : Nat} (h3 : zWv T a3) {r1 : Int32} {M : zM} {k6 : Int32 → Int32 → Int32 → Int32 → Int32 → zM → Option Int32} (hk6 : ∀ (v0 : Int32) (v1 : Int32) (v2 : Int32) (v4 : Int32) (v5 : Int32), k6 v0 v1 v2 v4 v5 M = some r1 → zJ T RX5 cX5_those 6 (zBm T 4 (some .int) (some (.int r1)) M) 0 0 6 [(0, .int v0), (1, .int v1), (2, .int v2), (3, .ref a3), (4, .int v4), (5, .int v5)] [] M) : ∀ (v0 : Int32) (v1 : Int32) (v2 : Int32) (v4 : Int32) (v5 : Int32), f5_those_50 a3 k6 v0 v1 v2 v4 v5 M = some r1 → zJ T RX5 cX5_those 6 (zBm T 4 (some .int) (some (.int r1)) M) 0 0 50 [(0, .int v0), (1, .int v1), (2, .int v2), (3, .ref a3), (4, .int v4), (5, .int v5)] [] M := by
  intro v0 v1 v2 v4 v5 h
  rw [f5_those_50] at h
  refine zg_iinc (ls' := [(0, .int v0), (1, .int v1), (2, .int v2), (3, .ref a3), (4, .int v4), (5, .int (v5 + (1 : Int32)))]) 5 dX5_those_50 rfl zki_1 (Nat.le_of_ble_eq_true rfl) rfl ?_
  refine zg_goto (tgt := 6) dX5_those_53 (by decide) ?_
  exact hk6 _ _ _ _ _ h
set_option maxRecDepth 20000 in
set_option maxHeartbeats 4000000 in
theorem g5_those_6 {T : List zN} {a3 : Nat} (h3 : zWv T a3) {r1 : Int32} {M : zM} : ∀ (n : Nat) (v0 : Int32) (v1 : Int32) (v2 : Int32) (v4 : Int32) (v5 : Int32), f5_those_6 a3 n v0 v1 v2 v4 v5 M = some r1 → zJ T RX5 cX5_those 6 (zBm T 4 (some .int) (some (.int r1)) M) 0 0 6 [(0, .int v0), (1, .int v1), (2, .int v2), (3, .ref a3), (4, .int v4), (5, .int v5)] [] M := by
  intro n
  induction n with
  | zero => intro v0 v1 v2 v4 v5 h; cases h
  | succ n ih =>
    intro v0 v1 v2 v4 v5 h
    rw [f5_those_6] at h
    refine zg_iload 5 dX5_those_6 rfl ?_
    refine zg_bipush dX5_those_8 zkb_12 ?_
    refine zg_icmp_ge (tgt := 56) dX5_those_10 (by decide) (fun hc => ?_) (fun hc => ?_)
    · replace h := (if_pos hc).symm.trans h
      refine zg_iload 4 dX5_those_56 rfl ?_
      obtain rfl := z_ret1 h
      exact zg_iret dX5_those_58
    · replace h := (if_neg hc).symm.trans h
      refine zg_iload_n 0 dX5_those_13 rfl rfl ?_
      refine zg_iload 5 dX5_those_14 rfl ?_
      refine zg_iushr dX5_those_16 ?_
      refine zg_iconst dX5_those_17 zki_1 ?_
      refine zg_iand dX5_those_18 ?_
      refine zg_if_eq (tgt := 50) dX5_those_19 (by decide) (fun hc => ?_) (fun hc => ?_)
      · replace h := (if_pos hc).symm.trans h
        exact g5_those_50 h3 (fun u0 u1 u2 u3 u4 h => ih u0 u1 u2 u3 u4 h) _ _ _ _ _ h
      · replace h := (if_neg hc).symm.trans h
        refine zg_iload_n 1 dX5_those_22 rfl rfl ?_
        refine zg_iload_n 2 dX5_those_23 rfl rfl ?_
        refine zg_aload_n 3 dX5_those_24 rfl rfl ?_
        refine zg_iload 5 dX5_those_25 rfl ?_
        refine zg_bipush dX5_those_27 zkb_6 ?_
        refine zg_idiv (by decide) dX5_those_29 ?_
        refine zg_iload 5 dX5_those_30 rfl ?_
        refine zg_bipush dX5_those_32 zkb_6 ?_
        refine zg_irem (by decide) dX5_those_34 ?_
        obtain ⟨x1, hx1, h⟩ := z_bind h
        refine zg_callS (st := []) (k_X5_isSo h3 hx1) zY_X5_isSo ls_X5_22 rfl (zfit_m (by decide) (by decide)) (Nat.le_of_ble_eq_true rfl) dX5_those_35 rfl ?_
        refine zg_if_eq (tgt := 50) dX5_those_38 (by decide) (fun hc => ?_) (fun hc => ?_)
        · replace h := (if_pos hc).symm.trans h
          exact g5_those_50 h3 (fun u0 u1 u2 u3 u4 h => ih u0 u1 u2 u3 u4 h) _ _ _ _ _ h
        · replace h := (if_neg hc).symm.trans h
          refine zg_iload 4 dX5_those_41 rfl ?_
          refine zg_iconst dX5_those_43 zki_1 ?_
          refine zg_iload 5 dX5_those_44 rfl ?_
          refine zg_ishl dX5_those_46 ?_
          refine zg_ior dX5_those_47 ?_
          refine zg_istore (ls' := [(0, .int v0), (1, .int v1), (2, .int v2), (3, .ref a3), (4, .int (v4 ||| (zshl (1 : Int32) v5))), (5, .int v5)]) dX5_those_48 (Nat.le_of_ble_eq_true rfl) rfl ?_
          exact g5_those_50 h3 (fun u0 u1 u2 u3 u4 h => ih u0 u1 u2 u3 u4 h) _ _ _ _ _ h
set_option maxRecDepth 20000 in
set_option maxHeartbeats 4000000 in
theorem k_X5_those {T : List zN} {a3 : Nat} (h3 : zWv T a3) {v0 : Int32} {v1 : Int32} {v2 : Int32} {r1 : Int32} {M : zM} (h : f5_those v0 v1 v2 a3 M = some r1) : zK T yX5_those cX5_those 6 (some .int) 4 [.int v0, .int v1, .int v2, .ref a3] M (some (.int r1)) M := by
  refine zK_of pl_X5 (Nat.le_of_ble_eq_true rfl) ?_
  show zJ T RX5 cX5_those 6 _ 0 0 0 [(0, .int v0), (1, .int v1), (2, .int v2), (3, .ref a3)] [] M
  rw [f5_those] at h
  refine zg_iconst dX5_those_0 zki_0 ?_
  refine zg_istore (ls' := [(0, .int v0), (1, .int v1), (2, .int v2), (3, .ref a3), (4, .int (0 : Int32))]) dX5_those_1 (Nat.le_of_ble_eq_true rfl) rfl ?_
  refine zg_iconst dX5_those_3 zki_0 ?_
  refine zg_istore (ls' := [(0, .int v0), (1, .int v1), (2, .int v2), (3, .ref a3), (4, .int (0 : Int32)), (5, .int (0 : Int32))]) dX5_those_4 (Nat.le_of_ble_eq_true rfl) rfl ?_
  exact g5_those_6 h3 zfuel _ _ _ _ _ h
set_option maxRecDepth 20000 in
set_option maxHeartbeats 4000000 in
theorem g5_fitting_7 {a1 : Nat} (h1 : zWv ztops a1) {r1 : Int32} {M : zM} : ∀ (n : Nat) (v2 : Int32) (v3 : Int32), f5_fitting_7 a1 n v2 v3 M = some r1 → zJ ztops RX5 cX5_fitting 4 (zBm ztops 5 (some .int) (some (.int r1)) M) 0 0 7 [(0, .ref 30), (1, .ref a1), (2, .int v2), (3, .int v3)] [] M := by
  intro n
  induction n with
  | zero => intro v2 v3 h; cases h
  | succ n ih =>
    intro v2 v3 h
    rw [f5_fitting_7] at h
    refine zg_iload_n 3 dX5_fitting_7 rfl rfl ?_
    refine zg_aload_n 0 dX5_fitting_8 rfl rfl ?_
    refine zg_geti fl_X5_18 zt_30 rfl dX5_fitting_9 ?_
    refine zg_icmp_ge (tgt := 39) dX5_fitting_12 (by decide) (fun hc => ?_) (fun hc => ?_)
    · replace h := (if_pos hc).symm.trans h
      refine zg_iload_n 2 dX5_fitting_39 rfl rfl ?_
      obtain rfl := z_ret1 h
      exact zg_iret dX5_fitting_40
    · replace h := (if_neg hc).symm.trans h
      refine zg_iload_n 2 dX5_fitting_15 rfl rfl ?_
      refine zg_aload_n 0 dX5_fitting_16 rfl rfl ?_
      refine zo_getr 31 0 rfl fl_X5_9 zt_30 rfl dX5_fitting_17 ?_
      refine zg_iload_n 3 dX5_fitting_20 rfl rfl ?_
      obtain ⟨x1, hx1, h⟩ := z_bind h
      refine zo_iald zt_31 hx1 dX5_fitting_21 ?_
      refine zg_aload_n 0 dX5_fitting_22 rfl rfl ?_
      refine zo_getr 32 1 rfl fl_X5_15 zt_30 rfl dX5_fitting_23 ?_
      refine zg_iload_n 3 dX5_fitting_26 rfl rfl ?_
      obtain ⟨x2, hx2, h⟩ := z_bind h
      refine zo_iald zt_32 hx2 dX5_fitting_27 ?_
      refine zg_aload_n 1 dX5_fitting_28 rfl rfl ?_
      obtain ⟨x3, hx3, h⟩ := z_bind h
      refine zg_callS (st := []) (k_X5_those h1 hx3) zY_X5_those ls_X5_49 rfl (zfit_m (by decide) (by decide)) (Nat.le_of_ble_eq_true rfl) dX5_fitting_29 rfl ?_
      refine zg_istore_n (ls' := [(0, .ref 30), (1, .ref a1), (2, .int x3), (3, .int v3)]) dX5_fitting_32 rfl (Nat.le_of_ble_eq_true rfl) rfl ?_
      refine zg_iinc (ls' := [(0, .ref 30), (1, .ref a1), (2, .int x3), (3, .int (v3 + (1 : Int32)))]) 3 dX5_fitting_33 rfl zki_1 (Nat.le_of_ble_eq_true rfl) rfl ?_
      refine zg_goto (tgt := 7) dX5_fitting_36 (by decide) ?_
      exact ih _ _ h
set_option maxRecDepth 20000 in
set_option maxHeartbeats 4000000 in
theorem k_X5_fitting {a1 : Nat} (h1 : zWv ztops a1) {r1 : Int32} {M : zM} (h : f5_fitting a1 M = some r1) : zK ztops yX5_fitting cX5_fitting 4 (some .int) 5 [.ref 30, .ref a1] M (some (.int r1)) M := by
  refine zK_of pl_X5 (Nat.le_of_ble_eq_true rfl) ?_
  show zJ ztops RX5 cX5_fitting 4 _ 0 0 0 [(0, .ref 30), (1, .ref a1)] [] M
  rw [f5_fitting] at h
  refine zg_aload_n 1 dX5_fitting_0 rfl rfl ?_
  obtain ⟨x1, hx1, h⟩ := z_bind h
  refine zg_callV (st := []) (k_X7_all h1 hx1) zY_X7_all lv_X5_45 rfl h1.1 rfl (zfit_m (by decide) (by decide)) (Nat.le_of_ble_eq_true rfl) dX5_fitting_1 rfl ?_
  refine zg_istore_n (ls' := [(0, .ref 30), (1, .ref a1), (2, .int x1)]) dX5_fitting_4 rfl (Nat.le_of_ble_eq_true rfl) rfl ?_
  refine zg_iconst dX5_fitting_5 zki_0 ?_
  refine zg_istore_n (ls' := [(0, .ref 30), (1, .ref a1), (2, .int x1), (3, .int (0 : Int32))]) dX5_fitting_6 rfl (Nat.le_of_ble_eq_true rfl) rfl ?_
  exact g5_fitting_7 h1 zfuel _ _ h
set_option maxRecDepth 20000 in
set_option maxHeartbeats 4000000 in
theorem k_X8_rule {M : zM} {r1 : Int32} {Mr : zM} (h : f8_rule M = some (r1, Mr)) : zK ztops yX8_rule cX8_rule 2 (some .int) 5 [.ref 0] M (some (.int r1)) Mr := by
  refine zK_of pl_X8 (Nat.le_of_ble_eq_true rfl) ?_
  show zJ ztops RX8 cX8_rule 2 _ 0 0 0 [(0, .ref 0)] [] M
  rw [f8_rule] at h
  refine zg_aload_n 0 dX8_rule_0 rfl rfl ?_
  refine zo_getr 16 15 rfl fl_X8_43 zt_0 rfl dX8_rule_1 ?_
  refine zg_aload_n 0 dX8_rule_4 rfl rfl ?_
  refine zo_getr 7 6 rfl fl_X8_25 zt_0 rfl dX8_rule_5 ?_
  obtain ⟨p1, hp1, h⟩ := z_bind h
  refine zg_callV (st := []) (k_X4_readFrom zR_16 hp1) zY_X4_readFrom lv_X8_103 rfl zt_16 rfl (zfit_m (by decide) (by decide)) (Nat.le_of_ble_eq_true rfl) dX8_rule_8 rfl ?_
  refine zg_istore_n (ls' := [(0, .ref 0), (1, .int p1.1)]) dX8_rule_11 rfl (Nat.le_of_ble_eq_true rfl) rfl ?_
  refine zg_aload_n 0 dX8_rule_12 rfl rfl ?_
  refine zo_getr 7 6 rfl fl_X8_25 zt_0 rfl dX8_rule_13 ?_
  refine zg_iconst dX8_rule_16 zki_0 ?_
  refine zg_puti fp_X8_83 zt_7 rfl dX8_rule_17 ?_
  refine zg_iload_n 1 dX8_rule_20 rfl rfl ?_
  refine zg_iconst dX8_rule_21 zki_m1 ?_
  refine zg_icmp_eq (tgt := 29) dX8_rule_22 (by decide) (fun hc => ?_) (fun hc => ?_)
  · replace h := (if_pos hc).symm.trans h
    refine zg_aload_n 0 dX8_rule_29 rfl rfl ?_
    refine zo_getr 11 10 rfl fl_X8_39 zt_0 rfl dX8_rule_30 ?_
    refine zg_aload_n 0 dX8_rule_33 rfl rfl ?_
    refine zo_getr 16 15 rfl fl_X8_43 zt_0 rfl dX8_rule_34 ?_
    obtain ⟨M2, hM2, h⟩ := z_bind h
    refine zg_callV (st := []) (k_X4_become zR_11 zR_16 hM2) zY_X4_become lv_X8_104 rfl zt_11 rfl (zfit_m (by decide) (by decide)) (Nat.le_of_ble_eq_true rfl) dX8_rule_37 rfl ?_
    refine zg_iconst dX8_rule_40 zki_0 ?_
    obtain ⟨rfl, rfl⟩ := z_ret2 h
    exact zg_iret dX8_rule_41
  · replace h := (if_neg hc).symm.trans h
    refine zg_iconst dX8_rule_25 zki_m1 ?_
    refine zg_iload_n 1 dX8_rule_26 rfl rfl ?_
    refine zg_isub dX8_rule_27 ?_
    obtain ⟨rfl, rfl⟩ := z_ret2 h
    exact zg_iret dX8_rule_28
set_option maxRecDepth 20000 in
set_option maxHeartbeats 4000000 in
theorem k_X8_thread {v1 : Int32} {v2 : Int32} {v3 : Int32} {M : zM} {r1 : Int32} {Mr : zM} (h : f8_thread v1 v2 v3 M = some (r1, Mr)) : zK ztops yX8_thread cX8_thread 4 (some .int) 5 [.ref 0, .int v1, .int v2, .int v3] M (some (.int r1)) Mr := by
  refine zK_of pl_X8 (Nat.le_of_ble_eq_true rfl) ?_
  show zJ ztops RX8 cX8_thread 4 _ 0 0 0 [(0, .ref 0), (1, .int v1), (2, .int v2), (3, .int v3)] [] M
  rw [f8_thread] at h
  refine zg_aload_n 0 dX8_thread_0 rfl rfl ?_
  refine zo_getr 1 0 rfl fl_X8_10 zt_0 rfl dX8_thread_1 ?_
  refine zg_iload_n 1 dX8_thread_4 rfl rfl ?_
  refine zg_iload_n 2 dX8_thread_5 rfl rfl ?_
  obtain ⟨x1, hx1, h⟩ := z_bind h
  refine zg_callV (st := []) (k_X7_has zW_1 hx1) zY_X7_has lv_X8_118 rfl zt_1 rfl (zfit_m (by decide) (by decide)) (Nat.le_of_ble_eq_true rfl) dX8_thread_6 rfl ?_
  refine zg_if_eq (tgt := 21) dX8_thread_9 (by decide) (fun hc => ?_) (fun hc => ?_)
  · replace h := (if_pos hc).symm.trans h
    cases h
  · replace h := (if_neg hc).symm.trans h
    refine zg_iload_n 3 dX8_thread_12 rfl rfl ?_
    refine zg_if_lt (tgt := 21) dX8_thread_13 (by decide) (fun hc => ?_) (fun hc => ?_)
    · replace h := (if_pos hc).symm.trans h
      cases h
    · replace h := (if_neg hc).symm.trans h
      refine zg_iload_n 3 dX8_thread_16 rfl rfl ?_
      refine zg_iconst dX8_thread_17 zki_4 ?_
      refine zg_icmp_le (tgt := 29) dX8_thread_18 (by decide) (fun hc => ?_) (fun hc => ?_)
      · replace h := (if_pos hc).symm.trans h
        refine zg_iload_n 3 dX8_thread_29 rfl rfl ?_
        by_cases hc1 : v3 = (0 : Int32)
        · replace h := (if_pos hc1).symm.trans h
          refine zg_tableEq (k := 0) (off := 30) (tgt := 60) dX8_thread_30 hc1 (by decide) (by decide) (by decide) (by decide) ?_
          refine zg_aload_n 0 dX8_thread_60 rfl rfl ?_
          refine zo_getr 1 0 rfl fl_X8_10 zt_0 rfl dX8_thread_61 ?_
          refine zg_iload_n 1 dX8_thread_64 rfl rfl ?_
          refine zg_iload_n 2 dX8_thread_65 rfl rfl ?_
          obtain ⟨x2, hx2, h⟩ := z_bind h
          refine zg_callV (st := []) (k_X7_cellsOf zW_1 hx2) zY_X7_cellsOf lv_X8_121 rfl zt_1 rfl (zfit_m (by decide) (by decide)) (Nat.le_of_ble_eq_true rfl) dX8_thread_66 rfl ?_
          obtain ⟨rfl, rfl⟩ := z_ret2 h
          exact zg_iret dX8_thread_69
        replace h := (if_neg hc1).symm.trans h
        by_cases hc2 : v3 = (1 : Int32)
        · replace h := (if_pos hc2).symm.trans h
          refine zg_tableEq (k := 1) (off := 40) (tgt := 70) dX8_thread_30 hc2 (by decide) (by decide) (by decide) (by decide) ?_
          refine zg_aload_n 0 dX8_thread_70 rfl rfl ?_
          refine zo_getr 1 0 rfl fl_X8_10 zt_0 rfl dX8_thread_71 ?_
          refine zg_iload_n 1 dX8_thread_74 rfl rfl ?_
          refine zg_iload_n 2 dX8_thread_75 rfl rfl ?_
          obtain ⟨x2, hx2, h⟩ := z_bind h
          refine zg_callV (st := []) (k_X7_changesOf zW_1 hx2) zY_X7_changesOf lv_X8_124 rfl zt_1 rfl (zfit_m (by decide) (by decide)) (Nat.le_of_ble_eq_true rfl) dX8_thread_76 rfl ?_
          obtain ⟨rfl, rfl⟩ := z_ret2 h
          exact zg_iret dX8_thread_79
        replace h := (if_neg hc2).symm.trans h
        by_cases hc3 : v3 = (2 : Int32)
        · replace h := (if_pos hc3).symm.trans h
          refine zg_tableEq (k := 2) (off := 50) (tgt := 80) dX8_thread_30 hc3 (by decide) (by decide) (by decide) (by decide) ?_
          refine zg_aload_n 0 dX8_thread_80 rfl rfl ?_
          refine zo_getr 1 0 rfl fl_X8_10 zt_0 rfl dX8_thread_81 ?_
          refine zg_iload_n 1 dX8_thread_84 rfl rfl ?_
          refine zg_iload_n 2 dX8_thread_85 rfl rfl ?_
          obtain ⟨x2, hx2, h⟩ := z_bind h
          refine zg_callV (st := []) (k_X7_likesOf zW_1 hx2) zY_X7_likesOf lv_X8_127 rfl zt_1 rfl (zfit_m (by decide) (by decide)) (Nat.le_of_ble_eq_true rfl) dX8_thread_86 rfl ?_
          obtain ⟨rfl, rfl⟩ := z_ret2 h
          exact zg_iret dX8_thread_89
        replace h := (if_neg hc3).symm.trans h
        by_cases hc4 : v3 = (3 : Int32)
        · replace h := (if_pos hc4).symm.trans h
          refine zg_tableEq (k := 3) (off := 60) (tgt := 90) dX8_thread_30 hc4 (by decide) (by decide) (by decide) (by decide) ?_
          refine zg_aload_n 0 dX8_thread_90 rfl rfl ?_
          refine zo_getr 1 0 rfl fl_X8_10 zt_0 rfl dX8_thread_91 ?_
          refine zg_iload_n 1 dX8_thread_94 rfl rfl ?_
          refine zg_iload_n 2 dX8_thread_95 rfl rfl ?_
          obtain ⟨x2, hx2, h⟩ := z_bind h
          refine zg_callV (st := []) (k_X7_isLoose zW_1 hx2) zY_X7_isLoose lv_X8_130 rfl zt_1 rfl (zfit_m (by decide) (by decide)) (Nat.le_of_ble_eq_true rfl) dX8_thread_96 rfl ?_
          suffices hj : zJ ztops RX8 cX8_thread 4 (zBm ztops 5 (some .int) (some (.int r1)) Mr) 0 0 107 [(0, .ref 0), (1, .int v1), (2, .int v2), (3, .int v3)] [.int (if x2 = 0 then (0 : Int32) else (1 : Int32))] M by
            refine zg_if_eq (tgt := 106) dX8_thread_99 (by decide) (fun hc => ?_) (fun hc => ?_)
            · rw [show (if x2 = 0 then (0 : Int32) else (1 : Int32)) = (0 : Int32) from if_pos hc] at hj
              refine zg_iconst dX8_thread_106 zki_0 ?_
              exact hj
            · rw [show (if x2 = 0 then (0 : Int32) else (1 : Int32)) = (1 : Int32) from if_neg hc] at hj
              refine zg_iconst dX8_thread_102 zki_1 ?_
              refine zg_goto (tgt := 107) dX8_thread_103 (by decide) ?_
              exact hj
          obtain ⟨rfl, rfl⟩ := z_ret2 h
          exact zg_iret dX8_thread_107
        replace h := (if_neg hc4).symm.trans h
        refine zg_tableOut (tgt := 108) dX8_thread_30 (z_tout 4 (fun j hj => by match j, hj with | 0, _ => exact hc1 | 1, _ => exact hc2 | 2, _ => exact hc3 | 3, _ => exact hc4 | j + 4, hj => exact absurd hj (by omega)) (by decide)) (by decide) ?_
        refine zg_bipush dX8_thread_108 zkb_100 ?_
        refine zg_aload_n 0 dX8_thread_110 rfl rfl ?_
        refine zo_getr 11 10 rfl fl_X8_39 zt_0 rfl dX8_thread_111 ?_
        refine zg_aload_n 0 dX8_thread_114 rfl rfl ?_
        refine zo_getr 1 0 rfl fl_X8_10 zt_0 rfl dX8_thread_115 ?_
        refine zg_iload_n 1 dX8_thread_118 rfl rfl ?_
        refine zg_iload_n 2 dX8_thread_119 rfl rfl ?_
        obtain ⟨p2, hp2, h⟩ := z_bind h
        refine zg_callV (st := [.int (100 : Int32)]) (k_X4_pullOf zR_11 zW_1 hp2) zY_X4_pullOf lv_X8_133 rfl zt_11 rfl (zfit_m (by decide) (by decide)) (Nat.le_of_ble_eq_true rfl) dX8_thread_120 rfl ?_
        refine zg_iadd dX8_thread_123 ?_
        obtain ⟨rfl, rfl⟩ := z_ret2 h
        exact zg_iret dX8_thread_124
      · replace h := (if_neg hc).symm.trans h
        cases h
set_option maxRecDepth 20000 in
set_option maxHeartbeats 4000000 in
theorem k_X8_weaves {v1 : Int32} {v2 : Int32} {v3 : Int32} {M : zM} {r1 : Int32} {Mr : zM} (h : f8_weaves v1 v2 v3 M = some (r1, Mr)) : zK ztops yX8_weaves cX8_weaves 7 (some .int) 4 [.ref 0, .int v1, .int v2, .int v3] M (some (.int r1)) Mr := by
  refine zK_of pl_X8 (Nat.le_of_ble_eq_true rfl) ?_
  show zJ ztops RX8 cX8_weaves 7 _ 0 0 0 [(0, .ref 0), (1, .int v1), (2, .int v2), (3, .int v3)] [] M
  rw [f8_weaves] at h
  refine zg_aload_n 0 dX8_weaves_0 rfl rfl ?_
  refine zo_getr 1 0 rfl fl_X8_10 zt_0 rfl dX8_weaves_1 ?_
  obtain ⟨x1, hx1, h⟩ := z_bind h
  refine zg_callV (st := []) (k_X7_shape zW_1 hx1) zY_X7_shape lv_X8_141 rfl zt_1 rfl (zfit_m (by decide) (by decide)) (Nat.le_of_ble_eq_true rfl) dX8_weaves_4 rfl ?_
  refine zg_lstore (ls' := [(0, .ref 0), (1, .int v1), (2, .int v2), (3, .int v3), (4, .long x1)]) dX8_weaves_7 (Nat.le_of_ble_eq_true rfl) rfl ?_
  refine zg_aload_n 0 dX8_weaves_9 rfl rfl ?_
  refine zo_getr 1 0 rfl fl_X8_10 zt_0 rfl dX8_weaves_10 ?_
  refine zg_iload_n 1 dX8_weaves_13 rfl rfl ?_
  refine zg_iload_n 2 dX8_weaves_14 rfl rfl ?_
  refine zg_iload_n 3 dX8_weaves_15 rfl rfl ?_
  obtain ⟨p2, hp2, h⟩ := z_bind h
  refine zg_callV (st := []) (k_X7_weaveIn zW_1 hp2) zY_X7_weaveIn lv_X8_156 rfl zt_1 rfl (zfit_m (by decide) (by decide)) (Nat.le_of_ble_eq_true rfl) dX8_weaves_16 rfl ?_
  refine zg_istore (ls' := [(0, .ref 0), (1, .int v1), (2, .int v2), (3, .int v3), (4, .long x1), (6, .int p2.1)]) dX8_weaves_19 (Nat.le_of_ble_eq_true rfl) rfl ?_
  refine zg_aload_n 0 dX8_weaves_21 rfl rfl ?_
  refine zg_iload 5 dX8_weaves_22 rfl ?_
  refine zg_lload 4 dX8_weaves_24 rfl ?_
  refine zg_aload_n 0 dX8_weaves_26 rfl rfl ?_
  refine zo_getr 1 0 rfl fl_X8_10 zt_0 rfl dX8_weaves_27 ?_
  refine zg_geti fl_X8_145 zt_1 rfl dX8_weaves_30 ?_
  obtain ⟨p3, hp3, h⟩ := z_bind h
  refine zg_callV (st := []) (k_X8_noted hp3) zY_X8_noted lv_X8_159 rfl zt_0 rfl (zfit_m (by decide) (by decide)) (Nat.le_of_ble_eq_true rfl) dX8_weaves_33 rfl ?_
  obtain ⟨rfl, rfl⟩ := z_ret2 h
  exact zg_iret dX8_weaves_36
set_option maxRecDepth 20000 in
set_option maxHeartbeats 4000000 in
theorem k_X8_draws {v1 : Int32} {v2 : Int32} {M : zM} {r1 : Int32} {Mr : zM} (h : f8_draws v1 v2 M = some (r1, Mr)) : zK ztops yX8_draws cX8_draws 6 (some .int) 4 [.ref 0, .int v1, .int v2] M (some (.int r1)) Mr := by
  refine zK_of pl_X8 (Nat.le_of_ble_eq_true rfl) ?_
  show zJ ztops RX8 cX8_draws 6 _ 0 0 0 [(0, .ref 0), (1, .int v1), (2, .int v2)] [] M
  rw [f8_draws] at h
  refine zg_aload_n 0 dX8_draws_0 rfl rfl ?_
  refine zo_getr 1 0 rfl fl_X8_10 zt_0 rfl dX8_draws_1 ?_
  obtain ⟨x1, hx1, h⟩ := z_bind h
  refine zg_callV (st := []) (k_X7_shape zW_1 hx1) zY_X7_shape lv_X8_141 rfl zt_1 rfl (zfit_m (by decide) (by decide)) (Nat.le_of_ble_eq_true rfl) dX8_draws_4 rfl ?_
  refine zg_lstore_n (ls' := [(0, .ref 0), (1, .int v1), (2, .int v2), (3, .long x1)]) dX8_draws_7 rfl (Nat.le_of_ble_eq_true rfl) rfl ?_
  refine zg_aload_n 0 dX8_draws_8 rfl rfl ?_
  refine zo_getr 1 0 rfl fl_X8_10 zt_0 rfl dX8_draws_9 ?_
  refine zg_iload_n 1 dX8_draws_12 rfl rfl ?_
  refine zg_iload_n 2 dX8_draws_13 rfl rfl ?_
  obtain ⟨p2, hp2, h⟩ := z_bind h
  refine zg_callV (st := []) (k_X7_drawOut zW_1 hp2) zY_X7_drawOut lv_X8_163 rfl zt_1 rfl (zfit_m (by decide) (by decide)) (Nat.le_of_ble_eq_true rfl) dX8_draws_14 rfl ?_
  refine zg_istore (ls' := [(0, .ref 0), (1, .int v1), (2, .int v2), (3, .long x1), (5, .int p2.1)]) dX8_draws_17 (Nat.le_of_ble_eq_true rfl) rfl ?_
  refine zg_aload_n 0 dX8_draws_19 rfl rfl ?_
  refine zg_iload 4 dX8_draws_20 rfl ?_
  refine zg_lload_n 3 dX8_draws_22 rfl rfl ?_
  refine zg_aload_n 0 dX8_draws_23 rfl rfl ?_
  refine zo_getr 1 0 rfl fl_X8_10 zt_0 rfl dX8_draws_24 ?_
  refine zg_geti fl_X8_145 zt_1 rfl dX8_draws_27 ?_
  obtain ⟨p3, hp3, h⟩ := z_bind h
  refine zg_callV (st := []) (k_X8_noted hp3) zY_X8_noted lv_X8_159 rfl zt_0 rfl (zfit_m (by decide) (by decide)) (Nat.le_of_ble_eq_true rfl) dX8_draws_30 rfl ?_
  obtain ⟨rfl, rfl⟩ := z_ret2 h
  exact zg_iret dX8_draws_33
set_option maxRecDepth 20000 in
set_option maxHeartbeats 4000000 in
theorem k_X8_flips {v1 : Int32} {v2 : Int32} {M : zM} {r1 : Int32} {Mr : zM} (h : f8_flips v1 v2 M = some (r1, Mr)) : zK ztops yX8_flips cX8_flips 6 (some .int) 5 [.ref 0, .int v1, .int v2] M (some (.int r1)) Mr := by
  refine zK_of pl_X8 (Nat.le_of_ble_eq_true rfl) ?_
  show zJ ztops RX8 cX8_flips 6 _ 0 0 0 [(0, .ref 0), (1, .int v1), (2, .int v2)] [] M
  rw [f8_flips] at h
  refine zg_aload_n 0 dX8_flips_0 rfl rfl ?_
  refine zo_getr 1 0 rfl fl_X8_10 zt_0 rfl dX8_flips_1 ?_
  obtain ⟨x1, hx1, h⟩ := z_bind h
  refine zg_callV (st := []) (k_X7_shape zW_1 hx1) zY_X7_shape lv_X8_141 rfl zt_1 rfl (zfit_m (by decide) (by decide)) (Nat.le_of_ble_eq_true rfl) dX8_flips_4 rfl ?_
  refine zg_lstore_n (ls' := [(0, .ref 0), (1, .int v1), (2, .int v2), (3, .long x1)]) dX8_flips_7 rfl (Nat.le_of_ble_eq_true rfl) rfl ?_
  refine zg_aload_n 0 dX8_flips_8 rfl rfl ?_
  refine zo_getr 1 0 rfl fl_X8_10 zt_0 rfl dX8_flips_9 ?_
  refine zg_iload_n 1 dX8_flips_12 rfl rfl ?_
  refine zg_iload_n 2 dX8_flips_13 rfl rfl ?_
  obtain ⟨p2, hp2, h⟩ := z_bind h
  refine zg_callV (st := []) (k_X7_turnCell zW_1 hp2) zY_X7_turnCell lv_X8_166 rfl zt_1 rfl (zfit_m (by decide) (by decide)) (Nat.le_of_ble_eq_true rfl) dX8_flips_14 rfl ?_
  refine zg_istore (ls' := [(0, .ref 0), (1, .int v1), (2, .int v2), (3, .long x1), (5, .int p2.1)]) dX8_flips_17 (Nat.le_of_ble_eq_true rfl) rfl ?_
  refine zg_aload_n 0 dX8_flips_19 rfl rfl ?_
  refine zg_iload 4 dX8_flips_20 rfl ?_
  refine zg_lload_n 3 dX8_flips_22 rfl rfl ?_
  refine zg_aload_n 0 dX8_flips_23 rfl rfl ?_
  refine zo_getr 1 0 rfl fl_X8_10 zt_0 rfl dX8_flips_24 ?_
  refine zg_geti fl_X8_145 zt_1 rfl dX8_flips_27 ?_
  obtain ⟨p3, hp3, h⟩ := z_bind h
  refine zg_callV (st := []) (k_X8_noted hp3) zY_X8_noted lv_X8_159 rfl zt_0 rfl (zfit_m (by decide) (by decide)) (Nat.le_of_ble_eq_true rfl) dX8_flips_30 rfl ?_
  obtain ⟨rfl, rfl⟩ := z_ret2 h
  exact zg_iret dX8_flips_33
set_option maxRecDepth 20000 in
set_option maxHeartbeats 4000000 in
theorem k_X8_mirrors {v1 : Int32} {M : zM} {r1 : Int32} {Mr : zM} (h : f8_mirrors v1 M = some (r1, Mr)) : zK ztops yX8_mirrors cX8_mirrors 5 (some .int) 4 [.ref 0, .int v1] M (some (.int r1)) Mr := by
  refine zK_of pl_X8 (Nat.le_of_ble_eq_true rfl) ?_
  show zJ ztops RX8 cX8_mirrors 5 _ 0 0 0 [(0, .ref 0), (1, .int v1)] [] M
  rw [f8_mirrors] at h
  refine zg_aload_n 0 dX8_mirrors_0 rfl rfl ?_
  refine zo_getr 1 0 rfl fl_X8_10 zt_0 rfl dX8_mirrors_1 ?_
  obtain ⟨x1, hx1, h⟩ := z_bind h
  refine zg_callV (st := []) (k_X7_shape zW_1 hx1) zY_X7_shape lv_X8_141 rfl zt_1 rfl (zfit_m (by decide) (by decide)) (Nat.le_of_ble_eq_true rfl) dX8_mirrors_4 rfl ?_
  refine zg_lstore_n (ls' := [(0, .ref 0), (1, .int v1), (2, .long x1)]) dX8_mirrors_7 rfl (Nat.le_of_ble_eq_true rfl) rfl ?_
  refine zg_aload_n 0 dX8_mirrors_8 rfl rfl ?_
  refine zo_getr 1 0 rfl fl_X8_10 zt_0 rfl dX8_mirrors_9 ?_
  refine zg_iload_n 1 dX8_mirrors_12 rfl rfl ?_
  obtain ⟨p2, hp2, h⟩ := z_bind h
  refine zg_callV (st := []) (k_X7_turnRound zW_1 hp2) zY_X7_turnRound lv_X8_169 rfl zt_1 rfl (zfit_m (by decide) (by decide)) (Nat.le_of_ble_eq_true rfl) dX8_mirrors_13 rfl ?_
  refine zg_istore (ls' := [(0, .ref 0), (1, .int v1), (2, .long x1), (4, .int p2.1)]) dX8_mirrors_16 (Nat.le_of_ble_eq_true rfl) rfl ?_
  refine zg_aload_n 0 dX8_mirrors_18 rfl rfl ?_
  refine zg_iload 3 dX8_mirrors_19 rfl ?_
  refine zg_lload_n 2 dX8_mirrors_21 rfl rfl ?_
  refine zg_aload_n 0 dX8_mirrors_22 rfl rfl ?_
  refine zo_getr 1 0 rfl fl_X8_10 zt_0 rfl dX8_mirrors_23 ?_
  refine zg_geti fl_X8_145 zt_1 rfl dX8_mirrors_26 ?_
  obtain ⟨p3, hp3, h⟩ := z_bind h
  refine zg_callV (st := []) (k_X8_noted hp3) zY_X8_noted lv_X8_159 rfl zt_0 rfl (zfit_m (by decide) (by decide)) (Nat.le_of_ble_eq_true rfl) dX8_mirrors_29 rfl ?_
  obtain ⟨rfl, rfl⟩ := z_ret2 h
  exact zg_iret dX8_mirrors_32
set_option maxRecDepth 20000 in
set_option maxHeartbeats 4000000 in
theorem k_X8_next {M : zM} {r1 : Int32} {Mr : zM} (h : f8_next M = some (r1, Mr)) : zK ztops yX8_next cX8_next 2 (some .int) 6 [.ref 0] M (some (.int r1)) Mr := by
  refine zK_of pl_X8 (Nat.le_of_ble_eq_true rfl) ?_
  show zJ ztops RX8 cX8_next 2 _ 0 0 0 [(0, .ref 0)] [] M
  rw [f8_next] at h
  refine zg_aload_n 0 dX8_next_0 rfl rfl ?_
  refine zo_getr 11 10 rfl fl_X8_39 zt_0 rfl dX8_next_1 ?_
  refine zg_aload_n 0 dX8_next_4 rfl rfl ?_
  refine zo_getr 1 0 rfl fl_X8_10 zt_0 rfl dX8_next_5 ?_
  obtain ⟨p1, hp1, h⟩ := z_bind h
  refine zg_callV (st := []) (k_X4_goesOf zR_11 zW_1 hp1) zY_X4_goesOf lv_X8_203 rfl zt_11 rfl (zfit_m (by decide) (by decide)) (Nat.le_of_ble_eq_true rfl) dX8_next_8 rfl ?_
  refine zg_istore_n (ls' := [(0, .ref 0), (1, .int p1.1)]) dX8_next_11 rfl (Nat.le_of_ble_eq_true rfl) rfl ?_
  refine zg_iload_n 1 dX8_next_12 rfl rfl ?_
  refine zg_if_ge (tgt := 19) dX8_next_13 (by decide) (fun hc => ?_) (fun hc => ?_)
  · replace h := (if_pos hc).symm.trans h
    refine zg_aload_n 0 dX8_next_19 rfl rfl ?_
    refine zo_getr 9 8 rfl fl_X8_32 zt_0 rfl dX8_next_20 ?_
    refine zg_bipush dX8_next_23 zkb_100 ?_
    refine zg_aload_n 0 dX8_next_25 rfl rfl ?_
    refine zo_getr 11 10 rfl fl_X8_39 zt_0 rfl dX8_next_26 ?_
    refine zg_aload_n 0 dX8_next_29 rfl rfl ?_
    refine zo_getr 1 0 rfl fl_X8_10 zt_0 rfl dX8_next_30 ?_
    refine zg_iload_n 1 dX8_next_33 rfl rfl ?_
    refine zg_bipush dX8_next_34 zkb_6 ?_
    refine zg_idiv (by decide) dX8_next_36 ?_
    refine zg_iload_n 1 dX8_next_37 rfl rfl ?_
    refine zg_bipush dX8_next_38 zkb_6 ?_
    refine zg_irem (by decide) dX8_next_40 ?_
    obtain ⟨p2, hp2, h⟩ := z_bind h
    refine zg_callV (st := [.int (100 : Int32), .ref 9]) (k_X4_pullOf zR_11 zW_1 hp2) zY_X4_pullOf lv_X8_133 rfl zt_11 rfl (zfit_m (by decide) (by decide)) (Nat.le_of_ble_eq_true rfl) dX8_next_41 rfl ?_
    refine zg_iadd dX8_next_44 ?_
    refine zg_i2l dX8_next_45 ?_
    obtain ⟨M3, hM3, h⟩ := z_bind h
    refine zg_callV (st := []) (k_X3_tell hM3) zY_X3_tell lv_X8_207 rfl zt_9 rfl (zfit_m (by decide) (by decide)) (Nat.le_of_ble_eq_true rfl) dX8_next_46 rfl ?_
    refine zg_iload_n 1 dX8_next_49 rfl rfl ?_
    obtain ⟨rfl, rfl⟩ := z_ret2 h
    exact zg_iret dX8_next_50
  · replace h := (if_neg hc).symm.trans h
    refine zg_bipush dX8_next_16 zkb_m2 ?_
    obtain ⟨rfl, rfl⟩ := z_ret2 h
    exact zg_iret dX8_next_18
set_option maxRecDepth 20000 in
set_option maxHeartbeats 4000000 in
theorem g8_later_79 {r1 : Int32} {Mr : zM} : ∀ (n : Nat) (v2 : Int32) (M : zM), f8_later_79 n v2 M = some (r1, Mr) → zJ ztops RX8 cX8_later 3 (zBm ztops 6 (some .int) (some (.int r1)) Mr) 0 0 79 [(0, .ref 0), (2, .int v2)] [] M := by
  intro n
  induction n with
  | zero => intro v2 M h; cases h
  | succ n ih =>
    intro v2 M h
    rw [f8_later_79] at h
    refine zg_iload_n 1 dX8_later_79 rfl rfl ?_
    refine zg_aload_n 0 dX8_later_80 rfl rfl ?_
    refine zo_getr 3 2 rfl fl_X8_16 zt_0 rfl dX8_later_81 ?_
    refine zg_geti fl_X8_100 zt_3 rfl dX8_later_84 ?_
    refine zg_icmp_ge (tgt := 113) dX8_later_87 (by decide) (fun hc => ?_) (fun hc => ?_)
    · replace h := (if_pos hc).symm.trans h
      refine zg_aload_n 0 dX8_later_113 rfl rfl ?_
      refine zo_getr 3 2 rfl fl_X8_16 zt_0 rfl dX8_later_114 ?_
      obtain ⟨x1, hx1, h⟩ := z_bind h
      refine zg_callV (st := []) (k_X7_threads zW_3 hx1) zY_X7_threads lv_X8_191 rfl zt_3 rfl (zfit_m (by decide) (by decide)) (Nat.le_of_ble_eq_true rfl) dX8_later_117 rfl ?_
      obtain ⟨rfl, rfl⟩ := z_ret2 h
      exact zg_iret dX8_later_120
    · replace h := (if_neg hc).symm.trans h
      refine zg_aload_n 0 dX8_later_90 rfl rfl ?_
      refine zo_getr 9 8 rfl fl_X8_32 zt_0 rfl dX8_later_91 ?_
      refine zg_aload_n 0 dX8_later_94 rfl rfl ?_
      refine zo_getr 3 2 rfl fl_X8_16 zt_0 rfl dX8_later_95 ?_
      refine zg_iconst dX8_later_98 zki_0 ?_
      refine zg_iload_n 1 dX8_later_99 rfl rfl ?_
      obtain ⟨x1, hx1, h⟩ := z_bind h
      refine zg_callV (st := [.ref 9]) (k_X7_cellsOf zW_3 hx1) zY_X7_cellsOf lv_X8_121 rfl zt_3 rfl (zfit_m (by decide) (by decide)) (Nat.le_of_ble_eq_true rfl) dX8_later_100 rfl ?_
      refine zg_i2l dX8_later_103 ?_
      obtain ⟨M2, hM2, h⟩ := z_bind h
      refine zg_callV (st := []) (k_X3_add hM2) zY_X3_add lv_X8_216 rfl zt_9 rfl (zfit_m (by decide) (by decide)) (Nat.le_of_ble_eq_true rfl) dX8_later_104 rfl ?_
      refine zg_iinc (ls' := [(0, .ref 0), (2, .int (v2 + (1 : Int32)))]) 1 dX8_later_107 rfl zki_1 (Nat.le_of_ble_eq_true rfl) rfl ?_
      refine zg_goto (tgt := 79) dX8_later_110 (by decide) ?_
      exact ih _ _ h
set_option maxRecDepth 20000 in
set_option maxHeartbeats 4000000 in
theorem g8_later_25 {r1 : Int32} {Mr : zM} : ∀ (n : Nat) (v1 : Int32) (v2 : Int32) (M : zM), f8_later_25 n v1 v2 M = some (r1, Mr) → zJ ztops RX8 cX8_later 3 (zBm ztops 6 (some .int) (some (.int r1)) Mr) 0 0 25 [(0, .ref 0), (1, .int v1), (2, .int v2)] [] M := by
  intro n
  induction n with
  | zero => intro v1 v2 M h; cases h
  | succ n ih =>
    intro v1 v2 M h
    rw [f8_later_25] at h
    refine zg_iload_n 2 dX8_later_25 rfl rfl ?_
    refine zg_iload_n 1 dX8_later_26 rfl rfl ?_
    refine zg_icmp_ge (tgt := 54) dX8_later_27 (by decide) (fun hc => ?_) (fun hc => ?_)
    · replace h := (if_pos hc).symm.trans h
      refine zg_aload_n 0 dX8_later_54 rfl rfl ?_
      refine zo_getr 9 8 rfl fl_X8_32 zt_0 rfl dX8_later_55 ?_
      refine zg_aload_n 0 dX8_later_58 rfl rfl ?_
      refine zo_getr 3 2 rfl fl_X8_16 zt_0 rfl dX8_later_59 ?_
      refine zg_geti fl_X8_100 zt_3 rfl dX8_later_62 ?_
      refine zg_i2l dX8_later_65 ?_
      refine zg_aload_n 0 dX8_later_66 rfl rfl ?_
      refine zo_getr 3 2 rfl fl_X8_16 zt_0 rfl dX8_later_67 ?_
      refine zg_geti fl_X8_213 zt_3 rfl dX8_later_70 ?_
      refine zg_i2l dX8_later_73 ?_
      obtain ⟨M1, hM1, h⟩ := z_bind h
      refine zg_callV (st := []) (k_X3_tell_ hM1) zY_X3_tell_ lv_X8_194 rfl zt_9 rfl (zfit_m (by decide) (by decide)) (Nat.le_of_ble_eq_true rfl) dX8_later_74 rfl ?_
      refine zg_iconst dX8_later_77 zki_0 ?_
      refine zg_istore_n (ls' := [(0, .ref 0), (1, .int v1), (2, .int (0 : Int32))]) dX8_later_78 rfl (Nat.le_of_ble_eq_true rfl) rfl ?_
      refine zo_sub (ls' := [(0, .ref 0), (2, .int (0 : Int32))]) [0, 2] rfl ?_
      exact g8_later_79 zfuel _ _ h
    · replace h := (if_neg hc).symm.trans h
      refine zg_aload_n 0 dX8_later_30 rfl rfl ?_
      refine zo_getr 3 2 rfl fl_X8_16 zt_0 rfl dX8_later_31 ?_
      refine zg_aload_n 0 dX8_later_34 rfl rfl ?_
      refine zo_getr 11 10 rfl fl_X8_39 zt_0 rfl dX8_later_35 ?_
      refine zg_aload_n 0 dX8_later_38 rfl rfl ?_
      refine zo_getr 3 2 rfl fl_X8_16 zt_0 rfl dX8_later_39 ?_
      obtain ⟨p1, hp1, h⟩ := z_bind h
      refine zg_callV (st := [.ref 3]) (k_X4_goesOf zR_11 zW_3 hp1) zY_X4_goesOf lv_X8_203 rfl zt_11 rfl (zfit_m (by decide) (by decide)) (Nat.le_of_ble_eq_true rfl) dX8_later_42 rfl ?_
      obtain ⟨M2, hM2, h⟩ := z_bind h
      refine zg_callV (st := []) (k_X7_passNight zW_3 hM2) zY_X7_passNight lv_X8_210 rfl zt_3 rfl (zfit_m (by decide) (by decide)) (Nat.le_of_ble_eq_true rfl) dX8_later_45 rfl ?_
      refine zg_iinc (ls' := [(0, .ref 0), (1, .int v1), (2, .int (v2 + (1 : Int32)))]) 2 dX8_later_48 rfl zki_1 (Nat.le_of_ble_eq_true rfl) rfl ?_
      refine zg_goto (tgt := 25) dX8_later_51 (by decide) ?_
      exact ih _ _ _ h
set_option maxRecDepth 20000 in
set_option maxHeartbeats 4000000 in
theorem k_X8_later {v1 : Int32} {M : zM} {r1 : Int32} {Mr : zM} (h : f8_later v1 M = some (r1, Mr)) : zK ztops yX8_later cX8_later 3 (some .int) 6 [.ref 0, .int v1] M (some (.int r1)) Mr := by
  refine zK_of pl_X8 (Nat.le_of_ble_eq_true rfl) ?_
  show zJ ztops RX8 cX8_later 3 _ 0 0 0 [(0, .ref 0), (1, .int v1)] [] M
  rw [f8_later] at h
  refine zg_iload_n 1 dX8_later_0 rfl rfl ?_
  refine zg_if_lt (tgt := 10) dX8_later_1 (by decide) (fun hc => ?_) (fun hc => ?_)
  · replace h := (if_pos hc).symm.trans h
    refine zg_iconst dX8_later_10 zki_m1 ?_
    obtain ⟨rfl, rfl⟩ := z_ret2 h
    exact zg_iret dX8_later_11
  · replace h := (if_neg hc).symm.trans h
    refine zg_iload_n 1 dX8_later_4 rfl rfl ?_
    refine zg_bipush dX8_later_5 zkb_60 ?_
    refine zg_icmp_le (tgt := 12) dX8_later_7 (by decide) (fun hc => ?_) (fun hc => ?_)
    · replace h := (if_pos hc).symm.trans h
      refine zg_aload_n 0 dX8_later_12 rfl rfl ?_
      refine zo_getr 3 2 rfl fl_X8_16 zt_0 rfl dX8_later_13 ?_
      refine zg_aload_n 0 dX8_later_16 rfl rfl ?_
      refine zo_getr 1 0 rfl fl_X8_10 zt_0 rfl dX8_later_17 ?_
      obtain ⟨M1, hM1, h⟩ := z_bind h
      refine zg_callV (st := []) (k_X7_become zW_3 zW_1 hM1) zY_X7_become lv_X8_93 rfl zt_3 rfl (zfit_m (by decide) (by decide)) (Nat.le_of_ble_eq_true rfl) dX8_later_20 rfl ?_
      refine zg_iconst dX8_later_23 zki_0 ?_
      refine zg_istore_n (ls' := [(0, .ref 0), (1, .int v1), (2, .int (0 : Int32))]) dX8_later_24 rfl (Nat.le_of_ble_eq_true rfl) rfl ?_
      exact g8_later_25 zfuel _ _ _ h
    · replace h := (if_neg hc).symm.trans h
      refine zg_iconst dX8_later_10 zki_m1 ?_
      obtain ⟨rfl, rfl⟩ := z_ret2 h
      exact zg_iret dX8_later_11
set_option maxRecDepth 20000 in
set_option maxHeartbeats 4000000 in
theorem g8_falls_13 {r1 : Int32} {Mr : zM} : ∀ (n : Nat) (v1 : Int32) (M : zM), f8_falls_13 n v1 M = some (r1, Mr) → zJ ztops RX8 cX8_falls 2 (zBm ztops 6 (some .int) (some (.int r1)) Mr) 0 0 13 [(0, .ref 0), (1, .int v1)] [] M := by
  intro n
  induction n with
  | zero => intro v1 M h; cases h
  | succ n ih =>
    intro v1 M h
    rw [f8_falls_13] at h
    refine zg_iload_n 1 dX8_falls_13 rfl rfl ?_
    refine zg_bipush dX8_falls_14 zkb_60 ?_
    refine zg_icmp_gt (tgt := 74) dX8_falls_16 (by decide) (fun hc => ?_) (fun hc => ?_)
    · replace h := (if_pos hc).symm.trans h
      refine zg_bipush dX8_falls_74 zkb_m2 ?_
      obtain ⟨rfl, rfl⟩ := z_ret2 h
      exact zg_iret dX8_falls_76
    · replace h := (if_neg hc).symm.trans h
      refine zg_aload_n 0 dX8_falls_19 rfl rfl ?_
      refine zo_getr 21 20 rfl fl_X8_49 zt_0 rfl dX8_falls_20 ?_
      refine zg_aload_n 0 dX8_falls_23 rfl rfl ?_
      refine zo_getr 3 2 rfl fl_X8_16 zt_0 rfl dX8_falls_24 ?_
      obtain ⟨p1, hp1, h⟩ := z_bind h
      refine zg_callV (st := []) (k_X0_isTogether zW_3 hp1) zY_X0_isTogether lv_X8_218 rfl zt_21 rfl (zfit_m (by decide) (by decide)) (Nat.le_of_ble_eq_true rfl) dX8_falls_27 rfl ?_
      refine zg_if_ne (tgt := 50) dX8_falls_30 (by decide) (fun hc => ?_) (fun hc => ?_)
      · replace h := (if_neg hc).symm.trans h
        refine zg_aload_n 0 dX8_falls_50 rfl rfl ?_
        refine zo_getr 3 2 rfl fl_X8_16 zt_0 rfl dX8_falls_51 ?_
        refine zg_aload_n 0 dX8_falls_54 rfl rfl ?_
        refine zo_getr 11 10 rfl fl_X8_39 zt_0 rfl dX8_falls_55 ?_
        refine zg_aload_n 0 dX8_falls_58 rfl rfl ?_
        refine zo_getr 3 2 rfl fl_X8_16 zt_0 rfl dX8_falls_59 ?_
        obtain ⟨p2, hp2, h⟩ := z_bind h
        refine zg_callV (st := [.ref 3]) (k_X4_goesOf zR_11 zW_3 hp2) zY_X4_goesOf lv_X8_203 rfl zt_11 rfl (zfit_m (by decide) (by decide)) (Nat.le_of_ble_eq_true rfl) dX8_falls_62 rfl ?_
        obtain ⟨M3, hM3, h⟩ := z_bind h
        refine zg_callV (st := []) (k_X7_passNight zW_3 hM3) zY_X7_passNight lv_X8_210 rfl zt_3 rfl (zfit_m (by decide) (by decide)) (Nat.le_of_ble_eq_true rfl) dX8_falls_65 rfl ?_
        refine zg_iinc (ls' := [(0, .ref 0), (1, .int (v1 + (1 : Int32)))]) 1 dX8_falls_68 rfl zki_1 (Nat.le_of_ble_eq_true rfl) rfl ?_
        refine zg_goto (tgt := 13) dX8_falls_71 (by decide) ?_
        exact ih _ _ h
      · replace h := (if_pos hc).symm.trans h
        refine zg_aload_n 0 dX8_falls_33 rfl rfl ?_
        refine zo_getr 9 8 rfl fl_X8_32 zt_0 rfl dX8_falls_34 ?_
        refine zg_aload_n 0 dX8_falls_37 rfl rfl ?_
        refine zo_getr 3 2 rfl fl_X8_16 zt_0 rfl dX8_falls_38 ?_
        obtain ⟨x2, hx2, h⟩ := z_bind h
        refine zg_callV (st := [.ref 9]) (k_X7_threads zW_3 hx2) zY_X7_threads lv_X8_191 rfl zt_3 rfl (zfit_m (by decide) (by decide)) (Nat.le_of_ble_eq_true rfl) dX8_falls_41 rfl ?_
        refine zg_i2l dX8_falls_44 ?_
        obtain ⟨M3, hM3, h⟩ := z_bind h
        refine zg_callV (st := []) (k_X3_tell hM3) zY_X3_tell lv_X8_207 rfl zt_9 rfl (zfit_m (by decide) (by decide)) (Nat.le_of_ble_eq_true rfl) dX8_falls_45 rfl ?_
        refine zg_iload_n 1 dX8_falls_48 rfl rfl ?_
        obtain ⟨rfl, rfl⟩ := z_ret2 h
        exact zg_iret dX8_falls_49
set_option maxRecDepth 20000 in
set_option maxHeartbeats 4000000 in
theorem k_X8_falls {M : zM} {r1 : Int32} {Mr : zM} (h : f8_falls M = some (r1, Mr)) : zK ztops yX8_falls cX8_falls 2 (some .int) 6 [.ref 0] M (some (.int r1)) Mr := by
  refine zK_of pl_X8 (Nat.le_of_ble_eq_true rfl) ?_
  show zJ ztops RX8 cX8_falls 2 _ 0 0 0 [(0, .ref 0)] [] M
  rw [f8_falls] at h
  refine zg_aload_n 0 dX8_falls_0 rfl rfl ?_
  refine zo_getr 3 2 rfl fl_X8_16 zt_0 rfl dX8_falls_1 ?_
  refine zg_aload_n 0 dX8_falls_4 rfl rfl ?_
  refine zo_getr 1 0 rfl fl_X8_10 zt_0 rfl dX8_falls_5 ?_
  obtain ⟨M1, hM1, h⟩ := z_bind h
  refine zg_callV (st := []) (k_X7_become zW_3 zW_1 hM1) zY_X7_become lv_X8_93 rfl zt_3 rfl (zfit_m (by decide) (by decide)) (Nat.le_of_ble_eq_true rfl) dX8_falls_8 rfl ?_
  refine zg_iconst dX8_falls_11 zki_0 ?_
  refine zg_istore_n (ls' := [(0, .ref 0), (1, .int (0 : Int32))]) dX8_falls_12 rfl (Nat.le_of_ble_eq_true rfl) rfl ?_
  exact g8_falls_13 zfuel _ _ h
set_option maxRecDepth 20000 in
set_option maxHeartbeats 4000000 in
theorem g8_rags_92 {r1 : Int32} {Mr : zM} {k40 : Int32 → Int32 → zM → Option (Int32 × zM)} (hk40 : ∀ (v2 : Int32) (v3 : Int32) (M : zM), k40 v2 v3 M = some (r1, Mr) → zJ ztops RX8 cX8_rags 4 (zBm ztops 4 (some .int) (some (.int r1)) Mr) 0 0 40 [(0, .ref 0), (2, .int v2), (3, .int v3)] [] M) : ∀ (v2 : Int32) (v3 : Int32) (M : zM), f8_rags_92 k40 v2 v3 M = some (r1, Mr) → zJ ztops RX8 cX8_rags 4 (zBm ztops 4 (some .int) (some (.int r1)) Mr) 0 0 92 [(0, .ref 0), (2, .int v2), (3, .int v3)] [] M := by
  intro v2 v3 M h
  rw [f8_rags_92] at h
  refine zg_iinc (ls' := [(0, .ref 0), (2, .int v2), (3, .int (v3 + (1 : Int32)))]) 2 dX8_rags_92 rfl zki_1 (Nat.le_of_ble_eq_true rfl) rfl ?_
  refine zg_goto (tgt := 40) dX8_rags_95 (by decide) ?_
  exact hk40 _ _ _ h
set_option maxRecDepth 20000 in
set_option maxHeartbeats 4000000 in
theorem g8_rags_40 {r1 : Int32} {Mr : zM} : ∀ (n : Nat) (v2 : Int32) (v3 : Int32) (M : zM), f8_rags_40 n v2 v3 M = some (r1, Mr) → zJ ztops RX8 cX8_rags 4 (zBm ztops 4 (some .int) (some (.int r1)) Mr) 0 0 40 [(0, .ref 0), (2, .int v2), (3, .int v3)] [] M := by
  intro n
  induction n with
  | zero => intro v2 v3 M h; cases h
  | succ n ih =>
    intro v2 v3 M h
    rw [f8_rags_40] at h
    refine zg_iload_n 2 dX8_rags_40 rfl rfl ?_
    refine zg_iconst dX8_rags_41 zki_1 ?_
    refine zg_aload_n 0 dX8_rags_42 rfl rfl ?_
    refine zo_getr 1 0 rfl fl_X8_10 zt_0 rfl dX8_rags_43 ?_
    refine zg_geti fl_X8_213 zt_1 rfl dX8_rags_46 ?_
    refine zg_ishl dX8_rags_49 ?_
    refine zg_icmp_ge (tgt := 98) dX8_rags_50 (by decide) (fun hc => ?_) (fun hc => ?_)
    · replace h := (if_pos hc).symm.trans h
      refine zg_iload_n 1 dX8_rags_98 rfl rfl ?_
      obtain ⟨rfl, rfl⟩ := z_ret2 h
      exact zg_iret dX8_rags_99
    · replace h := (if_neg hc).symm.trans h
      refine zg_aload_n 0 dX8_rags_53 rfl rfl ?_
      refine zo_getr 1 0 rfl fl_X8_10 zt_0 rfl dX8_rags_54 ?_
      refine zg_geti fl_X8_213 zt_1 rfl dX8_rags_57 ?_
      refine zg_iload_n 2 dX8_rags_60 rfl rfl ?_
      obtain ⟨x1, hx1, h⟩ := z_bind h
      refine zg_callS (st := [.int (M.1 1 1)]) (k_J6_bitCount_0f7a4 hx1) zY_J6_bitCount_0f7a4 ls_X8_225 rfl (zfit_m (by decide) (by decide)) (Nat.le_of_ble_eq_true rfl) dX8_rags_61 rfl ?_
      refine zg_isub dX8_rags_64 ?_
      refine zg_aload_n 0 dX8_rags_65 rfl rfl ?_
      refine zo_getr 3 2 rfl fl_X8_16 zt_0 rfl dX8_rags_66 ?_
      refine zg_geti fl_X8_213 zt_3 rfl dX8_rags_69 ?_
      refine zg_icmp_ne (tgt := 92) dX8_rags_72 (by decide) (fun hc => ?_) (fun hc => ?_)
      · replace h := (if_neg hc).symm.trans h
        exact g8_rags_92 (fun u0 u1 u2 h => ih u0 u1 u2 h) _ _ _ h
      · replace h := (if_pos hc).symm.trans h
        refine zg_iload_n 1 dX8_rags_75 rfl rfl ?_
        refine zg_aload_n 0 dX8_rags_76 rfl rfl ?_
        refine zg_iload_n 2 dX8_rags_77 rfl rfl ?_
        refine zg_iload_n 1 dX8_rags_78 rfl rfl ?_
        suffices hj : zJ ztops RX8 cX8_rags 4 (zBm ztops 4 (some .int) (some (.int r1)) Mr) 0 0 87 [(0, .ref 0), (2, .int v2), (3, .int v3)] [.int (if v2 = 0 then (1 : Int32) else (0 : Int32)), .int v3, .ref 0, .int v2] M by
          refine zg_if_ne (tgt := 86) dX8_rags_79 (by decide) (fun hc => ?_) (fun hc => ?_)
          · rw [show (if v2 = 0 then (1 : Int32) else (0 : Int32)) = (0 : Int32) from if_neg hc] at hj
            refine zg_iconst dX8_rags_86 zki_0 ?_
            exact hj
          · rw [show (if v2 = 0 then (1 : Int32) else (0 : Int32)) = (1 : Int32) from if_pos hc] at hj
            refine zg_iconst dX8_rags_82 zki_1 ?_
            refine zg_goto (tgt := 87) dX8_rags_83 (by decide) ?_
            exact hj
        obtain ⟨p2, hp2, h⟩ := z_bind h
        refine zg_callV (st := [.int v2]) (k_X8_ragsWithout hp2) zY_X8_ragsWithout lv_X8_230 rfl zt_0 rfl (zfit_m (by decide) (by decide)) (Nat.le_of_ble_eq_true rfl) dX8_rags_87 rfl ?_
        refine zg_iadd dX8_rags_90 ?_
        refine zg_istore_n (ls' := [(0, .ref 0), (2, .int (v2 + p2.1)), (3, .int v3)]) dX8_rags_91 rfl (Nat.le_of_ble_eq_true rfl) rfl ?_
        exact g8_rags_92 (fun u0 u1 u2 h => ih u0 u1 u2 h) _ _ _ h
set_option maxRecDepth 20000 in
set_option maxHeartbeats 4000000 in
theorem k_X8_rags {M : zM} {r1 : Int32} {Mr : zM} (h : f8_rags M = some (r1, Mr)) : zK ztops yX8_rags cX8_rags 4 (some .int) 4 [.ref 0] M (some (.int r1)) Mr := by
  refine zK_of pl_X8 (Nat.le_of_ble_eq_true rfl) ?_
  show zJ ztops RX8 cX8_rags 4 _ 0 0 0 [(0, .ref 0)] [] M
  rw [f8_rags] at h
  refine zg_aload_n 0 dX8_rags_0 rfl rfl ?_
  refine zo_getr 3 2 rfl fl_X8_16 zt_0 rfl dX8_rags_1 ?_
  refine zg_aload_n 0 dX8_rags_4 rfl rfl ?_
  refine zo_getr 7 6 rfl fl_X8_25 zt_0 rfl dX8_rags_5 ?_
  obtain ⟨p1, hp1, h⟩ := z_bind h
  refine zg_callV (st := []) (k_X7_readFrom zW_3 hp1) zY_X7_readFrom lv_X8_89 rfl zt_3 rfl (zfit_m (by decide) (by decide)) (Nat.le_of_ble_eq_true rfl) dX8_rags_8 rfl ?_
  refine zg_istore_n (ls' := [(0, .ref 0), (1, .int p1.1)]) dX8_rags_11 rfl (Nat.le_of_ble_eq_true rfl) rfl ?_
  refine zg_aload_n 0 dX8_rags_12 rfl rfl ?_
  refine zo_getr 7 6 rfl fl_X8_25 zt_0 rfl dX8_rags_13 ?_
  refine zg_iconst dX8_rags_16 zki_0 ?_
  refine zg_puti fp_X8_83 zt_7 rfl dX8_rags_17 ?_
  refine zg_iload_n 1 dX8_rags_20 rfl rfl ?_
  refine zg_iconst dX8_rags_21 zki_m1 ?_
  refine zg_icmp_eq (tgt := 29) dX8_rags_22 (by decide) (fun hc => ?_) (fun hc => ?_)
  · replace h := (if_pos hc).symm.trans h
    refine zg_aload_n 0 dX8_rags_29 rfl rfl ?_
    refine zo_getr 9 8 rfl fl_X8_32 zt_0 rfl dX8_rags_30 ?_
    obtain ⟨M2, hM2, h⟩ := z_bind h
    refine zg_callV (st := []) (k_X3_clear hM2) zY_X3_clear lv_X8_222 rfl zt_9 rfl (zfit_m (by decide) (by decide)) (Nat.le_of_ble_eq_true rfl) dX8_rags_33 rfl ?_
    refine zg_iconst dX8_rags_36 zki_0 ?_
    refine zg_istore_n (ls' := [(0, .ref 0), (1, .int p1.1), (2, .int (0 : Int32))]) dX8_rags_37 rfl (Nat.le_of_ble_eq_true rfl) rfl ?_
    refine zg_iconst dX8_rags_38 zki_0 ?_
    refine zg_istore_n (ls' := [(0, .ref 0), (1, .int p1.1), (2, .int (0 : Int32)), (3, .int (0 : Int32))]) dX8_rags_39 rfl (Nat.le_of_ble_eq_true rfl) rfl ?_
    refine zo_sub (ls' := [(0, .ref 0), (2, .int (0 : Int32)), (3, .int (0 : Int32))]) [0, 2, 3] rfl ?_
    exact g8_rags_40 zfuel _ _ _ h
  · replace h := (if_neg hc).symm.trans h
    refine zg_iconst dX8_rags_25 zki_m1 ?_
    refine zg_iload_n 1 dX8_rags_26 rfl rfl ?_
    refine zg_isub dX8_rags_27 ?_
    obtain ⟨rfl, rfl⟩ := z_ret2 h
    exact zg_iret dX8_rags_28
set_option maxRecDepth 20000 in
set_option maxHeartbeats 4000000 in
theorem k_X8_fits {M : zM} {r1 : Int32} {Mr : zM} (h : f8_fits M = some (r1, Mr)) : zK ztops yX8_fits cX8_fits 2 (some .int) 6 [.ref 0] M (some (.int r1)) Mr := by
  refine zK_of pl_X8 (Nat.le_of_ble_eq_true rfl) ?_
  show zJ ztops RX8 cX8_fits 2 _ 0 0 0 [(0, .ref 0)] [] M
  rw [f8_fits] at h
  refine zg_aload_n 0 dX8_fits_0 rfl rfl ?_
  refine zo_getr 30 29 rfl fl_X8_63 zt_0 rfl dX8_fits_1 ?_
  refine zg_aload_n 0 dX8_fits_4 rfl rfl ?_
  refine zo_getr 1 0 rfl fl_X8_10 zt_0 rfl dX8_fits_5 ?_
  obtain ⟨x1, hx1, h⟩ := z_bind h
  refine zg_callV (st := []) (k_X5_fitting zW_1 hx1) zY_X5_fitting lv_X8_331 rfl zt_30 rfl (zfit_m (by decide) (by decide)) (Nat.le_of_ble_eq_true rfl) dX8_fits_8 rfl ?_
  refine zg_istore_n (ls' := [(0, .ref 0), (1, .int x1)]) dX8_fits_11 rfl (Nat.le_of_ble_eq_true rfl) rfl ?_
  refine zg_aload_n 0 dX8_fits_12 rfl rfl ?_
  refine zo_getr 9 8 rfl fl_X8_32 zt_0 rfl dX8_fits_13 ?_
  refine zg_iload_n 1 dX8_fits_16 rfl rfl ?_
  obtain ⟨x2, hx2, h⟩ := z_bind h
  refine zg_callS (st := [.ref 9]) (k_J6_bitCount_0f7a4 hx2) zY_J6_bitCount_0f7a4 ls_X8_225 rfl (zfit_m (by decide) (by decide)) (Nat.le_of_ble_eq_true rfl) dX8_fits_17 rfl ?_
  refine zg_i2l dX8_fits_20 ?_
  obtain ⟨M3, hM3, h⟩ := z_bind h
  refine zg_callV (st := []) (k_X3_tell hM3) zY_X3_tell lv_X8_207 rfl zt_9 rfl (zfit_m (by decide) (by decide)) (Nat.le_of_ble_eq_true rfl) dX8_fits_21 rfl ?_
  refine zg_iload_n 1 dX8_fits_24 rfl rfl ?_
  obtain ⟨rfl, rfl⟩ := z_ret2 h
  exact zg_iret dX8_fits_25
set_option maxRecDepth 20000 in
set_option maxHeartbeats 4000000 in
theorem g8_asks_95 {r1 : Int32} {Mr : zM} {k36 : Int32 → Int32 → Int32 → Int32 → Int32 → zM → Option (Int32 × zM)} (hk36 : ∀ (v1 : Int32) (v2 : Int32) (v3 : Int32) (v4 : Int32) (v5 : Int32) (M : zM), k36 v1 v2 v3 v4 v5 M = some (r1, Mr) → zJ ztops RX8 cX8_asks 8 (zBm ztops 6 (some .int) (some (.int r1)) Mr) 0 0 36 [(0, .ref 0), (1, .int v1), (2, .int v2), (3, .int v3), (4, .int v4), (5, .int v5)] [] M) : ∀ (v1 : Int32) (v2 : Int32) (v3 : Int32) (v4 : Int32) (v5 : Int32) (M : zM), f8_asks_95 k36 v1 v2 v3 v4 v5 M = some (r1, Mr) → zJ ztops RX8 cX8_asks 8 (zBm ztops 6 (some .int) (some (.int r1)) Mr) 0 0 95 [(0, .ref 0), (1, .int v1), (2, .int v2), (3, .int v3), (4, .int v4), (5, .int v5)] [] M := by
  intro v1 v2 v3 v4 v5 M h
  rw [f8_asks_95] at h
  refine zg_iinc (ls' := [(0, .ref 0), (1, .int v1), (2, .int v2), (3, .int v3), (4, .int v4), (5, .int (v5 + (1 : Int32)))]) 5 dX8_asks_95 rfl zki_1 (Nat.le_of_ble_eq_true rfl) rfl ?_
  refine zg_goto (tgt := 36) dX8_asks_98 (by decide) ?_
  exact hk36 _ _ _ _ _ _ h
set_option maxRecDepth 20000 in
set_option maxHeartbeats 4000000 in
theorem g8_asks_36 {r1 : Int32} {Mr : zM} {k101 : Int32 → Int32 → Int32 → Int32 → zM → Option (Int32 × zM)} (hk101 : ∀ (v1 : Int32) (v2 : Int32) (v3 : Int32) (v4 : Int32) (M : zM), k101 v1 v2 v3 v4 M = some (r1, Mr) → zJ ztops RX8 cX8_asks 8 (zBm ztops 6 (some .int) (some (.int r1)) Mr) 0 0 101 [(0, .ref 0), (1, .int v1), (2, .int v2), (3, .int v3), (4, .int v4)] [] M) : ∀ (n : Nat) (v1 : Int32) (v2 : Int32) (v3 : Int32) (v4 : Int32) (v5 : Int32) (M : zM), f8_asks_36 k101 n v1 v2 v3 v4 v5 M = some (r1, Mr) → zJ ztops RX8 cX8_asks 8 (zBm ztops 6 (some .int) (some (.int r1)) Mr) 0 0 36 [(0, .ref 0), (1, .int v1), (2, .int v2), (3, .int v3), (4, .int v4), (5, .int v5)] [] M := by
  intro n
  induction n with
  | zero => intro v1 v2 v3 v4 v5 M h; cases h
  | succ n ih =>
    intro v1 v2 v3 v4 v5 M h
    rw [f8_asks_36] at h
    refine zg_iload 5 dX8_asks_36 rfl ?_
    refine zg_iload 4 dX8_asks_38 rfl ?_
    obtain ⟨x1, hx1, h⟩ := z_bind h
    refine zg_callS (st := [.int v5]) (k_X5_mostOf hx1) zY_X5_mostOf ls_X8_326 rfl (zfit_m (by decide) (by decide)) (Nat.le_of_ble_eq_true rfl) dX8_asks_40 rfl ?_
    refine zg_icmp_gt (tgt := 101) dX8_asks_43 (by decide) (fun hc => ?_) (fun hc => ?_)
    · replace h := (if_pos hc).symm.trans h
      refine zo_sub (ls' := [(0, .ref 0), (1, .int v1), (2, .int v2), (3, .int v3), (4, .int v4)]) [0, 1, 2, 3, 4] rfl ?_
      exact hk101 _ _ _ _ _ h
    · replace h := (if_neg hc).symm.trans h
      refine zg_iload_n 1 dX8_asks_46 rfl rfl ?_
      refine zg_iload 4 dX8_asks_47 rfl ?_
      refine zg_iload 5 dX8_asks_49 rfl ?_
      refine zg_aload_n 0 dX8_asks_51 rfl rfl ?_
      refine zo_getr 1 0 rfl fl_X8_10 zt_0 rfl dX8_asks_52 ?_
      obtain ⟨x2, hx2, h⟩ := z_bind h
      refine zg_callS (st := []) (k_X5_those zW_1 hx2) zY_X5_those ls_X8_334 rfl (zfit_m (by decide) (by decide)) (Nat.le_of_ble_eq_true rfl) dX8_asks_55 rfl ?_
      obtain ⟨x3, hx3, h⟩ := z_bind h
      refine zg_callS (st := []) (k_J6_bitCount_0f7a4 hx3) zY_J6_bitCount_0f7a4 ls_X8_225 rfl (zfit_m (by decide) (by decide)) (Nat.le_of_ble_eq_true rfl) dX8_asks_58 rfl ?_
      refine zg_istore (ls' := [(0, .ref 0), (1, .int v1), (2, .int v2), (3, .int v3), (4, .int v4), (5, .int v5), (6, .int x3)]) dX8_asks_61 (Nat.le_of_ble_eq_true rfl) rfl ?_
      refine zg_iload 6 dX8_asks_63 rfl ?_
      refine zg_iload_n 1 dX8_asks_65 rfl rfl ?_
      obtain ⟨x4, hx4, h⟩ := z_bind h
      refine zg_callS (st := [.int x3]) (k_J6_bitCount_0f7a4 hx4) zY_J6_bitCount_0f7a4 ls_X8_225 rfl (zfit_m (by decide) (by decide)) (Nat.le_of_ble_eq_true rfl) dX8_asks_66 rfl ?_
      refine zg_iload 6 dX8_asks_69 rfl ?_
      refine zg_isub dX8_asks_71 ?_
      refine zo_max ls_X8_338 ⟨Nat.le_of_ble_eq_true rfl, Nat.le_of_ble_eq_true rfl, Nat.le_refl _, Nat.le_refl _⟩ z_iM z_cmax dX8_asks_72 ?_
      refine zg_istore (ls' := [(0, .ref 0), (1, .int v1), (2, .int v2), (3, .int v3), (4, .int v4), (5, .int v5), (6, .int x3), (7, .int (zmax x3 (x4 - x3)))]) dX8_asks_75 (Nat.le_of_ble_eq_true rfl) rfl ?_
      refine zg_iload 7 dX8_asks_77 rfl ?_
      refine zg_iload_n 2 dX8_asks_79 rfl rfl ?_
      refine zg_icmp_ge (tgt := 95) dX8_asks_80 (by decide) (fun hc => ?_) (fun hc => ?_)
      · replace h := (if_pos hc).symm.trans h
        refine zo_sub (ls' := [(0, .ref 0), (1, .int v1), (2, .int v2), (3, .int v3), (4, .int v4), (5, .int v5)]) [0, 1, 2, 3, 4, 5] rfl ?_
        exact g8_asks_95 (fun u0 u1 u2 u3 u4 u5 h => ih u0 u1 u2 u3 u4 u5 h) _ _ _ _ _ _ h
      · replace h := (if_neg hc).symm.trans h
        refine zg_iload 7 dX8_asks_83 rfl ?_
        refine zg_istore_n (ls' := [(0, .ref 0), (1, .int v1), (2, .int (zmax x3 (x4 - x3))), (3, .int v3), (4, .int v4), (5, .int v5), (6, .int x3), (7, .int (zmax x3 (x4 - x3)))]) dX8_asks_85 rfl (Nat.le_of_ble_eq_true rfl) rfl ?_
        refine zg_bipush dX8_asks_86 zkb_10 ?_
        refine zg_iload 4 dX8_asks_88 rfl ?_
        refine zg_imul dX8_asks_90 ?_
        refine zg_iload 5 dX8_asks_91 rfl ?_
        refine zg_iadd dX8_asks_93 ?_
        refine zg_istore_n (ls' := [(0, .ref 0), (1, .int v1), (2, .int (zmax x3 (x4 - x3))), (3, .int (((10 : Int32) * v4) + v5)), (4, .int v4), (5, .int v5), (6, .int x3), (7, .int (zmax x3 (x4 - x3)))]) dX8_asks_94 rfl (Nat.le_of_ble_eq_true rfl) rfl ?_
        refine zo_sub (ls' := [(0, .ref 0), (1, .int v1), (2, .int (zmax x3 (x4 - x3))), (3, .int (((10 : Int32) * v4) + v5)), (4, .int v4), (5, .int v5)]) [0, 1, 2, 3, 4, 5] rfl ?_
        exact g8_asks_95 (fun u0 u1 u2 u3 u4 u5 h => ih u0 u1 u2 u3 u4 u5 h) _ _ _ _ _ _ h
set_option maxRecDepth 20000 in
set_option maxHeartbeats 4000000 in
theorem g8_asks_101 {r1 : Int32} {Mr : zM} {k27 : Int32 → Int32 → Int32 → Int32 → zM → Option (Int32 × zM)} (hk27 : ∀ (v1 : Int32) (v2 : Int32) (v3 : Int32) (v4 : Int32) (M : zM), k27 v1 v2 v3 v4 M = some (r1, Mr) → zJ ztops RX8 cX8_asks 8 (zBm ztops 6 (some .int) (some (.int r1)) Mr) 0 0 27 [(0, .ref 0), (1, .int v1), (2, .int v2), (3, .int v3), (4, .int v4)] [] M) : ∀ (v1 : Int32) (v2 : Int32) (v3 : Int32) (v4 : Int32) (M : zM), f8_asks_101 k27 v1 v2 v3 v4 M = some (r1, Mr) → zJ ztops RX8 cX8_asks 8 (zBm ztops 6 (some .int) (some (.int r1)) Mr) 0 0 101 [(0, .ref 0), (1, .int v1), (2, .int v2), (3, .int v3), (4, .int v4)] [] M := by
  intro v1 v2 v3 v4 M h
  rw [f8_asks_101] at h
  refine zg_iinc (ls' := [(0, .ref 0), (1, .int v1), (2, .int v2), (3, .int v3), (4, .int (v4 + (1 : Int32)))]) 4 dX8_asks_101 rfl zki_1 (Nat.le_of_ble_eq_true rfl) rfl ?_
  refine zg_goto (tgt := 27) dX8_asks_104 (by decide) ?_
  exact hk27 _ _ _ _ _ h
set_option maxRecDepth 20000 in
set_option maxHeartbeats 4000000 in
theorem g8_asks_27 {r1 : Int32} {Mr : zM} : ∀ (n : Nat) (v1 : Int32) (v2 : Int32) (v3 : Int32) (v4 : Int32) (M : zM), f8_asks_27 n v1 v2 v3 v4 M = some (r1, Mr) → zJ ztops RX8 cX8_asks 8 (zBm ztops 6 (some .int) (some (.int r1)) Mr) 0 0 27 [(0, .ref 0), (1, .int v1), (2, .int v2), (3, .int v3), (4, .int v4)] [] M := by
  intro n
  induction n with
  | zero => intro v1 v2 v3 v4 M h; cases h
  | succ n ih =>
    intro v1 v2 v3 v4 M h
    rw [f8_asks_27] at h
    refine zg_iload 4 dX8_asks_27 rfl ?_
    refine zg_iconst dX8_asks_29 zki_5 ?_
    refine zg_icmp_ge (tgt := 107) dX8_asks_30 (by decide) (fun hc => ?_) (fun hc => ?_)
    · replace h := (if_pos hc).symm.trans h
      refine zg_aload_n 0 dX8_asks_107 rfl rfl ?_
      refine zo_getr 9 8 rfl fl_X8_32 zt_0 rfl dX8_asks_108 ?_
      refine zg_iload_n 2 dX8_asks_111 rfl rfl ?_
      refine zg_i2l dX8_asks_112 ?_
      obtain ⟨M1, hM1, h⟩ := z_bind h
      refine zg_callV (st := []) (k_X3_tell hM1) zY_X3_tell lv_X8_207 rfl zt_9 rfl (zfit_m (by decide) (by decide)) (Nat.le_of_ble_eq_true rfl) dX8_asks_113 rfl ?_
      refine zg_iload_n 3 dX8_asks_116 rfl rfl ?_
      obtain ⟨rfl, rfl⟩ := z_ret2 h
      exact zg_iret dX8_asks_117
    · replace h := (if_neg hc).symm.trans h
      refine zg_iconst dX8_asks_33 zki_0 ?_
      refine zg_istore (ls' := [(0, .ref 0), (1, .int v1), (2, .int v2), (3, .int v3), (4, .int v4), (5, .int (0 : Int32))]) dX8_asks_34 (Nat.le_of_ble_eq_true rfl) rfl ?_
      exact g8_asks_36 (fun u0 u1 u2 u3 u4 h => g8_asks_101 (fun u0 u1 u2 u3 u4 h => ih u0 u1 u2 u3 u4 h) u0 u1 u2 u3 u4 h) zfuel _ _ _ _ _ _ h
set_option maxRecDepth 20000 in
set_option maxHeartbeats 4000000 in
theorem k_X8_asks {M : zM} {r1 : Int32} {Mr : zM} (h : f8_asks M = some (r1, Mr)) : zK ztops yX8_asks cX8_asks 8 (some .int) 6 [.ref 0] M (some (.int r1)) Mr := by
  refine zK_of pl_X8 (Nat.le_of_ble_eq_true rfl) ?_
  show zJ ztops RX8 cX8_asks 8 _ 0 0 0 [(0, .ref 0)] [] M
  rw [f8_asks] at h
  refine zg_aload_n 0 dX8_asks_0 rfl rfl ?_
  refine zo_getr 30 29 rfl fl_X8_63 zt_0 rfl dX8_asks_1 ?_
  refine zg_aload_n 0 dX8_asks_4 rfl rfl ?_
  refine zo_getr 1 0 rfl fl_X8_10 zt_0 rfl dX8_asks_5 ?_
  obtain ⟨x1, hx1, h⟩ := z_bind h
  refine zg_callV (st := []) (k_X5_fitting zW_1 hx1) zY_X5_fitting lv_X8_331 rfl zt_30 rfl (zfit_m (by decide) (by decide)) (Nat.le_of_ble_eq_true rfl) dX8_asks_8 rfl ?_
  refine zg_istore_n (ls' := [(0, .ref 0), (1, .int x1)]) dX8_asks_11 rfl (Nat.le_of_ble_eq_true rfl) rfl ?_
  refine zg_iload_n 1 dX8_asks_12 rfl rfl ?_
  refine zg_if_ne (tgt := 19) dX8_asks_13 (by decide) (fun hc => ?_) (fun hc => ?_)
  · replace h := (if_neg hc).symm.trans h
    refine zg_bipush dX8_asks_19 zkb_13 ?_
    refine zg_istore_n (ls' := [(0, .ref 0), (1, .int x1), (2, .int (13 : Int32))]) dX8_asks_21 rfl (Nat.le_of_ble_eq_true rfl) rfl ?_
    refine zg_iconst dX8_asks_22 zki_0 ?_
    refine zg_istore_n (ls' := [(0, .ref 0), (1, .int x1), (2, .int (13 : Int32)), (3, .int (0 : Int32))]) dX8_asks_23 rfl (Nat.le_of_ble_eq_true rfl) rfl ?_
    refine zg_iconst dX8_asks_24 zki_0 ?_
    refine zg_istore (ls' := [(0, .ref 0), (1, .int x1), (2, .int (13 : Int32)), (3, .int (0 : Int32)), (4, .int (0 : Int32))]) dX8_asks_25 (Nat.le_of_ble_eq_true rfl) rfl ?_
    exact g8_asks_27 zfuel _ _ _ _ _ h
  · replace h := (if_pos hc).symm.trans h
    refine zg_bipush dX8_asks_16 zkb_m2 ?_
    obtain ⟨rfl, rfl⟩ := z_ret2 h
    exact zg_iret dX8_asks_18
