set_option maxRecDepth 20000 in
set_option maxHeartbeats 4000000 in
theorem g7_weaveIn_164 {T : List zN} {a0 : Nat} (h0 : zWv T a0) {r1 : Int32} {M1 : zM} : ∀ (v1 : Int32) (M : zM), f7_weaveIn_164 a0 v1 M = some (r1, M1) → zJ T RX7 cX7_weaveIn 5 (zBm T 2 (some .int) (some (.int r1)) M1) 0 0 164 [(0, .ref a0), (1, .int v1)] [] M := by
  intro v1 M h
  rw [f7_weaveIn_164] at h
  refine zg_aload_n 0 dX7_weaveIn_164 rfl rfl ?_
  obtain ⟨M1, hM1, h⟩ := z_bind h
  refine zg_callV (st := []) (k_X7_settle h0 hM1) zY_X7_settle lv_X7_66 rfl h0.1 rfl (zfit_m (by decide) (by decide)) (Nat.le_of_ble_eq_true rfl) dX7_weaveIn_165 rfl ?_
  refine zg_aload_n 0 dX7_weaveIn_168 rfl rfl ?_
  refine zg_iload_n 1 dX7_weaveIn_169 rfl rfl ?_
  obtain ⟨x2, hx2, h⟩ := z_bind h
  refine zg_callV (st := []) (k_X7_sizeOf h0 hx2) zY_X7_sizeOf lv_X7_29 rfl h0.1 rfl (zfit_m (by decide) (by decide)) (Nat.le_of_ble_eq_true rfl) dX7_weaveIn_170 rfl ?_
  cases h
  exact zg_iret dX7_weaveIn_173
set_option maxRecDepth 20000 in
set_option maxHeartbeats 4000000 in
theorem g7_weaveIn_62 {T : List zN} {a0 : Nat} (h0 : zWv T a0) {r1 : Int32} {M1 : zM} : ∀ (n : Nat) (v1 : Int32) (v2 : Int32) (v3 : Int32) (v4 : Int32) (M : zM), f7_weaveIn_62 a0 n v1 v2 v3 v4 M = some (r1, M1) → zJ T RX7 cX7_weaveIn 5 (zBm T 2 (some .int) (some (.int r1)) M1) 0 0 62 [(0, .ref a0), (1, .int v1), (2, .int v2), (3, .int v3), (4, .int v4)] [] M := by
  intro n
  induction n with
  | zero => intro v1 v2 v3 v4 M h; cases h
  | succ n ih =>
    intro v1 v2 v3 v4 M h
    rw [f7_weaveIn_62] at h
    refine zg_iload 4 dX7_weaveIn_62 rfl ?_
    refine zg_iload_n 2 dX7_weaveIn_64 rfl rfl ?_
    refine zg_icmp_le (tgt := 90) dX7_weaveIn_65 (by decide) (fun hc => ?_) (fun hc => ?_)
    · replace h := (if_pos hc).symm.trans h
      refine zg_aload_n 0 dX7_weaveIn_90 rfl rfl ?_
      refine zo_getr (a0 + 1) 1 rfl fl_X7_21 h0.1 rfl dX7_weaveIn_91 ?_
      refine zg_iload_n 2 dX7_weaveIn_94 rfl rfl ?_
      refine zg_iload_n 3 dX7_weaveIn_95 rfl rfl ?_
      obtain ⟨M1, hM1, h⟩ := z_bind h
      refine zo_iast h0.2 hM1 dX7_weaveIn_96 ?_
      refine zg_aload_n 0 dX7_weaveIn_97 rfl rfl ?_
      refine zg_dup dX7_weaveIn_98 rfl ?_
      refine zg_geti fl_X7_9 h0.1 rfl dX7_weaveIn_99 ?_
      refine zg_iconst dX7_weaveIn_102 zki_1 ?_
      refine zg_iadd dX7_weaveIn_103 ?_
      refine zg_puti fp_X7_9 h0.1 rfl dX7_weaveIn_104 ?_
      refine zg_goto (tgt := 164) dX7_weaveIn_107 (by decide) ?_
      refine zo_sub (ls' := [(0, .ref a0), (1, .int v1)]) [0, 1] rfl ?_
      exact g7_weaveIn_164 h0 _ _ h
    · replace h := (if_neg hc).symm.trans h
      refine zg_aload_n 0 dX7_weaveIn_68 rfl rfl ?_
      refine zo_getr (a0 + 1) 1 rfl fl_X7_21 h0.1 rfl dX7_weaveIn_69 ?_
      refine zg_iload 4 dX7_weaveIn_72 rfl ?_
      refine zg_aload_n 0 dX7_weaveIn_74 rfl rfl ?_
      refine zo_getr (a0 + 1) 1 rfl fl_X7_21 h0.1 rfl dX7_weaveIn_75 ?_
      refine zg_iload 4 dX7_weaveIn_78 rfl ?_
      refine zg_iconst dX7_weaveIn_80 zki_1 ?_
      refine zg_isub dX7_weaveIn_81 ?_
      obtain ⟨x1, hx1, h⟩ := z_bind h
      refine zo_iald h0.2 hx1 dX7_weaveIn_82 ?_
      obtain ⟨M2, hM2, h⟩ := z_bind h
      refine zo_iast h0.2 hM2 dX7_weaveIn_83 ?_
      refine zg_iinc (ls' := [(0, .ref a0), (1, .int v1), (2, .int v2), (3, .int v3), (4, .int (v4 + (-1 : Int32)))]) 4 dX7_weaveIn_84 rfl zki_m1 (Nat.le_of_ble_eq_true rfl) rfl ?_
      refine zg_goto (tgt := 62) dX7_weaveIn_87 (by decide) ?_
      exact ih _ _ _ _ _ h
set_option maxRecDepth 20000 in
set_option maxHeartbeats 4000000 in
theorem g7_weaveIn_113 {T : List zN} {a0 : Nat} (h0 : zWv T a0) {r1 : Int32} {M1 : zM} : ∀ (n : Nat) (v1 : Int32) (v2 : Int32) (v3 : Int32) (v4 : Int32) (M : zM), f7_weaveIn_113 a0 n v1 v2 v3 v4 M = some (r1, M1) → zJ T RX7 cX7_weaveIn 5 (zBm T 2 (some .int) (some (.int r1)) M1) 0 0 113 [(0, .ref a0), (1, .int v1), (2, .int v2), (3, .int v3), (4, .int v4)] [] M := by
  intro n
  induction n with
  | zero => intro v1 v2 v3 v4 M h; cases h
  | succ n ih =>
    intro v1 v2 v3 v4 M h
    rw [f7_weaveIn_113] at h
    refine zg_iload 4 dX7_weaveIn_113 rfl ?_
    refine zg_aload_n 0 dX7_weaveIn_115 rfl rfl ?_
    refine zg_geti fl_X7_9 h0.1 rfl dX7_weaveIn_116 ?_
    refine zg_icmp_ge (tgt := 154) dX7_weaveIn_119 (by decide) (fun hc => ?_) (fun hc => ?_)
    · replace h := (if_pos hc).symm.trans h
      refine zg_aload_n 0 dX7_weaveIn_154 rfl rfl ?_
      refine zg_dup dX7_weaveIn_155 rfl ?_
      refine zg_geti fl_X7_15 h0.1 rfl dX7_weaveIn_156 ?_
      refine zg_iconst dX7_weaveIn_159 zki_1 ?_
      refine zg_iadd dX7_weaveIn_160 ?_
      refine zg_puti fp_X7_15 h0.1 rfl dX7_weaveIn_161 ?_
      refine zo_sub (ls' := [(0, .ref a0), (1, .int v1)]) [0, 1] rfl ?_
      exact g7_weaveIn_164 h0 _ _ h
    · replace h := (if_neg hc).symm.trans h
      refine zg_aload_n 0 dX7_weaveIn_122 rfl rfl ?_
      refine zo_getr (a0 + 1) 1 rfl fl_X7_21 h0.1 rfl dX7_weaveIn_123 ?_
      refine zg_iload 4 dX7_weaveIn_126 rfl ?_
      refine zg_aload_n 0 dX7_weaveIn_128 rfl rfl ?_
      refine zo_getr (a0 + 1) 1 rfl fl_X7_21 h0.1 rfl dX7_weaveIn_129 ?_
      refine zg_iload 4 dX7_weaveIn_132 rfl ?_
      obtain ⟨x1, hx1, h⟩ := z_bind h
      refine zo_iald h0.2 hx1 dX7_weaveIn_134 ?_
      refine zg_iload_n 2 dX7_weaveIn_135 rfl rfl ?_
      refine zg_iload_n 3 dX7_weaveIn_136 rfl rfl ?_
      refine zg_iload 4 dX7_weaveIn_137 rfl ?_
      refine zg_iushr dX7_weaveIn_139 ?_
      refine zg_iconst dX7_weaveIn_140 zki_1 ?_
      refine zg_iand dX7_weaveIn_141 ?_
      refine zg_iconst dX7_weaveIn_142 zki_1 ?_
      refine zg_ixor dX7_weaveIn_143 ?_
      obtain ⟨x2, hx2, h⟩ := z_bind h
      refine zg_callSN (st := [.int v4, .ref (a0 + 1)]) (host := "SeaCloth") (k_X8_with hx2) zY_X8_with (List.mem_of_getElem? (i := 7) rfl) ss_X8_with rfl (zfit_m (by decide) (by decide)) (Nat.le_of_ble_eq_true rfl) dX7_weaveIn_144 rfl ?_
      obtain ⟨M3, hM3, h⟩ := z_bind h
      refine zo_iast h0.2 hM3 dX7_weaveIn_147 ?_
      refine zg_iinc (ls' := [(0, .ref a0), (1, .int v1), (2, .int v2), (3, .int v3), (4, .int (v4 + (1 : Int32)))]) 4 dX7_weaveIn_148 rfl zki_1 (Nat.le_of_ble_eq_true rfl) rfl ?_
      refine zg_goto (tgt := 113) dX7_weaveIn_151 (by decide) ?_
      exact ih _ _ _ _ _ h
set_option maxRecDepth 20000 in
set_option maxHeartbeats 4000000 in
theorem g7_weaveIn_9 {T : List zN} {a0 : Nat} (h0 : zWv T a0) {r1 : Int32} {M1 : zM} : ∀ (v1 : Int32) (v2 : Int32) (v3 : Int32) (M : zM), f7_weaveIn_9 a0 v1 v2 v3 M = some (r1, M1) → zJ T RX7 cX7_weaveIn 5 (zBm T 2 (some .int) (some (.int r1)) M1) 0 0 9 [(0, .ref a0), (1, .int v1), (2, .int v2), (3, .int v3)] [] M := by
  intro v1 v2 v3 M h
  rw [f7_weaveIn_9] at h
  refine zg_iload_n 2 dX7_weaveIn_9 rfl rfl ?_
  refine zg_if_lt (tgt := 22) dX7_weaveIn_10 (by decide) (fun hc => ?_) (fun hc => ?_)
  · replace h := (if_pos hc).symm.trans h
    refine zg_iconst dX7_weaveIn_22 zki_m1 ?_
    cases h
    exact zg_iret dX7_weaveIn_23
  · replace h := (if_neg hc).symm.trans h
    refine zg_iload_n 2 dX7_weaveIn_13 rfl rfl ?_
    refine zg_aload_n 0 dX7_weaveIn_14 rfl rfl ?_
    refine zg_iload_n 1 dX7_weaveIn_15 rfl rfl ?_
    obtain ⟨x1, hx1, h⟩ := z_bind h
    refine zg_callV (st := [.int v2]) (k_X7_sizeOf h0 hx1) zY_X7_sizeOf lv_X7_29 rfl h0.1 rfl (zfit_m (by decide) (by decide)) (Nat.le_of_ble_eq_true rfl) dX7_weaveIn_16 rfl ?_
    refine zg_icmp_le (tgt := 24) dX7_weaveIn_19 (by decide) (fun hc => ?_) (fun hc => ?_)
    · replace h := (if_pos hc).symm.trans h
      refine zg_iload_n 3 dX7_weaveIn_24 rfl rfl ?_
      refine zg_if_lt (tgt := 37) dX7_weaveIn_25 (by decide) (fun hc => ?_) (fun hc => ?_)
      · replace h := (if_pos hc).symm.trans h
        refine zg_iconst dX7_weaveIn_37 zki_m1 ?_
        cases h
        exact zg_iret dX7_weaveIn_38
      · replace h := (if_neg hc).symm.trans h
        refine zg_iload_n 3 dX7_weaveIn_28 rfl rfl ?_
        refine zg_aload_n 0 dX7_weaveIn_29 rfl rfl ?_
        refine zg_iload_n 1 dX7_weaveIn_30 rfl rfl ?_
        obtain ⟨x2, hx2, h⟩ := z_bind h
        refine zg_callV (st := [.int v3]) (k_X7_fullOf h0 hx2) zY_X7_fullOf lv_X7_25 rfl h0.1 rfl (zfit_m (by decide) (by decide)) (Nat.le_of_ble_eq_true rfl) dX7_weaveIn_31 rfl ?_
        refine zg_icmp_le (tgt := 39) dX7_weaveIn_34 (by decide) (fun hc => ?_) (fun hc => ?_)
        · replace h := (if_pos hc).symm.trans h
          refine zg_aload_n 0 dX7_weaveIn_39 rfl rfl ?_
          refine zg_iload_n 1 dX7_weaveIn_40 rfl rfl ?_
          obtain ⟨x3, hx3, h⟩ := z_bind h
          refine zg_callV (st := []) (k_X7_sizeOf h0 hx3) zY_X7_sizeOf lv_X7_29 rfl h0.1 rfl (zfit_m (by decide) (by decide)) (Nat.le_of_ble_eq_true rfl) dX7_weaveIn_41 rfl ?_
          refine zg_bipush dX7_weaveIn_44 zkb_6 ?_
          refine zg_icmp_lt (tgt := 52) dX7_weaveIn_46 (by decide) (fun hc => ?_) (fun hc => ?_)
          · replace h := (if_pos hc).symm.trans h
            refine zg_iload_n 1 dX7_weaveIn_52 rfl rfl ?_
            refine zg_if_ne (tgt := 110) dX7_weaveIn_53 (by decide) (fun hc => ?_) (fun hc => ?_)
            · replace h := (if_neg hc).symm.trans h
              refine zg_iconst dX7_weaveIn_110 zki_0 ?_
              refine zg_istore (ls' := [(0, .ref a0), (1, .int v1), (2, .int v2), (3, .int v3), (4, .int (0 : Int32))]) dX7_weaveIn_111 (Nat.le_of_ble_eq_true rfl) rfl ?_
              exact g7_weaveIn_113 h0 zfuel _ _ _ _ _ h
            · replace h := (if_pos hc).symm.trans h
              refine zg_aload_n 0 dX7_weaveIn_56 rfl rfl ?_
              refine zg_geti fl_X7_9 h0.1 rfl dX7_weaveIn_57 ?_
              refine zg_istore (ls' := [(0, .ref a0), (1, .int v1), (2, .int v2), (3, .int v3), (4, .int (M.1 a0 0))]) dX7_weaveIn_60 (Nat.le_of_ble_eq_true rfl) rfl ?_
              exact g7_weaveIn_62 h0 zfuel _ _ _ _ _ h
          · replace h := (if_neg hc).symm.trans h
            refine zg_bipush dX7_weaveIn_49 zkb_m2 ?_
            cases h
            exact zg_iret dX7_weaveIn_51
        · replace h := (if_neg hc).symm.trans h
          refine zg_iconst dX7_weaveIn_37 zki_m1 ?_
          cases h
          exact zg_iret dX7_weaveIn_38
    · replace h := (if_neg hc).symm.trans h
      refine zg_iconst dX7_weaveIn_22 zki_m1 ?_
      cases h
      exact zg_iret dX7_weaveIn_23
set_option maxRecDepth 20000 in
set_option maxHeartbeats 4000000 in
theorem k_X7_weaveIn {T : List zN} {a0 : Nat} (h0 : zWv T a0) {v1 : Int32} {v2 : Int32} {v3 : Int32} {M : zM} {r1 : Int32} {M1 : zM} (h : f7_weaveIn a0 v1 v2 v3 M = some (r1, M1)) : zK T yX7_weaveIn cX7_weaveIn 5 (some .int) 2 [.ref a0, .int v1, .int v2, .int v3] M (some (.int r1)) M1 := by
  refine zK_of pl_X7 (Nat.le_of_ble_eq_true rfl) ?_
  show zJ T RX7 cX7_weaveIn 5 _ 0 0 0 [(0, .ref a0), (1, .int v1), (2, .int v2), (3, .int v3)] [] M
  rw [f7_weaveIn] at h
  refine zg_iload_n 1 dX7_weaveIn_0 rfl rfl ?_
  refine zg_if_eq (tgt := 9) dX7_weaveIn_1 (by decide) (fun hc => ?_) (fun hc => ?_)
  · replace h := (if_pos hc).symm.trans h
    exact g7_weaveIn_9 h0 _ _ _ _ h
  · replace h := (if_neg hc).symm.trans h
    refine zg_iload_n 1 dX7_weaveIn_4 rfl rfl ?_
    refine zg_iconst dX7_weaveIn_5 zki_1 ?_
    refine zg_icmp_ne (tgt := 22) dX7_weaveIn_6 (by decide) (fun hc => ?_) (fun hc => ?_)
    · replace h := (if_neg hc).symm.trans h
      refine zg_iconst dX7_weaveIn_22 zki_m1 ?_
      cases h
      exact zg_iret dX7_weaveIn_23
    · replace h := (if_pos hc).symm.trans h
      exact g7_weaveIn_9 h0 _ _ _ _ h
set_option maxRecDepth 20000 in
set_option maxHeartbeats 4000000 in
theorem g7_drawOut_137 {T : List zN} {a0 : Nat} (h0 : zWv T a0) {r1 : Int32} {M1 : zM} : ∀ (v3 : Int32) (M : zM), f7_drawOut_137 a0 v3 M = some (r1, M1) → zJ T RX7 cX7_drawOut 5 (zBm T 3 (some .int) (some (.int r1)) M1) 0 0 137 [(0, .ref a0), (3, .int v3)] [] M := by
  intro v3 M h
  rw [f7_drawOut_137] at h
  refine zg_aload_n 0 dX7_drawOut_137 rfl rfl ?_
  obtain ⟨M1, hM1, h⟩ := z_bind h
  refine zg_callV (st := []) (k_X7_settle h0 hM1) zY_X7_settle lv_X7_66 rfl h0.1 rfl (zfit_m (by decide) (by decide)) (Nat.le_of_ble_eq_true rfl) dX7_drawOut_138 rfl ?_
  refine zg_iload_n 1 dX7_drawOut_141 rfl rfl ?_
  cases h
  exact zg_iret dX7_drawOut_142
set_option maxRecDepth 20000 in
set_option maxHeartbeats 4000000 in
theorem g7_drawOut_47 {T : List zN} {a0 : Nat} (h0 : zWv T a0) {r1 : Int32} {M1 : zM} : ∀ (n : Nat) (v3 : Int32) (v4 : Int32) (M : zM), f7_drawOut_47 a0 n v3 v4 M = some (r1, M1) → zJ T RX7 cX7_drawOut 5 (zBm T 3 (some .int) (some (.int r1)) M1) 0 0 47 [(0, .ref a0), (3, .int v3), (4, .int v4)] [] M := by
  intro n
  induction n with
  | zero => intro v3 v4 M h; cases h
  | succ n ih =>
    intro v3 v4 M h
    rw [f7_drawOut_47] at h
    refine zg_iload 2 dX7_drawOut_47 rfl ?_
    refine zg_aload_n 0 dX7_drawOut_49 rfl rfl ?_
    refine zg_geti fl_X7_9 h0.1 rfl dX7_drawOut_50 ?_
    refine zg_icmp_ge (tgt := 78) dX7_drawOut_53 (by decide) (fun hc => ?_) (fun hc => ?_)
    · replace h := (if_pos hc).symm.trans h
      refine zg_aload_n 0 dX7_drawOut_78 rfl rfl ?_
      refine zo_getr (a0 + 1) 1 rfl fl_X7_21 h0.1 rfl dX7_drawOut_79 ?_
      refine zg_aload_n 0 dX7_drawOut_82 rfl rfl ?_
      refine zg_geti fl_X7_9 h0.1 rfl dX7_drawOut_83 ?_
      refine zg_iconst dX7_drawOut_86 zki_0 ?_
      obtain ⟨M1, hM1, h⟩ := z_bind h
      refine zo_iast h0.2 hM1 dX7_drawOut_87 ?_
      refine zg_goto (tgt := 137) dX7_drawOut_88 (by decide) ?_
      refine zo_sub (ls' := [(0, .ref a0), (3, .int v3)]) [0, 1] rfl ?_
      exact g7_drawOut_137 h0 _ _ h
    · replace h := (if_neg hc).symm.trans h
      refine zg_aload_n 0 dX7_drawOut_56 rfl rfl ?_
      refine zo_getr (a0 + 1) 1 rfl fl_X7_21 h0.1 rfl dX7_drawOut_57 ?_
      refine zg_iload 2 dX7_drawOut_60 rfl ?_
      refine zg_aload_n 0 dX7_drawOut_62 rfl rfl ?_
      refine zo_getr (a0 + 1) 1 rfl fl_X7_21 h0.1 rfl dX7_drawOut_63 ?_
      refine zg_iload 2 dX7_drawOut_66 rfl ?_
      refine zg_iconst dX7_drawOut_68 zki_1 ?_
      refine zg_iadd dX7_drawOut_69 ?_
      obtain ⟨x1, hx1, h⟩ := z_bind h
      refine zo_iald h0.2 hx1 dX7_drawOut_70 ?_
      obtain ⟨M2, hM2, h⟩ := z_bind h
      refine zo_iast h0.2 hM2 dX7_drawOut_71 ?_
      refine zg_iinc (ls' := [(0, .ref a0), (3, .int v3), (4, .int (v4 + (1 : Int32)))]) 2 dX7_drawOut_72 rfl zki_1 (Nat.le_of_ble_eq_true rfl) rfl ?_
      refine zg_goto (tgt := 47) dX7_drawOut_75 (by decide) ?_
      exact ih _ _ _ h
set_option maxRecDepth 20000 in
set_option maxHeartbeats 4000000 in
theorem g7_drawOut_104 {T : List zN} {a0 : Nat} (h0 : zWv T a0) {r1 : Int32} {M1 : zM} : ∀ (n : Nat) (v2 : Int32) (v3 : Int32) (v4 : Int32) (M : zM), f7_drawOut_104 a0 n v2 v3 v4 M = some (r1, M1) → zJ T RX7 cX7_drawOut 5 (zBm T 3 (some .int) (some (.int r1)) M1) 0 0 104 [(0, .ref a0), (2, .int v2), (3, .int v3), (4, .int v4)] [] M := by
  intro n
  induction n with
  | zero => intro v2 v3 v4 M h; cases h
  | succ n ih =>
    intro v2 v3 v4 M h
    rw [f7_drawOut_104] at h
    refine zg_iload 3 dX7_drawOut_104 rfl ?_
    refine zg_aload_n 0 dX7_drawOut_106 rfl rfl ?_
    refine zg_geti fl_X7_9 h0.1 rfl dX7_drawOut_107 ?_
    refine zg_icmp_ge (tgt := 137) dX7_drawOut_110 (by decide) (fun hc => ?_) (fun hc => ?_)
    · replace h := (if_pos hc).symm.trans h
      refine zo_sub (ls' := [(0, .ref a0), (3, .int v3)]) [0, 2] rfl ?_
      exact g7_drawOut_137 h0 _ _ h
    · replace h := (if_neg hc).symm.trans h
      refine zg_aload_n 0 dX7_drawOut_113 rfl rfl ?_
      refine zo_getr (a0 + 1) 1 rfl fl_X7_21 h0.1 rfl dX7_drawOut_114 ?_
      refine zg_iload 3 dX7_drawOut_117 rfl ?_
      refine zg_aload_n 0 dX7_drawOut_119 rfl rfl ?_
      refine zo_getr (a0 + 1) 1 rfl fl_X7_21 h0.1 rfl dX7_drawOut_120 ?_
      refine zg_iload 3 dX7_drawOut_123 rfl ?_
      obtain ⟨x1, hx1, h⟩ := z_bind h
      refine zo_iald h0.2 hx1 dX7_drawOut_125 ?_
      refine zg_iload_n 1 dX7_drawOut_126 rfl rfl ?_
      obtain ⟨x2, hx2, h⟩ := z_bind h
      refine zg_callSN (st := [.int v4, .ref (a0 + 1)]) (host := "SeaCloth") (k_X8_without hx2) zY_X8_without (List.mem_of_getElem? (i := 6) rfl) ss_X8_without rfl (zfit_m (by decide) (by decide)) (Nat.le_of_ble_eq_true rfl) dX7_drawOut_127 rfl ?_
      obtain ⟨M3, hM3, h⟩ := z_bind h
      refine zo_iast h0.2 hM3 dX7_drawOut_130 ?_
      refine zg_iinc (ls' := [(0, .ref a0), (2, .int v2), (3, .int v3), (4, .int (v4 + (1 : Int32)))]) 3 dX7_drawOut_131 rfl zki_1 (Nat.le_of_ble_eq_true rfl) rfl ?_
      refine zg_goto (tgt := 104) dX7_drawOut_134 (by decide) ?_
      exact ih _ _ _ _ h
set_option maxRecDepth 20000 in
set_option maxHeartbeats 4000000 in
theorem k_X7_drawOut {T : List zN} {a0 : Nat} (h0 : zWv T a0) {v1 : Int32} {v2 : Int32} {M : zM} {r1 : Int32} {M1 : zM} (h : f7_drawOut a0 v1 v2 M = some (r1, M1)) : zK T yX7_drawOut cX7_drawOut 5 (some .int) 3 [.ref a0, .int v1, .int v2] M (some (.int r1)) M1 := by
  refine zK_of pl_X7 (Nat.le_of_ble_eq_true rfl) ?_
  show zJ T RX7 cX7_drawOut 5 _ 0 0 0 [(0, .ref a0), (1, .int v1), (2, .int v2)] [] M
  rw [f7_drawOut] at h
  refine zg_aload_n 0 dX7_drawOut_0 rfl rfl ?_
  refine zg_iload_n 1 dX7_drawOut_1 rfl rfl ?_
  refine zg_iload_n 2 dX7_drawOut_2 rfl rfl ?_
  obtain ⟨x1, hx1, h⟩ := z_bind h
  refine zg_callV (st := []) (k_X7_has h0 hx1) zY_X7_has lv_X7_32 rfl h0.1 rfl (zfit_m (by decide) (by decide)) (Nat.le_of_ble_eq_true rfl) dX7_drawOut_3 rfl ?_
  refine zg_if_ne (tgt := 11) dX7_drawOut_6 (by decide) (fun hc => ?_) (fun hc => ?_)
  · replace h := (if_neg hc).symm.trans h
    refine zg_aload_n 0 dX7_drawOut_11 rfl rfl ?_
    refine zg_iload_n 1 dX7_drawOut_12 rfl rfl ?_
    obtain ⟨x2, hx2, h⟩ := z_bind h
    refine zg_callV (st := []) (k_X7_sizeOf h0 hx2) zY_X7_sizeOf lv_X7_29 rfl h0.1 rfl (zfit_m (by decide) (by decide)) (Nat.le_of_ble_eq_true rfl) dX7_drawOut_13 rfl ?_
    refine zg_iconst dX7_drawOut_16 zki_1 ?_
    refine zg_icmp_ne (tgt := 23) dX7_drawOut_17 (by decide) (fun hc => ?_) (fun hc => ?_)
    · replace h := (if_neg hc).symm.trans h
      refine zg_aload_n 0 dX7_drawOut_23 rfl rfl ?_
      refine zg_iload_n 1 dX7_drawOut_24 rfl rfl ?_
      refine zg_iload_n 2 dX7_drawOut_25 rfl rfl ?_
      obtain ⟨x3, hx3, h⟩ := z_bind h
      refine zg_callV (st := []) (k_X7_cellsOf h0 hx3) zY_X7_cellsOf lv_X7_44 rfl h0.1 rfl (zfit_m (by decide) (by decide)) (Nat.le_of_ble_eq_true rfl) dX7_drawOut_26 rfl ?_
      refine zg_istore_n (ls' := [(0, .ref a0), (1, .int v1), (2, .int v2), (3, .int x3)]) dX7_drawOut_29 rfl (Nat.le_of_ble_eq_true rfl) rfl ?_
      refine zg_iload_n 1 dX7_drawOut_30 rfl rfl ?_
      refine zg_if_ne (tgt := 91) dX7_drawOut_31 (by decide) (fun hc => ?_) (fun hc => ?_)
      · replace h := (if_neg hc).symm.trans h
        refine zg_aload_n 0 dX7_drawOut_91 rfl rfl ?_
        refine zg_dup dX7_drawOut_92 rfl ?_
        refine zg_geti fl_X7_15 h0.1 rfl dX7_drawOut_93 ?_
        refine zg_iconst dX7_drawOut_96 zki_1 ?_
        refine zg_isub dX7_drawOut_97 ?_
        refine zg_puti fp_X7_15 h0.1 rfl dX7_drawOut_98 ?_
        refine zg_iconst dX7_drawOut_101 zki_0 ?_
        refine zg_istore (ls' := [(0, .ref a0), (1, .int v1), (2, .int v2), (3, .int x3), (4, .int (0 : Int32))]) dX7_drawOut_102 (Nat.le_of_ble_eq_true rfl) rfl ?_
        refine zo_sub (ls' := [(0, .ref a0), (2, .int v2), (3, .int x3), (4, .int (0 : Int32))]) [0, 2, 3, 4] rfl ?_
        exact g7_drawOut_104 h0 zfuel _ _ _ _ h
      · replace h := (if_pos hc).symm.trans h
        refine zg_aload_n 0 dX7_drawOut_34 rfl rfl ?_
        refine zg_dup dX7_drawOut_35 rfl ?_
        refine zg_geti fl_X7_9 h0.1 rfl dX7_drawOut_36 ?_
        refine zg_iconst dX7_drawOut_39 zki_1 ?_
        refine zg_isub dX7_drawOut_40 ?_
        refine zg_puti fp_X7_9 h0.1 rfl dX7_drawOut_41 ?_
        refine zg_iload_n 2 dX7_drawOut_44 rfl rfl ?_
        refine zg_istore (ls' := [(0, .ref a0), (1, .int v1), (2, .int v2), (3, .int x3), (4, .int v2)]) dX7_drawOut_45 (Nat.le_of_ble_eq_true rfl) rfl ?_
        refine zo_sub (ls' := [(0, .ref a0), (3, .int x3), (4, .int v2)]) [0, 3, 4] rfl ?_
        exact g7_drawOut_47 h0 zfuel _ _ _ h
    · replace h := (if_pos hc).symm.trans h
      refine zg_bipush dX7_drawOut_20 zkb_m2 ?_
      cases h
      exact zg_iret dX7_drawOut_22
  · replace h := (if_pos hc).symm.trans h
    refine zg_iconst dX7_drawOut_9 zki_m1 ?_
    cases h
    exact zg_iret dX7_drawOut_10
set_option maxRecDepth 20000 in
set_option maxHeartbeats 4000000 in
theorem g7_turnRound_163 {T : List zN} {a0 : Nat} (h0 : zWv T a0) {r1 : Int32} {M1 : zM} : ∀ (v3 : Int32) (M : zM), f7_turnRound_163 a0 v3 M = some (r1, M1) → zJ T RX7 cX7_turnRound 6 (zBm T 2 (some .int) (some (.int r1)) M1) 0 0 163 [(0, .ref a0), (3, .int v3)] [] M := by
  intro v3 M h
  rw [f7_turnRound_163] at h
  refine zg_aload_n 0 dX7_turnRound_163 rfl rfl ?_
  obtain ⟨M1, hM1, h⟩ := z_bind h
  refine zg_callV (st := []) (k_X7_settle h0 hM1) zY_X7_settle lv_X7_66 rfl h0.1 rfl (zfit_m (by decide) (by decide)) (Nat.le_of_ble_eq_true rfl) dX7_turnRound_164 rfl ?_
  refine zg_iload_n 1 dX7_turnRound_167 rfl rfl ?_
  cases h
  exact zg_iret dX7_turnRound_168
set_option maxRecDepth 20000 in
set_option maxHeartbeats 4000000 in
theorem g7_turnRound_70 {T : List zN} {a0 : Nat} (h0 : zWv T a0) {r1 : Int32} {M1 : zM} : ∀ (n : Nat) (v2 : Int32) (v3 : Int32) (v4 : Int32) (M : zM), f7_turnRound_70 a0 n v2 v3 v4 M = some (r1, M1) → zJ T RX7 cX7_turnRound 6 (zBm T 2 (some .int) (some (.int r1)) M1) 0 0 70 [(0, .ref a0), (2, .int v2), (3, .int v3), (4, .int v4)] [] M := by
  intro n
  induction n with
  | zero => intro v2 v3 v4 M h; cases h
  | succ n ih =>
    intro v2 v3 v4 M h
    rw [f7_turnRound_70] at h
    refine zg_iload 3 dX7_turnRound_70 rfl ?_
    refine zg_iload_n 1 dX7_turnRound_72 rfl rfl ?_
    refine zg_iconst dX7_turnRound_73 zki_2 ?_
    refine zg_idiv (by decide) dX7_turnRound_74 ?_
    refine zg_icmp_ge (tgt := 124) dX7_turnRound_75 (by decide) (fun hc => ?_) (fun hc => ?_)
    · replace h := (if_pos hc).symm.trans h
      refine zg_goto (tgt := 163) dX7_turnRound_124 (by decide) ?_
      refine zo_sub (ls' := [(0, .ref a0), (3, .int v3)]) [0, 2] rfl ?_
      exact g7_turnRound_163 h0 _ _ h
    · replace h := (if_neg hc).symm.trans h
      refine zg_aload_n 0 dX7_turnRound_78 rfl rfl ?_
      refine zo_getr (a0 + 1) 1 rfl fl_X7_21 h0.1 rfl dX7_turnRound_79 ?_
      refine zg_iload 3 dX7_turnRound_82 rfl ?_
      obtain ⟨x1, hx1, h⟩ := z_bind h
      refine zo_iald h0.2 hx1 dX7_turnRound_84 ?_
      refine zg_istore (ls' := [(0, .ref a0), (2, .int v2), (3, .int v3), (4, .int v4), (5, .int x1)]) dX7_turnRound_85 (Nat.le_of_ble_eq_true rfl) rfl ?_
      refine zg_aload_n 0 dX7_turnRound_87 rfl rfl ?_
      refine zo_getr (a0 + 1) 1 rfl fl_X7_21 h0.1 rfl dX7_turnRound_88 ?_
      refine zg_iload 3 dX7_turnRound_91 rfl ?_
      refine zg_aload_n 0 dX7_turnRound_93 rfl rfl ?_
      refine zo_getr (a0 + 1) 1 rfl fl_X7_21 h0.1 rfl dX7_turnRound_94 ?_
      refine zg_iload_n 1 dX7_turnRound_97 rfl rfl ?_
      refine zg_iconst dX7_turnRound_98 zki_1 ?_
      refine zg_isub dX7_turnRound_99 ?_
      refine zg_iload 3 dX7_turnRound_100 rfl ?_
      refine zg_isub dX7_turnRound_102 ?_
      obtain ⟨x2, hx2, h⟩ := z_bind h
      refine zo_iald h0.2 hx2 dX7_turnRound_103 ?_
      obtain ⟨M3, hM3, h⟩ := z_bind h
      refine zo_iast h0.2 hM3 dX7_turnRound_104 ?_
      refine zg_aload_n 0 dX7_turnRound_105 rfl rfl ?_
      refine zo_getr (a0 + 1) 1 rfl fl_X7_21 h0.1 rfl dX7_turnRound_106 ?_
      refine zg_iload_n 1 dX7_turnRound_109 rfl rfl ?_
      refine zg_iconst dX7_turnRound_110 zki_1 ?_
      refine zg_isub dX7_turnRound_111 ?_
      refine zg_iload 3 dX7_turnRound_112 rfl ?_
      refine zg_isub dX7_turnRound_114 ?_
      refine zg_iload 4 dX7_turnRound_115 rfl ?_
      obtain ⟨M4, hM4, h⟩ := z_bind h
      refine zo_iast h0.2 hM4 dX7_turnRound_117 ?_
      refine zg_iinc (ls' := [(0, .ref a0), (2, .int v2), (3, .int v3), (4, .int (v4 + (1 : Int32))), (5, .int x1)]) 3 dX7_turnRound_118 rfl zki_1 (Nat.le_of_ble_eq_true rfl) rfl ?_
      refine zg_goto (tgt := 70) dX7_turnRound_121 (by decide) ?_
      refine zo_sub (ls' := [(0, .ref a0), (2, .int v2), (3, .int v3), (4, .int (v4 + (1 : Int32)))]) [0, 1, 2, 3] rfl ?_
      exact ih _ _ _ _ h
set_option maxRecDepth 20000 in
set_option maxHeartbeats 4000000 in
theorem g7_turnRound_130 {T : List zN} {a0 : Nat} (h0 : zWv T a0) {r1 : Int32} {M1 : zM} : ∀ (n : Nat) (v3 : Int32) (v4 : Int32) (M : zM), f7_turnRound_130 a0 n v3 v4 M = some (r1, M1) → zJ T RX7 cX7_turnRound 6 (zBm T 2 (some .int) (some (.int r1)) M1) 0 0 130 [(0, .ref a0), (3, .int v3), (4, .int v4)] [] M := by
  intro n
  induction n with
  | zero => intro v3 v4 M h; cases h
  | succ n ih =>
    intro v3 v4 M h
    rw [f7_turnRound_130] at h
    refine zg_iload 2 dX7_turnRound_130 rfl ?_
    refine zg_aload_n 0 dX7_turnRound_132 rfl rfl ?_
    refine zg_geti fl_X7_9 h0.1 rfl dX7_turnRound_133 ?_
    refine zg_icmp_ge (tgt := 163) dX7_turnRound_136 (by decide) (fun hc => ?_) (fun hc => ?_)
    · replace h := (if_pos hc).symm.trans h
      refine zo_sub (ls' := [(0, .ref a0), (3, .int v3)]) [0, 1] rfl ?_
      exact g7_turnRound_163 h0 _ _ h
    · replace h := (if_neg hc).symm.trans h
      refine zg_aload_n 0 dX7_turnRound_139 rfl rfl ?_
      refine zo_getr (a0 + 1) 1 rfl fl_X7_21 h0.1 rfl dX7_turnRound_140 ?_
      refine zg_iload 2 dX7_turnRound_143 rfl ?_
      refine zg_aload_n 0 dX7_turnRound_145 rfl rfl ?_
      refine zg_aload_n 0 dX7_turnRound_146 rfl rfl ?_
      refine zo_getr (a0 + 1) 1 rfl fl_X7_21 h0.1 rfl dX7_turnRound_147 ?_
      refine zg_iload 2 dX7_turnRound_150 rfl ?_
      obtain ⟨x1, hx1, h⟩ := z_bind h
      refine zo_iald h0.2 hx1 dX7_turnRound_152 ?_
      obtain ⟨x2, hx2, h⟩ := z_bind h
      refine zg_callV (st := [.int v4, .ref (a0 + 1)]) (k_X7_turnedRound h0 hx2) zY_X7_turnedRound lv_X7_97 rfl h0.1 rfl (zfit_m (by decide) (by decide)) (Nat.le_of_ble_eq_true rfl) dX7_turnRound_153 rfl ?_
      obtain ⟨M3, hM3, h⟩ := z_bind h
      refine zo_iast h0.2 hM3 dX7_turnRound_156 ?_
      refine zg_iinc (ls' := [(0, .ref a0), (3, .int v3), (4, .int (v4 + (1 : Int32)))]) 2 dX7_turnRound_157 rfl zki_1 (Nat.le_of_ble_eq_true rfl) rfl ?_
      refine zg_goto (tgt := 130) dX7_turnRound_160 (by decide) ?_
      exact ih _ _ _ h
set_option maxRecDepth 20000 in
set_option maxHeartbeats 4000000 in
theorem g7_turnRound_22 {T : List zN} {a0 : Nat} (h0 : zWv T a0) {r1 : Int32} {M1 : zM} : ∀ (n : Nat) (v1 : Int32) (v2 : Int32) (v3 : Int32) (v4 : Int32) (M : zM), f7_turnRound_22 a0 n v1 v2 v3 v4 M = some (r1, M1) → zJ T RX7 cX7_turnRound 6 (zBm T 2 (some .int) (some (.int r1)) M1) 0 0 22 [(0, .ref a0), (1, .int v1), (2, .int v2), (3, .int v3), (4, .int v4)] [] M := by
  intro n
  induction n with
  | zero => intro v1 v2 v3 v4 M h; cases h
  | succ n ih =>
    intro v1 v2 v3 v4 M h
    rw [f7_turnRound_22] at h
    refine zg_iload 4 dX7_turnRound_22 rfl ?_
    refine zg_iload_n 2 dX7_turnRound_24 rfl rfl ?_
    refine zg_icmp_ge (tgt := 63) dX7_turnRound_25 (by decide) (fun hc => ?_) (fun hc => ?_)
    · replace h := (if_pos hc).symm.trans h
      refine zg_iload_n 1 dX7_turnRound_63 rfl rfl ?_
      refine zg_if_ne (tgt := 127) dX7_turnRound_64 (by decide) (fun hc => ?_) (fun hc => ?_)
      · replace h := (if_neg hc).symm.trans h
        refine zg_iconst dX7_turnRound_127 zki_0 ?_
        refine zg_istore (ls' := [(0, .ref a0), (1, .int v1), (2, .int v2), (3, .int v3), (4, .int (0 : Int32))]) dX7_turnRound_128 (Nat.le_of_ble_eq_true rfl) rfl ?_
        refine zo_sub (ls' := [(0, .ref a0), (3, .int v3), (4, .int (0 : Int32))]) [0, 3, 4] rfl ?_
        exact g7_turnRound_130 h0 zfuel _ _ _ h
      · replace h := (if_pos hc).symm.trans h
        refine zg_iconst dX7_turnRound_67 zki_0 ?_
        refine zg_istore (ls' := [(0, .ref a0), (1, .int v1), (2, .int v2), (3, .int v3), (4, .int (0 : Int32))]) dX7_turnRound_68 (Nat.le_of_ble_eq_true rfl) rfl ?_
        refine zo_sub (ls' := [(0, .ref a0), (2, .int v2), (3, .int v3), (4, .int (0 : Int32))]) [0, 2, 3, 4] rfl ?_
        exact g7_turnRound_70 h0 zfuel _ _ _ _ h
    · replace h := (if_neg hc).symm.trans h
      refine zg_iload_n 3 dX7_turnRound_28 rfl rfl ?_
      refine zg_aload_n 0 dX7_turnRound_29 rfl rfl ?_
      refine zg_iload_n 1 dX7_turnRound_30 rfl rfl ?_
      refine zg_iload 4 dX7_turnRound_31 rfl ?_
      obtain ⟨x1, hx1, h⟩ := z_bind h
      refine zg_callV (st := [.int v3]) (k_X7_cellsOf h0 hx1) zY_X7_cellsOf lv_X7_44 rfl h0.1 rfl (zfit_m (by decide) (by decide)) (Nat.le_of_ble_eq_true rfl) dX7_turnRound_33 rfl ?_
      refine zg_aload_n 0 dX7_turnRound_36 rfl rfl ?_
      refine zg_iload_n 1 dX7_turnRound_37 rfl rfl ?_
      refine zg_iload_n 2 dX7_turnRound_38 rfl rfl ?_
      refine zg_iconst dX7_turnRound_39 zki_1 ?_
      refine zg_isub dX7_turnRound_40 ?_
      refine zg_iload 4 dX7_turnRound_41 rfl ?_
      refine zg_isub dX7_turnRound_43 ?_
      obtain ⟨x2, hx2, h⟩ := z_bind h
      refine zg_callV (st := [.int x1, .int v3]) (k_X7_cellsOf h0 hx2) zY_X7_cellsOf lv_X7_44 rfl h0.1 rfl (zfit_m (by decide) (by decide)) (Nat.le_of_ble_eq_true rfl) dX7_turnRound_44 rfl ?_
      suffices hj : zJ T RX7 cX7_turnRound 6 (zBm T 2 (some .int) (some (.int r1)) M1) 0 0 55 [(0, .ref a0), (1, .int v1), (2, .int v2), (3, .int v3), (4, .int v4)] [.int (if x1 = x2 then (0 : Int32) else (1 : Int32)), .int v3] M by
        refine zg_icmp_ne (tgt := 54) dX7_turnRound_47 (by decide) (fun hc => ?_) (fun hc => ?_)
        · rw [if_neg hc] at hj
          refine zg_iconst dX7_turnRound_54 zki_1 ?_
          exact hj
        · rw [if_pos hc] at hj
          refine zg_iconst dX7_turnRound_50 zki_0 ?_
          refine zg_goto (tgt := 55) dX7_turnRound_51 (by decide) ?_
          exact hj
      refine zg_iadd dX7_turnRound_55 ?_
      refine zg_istore_n (ls' := [(0, .ref a0), (1, .int v1), (2, .int v2), (3, .int (v3 + (if x1 = x2 then (0 : Int32) else (1 : Int32)))), (4, .int v4)]) dX7_turnRound_56 rfl (Nat.le_of_ble_eq_true rfl) rfl ?_
      refine zg_iinc (ls' := [(0, .ref a0), (1, .int v1), (2, .int v2), (3, .int (v3 + (if x1 = x2 then (0 : Int32) else (1 : Int32)))), (4, .int (v4 + (1 : Int32)))]) 4 dX7_turnRound_57 rfl zki_1 (Nat.le_of_ble_eq_true rfl) rfl ?_
      refine zg_goto (tgt := 22) dX7_turnRound_60 (by decide) ?_
      exact ih _ _ _ _ _ h
set_option maxRecDepth 20000 in
set_option maxHeartbeats 4000000 in
theorem g7_turnRound_11 {T : List zN} {a0 : Nat} (h0 : zWv T a0) {r1 : Int32} {M1 : zM} : ∀ (v1 : Int32) (M : zM), f7_turnRound_11 a0 v1 M = some (r1, M1) → zJ T RX7 cX7_turnRound 6 (zBm T 2 (some .int) (some (.int r1)) M1) 0 0 11 [(0, .ref a0), (1, .int v1)] [] M := by
  intro v1 M h
  rw [f7_turnRound_11] at h
  refine zg_aload_n 0 dX7_turnRound_11 rfl rfl ?_
  refine zg_iload_n 1 dX7_turnRound_12 rfl rfl ?_
  obtain ⟨x1, hx1, h⟩ := z_bind h
  refine zg_callV (st := []) (k_X7_sizeOf h0 hx1) zY_X7_sizeOf lv_X7_29 rfl h0.1 rfl (zfit_m (by decide) (by decide)) (Nat.le_of_ble_eq_true rfl) dX7_turnRound_13 rfl ?_
  refine zg_istore_n (ls' := [(0, .ref a0), (1, .int v1), (2, .int x1)]) dX7_turnRound_16 rfl (Nat.le_of_ble_eq_true rfl) rfl ?_
  refine zg_iconst dX7_turnRound_17 zki_0 ?_
  refine zg_istore_n (ls' := [(0, .ref a0), (1, .int v1), (2, .int x1), (3, .int (0 : Int32))]) dX7_turnRound_18 rfl (Nat.le_of_ble_eq_true rfl) rfl ?_
  refine zg_iconst dX7_turnRound_19 zki_0 ?_
  refine zg_istore (ls' := [(0, .ref a0), (1, .int v1), (2, .int x1), (3, .int (0 : Int32)), (4, .int (0 : Int32))]) dX7_turnRound_20 (Nat.le_of_ble_eq_true rfl) rfl ?_
  exact g7_turnRound_22 h0 zfuel _ _ _ _ _ h
set_option maxRecDepth 20000 in
set_option maxHeartbeats 4000000 in
theorem k_X7_turnRound {T : List zN} {a0 : Nat} (h0 : zWv T a0) {v1 : Int32} {M : zM} {r1 : Int32} {M1 : zM} (h : f7_turnRound a0 v1 M = some (r1, M1)) : zK T yX7_turnRound cX7_turnRound 6 (some .int) 2 [.ref a0, .int v1] M (some (.int r1)) M1 := by
  refine zK_of pl_X7 (Nat.le_of_ble_eq_true rfl) ?_
  show zJ T RX7 cX7_turnRound 6 _ 0 0 0 [(0, .ref a0), (1, .int v1)] [] M
  rw [f7_turnRound] at h
  refine zg_iload_n 1 dX7_turnRound_0 rfl rfl ?_
  refine zg_if_eq (tgt := 11) dX7_turnRound_1 (by decide) (fun hc => ?_) (fun hc => ?_)
  · replace h := (if_pos hc).symm.trans h
    exact g7_turnRound_11 h0 _ _ h
  · replace h := (if_neg hc).symm.trans h
    refine zg_iload_n 1 dX7_turnRound_4 rfl rfl ?_
    refine zg_iconst dX7_turnRound_5 zki_1 ?_
    refine zg_icmp_eq (tgt := 11) dX7_turnRound_6 (by decide) (fun hc => ?_) (fun hc => ?_)
    · replace h := (if_pos hc).symm.trans h
      exact g7_turnRound_11 h0 _ _ h
    · replace h := (if_neg hc).symm.trans h
      refine zg_iconst dX7_turnRound_9 zki_m1 ?_
      cases h
      exact zg_iret dX7_turnRound_10
set_option maxRecDepth 20000 in
set_option maxHeartbeats 4000000 in
theorem g7_passNight_17 {T : List zN} {a0 : Nat} (h0 : zWv T a0) {M1 : zM} : ∀ (M : zM), f7_passNight_17 a0 M = some M1 → zJ T RX7 cX7_passNight 2 (zBm T 4 (none) none M1) 0 0 17 [(0, .ref a0)] [] M := by
  intro M h
  rw [f7_passNight_17] at h
  refine zg_aload_n 0 dX7_passNight_17 rfl rfl ?_
  refine zg_dup dX7_passNight_18 rfl ?_
  refine zg_geti fl_X7_18 h0.1 rfl dX7_passNight_19 ?_
  refine zg_iconst dX7_passNight_22 zki_1 ?_
  refine zg_iadd dX7_passNight_23 ?_
  refine zg_puti fp_X7_18 h0.1 rfl dX7_passNight_24 ?_
  cases h
  exact zg_vret dX7_passNight_27
set_option maxRecDepth 20000 in
set_option maxHeartbeats 4000000 in
theorem k_X7_passNight {T : List zN} {a0 : Nat} (h0 : zWv T a0) {v1 : Int32} {M : zM} {M1 : zM} (h : f7_passNight a0 v1 M = some M1) : zK T yX7_passNight cX7_passNight 2 (none) 4 [.ref a0, .int v1] M none M1 := by
  refine zK_of pl_X7 (Nat.le_of_ble_eq_true rfl) ?_
  show zJ T RX7 cX7_passNight 2 _ 0 0 0 [(0, .ref a0), (1, .int v1)] [] M
  rw [f7_passNight] at h
  refine zg_iload_n 1 dX7_passNight_0 rfl rfl ?_
  refine zg_if_lt (tgt := 17) dX7_passNight_1 (by decide) (fun hc => ?_) (fun hc => ?_)
  · replace h := (if_pos hc).symm.trans h
    refine zo_sub (ls' := [(0, .ref a0)]) [0] rfl ?_
    exact g7_passNight_17 h0 _ h
  · replace h := (if_neg hc).symm.trans h
    refine zg_aload_n 0 dX7_passNight_4 rfl rfl ?_
    refine zg_iload_n 1 dX7_passNight_5 rfl rfl ?_
    refine zg_bipush dX7_passNight_6 zkb_6 ?_
    refine zg_idiv (by decide) dX7_passNight_8 ?_
    refine zg_iload_n 1 dX7_passNight_9 rfl rfl ?_
    refine zg_bipush dX7_passNight_10 zkb_6 ?_
    refine zg_irem (by decide) dX7_passNight_12 ?_
    obtain ⟨p1, hp1, h⟩ := z_bind h
    refine zg_callV (st := []) (k_X7_drawOut h0 hp1) zY_X7_drawOut lv_X7_100 rfl h0.1 rfl (zfit_m (by decide) (by decide)) (Nat.le_of_ble_eq_true rfl) dX7_passNight_13 rfl ?_
    refine zg_pop dX7_passNight_16 rfl ?_
    refine zo_sub (ls' := [(0, .ref a0)]) [0] rfl ?_
    exact g7_passNight_17 h0 _ h
set_option maxRecDepth 20000 in
set_option maxHeartbeats 4000000 in
theorem k_X8_undo {M : zM} {r1 : Int32} {M1 : zM} (h : f8_undo M = some (r1, M1)) : zK ztops yX8_undo cX8_undo 1 (some .int) 4 [.ref 0] M (some (.int r1)) M1 := by
  refine zK_of pl_X8 (Nat.le_of_ble_eq_true rfl) ?_
  show zJ ztops RX8 cX8_undo 1 _ 0 0 0 [(0, .ref 0)] [] M
  rw [f8_undo] at h
  refine zg_aload_n 0 dX8_undo_0 rfl rfl ?_
  refine zo_getr 33 33 rfl fl_X8_72 zt_0 rfl dX8_undo_1 ?_
  refine zg_geti fl_X8_198 zt_33 rfl dX8_undo_4 ?_
  refine zg_if_ne (tgt := 12) dX8_undo_7 (by decide) (fun hc => ?_) (fun hc => ?_)
  · replace h := (if_neg hc).symm.trans h
    refine zg_aload_n 0 dX8_undo_12 rfl rfl ?_
    refine zo_getr 33 33 rfl fl_X8_72 zt_0 rfl dX8_undo_13 ?_
    refine zg_dup dX8_undo_16 rfl ?_
    refine zg_geti fl_X8_198 zt_33 rfl dX8_undo_17 ?_
    refine zg_iconst dX8_undo_20 zki_1 ?_
    refine zg_isub dX8_undo_21 ?_
    refine zg_puti fp_X8_198 zt_33 rfl dX8_undo_22 ?_
    refine zg_aload_n 0 dX8_undo_25 rfl rfl ?_
    refine zo_getr 33 33 rfl fl_X8_72 zt_0 rfl dX8_undo_26 ?_
    refine zg_aload_n 0 dX8_undo_29 rfl rfl ?_
    refine zo_getr 33 33 rfl fl_X8_72 zt_0 rfl dX8_undo_30 ?_
    refine zg_geti fl_X8_198 zt_33 rfl dX8_undo_33 ?_
    refine zg_aload_n 0 dX8_undo_36 rfl rfl ?_
    refine zo_getr 1 1 rfl fl_X8_10 zt_0 rfl dX8_undo_37 ?_
    obtain ⟨M1, hM1, h⟩ := z_bind h
    refine zg_callV (st := []) (k_X2_bringBack zM_33 zW_1 hM1) zY_X2_bringBack lv_X8_199 rfl zt_33 rfl (zfit_m (by decide) (by decide)) (Nat.le_of_ble_eq_true rfl) dX8_undo_40 rfl ?_
    refine zg_aload_n 0 dX8_undo_43 rfl rfl ?_
    refine zo_getr 33 33 rfl fl_X8_72 zt_0 rfl dX8_undo_44 ?_
    refine zg_geti fl_X8_198 zt_33 rfl dX8_undo_47 ?_
    cases h
    exact zg_iret dX8_undo_50
  · replace h := (if_pos hc).symm.trans h
    refine zg_iconst dX8_undo_10 zki_m1 ?_
    cases h
    exact zg_iret dX8_undo_11
set_option maxRecDepth 20000 in
set_option maxHeartbeats 4000000 in
theorem g8_lefts_130 {r1 : Int32} {M1 : zM} {k74 : Int32 → Int32 → Int32 → Int32 → Int32 → Int32 → Int32 → zM → Option (Int32 × zM)} (hk74 : ∀ (v1 : Int32) (v2 : Int32) (v3 : Int32) (v4 : Int32) (v5 : Int32) (v6 : Int32) (v7 : Int32) (M : zM), k74 v1 v2 v3 v4 v5 v6 v7 M = some (r1, M1) → zJ ztops RX8 cX8_lefts 8 (zBm ztops 3 (some .int) (some (.int r1)) M1) 0 0 74 [(0, .ref 0), (1, .int v1), (2, .int v2), (3, .int v3), (4, .int v4), (5, .int v5), (6, .int v6), (7, .int v7)] [] M) : ∀ (v1 : Int32) (v2 : Int32) (v3 : Int32) (v4 : Int32) (v5 : Int32) (v6 : Int32) (v7 : Int32) (M : zM), f8_lefts_130 k74 v1 v2 v3 v4 v5 v6 v7 M = some (r1, M1) → zJ ztops RX8 cX8_lefts 8 (zBm ztops 3 (some .int) (some (.int r1)) M1) 0 0 130 [(0, .ref 0), (1, .int v1), (2, .int v2), (3, .int v3), (4, .int v4), (5, .int v5), (6, .int v6), (7, .int v7)] [] M := by
  intro v1 v2 v3 v4 v5 v6 v7 M h
  rw [f8_lefts_130] at h
  refine zg_iinc (ls' := [(0, .ref 0), (1, .int v1), (2, .int v2), (3, .int v3), (4, .int v4), (5, .int v5), (6, .int v6), (7, .int (v7 + (1 : Int32)))]) 7 dX8_lefts_130 rfl zki_1 (Nat.le_of_ble_eq_true rfl) rfl ?_
  refine zg_goto (tgt := 74) dX8_lefts_133 (by decide) ?_
  exact hk74 _ _ _ _ _ _ _ _ h
set_option maxRecDepth 20000 in
set_option maxHeartbeats 4000000 in
theorem g8_lefts_74 {r1 : Int32} {M1 : zM} {k136 : Int32 → Int32 → Int32 → Int32 → Int32 → Int32 → zM → Option (Int32 × zM)} (hk136 : ∀ (v1 : Int32) (v2 : Int32) (v3 : Int32) (v4 : Int32) (v5 : Int32) (v6 : Int32) (M : zM), k136 v1 v2 v3 v4 v5 v6 M = some (r1, M1) → zJ ztops RX8 cX8_lefts 8 (zBm ztops 3 (some .int) (some (.int r1)) M1) 0 0 136 [(0, .ref 0), (1, .int v1), (2, .int v2), (3, .int v3), (4, .int v4), (5, .int v5), (6, .int v6)] [] M) : ∀ (n : Nat) (v1 : Int32) (v2 : Int32) (v3 : Int32) (v4 : Int32) (v5 : Int32) (v6 : Int32) (v7 : Int32) (M : zM), f8_lefts_74 k136 n v1 v2 v3 v4 v5 v6 v7 M = some (r1, M1) → zJ ztops RX8 cX8_lefts 8 (zBm ztops 3 (some .int) (some (.int r1)) M1) 0 0 74 [(0, .ref 0), (1, .int v1), (2, .int v2), (3, .int v3), (4, .int v4), (5, .int v5), (6, .int v6), (7, .int v7)] [] M := by
  intro n
  induction n with
  | zero => intro v1 v2 v3 v4 v5 v6 v7 M h; cases h
  | succ n ih =>
    intro v1 v2 v3 v4 v5 v6 v7 M h
    rw [f8_lefts_74] at h
    refine zg_iload 7 dX8_lefts_74 rfl ?_
    refine zg_iload 4 dX8_lefts_76 rfl ?_
    refine zg_icmp_ge (tgt := 136) dX8_lefts_78 (by decide) (fun hc => ?_) (fun hc => ?_)
    · replace h := (if_pos hc).symm.trans h
      refine zo_sub (ls' := [(0, .ref 0), (1, .int v1), (2, .int v2), (3, .int v3), (4, .int v4), (5, .int v5), (6, .int v6)]) [0, 1, 2, 3, 4, 5, 6] rfl ?_
      exact hk136 _ _ _ _ _ _ _ h
    · replace h := (if_neg hc).symm.trans h
      refine zg_iload 7 dX8_lefts_81 rfl ?_
      obtain ⟨x1, hx1, h⟩ := z_bind h
      refine zg_callS (st := []) (k_J6_bitCount_0f7a4 hx1) zY_J6_bitCount_0f7a4 ls_X8_225 rfl (zfit_m (by decide) (by decide)) (Nat.le_of_ble_eq_true rfl) dX8_lefts_83 rfl ?_
      refine zg_iload 6 dX8_lefts_86 rfl ?_
      obtain ⟨x2, hx2, h⟩ := z_bind h
      refine zg_callS (st := [.int x1]) (k_J6_bitCount_0f7a4 hx2) zY_J6_bitCount_0f7a4 ls_X8_225 rfl (zfit_m (by decide) (by decide)) (Nat.le_of_ble_eq_true rfl) dX8_lefts_88 rfl ?_
      refine zg_iadd dX8_lefts_91 ?_
      refine zg_iload_n 1 dX8_lefts_92 rfl rfl ?_
      refine zg_icmp_ne (tgt := 130) dX8_lefts_93 (by decide) (fun hc => ?_) (fun hc => ?_)
      · replace h := (if_neg hc).symm.trans h
        exact g8_lefts_130 (fun u0 u1 u2 u3 u4 u5 u6 u7 h => ih u0 u1 u2 u3 u4 u5 u6 u7 h) _ _ _ _ _ _ _ _ h
      · replace h := (if_pos hc).symm.trans h
        refine zg_iinc (ls' := [(0, .ref 0), (1, .int v1), (2, .int (v2 + (1 : Int32))), (3, .int v3), (4, .int v4), (5, .int v5), (6, .int v6), (7, .int v7)]) 2 dX8_lefts_96 rfl zki_1 (Nat.le_of_ble_eq_true rfl) rfl ?_
        refine zg_iload_n 3 dX8_lefts_99 rfl rfl ?_
        refine zg_aload_n 0 dX8_lefts_100 rfl rfl ?_
        refine zo_getr 27 27 rfl fl_X8_56 zt_0 rfl dX8_lefts_101 ?_
        refine zg_aload_n 0 dX8_lefts_104 rfl rfl ?_
        refine zo_getr 27 27 rfl fl_X8_56 zt_0 rfl dX8_lefts_105 ?_
        refine zg_aload_n 0 dX8_lefts_108 rfl rfl ?_
        refine zo_getr 1 1 rfl fl_X8_10 zt_0 rfl dX8_lefts_109 ?_
        refine zg_iload 7 dX8_lefts_112 rfl ?_
        obtain ⟨x3, hx3, h⟩ := z_bind h
        refine zg_callV (st := [.ref 27, .int v3]) (k_X1_shapeWithout zW_1 hx3) zY_X1_shapeWithout lv_X8_241 rfl zt_27 rfl (zfit_m (by decide) (by decide)) (Nat.le_of_ble_eq_true rfl) dX8_lefts_114 rfl ?_
        obtain ⟨p4, hp4, h⟩ := z_bind h
        refine zg_callV (st := [.int v3]) (k_X1_isNew hp4) zY_X1_isNew lv_X8_245 rfl zt_27 rfl (zfit_m (by decide) (by decide)) (Nat.le_of_ble_eq_true rfl) dX8_lefts_117 rfl ?_
        suffices hj : zJ ztops RX8 cX8_lefts 8 (zBm ztops 3 (some .int) (some (.int r1)) M1) 0 0 128 [(0, .ref 0), (1, .int v1), (2, .int (v2 + (1 : Int32))), (3, .int v3), (4, .int v4), (5, .int v5), (6, .int v6), (7, .int v7)] [.int (if p4.1 = 0 then (0 : Int32) else (1 : Int32)), .int v3] p4.2 by
          refine zg_if_eq (tgt := 127) dX8_lefts_120 (by decide) (fun hc => ?_) (fun hc => ?_)
          · rw [if_pos hc] at hj
            refine zg_iconst dX8_lefts_127 zki_0 ?_
            exact hj
          · rw [if_neg hc] at hj
            refine zg_iconst dX8_lefts_123 zki_1 ?_
            refine zg_goto (tgt := 128) dX8_lefts_124 (by decide) ?_
            exact hj
        refine zg_iadd dX8_lefts_128 ?_
        refine zg_istore_n (ls' := [(0, .ref 0), (1, .int v1), (2, .int (v2 + (1 : Int32))), (3, .int (v3 + (if p4.1 = 0 then (0 : Int32) else (1 : Int32)))), (4, .int v4), (5, .int v5), (6, .int v6), (7, .int v7)]) dX8_lefts_129 rfl (Nat.le_of_ble_eq_true rfl) rfl ?_
        exact g8_lefts_130 (fun u0 u1 u2 u3 u4 u5 u6 u7 h => ih u0 u1 u2 u3 u4 u5 u6 u7 h) _ _ _ _ _ _ _ _ h
set_option maxRecDepth 20000 in
set_option maxHeartbeats 4000000 in
theorem g8_lefts_51 {r1 : Int32} {M1 : zM} {k136 : Int32 → Int32 → Int32 → Int32 → Int32 → Int32 → zM → Option (Int32 × zM)} (hk136 : ∀ (v1 : Int32) (v2 : Int32) (v3 : Int32) (v4 : Int32) (v5 : Int32) (v6 : Int32) (M : zM), k136 v1 v2 v3 v4 v5 v6 M = some (r1, M1) → zJ ztops RX8 cX8_lefts 8 (zBm ztops 3 (some .int) (some (.int r1)) M1) 0 0 136 [(0, .ref 0), (1, .int v1), (2, .int v2), (3, .int v3), (4, .int v4), (5, .int v5), (6, .int v6)] [] M) : ∀ (n : Nat) (v1 : Int32) (v2 : Int32) (v3 : Int32) (v4 : Int32) (v5 : Int32) (v6 : Int32) (M : zM), f8_lefts_51 k136 n v1 v2 v3 v4 v5 v6 M = some (r1, M1) → zJ ztops RX8 cX8_lefts 8 (zBm ztops 3 (some .int) (some (.int r1)) M1) 0 0 51 [(0, .ref 0), (1, .int v1), (2, .int v2), (3, .int v3), (4, .int v4), (5, .int v5), (6, .int v6)] [] M := by
  intro n
  induction n with
  | zero => intro v1 v2 v3 v4 v5 v6 M h; cases h
  | succ n ih =>
    intro v1 v2 v3 v4 v5 v6 M h
    rw [f8_lefts_51] at h
    refine zg_iload 6 dX8_lefts_51 rfl ?_
    refine zg_iload 5 dX8_lefts_53 rfl ?_
    refine zg_icmp_ge (tgt := 142) dX8_lefts_55 (by decide) (fun hc => ?_) (fun hc => ?_)
    · replace h := (if_pos hc).symm.trans h
      refine zg_aload_n 0 dX8_lefts_142 rfl rfl ?_
      refine zo_getr 9 9 rfl fl_X8_32 zt_0 rfl dX8_lefts_143 ?_
      refine zg_iload_n 2 dX8_lefts_146 rfl rfl ?_
      refine zg_i2l dX8_lefts_147 ?_
      obtain ⟨M1, hM1, h⟩ := z_bind h
      refine zg_callV (st := []) (k_X3_tell hM1) zY_X3_tell lv_X8_207 rfl zt_9 rfl (zfit_m (by decide) (by decide)) (Nat.le_of_ble_eq_true rfl) dX8_lefts_148 rfl ?_
      refine zg_iload_n 3 dX8_lefts_151 rfl rfl ?_
      cases h
      exact zg_iret dX8_lefts_152
    · replace h := (if_neg hc).symm.trans h
      refine zg_aload_n 0 dX8_lefts_58 rfl rfl ?_
      refine zo_getr 27 27 rfl fl_X8_56 zt_0 rfl dX8_lefts_59 ?_
      refine zg_aload_n 0 dX8_lefts_62 rfl rfl ?_
      refine zo_getr 1 1 rfl fl_X8_10 zt_0 rfl dX8_lefts_63 ?_
      refine zg_iload 6 dX8_lefts_66 rfl ?_
      obtain ⟨M1, hM1, h⟩ := z_bind h
      refine zg_callV (st := []) (k_X1_narrow zW_1 hM1) zY_X1_narrow lv_X8_237 rfl zt_27 rfl (zfit_m (by decide) (by decide)) (Nat.le_of_ble_eq_true rfl) dX8_lefts_68 rfl ?_
      refine zg_iconst dX8_lefts_71 zki_0 ?_
      refine zg_istore (ls' := [(0, .ref 0), (1, .int v1), (2, .int v2), (3, .int v3), (4, .int v4), (5, .int v5), (6, .int v6), (7, .int (0 : Int32))]) dX8_lefts_72 (Nat.le_of_ble_eq_true rfl) rfl ?_
      exact g8_lefts_74 (fun u0 u1 u2 u3 u4 u5 u6 h => g8_lefts_136 (fun u0 u1 u2 u3 u4 u5 u6 h => ih u0 u1 u2 u3 u4 u5 u6 h) u0 u1 u2 u3 u4 u5 u6 h) zfuel _ _ _ _ _ _ _ _ h
set_option maxRecDepth 20000 in
set_option maxHeartbeats 4000000 in
theorem g8_lefts_136 {r1 : Int32} {M1 : zM} {k51 : Int32 → Int32 → Int32 → Int32 → Int32 → Int32 → zM → Option (Int32 × zM)} (hk51 : ∀ (v1 : Int32) (v2 : Int32) (v3 : Int32) (v4 : Int32) (v5 : Int32) (v6 : Int32) (M : zM), k51 v1 v2 v3 v4 v5 v6 M = some (r1, M1) → zJ ztops RX8 cX8_lefts 8 (zBm ztops 3 (some .int) (some (.int r1)) M1) 0 0 51 [(0, .ref 0), (1, .int v1), (2, .int v2), (3, .int v3), (4, .int v4), (5, .int v5), (6, .int v6)] [] M) : ∀ (v1 : Int32) (v2 : Int32) (v3 : Int32) (v4 : Int32) (v5 : Int32) (v6 : Int32) (M : zM), f8_lefts_136 k51 v1 v2 v3 v4 v5 v6 M = some (r1, M1) → zJ ztops RX8 cX8_lefts 8 (zBm ztops 3 (some .int) (some (.int r1)) M1) 0 0 136 [(0, .ref 0), (1, .int v1), (2, .int v2), (3, .int v3), (4, .int v4), (5, .int v5), (6, .int v6)] [] M := by
  intro v1 v2 v3 v4 v5 v6 M h
  rw [f8_lefts_136] at h
  refine zg_iinc (ls' := [(0, .ref 0), (1, .int v1), (2, .int v2), (3, .int v3), (4, .int v4), (5, .int v5), (6, .int (v6 + (1 : Int32)))]) 6 dX8_lefts_136 rfl zki_1 (Nat.le_of_ble_eq_true rfl) rfl ?_
  refine zg_goto (tgt := 51) dX8_lefts_139 (by decide) ?_
  exact hk51 _ _ _ _ _ _ _ h
set_option maxRecDepth 20000 in
set_option maxHeartbeats 4000000 in
theorem k_X8_lefts {v1 : Int32} {M : zM} {r1 : Int32} {M1 : zM} (h : f8_lefts v1 M = some (r1, M1)) : zK ztops yX8_lefts cX8_lefts 8 (some .int) 3 [.ref 0, .int v1] M (some (.int r1)) M1 := by
  refine zK_of pl_X8 (Nat.le_of_ble_eq_true rfl) ?_
  show zJ ztops RX8 cX8_lefts 8 _ 0 0 0 [(0, .ref 0), (1, .int v1)] [] M
  rw [f8_lefts] at h
  refine zg_iload_n 1 dX8_lefts_0 rfl rfl ?_
  refine zg_if_lt (tgt := 9) dX8_lefts_1 (by decide) (fun hc => ?_) (fun hc => ?_)
  · replace h := (if_pos hc).symm.trans h
    refine zg_iconst dX8_lefts_9 zki_m1 ?_
    cases h
    exact zg_iret dX8_lefts_10
  · replace h := (if_neg hc).symm.trans h
    refine zg_iload_n 1 dX8_lefts_4 rfl rfl ?_
    refine zg_iconst dX8_lefts_5 zki_4 ?_
    refine zg_icmp_le (tgt := 11) dX8_lefts_6 (by decide) (fun hc => ?_) (fun hc => ?_)
    · replace h := (if_pos hc).symm.trans h
      refine zg_aload_n 0 dX8_lefts_11 rfl rfl ?_
      refine zo_getr 27 27 rfl fl_X8_56 zt_0 rfl dX8_lefts_12 ?_
      obtain ⟨M1, hM1, h⟩ := z_bind h
      refine zg_callV (st := []) (k_X1_forgetShapes hM1) zY_X1_forgetShapes lv_X8_234 rfl zt_27 rfl (zfit_m (by decide) (by decide)) (Nat.le_of_ble_eq_true rfl) dX8_lefts_15 rfl ?_
      refine zg_iconst dX8_lefts_18 zki_0 ?_
      refine zg_istore_n (ls' := [(0, .ref 0), (1, .int v1), (2, .int (0 : Int32))]) dX8_lefts_19 rfl (Nat.le_of_ble_eq_true rfl) rfl ?_
      refine zg_iconst dX8_lefts_20 zki_0 ?_
      refine zg_istore_n (ls' := [(0, .ref 0), (1, .int v1), (2, .int (0 : Int32)), (3, .int (0 : Int32))]) dX8_lefts_21 rfl (Nat.le_of_ble_eq_true rfl) rfl ?_
      refine zg_iconst dX8_lefts_22 zki_1 ?_
      refine zg_aload_n 0 dX8_lefts_23 rfl rfl ?_
      refine zo_getr 1 1 rfl fl_X8_10 zt_0 rfl dX8_lefts_24 ?_
      refine zg_geti fl_X8_100 zt_1 rfl dX8_lefts_27 ?_
      refine zg_ishl dX8_lefts_30 ?_
      refine zg_iconst dX8_lefts_31 zki_1 ?_
      refine zg_isub dX8_lefts_32 ?_
      refine zg_istore (ls' := [(0, .ref 0), (1, .int v1), (2, .int (0 : Int32)), (3, .int (0 : Int32)), (4, .int ((zshl (1 : Int32) (M1.1 1 0)) - (1 : Int32)))]) dX8_lefts_33 (Nat.le_of_ble_eq_true rfl) rfl ?_
      refine zg_iconst dX8_lefts_35 zki_1 ?_
      refine zg_aload_n 0 dX8_lefts_36 rfl rfl ?_
      refine zo_getr 1 1 rfl fl_X8_10 zt_0 rfl dX8_lefts_37 ?_
      refine zg_geti fl_X8_213 zt_1 rfl dX8_lefts_40 ?_
      refine zg_ishl dX8_lefts_43 ?_
      refine zg_iconst dX8_lefts_44 zki_1 ?_
      refine zg_isub dX8_lefts_45 ?_
      refine zg_istore (ls' := [(0, .ref 0), (1, .int v1), (2, .int (0 : Int32)), (3, .int (0 : Int32)), (4, .int ((zshl (1 : Int32) (M1.1 1 0)) - (1 : Int32))), (5, .int ((zshl (1 : Int32) (M1.1 1 1)) - (1 : Int32)))]) dX8_lefts_46 (Nat.le_of_ble_eq_true rfl) rfl ?_
      refine zg_iconst dX8_lefts_48 zki_0 ?_
      refine zg_istore (ls' := [(0, .ref 0), (1, .int v1), (2, .int (0 : Int32)), (3, .int (0 : Int32)), (4, .int ((zshl (1 : Int32) (M1.1 1 0)) - (1 : Int32))), (5, .int ((zshl (1 : Int32) (M1.1 1 1)) - (1 : Int32))), (6, .int (0 : Int32))]) dX8_lefts_49 (Nat.le_of_ble_eq_true rfl) rfl ?_
      exact g8_lefts_51 hk136 zfuel _ _ _ _ _ _ _ h
    · replace h := (if_neg hc).symm.trans h
      refine zg_iconst dX8_lefts_9 zki_m1 ?_
      cases h
      exact zg_iret dX8_lefts_10
set_option maxRecDepth 20000 in
set_option maxHeartbeats 4000000 in
theorem g8_words_75 {r1 : Int32} {M1 : zM} {k33 : Int32 → Int32 → Int32 → Int32 → Int32 → Int32 → zM → Option (Int32 × zM)} (hk33 : ∀ (v1 : Int32) (v2 : Int32) (v3 : Int32) (v4 : Int32) (v5 : Int32) (v6 : Int32) (M : zM), k33 v1 v2 v3 v4 v5 v6 M = some (r1, M1) → zJ ztops RX8 cX8_words 7 (zBm ztops 3 (some .int) (some (.int r1)) M1) 0 0 33 [(0, .ref 0), (1, .int v1), (2, .int v2), (3, .int v3), (4, .int v4), (5, .int v5), (6, .int v6)] [] M) : ∀ (v1 : Int32) (v2 : Int32) (v3 : Int32) (v4 : Int32) (v5 : Int32) (v6 : Int32) (M : zM), f8_words_75 k33 v1 v2 v3 v4 v5 v6 M = some (r1, M1) → zJ ztops RX8 cX8_words 7 (zBm ztops 3 (some .int) (some (.int r1)) M1) 0 0 75 [(0, .ref 0), (1, .int v1), (2, .int v2), (3, .int v3), (4, .int v4), (5, .int v5), (6, .int v6)] [] M := by
  intro v1 v2 v3 v4 v5 v6 M h
  rw [f8_words_75] at h
  refine zg_iinc (ls' := [(0, .ref 0), (1, .int v1), (2, .int v2), (3, .int v3), (4, .int v4), (5, .int v5), (6, .int (v6 + (1 : Int32)))]) 6 dX8_words_75 rfl zki_1 (Nat.le_of_ble_eq_true rfl) rfl ?_
  refine zg_goto (tgt := 33) dX8_words_78 (by decide) ?_
  exact hk33 _ _ _ _ _ _ _ h
set_option maxRecDepth 20000 in
set_option maxHeartbeats 4000000 in
theorem g8_words_33 {r1 : Int32} {M1 : zM} : ∀ (n : Nat) (v1 : Int32) (v2 : Int32) (v3 : Int32) (v4 : Int32) (v5 : Int32) (v6 : Int32) (M : zM), f8_words_33 n v1 v2 v3 v4 v5 v6 M = some (r1, M1) → zJ ztops RX8 cX8_words 7 (zBm ztops 3 (some .int) (some (.int r1)) M1) 0 0 33 [(0, .ref 0), (1, .int v1), (2, .int v2), (3, .int v3), (4, .int v4), (5, .int v5), (6, .int v6)] [] M := by
  intro n
  induction n with
  | zero => intro v1 v2 v3 v4 v5 v6 M h; cases h
  | succ n ih =>
    intro v1 v2 v3 v4 v5 v6 M h
    rw [f8_words_33] at h
    refine zg_iload 6 dX8_words_33 rfl ?_
    refine zg_iconst dX8_words_35 zki_1 ?_
    refine zg_iload_n 1 dX8_words_36 rfl rfl ?_
    refine zg_ishl dX8_words_37 ?_
    refine zg_icmp_ge (tgt := 81) dX8_words_38 (by decide) (fun hc => ?_) (fun hc => ?_)
    · replace h := (if_pos hc).symm.trans h
      refine zg_aload_n 0 dX8_words_81 rfl rfl ?_
      refine zo_getr 9 9 rfl fl_X8_32 zt_0 rfl dX8_words_82 ?_
      obtain ⟨M1, hM1, h⟩ := z_bind h
      refine zg_callV (st := []) (k_X3_clear hM1) zY_X3_clear lv_X8_222 rfl zt_9 rfl (zfit_m (by decide) (by decide)) (Nat.le_of_ble_eq_true rfl) dX8_words_85 rfl ?_
      refine zg_iload_n 3 dX8_words_88 rfl rfl ?_
      refine zg_if_le (tgt := 105) dX8_words_89 (by decide) (fun hc => ?_) (fun hc => ?_)
      · replace h := (if_pos hc).symm.trans h
        refine zg_iload_n 3 dX8_words_105 rfl rfl ?_
        cases h
        exact zg_iret dX8_words_106
      · replace h := (if_neg hc).symm.trans h
        refine zg_aload_n 0 dX8_words_92 rfl rfl ?_
        refine zo_getr 9 9 rfl fl_X8_32 zt_0 rfl dX8_words_93 ?_
        refine zg_iload 4 dX8_words_96 rfl ?_
        refine zg_i2l dX8_words_98 ?_
        refine zg_iload 5 dX8_words_99 rfl ?_
        refine zg_i2l dX8_words_101 ?_
        obtain ⟨M2, hM2, h⟩ := z_bind h
        refine zg_callV (st := []) (k_X3_tell_ hM2) zY_X3_tell_ lv_X8_194 rfl zt_9 rfl (zfit_m (by decide) (by decide)) (Nat.le_of_ble_eq_true rfl) dX8_words_102 rfl ?_
        refine zg_iload_n 3 dX8_words_105 rfl rfl ?_
        cases h
        exact zg_iret dX8_words_106
    · replace h := (if_neg hc).symm.trans h
      refine zg_iload 6 dX8_words_41 rfl ?_
      refine zg_iload_n 1 dX8_words_43 rfl rfl ?_
      obtain ⟨x1, hx1, h⟩ := z_bind h
      refine zg_callS (st := []) (k_X8_checkSum hx1) zY_X8_checkSum ls_X8_253 rfl (zfit_m (by decide) (by decide)) (Nat.le_of_ble_eq_true rfl) dX8_words_44 rfl ?_
      refine zg_iload_n 1 dX8_words_47 rfl rfl ?_
      refine zg_iconst dX8_words_48 zki_1 ?_
      refine zg_iadd dX8_words_49 ?_
      obtain ⟨x2, hx2, h⟩ := z_bind h
      refine zo_irem hx2 dX8_words_50 ?_
      refine zg_iload_n 2 dX8_words_51 rfl rfl ?_
      refine zg_icmp_ne (tgt := 75) dX8_words_52 (by decide) (fun hc => ?_) (fun hc => ?_)
      · replace h := (if_neg hc).symm.trans h
        exact g8_words_75 (fun u0 u1 u2 u3 u4 u5 u6 h => ih u0 u1 u2 u3 u4 u5 u6 h) _ _ _ _ _ _ _ h
      · replace h := (if_pos hc).symm.trans h
        refine zg_iload_n 3 dX8_words_55 rfl rfl ?_
        suffices hj : zJ ztops RX8 cX8_words 7 (zBm ztops 3 (some .int) (some (.int r1)) M1) 0 0 66 [(0, .ref 0), (1, .int v1), (2, .int v2), (3, .int v3), (4, .int v4), (5, .int v5), (6, .int v6)] [.int (if v3 = 0 then v6 else v4)] M by
          refine zg_if_ne (tgt := 64) dX8_words_56 (by decide) (fun hc => ?_) (fun hc => ?_)
          · rw [if_neg hc] at hj
            refine zg_iload 4 dX8_words_64 rfl ?_
            exact hj
          · rw [if_pos hc] at hj
            refine zg_iload 6 dX8_words_59 rfl ?_
            refine zg_goto (tgt := 66) dX8_words_61 (by decide) ?_
            exact hj
        refine zg_istore (ls' := [(0, .ref 0), (1, .int v1), (2, .int v2), (3, .int v3), (4, .int (if v3 = 0 then v6 else v4)), (5, .int v5), (6, .int v6)]) dX8_words_66 (Nat.le_of_ble_eq_true rfl) rfl ?_
        refine zg_iload 6 dX8_words_68 rfl ?_
        refine zg_istore (ls' := [(0, .ref 0), (1, .int v1), (2, .int v2), (3, .int v3), (4, .int (if v3 = 0 then v6 else v4)), (5, .int v6), (6, .int v6)]) dX8_words_70 (Nat.le_of_ble_eq_true rfl) rfl ?_
        refine zg_iinc (ls' := [(0, .ref 0), (1, .int v1), (2, .int v2), (3, .int (v3 + (1 : Int32))), (4, .int (if v3 = 0 then v6 else v4)), (5, .int v6), (6, .int v6)]) 3 dX8_words_72 rfl zki_1 (Nat.le_of_ble_eq_true rfl) rfl ?_
        exact g8_words_75 (fun u0 u1 u2 u3 u4 u5 u6 h => ih u0 u1 u2 u3 u4 u5 u6 h) _ _ _ _ _ _ _ h
set_option maxRecDepth 20000 in
set_option maxHeartbeats 4000000 in
theorem k_X8_words {v1 : Int32} {v2 : Int32} {M : zM} {r1 : Int32} {M1 : zM} (h : f8_words v1 v2 M = some (r1, M1)) : zK ztops yX8_words cX8_words 7 (some .int) 3 [.ref 0, .int v1, .int v2] M (some (.int r1)) M1 := by
  refine zK_of pl_X8 (Nat.le_of_ble_eq_true rfl) ?_
  show zJ ztops RX8 cX8_words 7 _ 0 0 0 [(0, .ref 0), (1, .int v1), (2, .int v2)] [] M
  rw [f8_words] at h
  refine zg_iload_n 1 dX8_words_0 rfl rfl ?_
  refine zg_iconst dX8_words_1 zki_1 ?_
  refine zg_icmp_lt (tgt := 20) dX8_words_2 (by decide) (fun hc => ?_) (fun hc => ?_)
  · replace h := (if_pos hc).symm.trans h
    refine zg_iconst dX8_words_20 zki_m1 ?_
    cases h
    exact zg_iret dX8_words_21
  · replace h := (if_neg hc).symm.trans h
    refine zg_iload_n 1 dX8_words_5 rfl rfl ?_
    refine zg_bipush dX8_words_6 zkb_6 ?_
    refine zg_icmp_gt (tgt := 20) dX8_words_8 (by decide) (fun hc => ?_) (fun hc => ?_)
    · replace h := (if_pos hc).symm.trans h
      refine zg_iconst dX8_words_20 zki_m1 ?_
      cases h
      exact zg_iret dX8_words_21
    · replace h := (if_neg hc).symm.trans h
      refine zg_iload_n 2 dX8_words_11 rfl rfl ?_
      refine zg_if_lt (tgt := 20) dX8_words_12 (by decide) (fun hc => ?_) (fun hc => ?_)
      · replace h := (if_pos hc).symm.trans h
        refine zg_iconst dX8_words_20 zki_m1 ?_
        cases h
        exact zg_iret dX8_words_21
      · replace h := (if_neg hc).symm.trans h
        refine zg_iload_n 2 dX8_words_15 rfl rfl ?_
        refine zg_iload_n 1 dX8_words_16 rfl rfl ?_
        refine zg_icmp_le (tgt := 22) dX8_words_17 (by decide) (fun hc => ?_) (fun hc => ?_)
        · replace h := (if_pos hc).symm.trans h
          refine zg_iconst dX8_words_22 zki_0 ?_
          refine zg_istore_n (ls' := [(0, .ref 0), (1, .int v1), (2, .int v2), (3, .int (0 : Int32))]) dX8_words_23 rfl (Nat.le_of_ble_eq_true rfl) rfl ?_
          refine zg_iconst dX8_words_24 zki_0 ?_
          refine zg_istore (ls' := [(0, .ref 0), (1, .int v1), (2, .int v2), (3, .int (0 : Int32)), (4, .int (0 : Int32))]) dX8_words_25 (Nat.le_of_ble_eq_true rfl) rfl ?_
          refine zg_iconst dX8_words_27 zki_0 ?_
          refine zg_istore (ls' := [(0, .ref 0), (1, .int v1), (2, .int v2), (3, .int (0 : Int32)), (4, .int (0 : Int32)), (5, .int (0 : Int32))]) dX8_words_28 (Nat.le_of_ble_eq_true rfl) rfl ?_
          refine zg_iconst dX8_words_30 zki_0 ?_
          refine zg_istore (ls' := [(0, .ref 0), (1, .int v1), (2, .int v2), (3, .int (0 : Int32)), (4, .int (0 : Int32)), (5, .int (0 : Int32)), (6, .int (0 : Int32))]) dX8_words_31 (Nat.le_of_ble_eq_true rfl) rfl ?_
          exact g8_words_33 zfuel _ _ _ _ _ _ _ h
        · replace h := (if_neg hc).symm.trans h
          refine zg_iconst dX8_words_20 zki_m1 ?_
          cases h
          exact zg_iret dX8_words_21
set_option maxRecDepth 20000 in
set_option maxHeartbeats 4000000 in
theorem g8_hangs_110 {r1 : Int32} {M1 : zM} : ∀ (v3 : Int32) (v4 : Int32) (M : zM), f8_hangs_110 v3 v4 M = some (r1, M1) → zJ ztops RX8 cX8_hangs 9 (zBm ztops 3 (some .int) (some (.int r1)) M1) 0 0 110 [(0, .ref 0), (3, .int v3), (4, .int v4)] [] M := by
  intro v3 v4 M h
  rw [f8_hangs_110] at h
  refine zg_aload_n 0 dX8_hangs_110 rfl rfl ?_
  refine zo_getr 9 9 rfl fl_X8_32 zt_0 rfl dX8_hangs_111 ?_
  refine zg_iload_n 1 dX8_hangs_114 rfl rfl ?_
  refine zg_i2l dX8_hangs_115 ?_
  refine zg_iload 2 dX8_hangs_116 rfl ?_
  refine zg_i2l dX8_hangs_118 ?_
  obtain ⟨M1, hM1, h⟩ := z_bind h
  refine zg_callV (st := []) (k_X3_tell_ hM1) zY_X3_tell_ lv_X8_194 rfl zt_9 rfl (zfit_m (by decide) (by decide)) (Nat.le_of_ble_eq_true rfl) dX8_hangs_119 rfl ?_
  refine zg_iload_n 1 dX8_hangs_122 rfl rfl ?_
  refine zg_iconst dX8_hangs_123 zki_1 ?_
  suffices hj : zJ ztops RX8 cX8_hangs 9 (zBm ztops 3 (some .int) (some (.int r1)) M1) 0 0 132 [(0, .ref 0), (3, .int v3), (4, .int v4)] [.int (if v3 = (1 : Int32) then (1 : Int32) else (0 : Int32))] M1 by
    refine zg_icmp_ne (tgt := 131) dX8_hangs_124 (by decide) (fun hc => ?_) (fun hc => ?_)
    · rw [if_neg hc] at hj
      refine zg_iconst dX8_hangs_131 zki_0 ?_
      exact hj
    · rw [if_pos hc] at hj
      refine zg_iconst dX8_hangs_127 zki_1 ?_
      refine zg_goto (tgt := 132) dX8_hangs_128 (by decide) ?_
      exact hj
  cases h
  exact zg_iret dX8_hangs_132
set_option maxRecDepth 20000 in
set_option maxHeartbeats 4000000 in
theorem g8_hangs_29 {r1 : Int32} {M1 : zM} : ∀ (n : Nat) (v1 : Int32) (v2 : Int32) (v3 : Int32) (v4 : Int32) (v5 : Int32) (M : zM), f8_hangs_29 n v1 v2 v3 v4 v5 M = some (r1, M1) → zJ ztops RX8 cX8_hangs 9 (zBm ztops 3 (some .int) (some (.int r1)) M1) 0 0 29 [(0, .ref 0), (1, .int v1), (2, .int v2), (3, .int v3), (4, .int v4), (5, .int v5)] [] M := by
  intro n
  induction n with
  | zero => intro v1 v2 v3 v4 v5 M h; cases h
  | succ n ih =>
    intro v1 v2 v3 v4 v5 M h
    rw [f8_hangs_29] at h
    refine zg_iload 5 dX8_hangs_29 rfl ?_
    refine zg_bipush dX8_hangs_31 zkb_12 ?_
    refine zg_icmp_ge (tgt := 110) dX8_hangs_33 (by decide) (fun hc => ?_) (fun hc => ?_)
    · replace h := (if_pos hc).symm.trans h
      refine zo_sub (ls' := [(0, .ref 0), (3, .int v3), (4, .int v4)]) [0, 3, 4] rfl ?_
      exact g8_hangs_110 _ _ _ h
    · replace h := (if_neg hc).symm.trans h
      refine zg_iload_n 2 dX8_hangs_36 rfl rfl ?_
      refine zg_if_eq (tgt := 110) dX8_hangs_37 (by decide) (fun hc => ?_) (fun hc => ?_)
      · replace h := (if_pos hc).symm.trans h
        refine zo_sub (ls' := [(0, .ref 0), (3, .int v3), (4, .int v4)]) [0, 3, 4] rfl ?_
        exact g8_hangs_110 _ _ _ h
      · replace h := (if_neg hc).symm.trans h
        refine zg_iload_n 2 dX8_hangs_40 rfl rfl ?_
        refine zg_iload_n 2 dX8_hangs_41 rfl rfl ?_
        refine zg_ineg dX8_hangs_42 ?_
        refine zg_iand dX8_hangs_43 ?_
        refine zg_istore (ls' := [(0, .ref 0), (1, .int v1), (2, .int v2), (3, .int v3), (4, .int v4), (5, .int v5), (6, .int (v2 &&& (-v2)))]) dX8_hangs_44 (Nat.le_of_ble_eq_true rfl) rfl ?_
        refine zg_iload 6 dX8_hangs_46 rfl ?_
        refine zg_iload_n 1 dX8_hangs_48 rfl rfl ?_
        refine zg_aload_n 0 dX8_hangs_49 rfl rfl ?_
        refine zo_getr 21 21 rfl fl_X8_49 zt_0 rfl dX8_hangs_50 ?_
        refine zo_getr 22 1 rfl fl_X8_265 zt_21 rfl dX8_hangs_53 ?_
        obtain ⟨x1, hx1, h⟩ := z_bind h
        refine zg_callS (st := []) (k_X0_reached zt_22 hx1) zY_X0_reached ls_X8_269 rfl (zfit_m (by decide) (by decide)) (Nat.le_of_ble_eq_true rfl) dX8_hangs_56 rfl ?_
        refine zg_istore (ls' := [(0, .ref 0), (1, .int v1), (2, .int v2), (3, .int v3), (4, .int v4), (5, .int v5), (6, .int (v2 &&& (-v2))), (7, .int x1)]) dX8_hangs_59 (Nat.le_of_ble_eq_true rfl) rfl ?_
        refine zg_iload 7 dX8_hangs_61 rfl ?_
        refine zg_iload 6 dX8_hangs_63 rfl ?_
        refine zg_iload_n 1 dX8_hangs_65 rfl rfl ?_
        refine zg_aload_n 0 dX8_hangs_66 rfl rfl ?_
        refine zo_getr 21 21 rfl fl_X8_49 zt_0 rfl dX8_hangs_67 ?_
        refine zo_getr 23 2 rfl fl_X8_273 zt_21 rfl dX8_hangs_70 ?_
        obtain ⟨x2, hx2, h⟩ := z_bind h
        refine zg_callS (st := [.int x1]) (k_X0_reached zt_23 hx2) zY_X0_reached ls_X8_269 rfl (zfit_m (by decide) (by decide)) (Nat.le_of_ble_eq_true rfl) dX8_hangs_73 rfl ?_
        refine zg_iand dX8_hangs_76 ?_
        refine zg_istore (ls' := [(0, .ref 0), (1, .int v1), (2, .int v2), (3, .int v3), (4, .int v4), (5, .int v5), (6, .int (v2 &&& (-v2))), (7, .int x1), (8, .int (x1 &&& x2))]) dX8_hangs_77 (Nat.le_of_ble_eq_true rfl) rfl ?_
        refine zg_iinc (ls' := [(0, .ref 0), (1, .int v1), (2, .int v2), (3, .int (v3 + (1 : Int32))), (4, .int v4), (5, .int v5), (6, .int (v2 &&& (-v2))), (7, .int x1), (8, .int (x1 &&& x2))]) 3 dX8_hangs_79 rfl zki_1 (Nat.le_of_ble_eq_true rfl) rfl ?_
        refine zg_iload 7 dX8_hangs_82 rfl ?_
        refine zg_iload_n 1 dX8_hangs_84 rfl rfl ?_
        suffices hj : zJ ztops RX8 cX8_hangs 9 (zBm ztops 3 (some .int) (some (.int r1)) M1) 0 0 95 [(0, .ref 0), (1, .int v1), (2, .int v2), (3, .int (v3 + (1 : Int32))), (4, .int v4), (5, .int v5), (6, .int (v2 &&& (-v2))), (7, .int x1), (8, .int (x1 &&& x2))] [.int (if x1 = v1 then (x1 &&& x2) else v4)] M by
          refine zg_icmp_ne (tgt := 93) dX8_hangs_85 (by decide) (fun hc => ?_) (fun hc => ?_)
          · rw [if_neg hc] at hj
            refine zg_iload 4 dX8_hangs_93 rfl ?_
            exact hj
          · rw [if_pos hc] at hj
            refine zg_iload 8 dX8_hangs_88 rfl ?_
            refine zg_goto (tgt := 95) dX8_hangs_90 (by decide) ?_
            exact hj
        refine zg_istore (ls' := [(0, .ref 0), (1, .int v1), (2, .int v2), (3, .int (v3 + (1 : Int32))), (4, .int (if x1 = v1 then (x1 &&& x2) else v4)), (5, .int v5), (6, .int (v2 &&& (-v2))), (7, .int x1), (8, .int (x1 &&& x2))]) dX8_hangs_95 (Nat.le_of_ble_eq_true rfl) rfl ?_
        refine zg_iload_n 2 dX8_hangs_97 rfl rfl ?_
        refine zg_iload 8 dX8_hangs_98 rfl ?_
        refine zg_iconst dX8_hangs_100 zki_m1 ?_
        refine zg_ixor dX8_hangs_101 ?_
        refine zg_iand dX8_hangs_102 ?_
        refine zg_istore_n (ls' := [(0, .ref 0), (1, .int v1), (2, .int (v2 &&& ((x1 &&& x2) ^^^ (-1 : Int32)))), (3, .int (v3 + (1 : Int32))), (4, .int (if x1 = v1 then (x1 &&& x2) else v4)), (5, .int v5), (6, .int (v2 &&& (-v2))), (7, .int x1), (8, .int (x1 &&& x2))]) dX8_hangs_103 rfl (Nat.le_of_ble_eq_true rfl) rfl ?_
        refine zg_iinc (ls' := [(0, .ref 0), (1, .int v1), (2, .int (v2 &&& ((x1 &&& x2) ^^^ (-1 : Int32)))), (3, .int (v3 + (1 : Int32))), (4, .int (if x1 = v1 then (x1 &&& x2) else v4)), (5, .int (v5 + (1 : Int32))), (6, .int (v2 &&& (-v2))), (7, .int x1), (8, .int (x1 &&& x2))]) 5 dX8_hangs_104 rfl zki_1 (Nat.le_of_ble_eq_true rfl) rfl ?_
        refine zg_goto (tgt := 29) dX8_hangs_107 (by decide) ?_
        refine zo_sub (ls' := [(0, .ref 0), (1, .int v1), (2, .int (v2 &&& ((x1 &&& x2) ^^^ (-1 : Int32)))), (3, .int (v3 + (1 : Int32))), (4, .int (if x1 = v1 then (x1 &&& x2) else v4)), (5, .int (v5 + (1 : Int32)))]) [0, 1, 2, 3, 4, 5] rfl ?_
        exact ih _ _ _ _ _ _ h
set_option maxRecDepth 20000 in
set_option maxHeartbeats 4000000 in
theorem k_X8_hangs {M : zM} {r1 : Int32} {M1 : zM} (h : f8_hangs M = some (r1, M1)) : zK ztops yX8_hangs cX8_hangs 9 (some .int) 3 [.ref 0] M (some (.int r1)) M1 := by
  refine zK_of pl_X8 (Nat.le_of_ble_eq_true rfl) ?_
  show zJ ztops RX8 cX8_hangs 9 _ 0 0 0 [(0, .ref 0)] [] M
  rw [f8_hangs] at h
  refine zg_aload_n 0 dX8_hangs_0 rfl rfl ?_
  refine zo_getr 1 1 rfl fl_X8_10 zt_0 rfl dX8_hangs_1 ?_
  obtain ⟨x1, hx1, h⟩ := z_bind h
  refine zg_callV (st := []) (k_X7_all zW_1 hx1) zY_X7_all lv_X8_256 rfl zt_1 rfl (zfit_m (by decide) (by decide)) (Nat.le_of_ble_eq_true rfl) dX8_hangs_4 rfl ?_
  refine zg_istore_n (ls' := [(0, .ref 0), (1, .int x1)]) dX8_hangs_7 rfl (Nat.le_of_ble_eq_true rfl) rfl ?_
  refine zg_aload_n 0 dX8_hangs_8 rfl rfl ?_
  refine zo_getr 21 21 rfl fl_X8_49 zt_0 rfl dX8_hangs_9 ?_
  refine zg_aload_n 0 dX8_hangs_12 rfl rfl ?_
  refine zo_getr 1 1 rfl fl_X8_10 zt_0 rfl dX8_hangs_13 ?_
  obtain ⟨M2, hM2, h⟩ := z_bind h
  refine zg_callV (st := []) (k_X0_tie zW_1 hM2) zY_X0_tie lv_X8_262 rfl zt_21 rfl (zfit_m (by decide) (by decide)) (Nat.le_of_ble_eq_true rfl) dX8_hangs_16 rfl ?_
  refine zg_iload_n 1 dX8_hangs_19 rfl rfl ?_
  refine zg_istore_n (ls' := [(0, .ref 0), (1, .int x1), (2, .int x1)]) dX8_hangs_20 rfl (Nat.le_of_ble_eq_true rfl) rfl ?_
  refine zg_iconst dX8_hangs_21 zki_0 ?_
  refine zg_istore_n (ls' := [(0, .ref 0), (1, .int x1), (2, .int x1), (3, .int (0 : Int32))]) dX8_hangs_22 rfl (Nat.le_of_ble_eq_true rfl) rfl ?_
  refine zg_iconst dX8_hangs_23 zki_0 ?_
  refine zg_istore (ls' := [(0, .ref 0), (1, .int x1), (2, .int x1), (3, .int (0 : Int32)), (4, .int (0 : Int32))]) dX8_hangs_24 (Nat.le_of_ble_eq_true rfl) rfl ?_
  refine zg_iconst dX8_hangs_26 zki_0 ?_
  refine zg_istore (ls' := [(0, .ref 0), (1, .int x1), (2, .int x1), (3, .int (0 : Int32)), (4, .int (0 : Int32)), (5, .int (0 : Int32))]) dX8_hangs_27 (Nat.le_of_ble_eq_true rfl) rfl ?_
  exact g8_hangs_29 zfuel _ _ _ _ _ _ h
set_option maxRecDepth 20000 in
set_option maxHeartbeats 4000000 in
theorem g8_spares_60 {r1 : Int32} {M1 : zM} {k23 : Int32 → Int32 → Int32 → zM → Option (Int32 × zM)} (hk23 : ∀ (v1 : Int32) (v2 : Int32) (v3 : Int32) (M : zM), k23 v1 v2 v3 M = some (r1, M1) → zJ ztops RX8 cX8_spares 5 (zBm ztops 4 (some .int) (some (.int r1)) M1) 0 0 23 [(0, .ref 0), (1, .int v1), (2, .int v2), (3, .int v3)] [] M) : ∀ (v1 : Int32) (v2 : Int32) (v3 : Int32) (M : zM), f8_spares_60 k23 v1 v2 v3 M = some (r1, M1) → zJ ztops RX8 cX8_spares 5 (zBm ztops 4 (some .int) (some (.int r1)) M1) 0 0 60 [(0, .ref 0), (1, .int v1), (2, .int v2), (3, .int v3)] [] M := by
  intro v1 v2 v3 M h
  rw [f8_spares_60] at h
  refine zg_iinc (ls' := [(0, .ref 0), (1, .int v1), (2, .int v2), (3, .int (v3 + (1 : Int32)))]) 3 dX8_spares_60 rfl zki_1 (Nat.le_of_ble_eq_true rfl) rfl ?_
  refine zg_goto (tgt := 23) dX8_spares_63 (by decide) ?_
  exact hk23 _ _ _ _ h
set_option maxRecDepth 20000 in
set_option maxHeartbeats 4000000 in
theorem g8_spares_23 {r1 : Int32} {M1 : zM} : ∀ (n : Nat) (v1 : Int32) (v2 : Int32) (v3 : Int32) (M : zM), f8_spares_23 n v1 v2 v3 M = some (r1, M1) → zJ ztops RX8 cX8_spares 5 (zBm ztops 4 (some .int) (some (.int r1)) M1) 0 0 23 [(0, .ref 0), (1, .int v1), (2, .int v2), (3, .int v3)] [] M := by
  intro n
  induction n with
  | zero => intro v1 v2 v3 M h; cases h
  | succ n ih =>
    intro v1 v2 v3 M h
    rw [f8_spares_23] at h
    refine zg_iload_n 3 dX8_spares_23 rfl rfl ?_
    refine zg_bipush dX8_spares_24 zkb_12 ?_
    refine zg_icmp_ge (tgt := 66) dX8_spares_26 (by decide) (fun hc => ?_) (fun hc => ?_)
    · replace h := (if_pos hc).symm.trans h
      refine zg_aload_n 0 dX8_spares_66 rfl rfl ?_
      refine zo_getr 9 9 rfl fl_X8_32 zt_0 rfl dX8_spares_67 ?_
      refine zg_iload_n 2 dX8_spares_70 rfl rfl ?_
      obtain ⟨x1, hx1, h⟩ := z_bind h
      refine zg_callS (st := [.ref 9]) (k_J6_bitCount_0f7a4 hx1) zY_J6_bitCount_0f7a4 ls_X8_225 rfl (zfit_m (by decide) (by decide)) (Nat.le_of_ble_eq_true rfl) dX8_spares_71 rfl ?_
      refine zg_i2l dX8_spares_74 ?_
      obtain ⟨M2, hM2, h⟩ := z_bind h
      refine zg_callV (st := []) (k_X3_tell hM2) zY_X3_tell lv_X8_207 rfl zt_9 rfl (zfit_m (by decide) (by decide)) (Nat.le_of_ble_eq_true rfl) dX8_spares_75 rfl ?_
      refine zg_iload_n 2 dX8_spares_78 rfl rfl ?_
      cases h
      exact zg_iret dX8_spares_79
    · replace h := (if_neg hc).symm.trans h
      refine zg_iconst dX8_spares_29 zki_1 ?_
      refine zg_iload_n 3 dX8_spares_30 rfl rfl ?_
      refine zg_ishl dX8_spares_31 ?_
      refine zg_istore (ls' := [(0, .ref 0), (1, .int v1), (2, .int v2), (3, .int v3), (4, .int (zshl (1 : Int32) v3))]) dX8_spares_32 (Nat.le_of_ble_eq_true rfl) rfl ?_
      refine zg_iload_n 1 dX8_spares_34 rfl rfl ?_
      refine zg_iload 4 dX8_spares_35 rfl ?_
      refine zg_iand dX8_spares_37 ?_
      refine zg_if_eq (tgt := 60) dX8_spares_38 (by decide) (fun hc => ?_) (fun hc => ?_)
      · replace h := (if_pos hc).symm.trans h
        refine zo_sub (ls' := [(0, .ref 0), (1, .int v1), (2, .int v2), (3, .int v3)]) [0, 1, 2, 3] rfl ?_
        exact g8_spares_60 (fun u0 u1 u2 u3 h => ih u0 u1 u2 u3 h) _ _ _ _ h
      · replace h := (if_neg hc).symm.trans h
        refine zg_aload_n 0 dX8_spares_41 rfl rfl ?_
        refine zo_getr 21 21 rfl fl_X8_49 zt_0 rfl dX8_spares_42 ?_
        refine zg_iload_n 1 dX8_spares_45 rfl rfl ?_
        refine zg_iload 4 dX8_spares_46 rfl ?_
        refine zg_ixor dX8_spares_48 ?_
        obtain ⟨x1, hx1, h⟩ := z_bind h
        refine zg_callV (st := []) (k_X0_areTogether hx1) zY_X0_areTogether lv_X8_276 rfl zt_21 rfl (zfit_m (by decide) (by decide)) (Nat.le_of_ble_eq_true rfl) dX8_spares_49 rfl ?_
        refine zg_if_eq (tgt := 60) dX8_spares_52 (by decide) (fun hc => ?_) (fun hc => ?_)
        · replace h := (if_pos hc).symm.trans h
          refine zo_sub (ls' := [(0, .ref 0), (1, .int v1), (2, .int v2), (3, .int v3)]) [0, 1, 2, 3] rfl ?_
          exact g8_spares_60 (fun u0 u1 u2 u3 h => ih u0 u1 u2 u3 h) _ _ _ _ h
        · replace h := (if_neg hc).symm.trans h
          refine zg_iload_n 2 dX8_spares_55 rfl rfl ?_
          refine zg_iload 4 dX8_spares_56 rfl ?_
          refine zg_ior dX8_spares_58 ?_
          refine zg_istore_n (ls' := [(0, .ref 0), (1, .int v1), (2, .int (v2 ||| (zshl (1 : Int32) v3))), (3, .int v3), (4, .int (zshl (1 : Int32) v3))]) dX8_spares_59 rfl (Nat.le_of_ble_eq_true rfl) rfl ?_
          refine zo_sub (ls' := [(0, .ref 0), (1, .int v1), (2, .int (v2 ||| (zshl (1 : Int32) v3))), (3, .int v3)]) [0, 1, 2, 3] rfl ?_
          exact g8_spares_60 (fun u0 u1 u2 u3 h => ih u0 u1 u2 u3 h) _ _ _ _ h
set_option maxRecDepth 20000 in
set_option maxHeartbeats 4000000 in
theorem k_X8_spares {M : zM} {r1 : Int32} {M1 : zM} (h : f8_spares M = some (r1, M1)) : zK ztops yX8_spares cX8_spares 5 (some .int) 4 [.ref 0] M (some (.int r1)) M1 := by
  refine zK_of pl_X8 (Nat.le_of_ble_eq_true rfl) ?_
  show zJ ztops RX8 cX8_spares 5 _ 0 0 0 [(0, .ref 0)] [] M
  rw [f8_spares] at h
  refine zg_aload_n 0 dX8_spares_0 rfl rfl ?_
  refine zo_getr 1 1 rfl fl_X8_10 zt_0 rfl dX8_spares_1 ?_
  obtain ⟨x1, hx1, h⟩ := z_bind h
  refine zg_callV (st := []) (k_X7_all zW_1 hx1) zY_X7_all lv_X8_256 rfl zt_1 rfl (zfit_m (by decide) (by decide)) (Nat.le_of_ble_eq_true rfl) dX8_spares_4 rfl ?_
  refine zg_istore_n (ls' := [(0, .ref 0), (1, .int x1)]) dX8_spares_7 rfl (Nat.le_of_ble_eq_true rfl) rfl ?_
  refine zg_iconst dX8_spares_8 zki_0 ?_
  refine zg_istore_n (ls' := [(0, .ref 0), (1, .int x1), (2, .int (0 : Int32))]) dX8_spares_9 rfl (Nat.le_of_ble_eq_true rfl) rfl ?_
  refine zg_aload_n 0 dX8_spares_10 rfl rfl ?_
  refine zo_getr 21 21 rfl fl_X8_49 zt_0 rfl dX8_spares_11 ?_
  refine zg_aload_n 0 dX8_spares_14 rfl rfl ?_
  refine zo_getr 1 1 rfl fl_X8_10 zt_0 rfl dX8_spares_15 ?_
  obtain ⟨M2, hM2, h⟩ := z_bind h
  refine zg_callV (st := []) (k_X0_tie zW_1 hM2) zY_X0_tie lv_X8_262 rfl zt_21 rfl (zfit_m (by decide) (by decide)) (Nat.le_of_ble_eq_true rfl) dX8_spares_18 rfl ?_
  refine zg_iconst dX8_spares_21 zki_0 ?_
  refine zg_istore_n (ls' := [(0, .ref 0), (1, .int x1), (2, .int (0 : Int32)), (3, .int (0 : Int32))]) dX8_spares_22 rfl (Nat.le_of_ble_eq_true rfl) rfl ?_
  exact g8_spares_23 zfuel _ _ _ _ h
set_option maxRecDepth 20000 in
set_option maxHeartbeats 4000000 in
theorem g8_mends_156 {r1 : Int32} {M1 : zM} {k64 : Int32 → Int32 → zM → Option (Int32 × zM)} (hk64 : ∀ (v1 : Int32) (v3 : Int32) (M : zM), k64 v1 v3 M = some (r1, M1) → zJ ztops RX8 cX8_mends 5 (zBm ztops 5 (some .int) (some (.int r1)) M1) 0 0 64 [(0, .ref 0), (1, .int v1), (3, .int v3)] [] M) : ∀ (v1 : Int32) (v3 : Int32) (M : zM), f8_mends_156 k64 v1 v3 M = some (r1, M1) → zJ ztops RX8 cX8_mends 5 (zBm ztops 5 (some .int) (some (.int r1)) M1) 0 0 156 [(0, .ref 0), (1, .int v1), (3, .int v3)] [] M := by
  intro v1 v3 M h
  rw [f8_mends_156] at h
  refine zg_iinc (ls' := [(0, .ref 0), (1, .int v1), (3, .int (v3 + (1 : Int32)))]) 2 dX8_mends_156 rfl zki_1 (Nat.le_of_ble_eq_true rfl) rfl ?_
  refine zg_goto (tgt := 64) dX8_mends_159 (by decide) ?_
  exact hk64 _ _ _ h
set_option maxRecDepth 20000 in
set_option maxHeartbeats 4000000 in
theorem g8_mends_64 {r1 : Int32} {M1 : zM} : ∀ (n : Nat) (v1 : Int32) (v3 : Int32) (M : zM), f8_mends_64 n v1 v3 M = some (r1, M1) → zJ ztops RX8 cX8_mends 5 (zBm ztops 5 (some .int) (some (.int r1)) M1) 0 0 64 [(0, .ref 0), (1, .int v1), (3, .int v3)] [] M := by
  intro n
  induction n with
  | zero => intro v1 v3 M h; cases h
  | succ n ih =>
    intro v1 v3 M h
    rw [f8_mends_64] at h
    refine zg_iload_n 2 dX8_mends_64 rfl rfl ?_
    refine zg_bipush dX8_mends_65 zkb_6 ?_
    refine zg_aload_n 0 dX8_mends_67 rfl rfl ?_
    refine zo_getr 1 1 rfl fl_X8_10 zt_0 rfl dX8_mends_68 ?_
    refine zg_geti fl_X8_100 zt_1 rfl dX8_mends_71 ?_
    refine zg_imul dX8_mends_74 ?_
    refine zg_icmp_ge (tgt := 162) dX8_mends_75 (by decide) (fun hc => ?_) (fun hc => ?_)
    · replace h := (if_pos hc).symm.trans h
      refine zg_bipush dX8_mends_162 zkb_m2 ?_
      cases h
      exact zg_iret dX8_mends_164
    · replace h := (if_neg hc).symm.trans h
      refine zg_aload_n 0 dX8_mends_78 rfl rfl ?_
      refine zo_getr 1 1 rfl fl_X8_10 zt_0 rfl dX8_mends_79 ?_
      refine zg_iload_n 2 dX8_mends_82 rfl rfl ?_
      refine zg_bipush dX8_mends_83 zkb_6 ?_
      refine zg_idiv (by decide) dX8_mends_85 ?_
      refine zg_iload_n 2 dX8_mends_86 rfl rfl ?_
      refine zg_bipush dX8_mends_87 zkb_6 ?_
      refine zg_irem (by decide) dX8_mends_89 ?_
      obtain ⟨x1, hx1, h⟩ := z_bind h
      refine zg_callV (st := []) (k_X7_crosses zW_1 hx1) zY_X7_crosses lv_X8_107 rfl zt_1 rfl (zfit_m (by decide) (by decide)) (Nat.le_of_ble_eq_true rfl) dX8_mends_90 rfl ?_
      refine zg_if_eq (tgt := 156) dX8_mends_93 (by decide) (fun hc => ?_) (fun hc => ?_)
      · replace h := (if_pos hc).symm.trans h
        exact g8_mends_156 (fun u0 u1 u2 h => ih u0 u1 u2 h) _ _ _ h
      · replace h := (if_neg hc).symm.trans h
        refine zg_aload_n 0 dX8_mends_96 rfl rfl ?_
        refine zo_getr 21 21 rfl fl_X8_49 zt_0 rfl dX8_mends_97 ?_
        refine zg_iload_n 2 dX8_mends_100 rfl rfl ?_
        refine zg_bipush dX8_mends_101 zkb_6 ?_
        refine zg_idiv (by decide) dX8_mends_103 ?_
        refine zg_iload_n 2 dX8_mends_104 rfl rfl ?_
        refine zg_bipush dX8_mends_105 zkb_6 ?_
        refine zg_irem (by decide) dX8_mends_107 ?_
        obtain ⟨M2, hM2, h⟩ := z_bind h
        refine zg_callV (st := []) (k_X0_turn hM2) zY_X0_turn lv_X8_282 rfl zt_21 rfl (zfit_m (by decide) (by decide)) (Nat.le_of_ble_eq_true rfl) dX8_mends_108 rfl ?_
        refine zg_aload_n 0 dX8_mends_111 rfl rfl ?_
        refine zg_iload_n 2 dX8_mends_112 rfl rfl ?_
        refine zg_iconst dX8_mends_113 zki_1 ?_
        refine zg_iadd dX8_mends_114 ?_
        refine zg_iload_n 1 dX8_mends_115 rfl rfl ?_
        obtain ⟨p3, hp3, h⟩ := z_bind h
        refine zg_callV (st := []) (k_X8_mendingCell hp3) zY_X8_mendingCell lv_X8_279 rfl zt_0 rfl (zfit_m (by decide) (by decide)) (Nat.le_of_ble_eq_true rfl) dX8_mends_116 rfl ?_
        refine zg_istore (ls' := [(0, .ref 0), (1, .int v1), (3, .int v3), (4, .int p3.1)]) dX8_mends_119 (Nat.le_of_ble_eq_true rfl) rfl ?_
        refine zg_aload_n 0 dX8_mends_121 rfl rfl ?_
        refine zo_getr 21 21 rfl fl_X8_49 zt_0 rfl dX8_mends_122 ?_
        refine zg_iload_n 2 dX8_mends_125 rfl rfl ?_
        refine zg_bipush dX8_mends_126 zkb_6 ?_
        refine zg_idiv (by decide) dX8_mends_128 ?_
        refine zg_iload_n 2 dX8_mends_129 rfl rfl ?_
        refine zg_bipush dX8_mends_130 zkb_6 ?_
        refine zg_irem (by decide) dX8_mends_132 ?_
        obtain ⟨M4, hM4, h⟩ := z_bind h
        refine zg_callV (st := []) (k_X0_turn hM4) zY_X0_turn lv_X8_282 rfl zt_21 rfl (zfit_m (by decide) (by decide)) (Nat.le_of_ble_eq_true rfl) dX8_mends_133 rfl ?_
        refine zg_iload 3 dX8_mends_136 rfl ?_
        refine zg_iconst dX8_mends_138 zki_m1 ?_
        refine zg_icmp_eq (tgt := 156) dX8_mends_139 (by decide) (fun hc => ?_) (fun hc => ?_)
        · replace h := (if_pos hc).symm.trans h
          refine zo_sub (ls' := [(0, .ref 0), (1, .int v1), (3, .int v3)]) [0, 1, 2] rfl ?_
          exact g8_mends_156 (fun u0 u1 u2 h => ih u0 u1 u2 h) _ _ _ h
        · replace h := (if_neg hc).symm.trans h
          refine zg_aload_n 0 dX8_mends_142 rfl rfl ?_
          refine zo_getr 9 9 rfl fl_X8_32 zt_0 rfl dX8_mends_143 ?_
          refine zg_iload_n 2 dX8_mends_146 rfl rfl ?_
          refine zg_i2l dX8_mends_147 ?_
          refine zg_iload 3 dX8_mends_148 rfl ?_
          refine zg_i2l dX8_mends_150 ?_
          obtain ⟨M5, hM5, h⟩ := z_bind h
          refine zg_callV (st := []) (k_X3_tell_ hM5) zY_X3_tell_ lv_X8_194 rfl zt_9 rfl (zfit_m (by decide) (by decide)) (Nat.le_of_ble_eq_true rfl) dX8_mends_151 rfl ?_
          refine zg_iconst dX8_mends_154 zki_2 ?_
          cases h
          exact zg_iret dX8_mends_155
set_option maxRecDepth 20000 in
set_option maxHeartbeats 4000000 in
theorem k_X8_mends {M : zM} {r1 : Int32} {M1 : zM} (h : f8_mends M = some (r1, M1)) : zK ztops yX8_mends cX8_mends 5 (some .int) 5 [.ref 0] M (some (.int r1)) M1 := by
  refine zK_of pl_X8 (Nat.le_of_ble_eq_true rfl) ?_
  show zJ ztops RX8 cX8_mends 5 _ 0 0 0 [(0, .ref 0)] [] M
  rw [f8_mends] at h
  refine zg_aload_n 0 dX8_mends_0 rfl rfl ?_
  refine zo_getr 1 1 rfl fl_X8_10 zt_0 rfl dX8_mends_1 ?_
  obtain ⟨x1, hx1, h⟩ := z_bind h
  refine zg_callV (st := []) (k_X7_all zW_1 hx1) zY_X7_all lv_X8_256 rfl zt_1 rfl (zfit_m (by decide) (by decide)) (Nat.le_of_ble_eq_true rfl) dX8_mends_4 rfl ?_
  refine zg_istore_n (ls' := [(0, .ref 0), (1, .int x1)]) dX8_mends_7 rfl (Nat.le_of_ble_eq_true rfl) rfl ?_
  refine zg_aload_n 0 dX8_mends_8 rfl rfl ?_
  refine zo_getr 21 21 rfl fl_X8_49 zt_0 rfl dX8_mends_9 ?_
  refine zg_aload_n 0 dX8_mends_12 rfl rfl ?_
  refine zo_getr 1 1 rfl fl_X8_10 zt_0 rfl dX8_mends_13 ?_
  obtain ⟨M2, hM2, h⟩ := z_bind h
  refine zg_callV (st := []) (k_X0_tie zW_1 hM2) zY_X0_tie lv_X8_262 rfl zt_21 rfl (zfit_m (by decide) (by decide)) (Nat.le_of_ble_eq_true rfl) dX8_mends_16 rfl ?_
  refine zg_aload_n 0 dX8_mends_19 rfl rfl ?_
  refine zo_getr 21 21 rfl fl_X8_49 zt_0 rfl dX8_mends_20 ?_
  refine zg_iload_n 1 dX8_mends_23 rfl rfl ?_
  obtain ⟨x3, hx3, h⟩ := z_bind h
  refine zg_callV (st := []) (k_X0_areTogether hx3) zY_X0_areTogether lv_X8_276 rfl zt_21 rfl (zfit_m (by decide) (by decide)) (Nat.le_of_ble_eq_true rfl) dX8_mends_24 rfl ?_
  refine zg_if_eq (tgt := 39) dX8_mends_27 (by decide) (fun hc => ?_) (fun hc => ?_)
  · replace h := (if_pos hc).symm.trans h
    refine zg_aload_n 0 dX8_mends_39 rfl rfl ?_
    refine zg_iconst dX8_mends_40 zki_0 ?_
    refine zg_iload_n 1 dX8_mends_41 rfl rfl ?_
    obtain ⟨p4, hp4, h⟩ := z_bind h
    refine zg_callV (st := []) (k_X8_mendingCell hp4) zY_X8_mendingCell lv_X8_279 rfl zt_0 rfl (zfit_m (by decide) (by decide)) (Nat.le_of_ble_eq_true rfl) dX8_mends_42 rfl ?_
    refine zg_istore_n (ls' := [(0, .ref 0), (1, .int x1), (2, .int p4.1)]) dX8_mends_45 rfl (Nat.le_of_ble_eq_true rfl) rfl ?_
    refine zg_iload_n 2 dX8_mends_46 rfl rfl ?_
    refine zg_iconst dX8_mends_47 zki_m1 ?_
    refine zg_icmp_eq (tgt := 62) dX8_mends_48 (by decide) (fun hc => ?_) (fun hc => ?_)
    · replace h := (if_pos hc).symm.trans h
      refine zg_iconst dX8_mends_62 zki_0 ?_
      refine zg_istore_n (ls' := [(0, .ref 0), (1, .int x1), (2, .int p4.1), (3, .int (0 : Int32))]) dX8_mends_63 rfl (Nat.le_of_ble_eq_true rfl) rfl ?_
      refine zo_sub (ls' := [(0, .ref 0), (1, .int x1), (3, .int (0 : Int32))]) [0, 1, 3] rfl ?_
      exact g8_mends_64 zfuel _ _ _ h
    · replace h := (if_neg hc).symm.trans h
      refine zg_aload_n 0 dX8_mends_51 rfl rfl ?_
      refine zo_getr 9 9 rfl fl_X8_32 zt_0 rfl dX8_mends_52 ?_
      refine zg_iload_n 2 dX8_mends_55 rfl rfl ?_
      refine zg_i2l dX8_mends_56 ?_
      obtain ⟨M5, hM5, h⟩ := z_bind h
      refine zg_callV (st := []) (k_X3_tell hM5) zY_X3_tell lv_X8_207 rfl zt_9 rfl (zfit_m (by decide) (by decide)) (Nat.le_of_ble_eq_true rfl) dX8_mends_57 rfl ?_
      refine zg_iconst dX8_mends_60 zki_1 ?_
      cases h
      exact zg_iret dX8_mends_61
  · replace h := (if_neg hc).symm.trans h
    refine zg_aload_n 0 dX8_mends_30 rfl rfl ?_
    refine zo_getr 9 9 rfl fl_X8_32 zt_0 rfl dX8_mends_31 ?_
    obtain ⟨M4, hM4, h⟩ := z_bind h
    refine zg_callV (st := []) (k_X3_clear hM4) zY_X3_clear lv_X8_222 rfl zt_9 rfl (zfit_m (by decide) (by decide)) (Nat.le_of_ble_eq_true rfl) dX8_mends_34 rfl ?_
    refine zg_iconst dX8_mends_37 zki_0 ?_
    cases h
    exact zg_iret dX8_mends_38
set_option maxRecDepth 20000 in
set_option maxHeartbeats 4000000 in
theorem g8_endures_96 {r1 : Int32} {M1 : zM} : ∀ (v1 : Int32) (v2 : Int32) (v3 : Int32) (M : zM), f8_endures_96 v1 v2 v3 M = some (r1, M1) → zJ ztops RX8 cX8_endures 7 (zBm ztops 5 (some .int) (some (.int r1)) M1) 0 0 96 [(0, .ref 0), (1, .int v1), (2, .int v2), (3, .int v3)] [] M := by
  intro v1 v2 v3 M h
  rw [f8_endures_96] at h
  refine zg_aload_n 0 dX8_endures_96 rfl rfl ?_
  refine zo_getr 9 9 rfl fl_X8_32 zt_0 rfl dX8_endures_97 ?_
  refine zg_iload_n 3 dX8_endures_100 rfl rfl ?_
  refine zg_i2l dX8_endures_101 ?_
  refine zg_aload_n 0 dX8_endures_102 rfl rfl ?_
  refine zo_getr 21 21 rfl fl_X8_49 zt_0 rfl dX8_endures_103 ?_
  refine zg_iload_n 1 dX8_endures_106 rfl rfl ?_
  obtain ⟨p1, hp1, h⟩ := z_bind h
  refine zg_callV (st := [.long (Int32.toInt64 v3), .ref 9]) (k_X0_longestTaking hp1) zY_X0_longestTaking lv_X8_297 rfl zt_21 rfl (zfit_m (by decide) (by decide)) (Nat.le_of_ble_eq_true rfl) dX8_endures_107 rfl ?_
  refine zg_i2l dX8_endures_110 ?_
  obtain ⟨M2, hM2, h⟩ := z_bind h
  refine zg_callV (st := []) (k_X3_tell_ hM2) zY_X3_tell_ lv_X8_194 rfl zt_9 rfl (zfit_m (by decide) (by decide)) (Nat.le_of_ble_eq_true rfl) dX8_endures_111 rfl ?_
  refine zg_iload_n 2 dX8_endures_114 rfl rfl ?_
  cases h
  exact zg_iret dX8_endures_115
set_option maxRecDepth 20000 in
set_option maxHeartbeats 4000000 in
theorem g8_endures_74 {r1 : Int32} {M1 : zM} {k30 : Int32 → Int32 → Int32 → Int32 → Int32 → zM → Option (Int32 × zM)} (hk30 : ∀ (v1 : Int32) (v2 : Int32) (v3 : Int32) (v4 : Int32) (v5 : Int32) (M : zM), k30 v1 v2 v3 v4 v5 M = some (r1, M1) → zJ ztops RX8 cX8_endures 7 (zBm ztops 5 (some .int) (some (.int r1)) M1) 0 0 30 [(0, .ref 0), (1, .int v1), (2, .int v2), (3, .int v3), (4, .int v4), (5, .int v5)] [] M) : ∀ (v1 : Int32) (v2 : Int32) (v3 : Int32) (v4 : Int32) (v5 : Int32) (M : zM), f8_endures_74 k30 v1 v2 v3 v4 v5 M = some (r1, M1) → zJ ztops RX8 cX8_endures 7 (zBm ztops 5 (some .int) (some (.int r1)) M1) 0 0 74 [(0, .ref 0), (1, .int v1), (2, .int v2), (3, .int v3), (4, .int v4), (5, .int v5)] [] M := by
  intro v1 v2 v3 v4 v5 M h
  rw [f8_endures_74] at h
  refine zg_iload 4 dX8_endures_74 rfl ?_
  refine zg_iload_n 1 dX8_endures_76 rfl rfl ?_
  refine zg_isub dX8_endures_77 ?_
  refine zg_iload_n 1 dX8_endures_78 rfl rfl ?_
  refine zg_iand dX8_endures_79 ?_
  refine zg_istore (ls' := [(0, .ref 0), (1, .int v1), (2, .int v2), (3, .int v3), (4, .int ((v4 - v1) &&& v1)), (5, .int v5)]) dX8_endures_80 (Nat.le_of_ble_eq_true rfl) rfl ?_
  refine zg_iload 4 dX8_endures_82 rfl ?_
  refine zg_if_ne (tgt := 90) dX8_endures_84 (by decide) (fun hc => ?_) (fun hc => ?_)
  · replace h := (if_neg hc).symm.trans h
    refine zg_iinc (ls' := [(0, .ref 0), (1, .int v1), (2, .int v2), (3, .int v3), (4, .int ((v4 - v1) &&& v1)), (5, .int (v5 + (1 : Int32)))]) 5 dX8_endures_90 rfl zki_1 (Nat.le_of_ble_eq_true rfl) rfl ?_
    refine zg_goto (tgt := 30) dX8_endures_93 (by decide) ?_
    exact hk30 _ _ _ _ _ _ h
  · replace h := (if_pos hc).symm.trans h
    refine zg_goto (tgt := 96) dX8_endures_87 (by decide) ?_
    refine zo_sub (ls' := [(0, .ref 0), (1, .int v1), (2, .int v2), (3, .int v3)]) [0, 1, 2, 3] rfl ?_
    exact g8_endures_96 _ _ _ _ h
set_option maxRecDepth 20000 in
set_option maxHeartbeats 4000000 in
theorem g8_endures_30 {r1 : Int32} {M1 : zM} : ∀ (n : Nat) (v1 : Int32) (v2 : Int32) (v3 : Int32) (v4 : Int32) (v5 : Int32) (M : zM), f8_endures_30 n v1 v2 v3 v4 v5 M = some (r1, M1) → zJ ztops RX8 cX8_endures 7 (zBm ztops 5 (some .int) (some (.int r1)) M1) 0 0 30 [(0, .ref 0), (1, .int v1), (2, .int v2), (3, .int v3), (4, .int v4), (5, .int v5)] [] M := by
  intro n
  induction n with
  | zero => intro v1 v2 v3 v4 v5 M h; cases h
  | succ n ih =>
    intro v1 v2 v3 v4 v5 M h
    rw [f8_endures_30] at h
    refine zg_iload 5 dX8_endures_30 rfl ?_
    refine zg_sipush dX8_endures_32 zks_4096 ?_
    refine zg_icmp_ge (tgt := 96) dX8_endures_35 (by decide) (fun hc => ?_) (fun hc => ?_)
    · replace h := (if_pos hc).symm.trans h
      refine zo_sub (ls' := [(0, .ref 0), (1, .int v1), (2, .int v2), (3, .int v3)]) [0, 1, 2, 3] rfl ?_
      exact g8_endures_96 _ _ _ _ h
    · replace h := (if_neg hc).symm.trans h
      refine zg_iload 4 dX8_endures_38 rfl ?_
      obtain ⟨x1, hx1, h⟩ := z_bind h
      refine zg_callS (st := []) (k_J6_bitCount_0f7a4 hx1) zY_J6_bitCount_0f7a4 ls_X8_225 rfl (zfit_m (by decide) (by decide)) (Nat.le_of_ble_eq_true rfl) dX8_endures_40 rfl ?_
      refine zg_istore (ls' := [(0, .ref 0), (1, .int v1), (2, .int v2), (3, .int v3), (4, .int v4), (5, .int v5), (6, .int x1)]) dX8_endures_43 (Nat.le_of_ble_eq_true rfl) rfl ?_
      refine zg_iload 6 dX8_endures_45 rfl ?_
      refine zg_iload_n 2 dX8_endures_47 rfl rfl ?_
      refine zg_icmp_ge (tgt := 74) dX8_endures_48 (by decide) (fun hc => ?_) (fun hc => ?_)
      · replace h := (if_pos hc).symm.trans h
        refine zo_sub (ls' := [(0, .ref 0), (1, .int v1), (2, .int v2), (3, .int v3), (4, .int v4), (5, .int v5)]) [0, 1, 2, 3, 4, 5] rfl ?_
        exact g8_endures_74 (fun u0 u1 u2 u3 u4 u5 h => ih u0 u1 u2 u3 u4 u5 h) _ _ _ _ _ _ h
      · replace h := (if_neg hc).symm.trans h
        refine zg_aload_n 0 dX8_endures_51 rfl rfl ?_
        refine zo_getr 21 21 rfl fl_X8_49 zt_0 rfl dX8_endures_52 ?_
        refine zo_getr 24 3 rfl fl_X8_289 zt_21 rfl dX8_endures_55 ?_
        refine zg_iload_n 1 dX8_endures_58 rfl rfl ?_
        refine zg_iload 4 dX8_endures_59 rfl ?_
        refine zg_ixor dX8_endures_61 ?_
        obtain ⟨x2, hx2, h⟩ := z_bind h
        refine zg_callS (st := []) (k_X0_isIn zt_24 hx2) zY_X0_isIn ls_X8_293 rfl (zfit_m (by decide) (by decide)) (Nat.le_of_ble_eq_true rfl) dX8_endures_62 rfl ?_
        refine zg_if_ne (tgt := 74) dX8_endures_65 (by decide) (fun hc => ?_) (fun hc => ?_)
        · replace h := (if_neg hc).symm.trans h
          refine zo_sub (ls' := [(0, .ref 0), (1, .int v1), (2, .int v2), (3, .int v3), (4, .int v4), (5, .int v5)]) [0, 1, 2, 3, 4, 5] rfl ?_
          exact g8_endures_74 (fun u0 u1 u2 u3 u4 u5 h => ih u0 u1 u2 u3 u4 u5 h) _ _ _ _ _ _ h
        · replace h := (if_pos hc).symm.trans h
          refine zg_iload 6 dX8_endures_68 rfl ?_
          refine zg_istore_n (ls' := [(0, .ref 0), (1, .int v1), (2, .int x1), (3, .int v3), (4, .int v4), (5, .int v5), (6, .int x1)]) dX8_endures_70 rfl (Nat.le_of_ble_eq_true rfl) rfl ?_
          refine zg_iload 4 dX8_endures_71 rfl ?_
          refine zg_istore_n (ls' := [(0, .ref 0), (1, .int v1), (2, .int x1), (3, .int v4), (4, .int v4), (5, .int v5), (6, .int x1)]) dX8_endures_73 rfl (Nat.le_of_ble_eq_true rfl) rfl ?_
          refine zo_sub (ls' := [(0, .ref 0), (1, .int v1), (2, .int x1), (3, .int v4), (4, .int v4), (5, .int v5)]) [0, 1, 2, 3, 4, 5] rfl ?_
          exact g8_endures_74 (fun u0 u1 u2 u3 u4 u5 h => ih u0 u1 u2 u3 u4 u5 h) _ _ _ _ _ _ h
set_option maxRecDepth 20000 in
set_option maxHeartbeats 4000000 in
theorem k_X8_endures {M : zM} {r1 : Int32} {M1 : zM} (h : f8_endures M = some (r1, M1)) : zK ztops yX8_endures cX8_endures 7 (some .int) 5 [.ref 0] M (some (.int r1)) M1 := by
  refine zK_of pl_X8 (Nat.le_of_ble_eq_true rfl) ?_
  show zJ ztops RX8 cX8_endures 7 _ 0 0 0 [(0, .ref 0)] [] M
  rw [f8_endures] at h
  refine zg_aload_n 0 dX8_endures_0 rfl rfl ?_
  refine zo_getr 21 21 rfl fl_X8_49 zt_0 rfl dX8_endures_1 ?_
  refine zg_aload_n 0 dX8_endures_4 rfl rfl ?_
  refine zo_getr 1 1 rfl fl_X8_10 zt_0 rfl dX8_endures_5 ?_
  obtain ⟨M1, hM1, h⟩ := z_bind h
  refine zg_callV (st := []) (k_X0_tabulate zW_1 hM1) zY_X0_tabulate lv_X8_286 rfl zt_21 rfl (zfit_m (by decide) (by decide)) (Nat.le_of_ble_eq_true rfl) dX8_endures_8 rfl ?_
  refine zg_aload_n 0 dX8_endures_11 rfl rfl ?_
  refine zo_getr 1 1 rfl fl_X8_10 zt_0 rfl dX8_endures_12 ?_
  obtain ⟨x2, hx2, h⟩ := z_bind h
  refine zg_callV (st := []) (k_X7_all zW_1 hx2) zY_X7_all lv_X8_256 rfl zt_1 rfl (zfit_m (by decide) (by decide)) (Nat.le_of_ble_eq_true rfl) dX8_endures_15 rfl ?_
  refine zg_istore_n (ls' := [(0, .ref 0), (1, .int x2)]) dX8_endures_18 rfl (Nat.le_of_ble_eq_true rfl) rfl ?_
  refine zg_bipush dX8_endures_19 zkb_13 ?_
  refine zg_istore_n (ls' := [(0, .ref 0), (1, .int x2), (2, .int (13 : Int32))]) dX8_endures_21 rfl (Nat.le_of_ble_eq_true rfl) rfl ?_
  refine zg_iconst dX8_endures_22 zki_0 ?_
  refine zg_istore_n (ls' := [(0, .ref 0), (1, .int x2), (2, .int (13 : Int32)), (3, .int (0 : Int32))]) dX8_endures_23 rfl (Nat.le_of_ble_eq_true rfl) rfl ?_
  refine zg_iconst dX8_endures_24 zki_0 ?_
  refine zg_istore (ls' := [(0, .ref 0), (1, .int x2), (2, .int (13 : Int32)), (3, .int (0 : Int32)), (4, .int (0 : Int32))]) dX8_endures_25 (Nat.le_of_ble_eq_true rfl) rfl ?_
  refine zg_iconst dX8_endures_27 zki_0 ?_
  refine zg_istore (ls' := [(0, .ref 0), (1, .int x2), (2, .int (13 : Int32)), (3, .int (0 : Int32)), (4, .int (0 : Int32)), (5, .int (0 : Int32))]) dX8_endures_28 (Nat.le_of_ble_eq_true rfl) rfl ?_
  exact g8_endures_30 zfuel _ _ _ _ _ _ h
