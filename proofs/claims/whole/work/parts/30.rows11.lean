set_option maxRecDepth 20000 in
set_option maxHeartbeats 4000000 in
theorem g4_takesJoin_152 {T : List zN} {a0 : Nat} (h0 : zRu T a0) {r1 : Int32} {Mr : zM} : ∀ (v1 : Int32) (v2 : Int32) (M : zM), f4_takesJoin_152 a0 v1 v2 M = some (r1, Mr) → zJ T RX4 cX4_takesJoin 3 (zBm T 3 (some .boolean) (some (.int r1)) Mr) 0 0 152 [(0, .ref a0), (1, .int v1), (2, .int v2)] [] M := by
  intro v1 v2 M h
  rw [f4_takesJoin_152] at h
  refine zg_aload_n 0 dX4_takesJoin_152 rfl rfl ?_
  refine zo_getr (a0 + 3) 2 rfl fl_X4_22 h0.1 rfl dX4_takesJoin_153 ?_
  refine zg_aload_n 0 dX4_takesJoin_156 rfl rfl ?_
  refine zg_geti fl_X4_41 h0.1 rfl dX4_takesJoin_157 ?_
  refine zg_aload_n 0 dX4_takesJoin_160 rfl rfl ?_
  refine zo_getr (a0 + 3) 2 rfl fl_X4_22 h0.1 rfl dX4_takesJoin_161 ?_
  refine zg_aload_n 0 dX4_takesJoin_164 rfl rfl ?_
  refine zg_geti fl_X4_41 h0.1 rfl dX4_takesJoin_165 ?_
  obtain ⟨x1, hx1, h⟩ := z_bind h
  refine zo_zald h0.2.2.2.1 hx1 dX4_takesJoin_168 ?_
  suffices hj : zJ T RX4 cX4_takesJoin 3 (zBm T 3 (some .boolean) (some (.int r1)) Mr) 0 0 182 [(0, .ref a0), (1, .int v1), (2, .int v2)] [.int (if x1 = 0 then (if v2 = (1 : Int32) then (1 : Int32) else (0 : Int32)) else (1 : Int32)), .int (M.1 a0 5), .ref (a0 + 3)] M by
    refine zg_if_ne (tgt := 177) dX4_takesJoin_169 (by decide) (fun hc => ?_) (fun hc => ?_)
    · rw [show (if x1 = 0 then (if v2 = (1 : Int32) then (1 : Int32) else (0 : Int32)) else (1 : Int32)) = (1 : Int32) from if_neg hc] at hj
      refine zg_iconst dX4_takesJoin_177 zki_1 ?_
      refine zg_goto (tgt := 182) dX4_takesJoin_178 (by decide) ?_
      exact hj
    · rw [show (if x1 = 0 then (if v2 = (1 : Int32) then (1 : Int32) else (0 : Int32)) else (1 : Int32)) = (if v2 = (1 : Int32) then (1 : Int32) else (0 : Int32)) from if_pos hc] at hj
      refine zg_iload_n 2 dX4_takesJoin_172 rfl rfl ?_
      refine zg_iconst dX4_takesJoin_173 zki_1 ?_
      refine zg_icmp_ne (tgt := 181) dX4_takesJoin_174 (by decide) (fun hc => ?_) (fun hc => ?_)
      · rw [show (if v2 = (1 : Int32) then (1 : Int32) else (0 : Int32)) = (0 : Int32) from if_neg hc] at hj
        refine zg_iconst dX4_takesJoin_181 zki_0 ?_
        exact hj
      · rw [show (if v2 = (1 : Int32) then (1 : Int32) else (0 : Int32)) = (1 : Int32) from if_pos hc] at hj
        refine zg_iconst dX4_takesJoin_177 zki_1 ?_
        refine zg_goto (tgt := 182) dX4_takesJoin_178 (by decide) ?_
        exact hj
  obtain ⟨M2, hM2, h⟩ := z_bind h
  refine zo_zast h0.2.2.2.1 hM2 dX4_takesJoin_182 ?_
  refine zg_aload_n 0 dX4_takesJoin_183 rfl rfl ?_
  refine zg_iload_n 2 dX4_takesJoin_184 rfl rfl ?_
  obtain ⟨M3, hM3, h⟩ := z_bind h
  refine zg_callV (st := []) (k_X4_release h0 hM3) zY_X4_release lv_X4_68 rfl h0.1 rfl (zfit_m (by decide) (by decide)) (Nat.le_of_ble_eq_true rfl) dX4_takesJoin_185 rfl ?_
  refine zg_aload_n 0 dX4_takesJoin_188 rfl rfl ?_
  refine zg_sipush dX4_takesJoin_189 zks_1000 ?_
  refine zg_iload_n 1 dX4_takesJoin_192 rfl rfl ?_
  refine zg_iadd dX4_takesJoin_193 ?_
  obtain ⟨M4, hM4, h⟩ := z_bind h
  refine zg_callV (st := []) (k_X4_hold h0 hM4) zY_X4_hold lv_X4_75 rfl h0.1 rfl (zfit_m (by decide) (by decide)) (Nat.le_of_ble_eq_true rfl) dX4_takesJoin_194 rfl ?_
  refine zg_aload_n 0 dX4_takesJoin_197 rfl rfl ?_
  refine zg_iconst dX4_takesJoin_198 zki_1 ?_
  refine zg_putz fp_X4_44 rfl h0.1 rfl dX4_takesJoin_199 ?_
  refine zg_iconst dX4_takesJoin_202 zki_1 ?_
  obtain ⟨rfl, rfl⟩ := z_ret2 h
  exact zg_zret rfl dX4_takesJoin_203
set_option maxRecDepth 20000 in
set_option maxHeartbeats 4000000 in
theorem g4_takesJoin_72 {T : List zN} {a0 : Nat} (h0 : zRu T a0) {r1 : Int32} {Mr : zM} : ∀ (v1 : Int32) (M : zM), f4_takesJoin_72 a0 v1 M = some (r1, Mr) → zJ T RX4 cX4_takesJoin 3 (zBm T 3 (some .boolean) (some (.int r1)) Mr) 0 0 72 [(0, .ref a0), (1, .int v1)] [] M := by
  intro v1 M h
  rw [f4_takesJoin_72] at h
  refine zg_iload_n 1 dX4_takesJoin_72 rfl rfl ?_
  refine zg_bipush dX4_takesJoin_73 zkb_41 ?_
  refine zg_icmp_ne (tgt := 120) dX4_takesJoin_75 (by decide) (fun hc => ?_) (fun hc => ?_)
  · replace h := (if_neg hc).symm.trans h
    refine zg_sipush dX4_takesJoin_120 zks_1000 ?_
    refine zg_iload_n 1 dX4_takesJoin_123 rfl rfl ?_
    refine zg_iadd dX4_takesJoin_124 ?_
    obtain ⟨x1, hx1, h⟩ := z_bind h
    refine zg_callS (st := []) (k_X4_bindingOf hx1) zY_X4_bindingOf ls_X4_84 rfl (zfit_m (by decide) (by decide)) (Nat.le_of_ble_eq_true rfl) dX4_takesJoin_125 rfl ?_
    refine zg_istore_n (ls' := [(0, .ref a0), (1, .int v1), (2, .int x1)]) dX4_takesJoin_128 rfl (Nat.le_of_ble_eq_true rfl) rfl ?_
    refine zg_iload_n 2 dX4_takesJoin_129 rfl rfl ?_
    refine zg_if_eq (tgt := 150) dX4_takesJoin_130 (by decide) (fun hc => ?_) (fun hc => ?_)
    · replace h := (if_pos hc).symm.trans h
      refine zg_iconst dX4_takesJoin_150 zki_0 ?_
      obtain ⟨rfl, rfl⟩ := z_ret2 h
      exact zg_zret rfl dX4_takesJoin_151
    · replace h := (if_neg hc).symm.trans h
      refine zg_iload_n 2 dX4_takesJoin_133 rfl rfl ?_
      refine zg_iconst dX4_takesJoin_134 zki_1 ?_
      refine zg_icmp_ne (tgt := 152) dX4_takesJoin_135 (by decide) (fun hc => ?_) (fun hc => ?_)
      · replace h := (if_neg hc).symm.trans h
        exact g4_takesJoin_152 h0 _ _ _ h
      · replace h := (if_pos hc).symm.trans h
        refine zg_aload_n 0 dX4_takesJoin_138 rfl rfl ?_
        refine zo_getr (a0 + 3) 2 rfl fl_X4_22 h0.1 rfl dX4_takesJoin_139 ?_
        refine zg_aload_n 0 dX4_takesJoin_142 rfl rfl ?_
        refine zg_geti fl_X4_41 h0.1 rfl dX4_takesJoin_143 ?_
        obtain ⟨x2, hx2, h⟩ := z_bind h
        refine zo_zald h0.2.2.2.1 hx2 dX4_takesJoin_146 ?_
        refine zg_if_eq (tgt := 152) dX4_takesJoin_147 (by decide) (fun hc => ?_) (fun hc => ?_)
        · replace h := (if_pos hc).symm.trans h
          exact g4_takesJoin_152 h0 _ _ _ h
        · replace h := (if_neg hc).symm.trans h
          refine zg_iconst dX4_takesJoin_150 zki_0 ?_
          obtain ⟨rfl, rfl⟩ := z_ret2 h
          exact zg_zret rfl dX4_takesJoin_151
  · replace h := (if_pos hc).symm.trans h
    refine zg_aload_n 0 dX4_takesJoin_78 rfl rfl ?_
    refine zg_geti fl_X4_41 h0.1 rfl dX4_takesJoin_79 ?_
    refine zg_iconst dX4_takesJoin_82 zki_1 ?_
    refine zg_icmp_ge (tgt := 88) dX4_takesJoin_83 (by decide) (fun hc => ?_) (fun hc => ?_)
    · replace h := (if_pos hc).symm.trans h
      refine zg_aload_n 0 dX4_takesJoin_88 rfl rfl ?_
      refine zg_iconst dX4_takesJoin_89 zki_1 ?_
      obtain ⟨M1, hM1, h⟩ := z_bind h
      refine zg_callV (st := []) (k_X4_release h0 hM1) zY_X4_release lv_X4_68 rfl h0.1 rfl (zfit_m (by decide) (by decide)) (Nat.le_of_ble_eq_true rfl) dX4_takesJoin_90 rfl ?_
      refine zg_aload_n 0 dX4_takesJoin_93 rfl rfl ?_
      refine zg_dup dX4_takesJoin_94 rfl ?_
      refine zg_geti fl_X4_38 h0.1 rfl dX4_takesJoin_95 ?_
      refine zg_iconst dX4_takesJoin_98 zki_1 ?_
      refine zg_isub dX4_takesJoin_99 ?_
      refine zg_puti fp_X4_38 h0.1 rfl dX4_takesJoin_100 ?_
      refine zg_aload_n 0 dX4_takesJoin_103 rfl rfl ?_
      refine zg_dup dX4_takesJoin_104 rfl ?_
      refine zg_geti fl_X4_41 h0.1 rfl dX4_takesJoin_105 ?_
      refine zg_iconst dX4_takesJoin_108 zki_1 ?_
      refine zg_isub dX4_takesJoin_109 ?_
      refine zg_puti fp_X4_41 h0.1 rfl dX4_takesJoin_110 ?_
      refine zg_aload_n 0 dX4_takesJoin_113 rfl rfl ?_
      refine zg_iconst dX4_takesJoin_114 zki_3 ?_
      refine zg_puti fp_X4_81 h0.1 rfl dX4_takesJoin_115 ?_
      refine zg_iconst dX4_takesJoin_118 zki_1 ?_
      obtain ⟨rfl, rfl⟩ := z_ret2 h
      exact zg_zret rfl dX4_takesJoin_119
    · replace h := (if_neg hc).symm.trans h
      refine zg_iconst dX4_takesJoin_86 zki_0 ?_
      obtain ⟨rfl, rfl⟩ := z_ret2 h
      exact zg_zret rfl dX4_takesJoin_87
set_option maxRecDepth 20000 in
set_option maxHeartbeats 4000000 in
theorem k_X4_takesJoin {T : List zN} {a0 : Nat} (h0 : zRu T a0) {v1 : Int32} {M : zM} {r1 : Int32} {Mr : zM} (h : f4_takesJoin a0 v1 M = some (r1, Mr)) : zK T yX4_takesJoin cX4_takesJoin 3 (some .boolean) 3 [.ref a0, .int v1] M (some (.int r1)) Mr := by
  refine zK_of pl_X4 (Nat.le_of_ble_eq_true rfl) ?_
  show zJ T RX4 cX4_takesJoin 3 _ 0 0 0 [(0, .ref a0), (1, .int v1)] [] M
  rw [f4_takesJoin] at h
  refine zg_iload_n 1 dX4_takesJoin_0 rfl rfl ?_
  refine zg_bipush dX4_takesJoin_1 zkb_48 ?_
  refine zg_icmp_lt (tgt := 72) dX4_takesJoin_3 (by decide) (fun hc => ?_) (fun hc => ?_)
  · replace h := (if_pos hc).symm.trans h
    exact g4_takesJoin_72 h0 _ _ h
  · replace h := (if_neg hc).symm.trans h
    refine zg_iload_n 1 dX4_takesJoin_6 rfl rfl ?_
    refine zg_bipush dX4_takesJoin_7 zkb_57 ?_
    refine zg_icmp_gt (tgt := 72) dX4_takesJoin_9 (by decide) (fun hc => ?_) (fun hc => ?_)
    · replace h := (if_pos hc).symm.trans h
      exact g4_takesJoin_72 h0 _ _ h
    · replace h := (if_neg hc).symm.trans h
      refine zg_aload_n 0 dX4_takesJoin_12 rfl rfl ?_
      refine zg_geti fl_X4_81 h0.1 rfl dX4_takesJoin_13 ?_
      refine zg_iconst dX4_takesJoin_16 zki_3 ?_
      refine zg_icmp_ge (tgt := 28) dX4_takesJoin_17 (by decide) (fun hc => ?_) (fun hc => ?_)
      · replace h := (if_pos hc).symm.trans h
        refine zg_iconst dX4_takesJoin_28 zki_0 ?_
        obtain ⟨rfl, rfl⟩ := z_ret2 h
        exact zg_zret rfl dX4_takesJoin_29
      · replace h := (if_neg hc).symm.trans h
        refine zg_aload_n 0 dX4_takesJoin_20 rfl rfl ?_
        refine zg_geti fl_X4_15 h0.1 rfl dX4_takesJoin_21 ?_
        refine zg_iconst dX4_takesJoin_24 zki_1 ?_
        refine zg_icmp_ge (tgt := 30) dX4_takesJoin_25 (by decide) (fun hc => ?_) (fun hc => ?_)
        · replace h := (if_pos hc).symm.trans h
          refine zg_aload_n 0 dX4_takesJoin_30 rfl rfl ?_
          refine zo_getr (a0 + 1) 0 rfl fl_X4_11 h0.1 rfl dX4_takesJoin_31 ?_
          refine zg_aload_n 0 dX4_takesJoin_34 rfl rfl ?_
          refine zg_geti fl_X4_15 h0.1 rfl dX4_takesJoin_35 ?_
          refine zg_iconst dX4_takesJoin_38 zki_1 ?_
          refine zg_isub dX4_takesJoin_39 ?_
          refine zg_bipush dX4_takesJoin_40 zkb_10 ?_
          refine zg_aload_n 0 dX4_takesJoin_42 rfl rfl ?_
          refine zo_getr (a0 + 1) 0 rfl fl_X4_11 h0.1 rfl dX4_takesJoin_43 ?_
          refine zg_aload_n 0 dX4_takesJoin_46 rfl rfl ?_
          refine zg_geti fl_X4_15 h0.1 rfl dX4_takesJoin_47 ?_
          refine zg_iconst dX4_takesJoin_50 zki_1 ?_
          refine zg_isub dX4_takesJoin_51 ?_
          obtain ⟨x1, hx1, h⟩ := z_bind h
          refine zo_iald h0.2.1 hx1 dX4_takesJoin_52 ?_
          refine zg_imul dX4_takesJoin_53 ?_
          refine zg_iload_n 1 dX4_takesJoin_54 rfl rfl ?_
          refine zg_iadd dX4_takesJoin_55 ?_
          refine zg_bipush dX4_takesJoin_56 zkb_48 ?_
          refine zg_isub dX4_takesJoin_58 ?_
          obtain ⟨M2, hM2, h⟩ := z_bind h
          refine zo_iast h0.2.1 hM2 dX4_takesJoin_59 ?_
          refine zg_aload_n 0 dX4_takesJoin_60 rfl rfl ?_
          refine zg_dup dX4_takesJoin_61 rfl ?_
          refine zg_geti fl_X4_81 h0.1 rfl dX4_takesJoin_62 ?_
          refine zg_iconst dX4_takesJoin_65 zki_1 ?_
          refine zg_iadd dX4_takesJoin_66 ?_
          refine zg_puti fp_X4_81 h0.1 rfl dX4_takesJoin_67 ?_
          refine zg_iconst dX4_takesJoin_70 zki_1 ?_
          obtain ⟨rfl, rfl⟩ := z_ret2 h
          exact zg_zret rfl dX4_takesJoin_71
        · replace h := (if_neg hc).symm.trans h
          refine zg_iconst dX4_takesJoin_28 zki_0 ?_
          obtain ⟨rfl, rfl⟩ := z_ret2 h
          exact zg_zret rfl dX4_takesJoin_29
set_option maxRecDepth 20000 in
set_option maxHeartbeats 4000000 in
theorem k_X4_traitOf {T : List zN} {a1 : Nat} (h1 : zWv T a1) {v0 : Int32} {v2 : Int32} {v3 : Int32} {r1 : Int32} {M : zM} (h : f4_traitOf v0 a1 v2 v3 M = some r1) : zK T yX4_traitOf cX4_traitOf 4 (some .int) 3 [.int v0, .ref a1, .int v2, .int v3] M (some (.int r1)) M := by
  refine zK_of pl_X4 (Nat.le_of_ble_eq_true rfl) ?_
  show zJ T RX4 cX4_traitOf 4 _ 0 0 0 [(0, .int v0), (1, .ref a1), (2, .int v2), (3, .int v3)] [] M
  rw [f4_traitOf] at h
  refine zg_iload_n 0 dX4_traitOf_0 rfl rfl ?_
  by_cases hc1 : v0 = (99 : Int32)
  · replace h := (if_pos hc1).symm.trans h
    refine zg_tableEq (k := 99) (off := 97) (tgt := 98) dX4_traitOf_1 hc1 (by decide) (by decide) (by decide) (by decide) ?_
    refine zg_aload_n 1 dX4_traitOf_98 rfl rfl ?_
    refine zg_iload_n 2 dX4_traitOf_99 rfl rfl ?_
    refine zg_iload_n 3 dX4_traitOf_100 rfl rfl ?_
    obtain ⟨x1, hx1, h⟩ := z_bind h
    refine zg_callV (st := []) (k_X7_changesOf h1 hx1) zY_X7_changesOf lv_X4_108 rfl h1.1 rfl (zfit_m (by decide) (by decide)) (Nat.le_of_ble_eq_true rfl) dX4_traitOf_101 rfl ?_
    obtain rfl := z_ret1 h
    exact zg_iret dX4_traitOf_104
  replace h := (if_neg hc1).symm.trans h
  by_cases hc2 : v0 = (100 : Int32)
  · replace h := (if_pos hc2).symm.trans h
    refine zg_tableEq (k := 100) (off := 140) (tgt := 141) dX4_traitOf_1 hc2 (by decide) (by decide) (by decide) (by decide) ?_
    refine zg_aload_n 1 dX4_traitOf_141 rfl rfl ?_
    refine zg_geti fl_X4_117 h1.1 rfl dX4_traitOf_142 ?_
    refine zg_bipush dX4_traitOf_145 zkb_7 ?_
    refine zg_irem (by decide) dX4_traitOf_147 ?_
    obtain rfl := z_ret1 h
    exact zg_iret dX4_traitOf_148
  replace h := (if_neg hc2).symm.trans h
  by_cases hc3 : v0 = (101 : Int32)
  · replace h := (if_pos hc3).symm.trans h
    refine zg_tableEq (k := 101) (off := 112) (tgt := 113) dX4_traitOf_1 hc3 (by decide) (by decide) (by decide) (by decide) ?_
    refine zg_iload_n 3 dX4_traitOf_113 rfl rfl ?_
    refine zg_if_eq (tgt := 128) dX4_traitOf_114 (by decide) (fun hc => ?_) (fun hc => ?_)
    · replace h := (if_pos hc).symm.trans h
      refine zg_iconst dX4_traitOf_128 zki_1 ?_
      refine zg_goto (tgt := 133) dX4_traitOf_129 (by decide) ?_
      obtain rfl := z_ret1 h
      exact zg_iret dX4_traitOf_133
    · replace h := (if_neg hc).symm.trans h
      refine zg_iload_n 3 dX4_traitOf_117 rfl rfl ?_
      refine zg_aload_n 1 dX4_traitOf_118 rfl rfl ?_
      refine zg_iload_n 2 dX4_traitOf_119 rfl rfl ?_
      obtain ⟨x1, hx1, h⟩ := z_bind h
      refine zg_callV (st := [.int v3]) (k_X7_sizeOf h1 hx1) zY_X7_sizeOf lv_X4_111 rfl h1.1 rfl (zfit_m (by decide) (by decide)) (Nat.le_of_ble_eq_true rfl) dX4_traitOf_120 rfl ?_
      refine zg_iconst dX4_traitOf_123 zki_1 ?_
      refine zg_isub dX4_traitOf_124 ?_
      suffices hj : zJ T RX4 cX4_traitOf 4 (zBm T 3 (some .int) (some (.int r1)) M) 0 0 133 [(0, .int v0), (1, .ref a1), (2, .int v2), (3, .int v3)] [.int (if v3 = (x1 - (1 : Int32)) then (1 : Int32) else (0 : Int32))] M by
        refine zg_icmp_ne (tgt := 132) dX4_traitOf_125 (by decide) (fun hc => ?_) (fun hc => ?_)
        · rw [show (if v3 = (x1 - (1 : Int32)) then (1 : Int32) else (0 : Int32)) = (0 : Int32) from if_neg hc] at hj
          refine zg_iconst dX4_traitOf_132 zki_0 ?_
          exact hj
        · rw [show (if v3 = (x1 - (1 : Int32)) then (1 : Int32) else (0 : Int32)) = (1 : Int32) from if_pos hc] at hj
          refine zg_iconst dX4_traitOf_128 zki_1 ?_
          refine zg_goto (tgt := 133) dX4_traitOf_129 (by decide) ?_
          exact hj
      obtain rfl := z_ret1 h
      exact zg_iret dX4_traitOf_133
  replace h := (if_neg hc3).symm.trans h
  by_cases hc4 : v0 = (102 : Int32)
  · replace h := (if_pos hc4).symm.trans h
    refine zg_tableEq (k := 102) (off := 140) (tgt := 141) dX4_traitOf_1 hc4 (by decide) (by decide) (by decide) (by decide) ?_
    refine zg_aload_n 1 dX4_traitOf_141 rfl rfl ?_
    refine zg_geti fl_X4_117 h1.1 rfl dX4_traitOf_142 ?_
    refine zg_bipush dX4_traitOf_145 zkb_7 ?_
    refine zg_irem (by decide) dX4_traitOf_147 ?_
    obtain rfl := z_ret1 h
    exact zg_iret dX4_traitOf_148
  replace h := (if_neg hc4).symm.trans h
  by_cases hc5 : v0 = (103 : Int32)
  · replace h := (if_pos hc5).symm.trans h
    refine zg_tableEq (k := 103) (off := 140) (tgt := 141) dX4_traitOf_1 hc5 (by decide) (by decide) (by decide) (by decide) ?_
    refine zg_aload_n 1 dX4_traitOf_141 rfl rfl ?_
    refine zg_geti fl_X4_117 h1.1 rfl dX4_traitOf_142 ?_
    refine zg_bipush dX4_traitOf_145 zkb_7 ?_
    refine zg_irem (by decide) dX4_traitOf_147 ?_
    obtain rfl := z_ret1 h
    exact zg_iret dX4_traitOf_148
  replace h := (if_neg hc5).symm.trans h
  by_cases hc6 : v0 = (104 : Int32)
  · replace h := (if_pos hc6).symm.trans h
    refine zg_tableEq (k := 104) (off := 140) (tgt := 141) dX4_traitOf_1 hc6 (by decide) (by decide) (by decide) (by decide) ?_
    refine zg_aload_n 1 dX4_traitOf_141 rfl rfl ?_
    refine zg_geti fl_X4_117 h1.1 rfl dX4_traitOf_142 ?_
    refine zg_bipush dX4_traitOf_145 zkb_7 ?_
    refine zg_irem (by decide) dX4_traitOf_147 ?_
    obtain rfl := z_ret1 h
    exact zg_iret dX4_traitOf_148
  replace h := (if_neg hc6).symm.trans h
  by_cases hc7 : v0 = (105 : Int32)
  · replace h := (if_pos hc7).symm.trans h
    refine zg_tableEq (k := 105) (off := 85) (tgt := 86) dX4_traitOf_1 hc7 (by decide) (by decide) (by decide) (by decide) ?_
    refine zg_iload_n 3 dX4_traitOf_86 rfl rfl ?_
    obtain rfl := z_ret1 h
    exact zg_iret dX4_traitOf_87
  replace h := (if_neg hc7).symm.trans h
  by_cases hc8 : v0 = (106 : Int32)
  · replace h := (if_pos hc8).symm.trans h
    refine zg_tableEq (k := 106) (off := 140) (tgt := 141) dX4_traitOf_1 hc8 (by decide) (by decide) (by decide) (by decide) ?_
    refine zg_aload_n 1 dX4_traitOf_141 rfl rfl ?_
    refine zg_geti fl_X4_117 h1.1 rfl dX4_traitOf_142 ?_
    refine zg_bipush dX4_traitOf_145 zkb_7 ?_
    refine zg_irem (by decide) dX4_traitOf_147 ?_
    obtain rfl := z_ret1 h
    exact zg_iret dX4_traitOf_148
  replace h := (if_neg hc8).symm.trans h
  by_cases hc9 : v0 = (107 : Int32)
  · replace h := (if_pos hc9).symm.trans h
    refine zg_tableEq (k := 107) (off := 83) (tgt := 84) dX4_traitOf_1 hc9 (by decide) (by decide) (by decide) (by decide) ?_
    refine zg_iload_n 2 dX4_traitOf_84 rfl rfl ?_
    obtain rfl := z_ret1 h
    exact zg_iret dX4_traitOf_85
  replace h := (if_neg hc9).symm.trans h
  by_cases hc10 : v0 = (108 : Int32)
  · replace h := (if_pos hc10).symm.trans h
    refine zg_tableEq (k := 108) (off := 104) (tgt := 105) dX4_traitOf_1 hc10 (by decide) (by decide) (by decide) (by decide) ?_
    refine zg_aload_n 1 dX4_traitOf_105 rfl rfl ?_
    refine zg_iconst dX4_traitOf_106 zki_1 ?_
    refine zg_iload_n 2 dX4_traitOf_107 rfl rfl ?_
    refine zg_isub dX4_traitOf_108 ?_
    obtain ⟨x1, hx1, h⟩ := z_bind h
    refine zg_callV (st := []) (k_X7_sizeOf h1 hx1) zY_X7_sizeOf lv_X4_111 rfl h1.1 rfl (zfit_m (by decide) (by decide)) (Nat.le_of_ble_eq_true rfl) dX4_traitOf_109 rfl ?_
    obtain rfl := z_ret1 h
    exact zg_iret dX4_traitOf_112
  replace h := (if_neg hc10).symm.trans h
  by_cases hc11 : v0 = (109 : Int32)
  · replace h := (if_pos hc11).symm.trans h
    refine zg_tableEq (k := 109) (off := 140) (tgt := 141) dX4_traitOf_1 hc11 (by decide) (by decide) (by decide) (by decide) ?_
    refine zg_aload_n 1 dX4_traitOf_141 rfl rfl ?_
    refine zg_geti fl_X4_117 h1.1 rfl dX4_traitOf_142 ?_
    refine zg_bipush dX4_traitOf_145 zkb_7 ?_
    refine zg_irem (by decide) dX4_traitOf_147 ?_
    obtain rfl := z_ret1 h
    exact zg_iret dX4_traitOf_148
  replace h := (if_neg hc11).symm.trans h
  by_cases hc12 : v0 = (110 : Int32)
  · replace h := (if_pos hc12).symm.trans h
    refine zg_tableEq (k := 110) (off := 140) (tgt := 141) dX4_traitOf_1 hc12 (by decide) (by decide) (by decide) (by decide) ?_
    refine zg_aload_n 1 dX4_traitOf_141 rfl rfl ?_
    refine zg_geti fl_X4_117 h1.1 rfl dX4_traitOf_142 ?_
    refine zg_bipush dX4_traitOf_145 zkb_7 ?_
    refine zg_irem (by decide) dX4_traitOf_147 ?_
    obtain rfl := z_ret1 h
    exact zg_iret dX4_traitOf_148
  replace h := (if_neg hc12).symm.trans h
  by_cases hc13 : v0 = (111 : Int32)
  · replace h := (if_pos hc13).symm.trans h
    refine zg_tableEq (k := 111) (off := 87) (tgt := 88) dX4_traitOf_1 hc13 (by decide) (by decide) (by decide) (by decide) ?_
    refine zg_aload_n 1 dX4_traitOf_88 rfl rfl ?_
    refine zg_iload_n 2 dX4_traitOf_89 rfl rfl ?_
    refine zg_iload_n 3 dX4_traitOf_90 rfl rfl ?_
    obtain ⟨x1, hx1, h⟩ := z_bind h
    refine zg_callV (st := []) (k_X7_cellsOf h1 hx1) zY_X7_cellsOf lv_X4_98 rfl h1.1 rfl (zfit_m (by decide) (by decide)) (Nat.le_of_ble_eq_true rfl) dX4_traitOf_91 rfl ?_
    obtain ⟨x2, hx2, h⟩ := z_bind h
    refine zg_callS (st := []) (k_J6_bitCount_0f7a4 hx2) zY_J6_bitCount_0f7a4 ls_X4_103 rfl (zfit_m (by decide) (by decide)) (Nat.le_of_ble_eq_true rfl) dX4_traitOf_94 rfl ?_
    obtain rfl := z_ret1 h
    exact zg_iret dX4_traitOf_97
  replace h := (if_neg hc13).symm.trans h
  by_cases hc14 : v0 = (112 : Int32)
  · replace h := (if_pos hc14).symm.trans h
    refine zg_tableEq (k := 112) (off := 140) (tgt := 141) dX4_traitOf_1 hc14 (by decide) (by decide) (by decide) (by decide) ?_
    refine zg_aload_n 1 dX4_traitOf_141 rfl rfl ?_
    refine zg_geti fl_X4_117 h1.1 rfl dX4_traitOf_142 ?_
    refine zg_bipush dX4_traitOf_145 zkb_7 ?_
    refine zg_irem (by decide) dX4_traitOf_147 ?_
    obtain rfl := z_ret1 h
    exact zg_iret dX4_traitOf_148
  replace h := (if_neg hc14).symm.trans h
  by_cases hc15 : v0 = (113 : Int32)
  · replace h := (if_pos hc15).symm.trans h
    refine zg_tableEq (k := 113) (off := 140) (tgt := 141) dX4_traitOf_1 hc15 (by decide) (by decide) (by decide) (by decide) ?_
    refine zg_aload_n 1 dX4_traitOf_141 rfl rfl ?_
    refine zg_geti fl_X4_117 h1.1 rfl dX4_traitOf_142 ?_
    refine zg_bipush dX4_traitOf_145 zkb_7 ?_
    refine zg_irem (by decide) dX4_traitOf_147 ?_
    obtain rfl := z_ret1 h
    exact zg_iret dX4_traitOf_148
  replace h := (if_neg hc15).symm.trans h
  by_cases hc16 : v0 = (114 : Int32)
  · replace h := (if_pos hc16).symm.trans h
    refine zg_tableEq (k := 114) (off := 140) (tgt := 141) dX4_traitOf_1 hc16 (by decide) (by decide) (by decide) (by decide) ?_
    refine zg_aload_n 1 dX4_traitOf_141 rfl rfl ?_
    refine zg_geti fl_X4_117 h1.1 rfl dX4_traitOf_142 ?_
    refine zg_bipush dX4_traitOf_145 zkb_7 ?_
    refine zg_irem (by decide) dX4_traitOf_147 ?_
    obtain rfl := z_ret1 h
    exact zg_iret dX4_traitOf_148
  replace h := (if_neg hc16).symm.trans h
  by_cases hc17 : v0 = (115 : Int32)
  · replace h := (if_pos hc17).symm.trans h
    refine zg_tableEq (k := 115) (off := 133) (tgt := 134) dX4_traitOf_1 hc17 (by decide) (by decide) (by decide) (by decide) ?_
    refine zg_aload_n 1 dX4_traitOf_134 rfl rfl ?_
    refine zg_iload_n 2 dX4_traitOf_135 rfl rfl ?_
    refine zg_iload_n 3 dX4_traitOf_136 rfl rfl ?_
    obtain ⟨x1, hx1, h⟩ := z_bind h
    refine zg_callV (st := []) (k_X7_likesOf h1 hx1) zY_X7_likesOf lv_X4_114 rfl h1.1 rfl (zfit_m (by decide) (by decide)) (Nat.le_of_ble_eq_true rfl) dX4_traitOf_137 rfl ?_
    obtain rfl := z_ret1 h
    exact zg_iret dX4_traitOf_140
  replace h := (if_neg hc17).symm.trans h
  refine zg_tableOut (tgt := 141) dX4_traitOf_1 (z_tout 17 (fun j hj => by match j, hj with | 0, _ => exact hc1 | 1, _ => exact hc2 | 2, _ => exact hc3 | 3, _ => exact hc4 | 4, _ => exact hc5 | 5, _ => exact hc6 | 6, _ => exact hc7 | 7, _ => exact hc8 | 8, _ => exact hc9 | 9, _ => exact hc10 | 10, _ => exact hc11 | 11, _ => exact hc12 | 12, _ => exact hc13 | 13, _ => exact hc14 | 14, _ => exact hc15 | 15, _ => exact hc16 | 16, _ => exact hc17 | j + 17, hj => exact absurd hj (by omega)) (by decide)) (by decide) ?_
  refine zg_aload_n 1 dX4_traitOf_141 rfl rfl ?_
  refine zg_geti fl_X4_117 h1.1 rfl dX4_traitOf_142 ?_
  refine zg_bipush dX4_traitOf_145 zkb_7 ?_
  refine zg_irem (by decide) dX4_traitOf_147 ?_
  obtain rfl := z_ret1 h
  exact zg_iret dX4_traitOf_148
set_option maxRecDepth 20000 in
set_option maxHeartbeats 4000000 in
theorem k_X5_isSo {T : List zN} {a2 : Nat} (h2 : zWv T a2) {v0 : Int32} {v1 : Int32} {v3 : Int32} {v4 : Int32} {r1 : Int32} {M : zM} (h : f5_isSo v0 v1 a2 v3 v4 M = some r1) : zK T yX5_isSo cX5_isSo 5 (some .boolean) 3 [.int v0, .int v1, .ref a2, .int v3, .int v4] M (some (.int r1)) M := by
  refine zK_of pl_X5 (Nat.le_of_ble_eq_true rfl) ?_
  show zJ T RX5 cX5_isSo 5 _ 0 0 0 [(0, .int v0), (1, .int v1), (2, .ref a2), (3, .int v3), (4, .int v4)] [] M
  rw [f5_isSo] at h
  refine zg_iload_n 0 dX5_isSo_0 rfl rfl ?_
  by_cases hc1 : v0 = (0 : Int32)
  · replace h := (if_pos hc1).symm.trans h
    refine zg_tableEq (k := 0) (off := 31) (tgt := 32) dX5_isSo_1 hc1 (by decide) (by decide) (by decide) (by decide) ?_
    refine zg_iload_n 3 dX5_isSo_32 rfl rfl ?_
    refine zg_iload_n 1 dX5_isSo_33 rfl rfl ?_
    suffices hj : zJ T RX5 cX5_isSo 5 (zBm T 3 (some .boolean) (some (.int r1)) M) 0 0 42 [(0, .int v0), (1, .int v1), (2, .ref a2), (3, .int v3), (4, .int v4)] [.int (if v3 = v1 then (1 : Int32) else (0 : Int32))] M by
      refine zg_icmp_ne (tgt := 41) dX5_isSo_34 (by decide) (fun hc => ?_) (fun hc => ?_)
      · rw [show (if v3 = v1 then (1 : Int32) else (0 : Int32)) = (0 : Int32) from if_neg hc] at hj
        refine zg_iconst dX5_isSo_41 zki_0 ?_
        exact hj
      · rw [show (if v3 = v1 then (1 : Int32) else (0 : Int32)) = (1 : Int32) from if_pos hc] at hj
        refine zg_iconst dX5_isSo_37 zki_1 ?_
        refine zg_goto (tgt := 42) dX5_isSo_38 (by decide) ?_
        exact hj
    obtain rfl := z_ret1 h
    exact zg_zret (zn_ite rfl rfl) dX5_isSo_42
  replace h := (if_neg hc1).symm.trans h
  by_cases hc2 : v0 = (1 : Int32)
  · replace h := (if_pos hc2).symm.trans h
    refine zg_tableEq (k := 1) (off := 42) (tgt := 43) dX5_isSo_1 hc2 (by decide) (by decide) (by decide) (by decide) ?_
    refine zg_aload_n 2 dX5_isSo_43 rfl rfl ?_
    refine zg_iload_n 3 dX5_isSo_44 rfl rfl ?_
    refine zg_iload 4 dX5_isSo_45 rfl ?_
    obtain ⟨x1, hx1, h⟩ := z_bind h
    refine zg_callV (st := []) (k_X7_cellsOf h2 hx1) zY_X7_cellsOf lv_X5_26 rfl h2.1 rfl (zfit_m (by decide) (by decide)) (Nat.le_of_ble_eq_true rfl) dX5_isSo_47 rfl ?_
    obtain ⟨x2, hx2, h⟩ := z_bind h
    refine zg_callS (st := []) (k_J6_bitCount_0f7a4 hx2) zY_J6_bitCount_0f7a4 ls_X5_32 rfl (zfit_m (by decide) (by decide)) (Nat.le_of_ble_eq_true rfl) dX5_isSo_50 rfl ?_
    refine zg_iload_n 1 dX5_isSo_53 rfl rfl ?_
    suffices hj : zJ T RX5 cX5_isSo 5 (zBm T 3 (some .boolean) (some (.int r1)) M) 0 0 62 [(0, .int v0), (1, .int v1), (2, .ref a2), (3, .int v3), (4, .int v4)] [.int (if x2 < v1 then (0 : Int32) else (1 : Int32))] M by
      refine zg_icmp_lt (tgt := 61) dX5_isSo_54 (by decide) (fun hc => ?_) (fun hc => ?_)
      · rw [show (if x2 < v1 then (0 : Int32) else (1 : Int32)) = (0 : Int32) from if_pos hc] at hj
        refine zg_iconst dX5_isSo_61 zki_0 ?_
        exact hj
      · rw [show (if x2 < v1 then (0 : Int32) else (1 : Int32)) = (1 : Int32) from if_neg hc] at hj
        refine zg_iconst dX5_isSo_57 zki_1 ?_
        refine zg_goto (tgt := 62) dX5_isSo_58 (by decide) ?_
        exact hj
    obtain rfl := z_ret1 h
    exact zg_zret (zn_ite rfl rfl) dX5_isSo_62
  replace h := (if_neg hc2).symm.trans h
  by_cases hc3 : v0 = (2 : Int32)
  · replace h := (if_pos hc3).symm.trans h
    refine zg_tableEq (k := 2) (off := 62) (tgt := 63) dX5_isSo_1 hc3 (by decide) (by decide) (by decide) (by decide) ?_
    refine zg_aload_n 2 dX5_isSo_63 rfl rfl ?_
    refine zg_iload_n 3 dX5_isSo_64 rfl rfl ?_
    refine zg_iload 4 dX5_isSo_65 rfl ?_
    obtain ⟨x1, hx1, h⟩ := z_bind h
    refine zg_callV (st := []) (k_X7_changesOf h2 hx1) zY_X7_changesOf lv_X5_38 rfl h2.1 rfl (zfit_m (by decide) (by decide)) (Nat.le_of_ble_eq_true rfl) dX5_isSo_67 rfl ?_
    refine zg_iload_n 1 dX5_isSo_70 rfl rfl ?_
    suffices hj : zJ T RX5 cX5_isSo 5 (zBm T 3 (some .boolean) (some (.int r1)) M) 0 0 79 [(0, .int v0), (1, .int v1), (2, .ref a2), (3, .int v3), (4, .int v4)] [.int (if x1 < v1 then (0 : Int32) else (1 : Int32))] M by
      refine zg_icmp_lt (tgt := 78) dX5_isSo_71 (by decide) (fun hc => ?_) (fun hc => ?_)
      · rw [show (if x1 < v1 then (0 : Int32) else (1 : Int32)) = (0 : Int32) from if_pos hc] at hj
        refine zg_iconst dX5_isSo_78 zki_0 ?_
        exact hj
      · rw [show (if x1 < v1 then (0 : Int32) else (1 : Int32)) = (1 : Int32) from if_neg hc] at hj
        refine zg_iconst dX5_isSo_74 zki_1 ?_
        refine zg_goto (tgt := 79) dX5_isSo_75 (by decide) ?_
        exact hj
    obtain rfl := z_ret1 h
    exact zg_zret (zn_ite rfl rfl) dX5_isSo_79
  replace h := (if_neg hc3).symm.trans h
  by_cases hc4 : v0 = (3 : Int32)
  · replace h := (if_pos hc4).symm.trans h
    refine zg_tableEq (k := 3) (off := 79) (tgt := 80) dX5_isSo_1 hc4 (by decide) (by decide) (by decide) (by decide) ?_
    refine zg_aload_n 2 dX5_isSo_80 rfl rfl ?_
    refine zg_iload_n 3 dX5_isSo_81 rfl rfl ?_
    refine zg_iload 4 dX5_isSo_82 rfl ?_
    obtain ⟨x1, hx1, h⟩ := z_bind h
    refine zg_callV (st := []) (k_X7_isLoose h2 hx1) zY_X7_isLoose lv_X5_41 rfl h2.1 rfl (zfit_m (by decide) (by decide)) (Nat.le_of_ble_eq_true rfl) dX5_isSo_84 rfl ?_
    refine zg_iload_n 1 dX5_isSo_87 rfl rfl ?_
    refine zg_iconst dX5_isSo_88 zki_1 ?_
    suffices hj : zJ T RX5 cX5_isSo 5 (zBm T 3 (some .boolean) (some (.int r1)) M) 0 0 97 [(0, .int v0), (1, .int v1), (2, .ref a2), (3, .int v3), (4, .int v4)] [.int (if v1 = (1 : Int32) then (1 : Int32) else (0 : Int32)), .int x1] M by
      refine zg_icmp_ne (tgt := 96) dX5_isSo_89 (by decide) (fun hc => ?_) (fun hc => ?_)
      · rw [show (if v1 = (1 : Int32) then (1 : Int32) else (0 : Int32)) = (0 : Int32) from if_neg hc] at hj
        refine zg_iconst dX5_isSo_96 zki_0 ?_
        exact hj
      · rw [show (if v1 = (1 : Int32) then (1 : Int32) else (0 : Int32)) = (1 : Int32) from if_pos hc] at hj
        refine zg_iconst dX5_isSo_92 zki_1 ?_
        refine zg_goto (tgt := 97) dX5_isSo_93 (by decide) ?_
        exact hj
    suffices hj : zJ T RX5 cX5_isSo 5 (zBm T 3 (some .boolean) (some (.int r1)) M) 0 0 105 [(0, .int v0), (1, .int v1), (2, .ref a2), (3, .int v3), (4, .int v4)] [.int (if x1 = (if v1 = (1 : Int32) then (1 : Int32) else (0 : Int32)) then (1 : Int32) else (0 : Int32))] M by
      refine zg_icmp_ne (tgt := 104) dX5_isSo_97 (by decide) (fun hc => ?_) (fun hc => ?_)
      · rw [show (if x1 = (if v1 = (1 : Int32) then (1 : Int32) else (0 : Int32)) then (1 : Int32) else (0 : Int32)) = (0 : Int32) from if_neg hc] at hj
        refine zg_iconst dX5_isSo_104 zki_0 ?_
        exact hj
      · rw [show (if x1 = (if v1 = (1 : Int32) then (1 : Int32) else (0 : Int32)) then (1 : Int32) else (0 : Int32)) = (1 : Int32) from if_pos hc] at hj
        refine zg_iconst dX5_isSo_100 zki_1 ?_
        refine zg_goto (tgt := 105) dX5_isSo_101 (by decide) ?_
        exact hj
    obtain rfl := z_ret1 h
    exact zg_zret (zn_ite rfl rfl) dX5_isSo_105
  replace h := (if_neg hc4).symm.trans h
  refine zg_tableOut (tgt := 106) dX5_isSo_1 (z_tout 4 (fun j hj => by match j, hj with | 0, _ => exact hc1 | 1, _ => exact hc2 | 2, _ => exact hc3 | 3, _ => exact hc4 | j + 4, hj => exact absurd hj (by omega)) (by decide)) (by decide) ?_
  refine zg_iload 4 dX5_isSo_106 rfl ?_
  refine zg_iload_n 1 dX5_isSo_108 rfl rfl ?_
  suffices hj : zJ T RX5 cX5_isSo 5 (zBm T 3 (some .boolean) (some (.int r1)) M) 0 0 117 [(0, .int v0), (1, .int v1), (2, .ref a2), (3, .int v3), (4, .int v4)] [.int (if v1 < v4 then (0 : Int32) else (1 : Int32))] M by
    refine zg_icmp_gt (tgt := 116) dX5_isSo_109 (by decide) (fun hc => ?_) (fun hc => ?_)
    · rw [show (if v1 < v4 then (0 : Int32) else (1 : Int32)) = (0 : Int32) from if_pos hc] at hj
      refine zg_iconst dX5_isSo_116 zki_0 ?_
      exact hj
    · rw [show (if v1 < v4 then (0 : Int32) else (1 : Int32)) = (1 : Int32) from if_neg hc] at hj
      refine zg_iconst dX5_isSo_112 zki_1 ?_
      refine zg_goto (tgt := 117) dX5_isSo_113 (by decide) ?_
      exact hj
  obtain rfl := z_ret1 h
  exact zg_zret (zn_ite rfl rfl) dX5_isSo_117
set_option maxRecDepth 20000 in
set_option maxHeartbeats 4000000 in
theorem g7_weaveIn_164 {T : List zN} {a0 : Nat} (h0 : zWv T a0) {r1 : Int32} {Mr : zM} : ∀ (v1 : Int32) (M : zM), f7_weaveIn_164 a0 v1 M = some (r1, Mr) → zJ T RX7 cX7_weaveIn 5 (zBm T 2 (some .int) (some (.int r1)) Mr) 0 0 164 [(0, .ref a0), (1, .int v1)] [] M := by
  intro v1 M h
  rw [f7_weaveIn_164] at h
  refine zg_aload_n 0 dX7_weaveIn_164 rfl rfl ?_
  obtain ⟨M1, hM1, h⟩ := z_bind h
  refine zg_callV (st := []) (k_X7_settle h0 hM1) zY_X7_settle lv_X7_66 rfl h0.1 rfl (zfit_m (by decide) (by decide)) (Nat.le_of_ble_eq_true rfl) dX7_weaveIn_165 rfl ?_
  refine zg_aload_n 0 dX7_weaveIn_168 rfl rfl ?_
  refine zg_iload_n 1 dX7_weaveIn_169 rfl rfl ?_
  obtain ⟨x2, hx2, h⟩ := z_bind h
  refine zg_callV (st := []) (k_X7_sizeOf h0 hx2) zY_X7_sizeOf lv_X7_29 rfl h0.1 rfl (zfit_m (by decide) (by decide)) (Nat.le_of_ble_eq_true rfl) dX7_weaveIn_170 rfl ?_
  obtain ⟨rfl, rfl⟩ := z_ret2 h
  exact zg_iret dX7_weaveIn_173
set_option maxRecDepth 20000 in
set_option maxHeartbeats 4000000 in
theorem g7_weaveIn_62 {T : List zN} {a0 : Nat} (h0 : zWv T a0) {r1 : Int32} {Mr : zM} : ∀ (n : Nat) (v1 : Int32) (v2 : Int32) (v3 : Int32) (v4 : Int32) (M : zM), f7_weaveIn_62 a0 n v1 v2 v3 v4 M = some (r1, Mr) → zJ T RX7 cX7_weaveIn 5 (zBm T 2 (some .int) (some (.int r1)) Mr) 0 0 62 [(0, .ref a0), (1, .int v1), (2, .int v2), (3, .int v3), (4, .int v4)] [] M := by
  intro n
  induction n with
  | zero => intro v1 v2 v3 v4 M h; cases h
  | succ n ih =>
    intro v1 v2 v3 v4 M h
    rw [f7_weaveIn_62] at h
    refine zg_iload 4 dX7_weaveIn_62 rfl ?_
    refine zg_iload_n 2 dX7_weaveIn_64 rfl rfl ?_
    refine zg_icmp_le (tgt := 90) dX7_weaveIn_65 (by decide) (fun hc => ?_) (fun hc => ?_)
    · replace h := (if_pos hc).symm.trans h
      refine zg_aload_n 0 dX7_weaveIn_90 rfl rfl ?_
      refine zo_getr (a0 + 1) 0 rfl fl_X7_21 h0.1 rfl dX7_weaveIn_91 ?_
      refine zg_iload_n 2 dX7_weaveIn_94 rfl rfl ?_
      refine zg_iload_n 3 dX7_weaveIn_95 rfl rfl ?_
      obtain ⟨M1, hM1, h⟩ := z_bind h
      refine zo_iast h0.2 hM1 dX7_weaveIn_96 ?_
      refine zg_aload_n 0 dX7_weaveIn_97 rfl rfl ?_
      refine zg_dup dX7_weaveIn_98 rfl ?_
      refine zg_geti fl_X7_9 h0.1 rfl dX7_weaveIn_99 ?_
      refine zg_iconst dX7_weaveIn_102 zki_1 ?_
      refine zg_iadd dX7_weaveIn_103 ?_
      refine zg_puti fp_X7_9 h0.1 rfl dX7_weaveIn_104 ?_
      refine zg_goto (tgt := 164) dX7_weaveIn_107 (by decide) ?_
      refine zo_sub (ls' := [(0, .ref a0), (1, .int v1)]) [0, 1] rfl ?_
      exact g7_weaveIn_164 h0 _ _ h
    · replace h := (if_neg hc).symm.trans h
      refine zg_aload_n 0 dX7_weaveIn_68 rfl rfl ?_
      refine zo_getr (a0 + 1) 0 rfl fl_X7_21 h0.1 rfl dX7_weaveIn_69 ?_
      refine zg_iload 4 dX7_weaveIn_72 rfl ?_
      refine zg_aload_n 0 dX7_weaveIn_74 rfl rfl ?_
      refine zo_getr (a0 + 1) 0 rfl fl_X7_21 h0.1 rfl dX7_weaveIn_75 ?_
      refine zg_iload 4 dX7_weaveIn_78 rfl ?_
      refine zg_iconst dX7_weaveIn_80 zki_1 ?_
      refine zg_isub dX7_weaveIn_81 ?_
      obtain ⟨x1, hx1, h⟩ := z_bind h
      refine zo_iald h0.2 hx1 dX7_weaveIn_82 ?_
      obtain ⟨M2, hM2, h⟩ := z_bind h
      refine zo_iast h0.2 hM2 dX7_weaveIn_83 ?_
      refine zg_iinc (ls' := [(0, .ref a0), (1, .int v1), (2, .int v2), (3, .int v3), (4, .int (v4 + (-1 : Int32)))]) 4 dX7_weaveIn_84 rfl zki_m1 (Nat.le_of_ble_eq_true rfl) rfl ?_
      refine zg_goto (tgt := 62) dX7_weaveIn_87 (by decide) ?_
      exact ih _ _ _ _ _ h
set_option maxRecDepth 20000 in
set_option maxHeartbeats 4000000 in
theorem g7_weaveIn_113 {T : List zN} {a0 : Nat} (h0 : zWv T a0) {r1 : Int32} {Mr : zM} : ∀ (n : Nat) (v1 : Int32) (v2 : Int32) (v3 : Int32) (v4 : Int32) (M : zM), f7_weaveIn_113 a0 n v1 v2 v3 v4 M = some (r1, Mr) → zJ T RX7 cX7_weaveIn 5 (zBm T 2 (some .int) (some (.int r1)) Mr) 0 0 113 [(0, .ref a0), (1, .int v1), (2, .int v2), (3, .int v3), (4, .int v4)] [] M := by
  intro n
  induction n with
  | zero => intro v1 v2 v3 v4 M h; cases h
  | succ n ih =>
    intro v1 v2 v3 v4 M h
    rw [f7_weaveIn_113] at h
    refine zg_iload 4 dX7_weaveIn_113 rfl ?_
    refine zg_aload_n 0 dX7_weaveIn_115 rfl rfl ?_
    refine zg_geti fl_X7_9 h0.1 rfl dX7_weaveIn_116 ?_
    refine zg_icmp_ge (tgt := 154) dX7_weaveIn_119 (by decide) (fun hc => ?_) (fun hc => ?_)
    · replace h := (if_pos hc).symm.trans h
      refine zg_aload_n 0 dX7_weaveIn_154 rfl rfl ?_
      refine zg_dup dX7_weaveIn_155 rfl ?_
      refine zg_geti fl_X7_15 h0.1 rfl dX7_weaveIn_156 ?_
      refine zg_iconst dX7_weaveIn_159 zki_1 ?_
      refine zg_iadd dX7_weaveIn_160 ?_
      refine zg_puti fp_X7_15 h0.1 rfl dX7_weaveIn_161 ?_
      refine zo_sub (ls' := [(0, .ref a0), (1, .int v1)]) [0, 1] rfl ?_
      exact g7_weaveIn_164 h0 _ _ h
    · replace h := (if_neg hc).symm.trans h
      refine zg_aload_n 0 dX7_weaveIn_122 rfl rfl ?_
      refine zo_getr (a0 + 1) 0 rfl fl_X7_21 h0.1 rfl dX7_weaveIn_123 ?_
      refine zg_iload 4 dX7_weaveIn_126 rfl ?_
      refine zg_aload_n 0 dX7_weaveIn_128 rfl rfl ?_
      refine zo_getr (a0 + 1) 0 rfl fl_X7_21 h0.1 rfl dX7_weaveIn_129 ?_
      refine zg_iload 4 dX7_weaveIn_132 rfl ?_
      obtain ⟨x1, hx1, h⟩ := z_bind h
      refine zo_iald h0.2 hx1 dX7_weaveIn_134 ?_
      refine zg_iload_n 2 dX7_weaveIn_135 rfl rfl ?_
      refine zg_iload_n 3 dX7_weaveIn_136 rfl rfl ?_
      refine zg_iload 4 dX7_weaveIn_137 rfl ?_
      refine zg_iushr dX7_weaveIn_139 ?_
      refine zg_iconst dX7_weaveIn_140 zki_1 ?_
      refine zg_iand dX7_weaveIn_141 ?_
      refine zg_iconst dX7_weaveIn_142 zki_1 ?_
      refine zg_ixor dX7_weaveIn_143 ?_
      obtain ⟨x2, hx2, h⟩ := z_bind h
      refine zg_callSN (st := [.int v4, .ref (a0 + 1)]) (host := "SeaCloth") (k_X8_with hx2) zY_X8_with (List.mem_of_getElem? (i := 7) rfl) ss_X8_with rfl (zfit_m (by decide) (by decide)) (Nat.le_of_ble_eq_true rfl) dX7_weaveIn_144 rfl ?_
      obtain ⟨M3, hM3, h⟩ := z_bind h
      refine zo_iast h0.2 hM3 dX7_weaveIn_147 ?_
      refine zg_iinc (ls' := [(0, .ref a0), (1, .int v1), (2, .int v2), (3, .int v3), (4, .int (v4 + (1 : Int32)))]) 4 dX7_weaveIn_148 rfl zki_1 (Nat.le_of_ble_eq_true rfl) rfl ?_
      refine zg_goto (tgt := 113) dX7_weaveIn_151 (by decide) ?_
      exact ih _ _ _ _ _ h
set_option maxRecDepth 20000 in
set_option maxHeartbeats 4000000 in
theorem g7_weaveIn_9 {T : List zN} {a0 : Nat} (h0 : zWv T a0) {r1 : Int32} {Mr : zM} : ∀ (v1 : Int32) (v2 : Int32) (v3 : Int32) (M : zM), f7_weaveIn_9 a0 v1 v2 v3 M = some (r1, Mr) → zJ T RX7 cX7_weaveIn 5 (zBm T 2 (some .int) (some (.int r1)) Mr) 0 0 9 [(0, .ref a0), (1, .int v1), (2, .int v2), (3, .int v3)] [] M := by
  intro v1 v2 v3 M h
  rw [f7_weaveIn_9] at h
  refine zg_iload_n 2 dX7_weaveIn_9 rfl rfl ?_
  refine zg_if_lt (tgt := 22) dX7_weaveIn_10 (by decide) (fun hc => ?_) (fun hc => ?_)
  · replace h := (if_pos hc).symm.trans h
    refine zg_iconst dX7_weaveIn_22 zki_m1 ?_
    obtain ⟨rfl, rfl⟩ := z_ret2 h
    exact zg_iret dX7_weaveIn_23
  · replace h := (if_neg hc).symm.trans h
    refine zg_iload_n 2 dX7_weaveIn_13 rfl rfl ?_
    refine zg_aload_n 0 dX7_weaveIn_14 rfl rfl ?_
    refine zg_iload_n 1 dX7_weaveIn_15 rfl rfl ?_
    obtain ⟨x1, hx1, h⟩ := z_bind h
    refine zg_callV (st := [.int v2]) (k_X7_sizeOf h0 hx1) zY_X7_sizeOf lv_X7_29 rfl h0.1 rfl (zfit_m (by decide) (by decide)) (Nat.le_of_ble_eq_true rfl) dX7_weaveIn_16 rfl ?_
    refine zg_icmp_le (tgt := 24) dX7_weaveIn_19 (by decide) (fun hc => ?_) (fun hc => ?_)
    · replace h := (if_pos hc).symm.trans h
      refine zg_iload_n 3 dX7_weaveIn_24 rfl rfl ?_
      refine zg_if_lt (tgt := 37) dX7_weaveIn_25 (by decide) (fun hc => ?_) (fun hc => ?_)
      · replace h := (if_pos hc).symm.trans h
        refine zg_iconst dX7_weaveIn_37 zki_m1 ?_
        obtain ⟨rfl, rfl⟩ := z_ret2 h
        exact zg_iret dX7_weaveIn_38
      · replace h := (if_neg hc).symm.trans h
        refine zg_iload_n 3 dX7_weaveIn_28 rfl rfl ?_
        refine zg_aload_n 0 dX7_weaveIn_29 rfl rfl ?_
        refine zg_iload_n 1 dX7_weaveIn_30 rfl rfl ?_
        obtain ⟨x2, hx2, h⟩ := z_bind h
        refine zg_callV (st := [.int v3]) (k_X7_fullOf h0 hx2) zY_X7_fullOf lv_X7_25 rfl h0.1 rfl (zfit_m (by decide) (by decide)) (Nat.le_of_ble_eq_true rfl) dX7_weaveIn_31 rfl ?_
        refine zg_icmp_le (tgt := 39) dX7_weaveIn_34 (by decide) (fun hc => ?_) (fun hc => ?_)
        · replace h := (if_pos hc).symm.trans h
          refine zg_aload_n 0 dX7_weaveIn_39 rfl rfl ?_
          refine zg_iload_n 1 dX7_weaveIn_40 rfl rfl ?_
          obtain ⟨x3, hx3, h⟩ := z_bind h
          refine zg_callV (st := []) (k_X7_sizeOf h0 hx3) zY_X7_sizeOf lv_X7_29 rfl h0.1 rfl (zfit_m (by decide) (by decide)) (Nat.le_of_ble_eq_true rfl) dX7_weaveIn_41 rfl ?_
          refine zg_bipush dX7_weaveIn_44 zkb_6 ?_
          refine zg_icmp_lt (tgt := 52) dX7_weaveIn_46 (by decide) (fun hc => ?_) (fun hc => ?_)
          · replace h := (if_pos hc).symm.trans h
            refine zg_iload_n 1 dX7_weaveIn_52 rfl rfl ?_
            refine zg_if_ne (tgt := 110) dX7_weaveIn_53 (by decide) (fun hc => ?_) (fun hc => ?_)
            · replace h := (if_neg hc).symm.trans h
              refine zg_iconst dX7_weaveIn_110 zki_0 ?_
              refine zg_istore (ls' := [(0, .ref a0), (1, .int v1), (2, .int v2), (3, .int v3), (4, .int (0 : Int32))]) dX7_weaveIn_111 (Nat.le_of_ble_eq_true rfl) rfl ?_
              exact g7_weaveIn_113 h0 zfuel _ _ _ _ _ h
            · replace h := (if_pos hc).symm.trans h
              refine zg_aload_n 0 dX7_weaveIn_56 rfl rfl ?_
              refine zg_geti fl_X7_9 h0.1 rfl dX7_weaveIn_57 ?_
              refine zg_istore (ls' := [(0, .ref a0), (1, .int v1), (2, .int v2), (3, .int v3), (4, .int (M.1 a0 0))]) dX7_weaveIn_60 (Nat.le_of_ble_eq_true rfl) rfl ?_
              exact g7_weaveIn_62 h0 zfuel _ _ _ _ _ h
          · replace h := (if_neg hc).symm.trans h
            refine zg_bipush dX7_weaveIn_49 zkb_m2 ?_
            obtain ⟨rfl, rfl⟩ := z_ret2 h
            exact zg_iret dX7_weaveIn_51
        · replace h := (if_neg hc).symm.trans h
          refine zg_iconst dX7_weaveIn_37 zki_m1 ?_
          obtain ⟨rfl, rfl⟩ := z_ret2 h
          exact zg_iret dX7_weaveIn_38
    · replace h := (if_neg hc).symm.trans h
      refine zg_iconst dX7_weaveIn_22 zki_m1 ?_
      obtain ⟨rfl, rfl⟩ := z_ret2 h
      exact zg_iret dX7_weaveIn_23
set_option maxRecDepth 20000 in
set_option maxHeartbeats 4000000 in
theorem k_X7_weaveIn {T : List zN} {a0 : Nat} (h0 : zWv T a0) {v1 : Int32} {v2 : Int32} {v3 : Int32} {M : zM} {r1 : Int32} {Mr : zM} (h : f7_weaveIn a0 v1 v2 v3 M = some (r1, Mr)) : zK T yX7_weaveIn cX7_weaveIn 5 (some .int) 2 [.ref a0, .int v1, .int v2, .int v3] M (some (.int r1)) Mr := by
  refine zK_of pl_X7 (Nat.le_of_ble_eq_true rfl) ?_
  show zJ T RX7 cX7_weaveIn 5 _ 0 0 0 [(0, .ref a0), (1, .int v1), (2, .int v2), (3, .int v3)] [] M
  rw [f7_weaveIn] at h
  refine zg_iload_n 1 dX7_weaveIn_0 rfl rfl ?_
  refine zg_if_eq (tgt := 9) dX7_weaveIn_1 (by decide) (fun hc => ?_) (fun hc => ?_)
  · replace h := (if_pos hc).symm.trans h
    exact g7_weaveIn_9 h0 _ _ _ _ h
  · replace h := (if_neg hc).symm.trans h
    refine zg_iload_n 1 dX7_weaveIn_4 rfl rfl ?_
    refine zg_iconst dX7_weaveIn_5 zki_1 ?_
    refine zg_icmp_ne (tgt := 22) dX7_weaveIn_6 (by decide) (fun hc => ?_) (fun hc => ?_)
    · replace h := (if_neg hc).symm.trans h
      refine zg_iconst dX7_weaveIn_22 zki_m1 ?_
      obtain ⟨rfl, rfl⟩ := z_ret2 h
      exact zg_iret dX7_weaveIn_23
    · replace h := (if_pos hc).symm.trans h
      exact g7_weaveIn_9 h0 _ _ _ _ h
set_option maxRecDepth 20000 in
set_option maxHeartbeats 4000000 in
theorem g7_drawOut_137 {T : List zN} {a0 : Nat} (h0 : zWv T a0) {r1 : Int32} {Mr : zM} : ∀ (v3 : Int32) (M : zM), f7_drawOut_137 a0 v3 M = some (r1, Mr) → zJ T RX7 cX7_drawOut 5 (zBm T 3 (some .int) (some (.int r1)) Mr) 0 0 137 [(0, .ref a0), (3, .int v3)] [] M := by
  intro v3 M h
  rw [f7_drawOut_137] at h
  refine zg_aload_n 0 dX7_drawOut_137 rfl rfl ?_
  obtain ⟨M1, hM1, h⟩ := z_bind h
  refine zg_callV (st := []) (k_X7_settle h0 hM1) zY_X7_settle lv_X7_66 rfl h0.1 rfl (zfit_m (by decide) (by decide)) (Nat.le_of_ble_eq_true rfl) dX7_drawOut_138 rfl ?_
  refine zg_iload_n 1 dX7_drawOut_141 rfl rfl ?_
  obtain ⟨rfl, rfl⟩ := z_ret2 h
  exact zg_iret dX7_drawOut_142
set_option maxRecDepth 20000 in
set_option maxHeartbeats 4000000 in
theorem g7_drawOut_47 {T : List zN} {a0 : Nat} (h0 : zWv T a0) {r1 : Int32} {Mr : zM} : ∀ (n : Nat) (v3 : Int32) (v4 : Int32) (M : zM), f7_drawOut_47 a0 n v3 v4 M = some (r1, Mr) → zJ T RX7 cX7_drawOut 5 (zBm T 3 (some .int) (some (.int r1)) Mr) 0 0 47 [(0, .ref a0), (3, .int v3), (4, .int v4)] [] M := by
  intro n
  induction n with
  | zero => intro v3 v4 M h; cases h
  | succ n ih =>
    intro v3 v4 M h
    rw [f7_drawOut_47] at h
    refine zg_iload 2 dX7_drawOut_47 rfl ?_
    refine zg_aload_n 0 dX7_drawOut_49 rfl rfl ?_
    refine zg_geti fl_X7_9 h0.1 rfl dX7_drawOut_50 ?_
    refine zg_icmp_ge (tgt := 78) dX7_drawOut_53 (by decide) (fun hc => ?_) (fun hc => ?_)
    · replace h := (if_pos hc).symm.trans h
      refine zg_aload_n 0 dX7_drawOut_78 rfl rfl ?_
      refine zo_getr (a0 + 1) 0 rfl fl_X7_21 h0.1 rfl dX7_drawOut_79 ?_
      refine zg_aload_n 0 dX7_drawOut_82 rfl rfl ?_
      refine zg_geti fl_X7_9 h0.1 rfl dX7_drawOut_83 ?_
      refine zg_iconst dX7_drawOut_86 zki_0 ?_
      obtain ⟨M1, hM1, h⟩ := z_bind h
      refine zo_iast h0.2 hM1 dX7_drawOut_87 ?_
      refine zg_goto (tgt := 137) dX7_drawOut_88 (by decide) ?_
      refine zo_sub (ls' := [(0, .ref a0), (3, .int v3)]) [0, 1] rfl ?_
      exact g7_drawOut_137 h0 _ _ h
    · replace h := (if_neg hc).symm.trans h
      refine zg_aload_n 0 dX7_drawOut_56 rfl rfl ?_
      refine zo_getr (a0 + 1) 0 rfl fl_X7_21 h0.1 rfl dX7_drawOut_57 ?_
      refine zg_iload 2 dX7_drawOut_60 rfl ?_
      refine zg_aload_n 0 dX7_drawOut_62 rfl rfl ?_
      refine zo_getr (a0 + 1) 0 rfl fl_X7_21 h0.1 rfl dX7_drawOut_63 ?_
      refine zg_iload 2 dX7_drawOut_66 rfl ?_
      refine zg_iconst dX7_drawOut_68 zki_1 ?_
      refine zg_iadd dX7_drawOut_69 ?_
      obtain ⟨x1, hx1, h⟩ := z_bind h
      refine zo_iald h0.2 hx1 dX7_drawOut_70 ?_
      obtain ⟨M2, hM2, h⟩ := z_bind h
      refine zo_iast h0.2 hM2 dX7_drawOut_71 ?_
      refine zg_iinc (ls' := [(0, .ref a0), (3, .int v3), (4, .int (v4 + (1 : Int32)))]) 2 dX7_drawOut_72 rfl zki_1 (Nat.le_of_ble_eq_true rfl) rfl ?_
      refine zg_goto (tgt := 47) dX7_drawOut_75 (by decide) ?_
      exact ih _ _ _ h
set_option maxRecDepth 20000 in
set_option maxHeartbeats 4000000 in
theorem g7_drawOut_104 {T : List zN} {a0 : Nat} (h0 : zWv T a0) {r1 : Int32} {Mr : zM} : ∀ (n : Nat) (v2 : Int32) (v3 : Int32) (v4 : Int32) (M : zM), f7_drawOut_104 a0 n v2 v3 v4 M = some (r1, Mr) → zJ T RX7 cX7_drawOut 5 (zBm T 3 (some .int) (some (.int r1)) Mr) 0 0 104 [(0, .ref a0), (2, .int v2), (3, .int v3), (4, .int v4)] [] M := by
  intro n
  induction n with
  | zero => intro v2 v3 v4 M h; cases h
  | succ n ih =>
    intro v2 v3 v4 M h
    rw [f7_drawOut_104] at h
    refine zg_iload 3 dX7_drawOut_104 rfl ?_
    refine zg_aload_n 0 dX7_drawOut_106 rfl rfl ?_
    refine zg_geti fl_X7_9 h0.1 rfl dX7_drawOut_107 ?_
    refine zg_icmp_ge (tgt := 137) dX7_drawOut_110 (by decide) (fun hc => ?_) (fun hc => ?_)
    · replace h := (if_pos hc).symm.trans h
      refine zo_sub (ls' := [(0, .ref a0), (3, .int v3)]) [0, 2] rfl ?_
      exact g7_drawOut_137 h0 _ _ h
    · replace h := (if_neg hc).symm.trans h
      refine zg_aload_n 0 dX7_drawOut_113 rfl rfl ?_
      refine zo_getr (a0 + 1) 0 rfl fl_X7_21 h0.1 rfl dX7_drawOut_114 ?_
      refine zg_iload 3 dX7_drawOut_117 rfl ?_
      refine zg_aload_n 0 dX7_drawOut_119 rfl rfl ?_
      refine zo_getr (a0 + 1) 0 rfl fl_X7_21 h0.1 rfl dX7_drawOut_120 ?_
      refine zg_iload 3 dX7_drawOut_123 rfl ?_
      obtain ⟨x1, hx1, h⟩ := z_bind h
      refine zo_iald h0.2 hx1 dX7_drawOut_125 ?_
      refine zg_iload_n 1 dX7_drawOut_126 rfl rfl ?_
      obtain ⟨x2, hx2, h⟩ := z_bind h
      refine zg_callSN (st := [.int v4, .ref (a0 + 1)]) (host := "SeaCloth") (k_X8_without hx2) zY_X8_without (List.mem_of_getElem? (i := 6) rfl) ss_X8_without rfl (zfit_m (by decide) (by decide)) (Nat.le_of_ble_eq_true rfl) dX7_drawOut_127 rfl ?_
      obtain ⟨M3, hM3, h⟩ := z_bind h
      refine zo_iast h0.2 hM3 dX7_drawOut_130 ?_
      refine zg_iinc (ls' := [(0, .ref a0), (2, .int v2), (3, .int v3), (4, .int (v4 + (1 : Int32)))]) 3 dX7_drawOut_131 rfl zki_1 (Nat.le_of_ble_eq_true rfl) rfl ?_
      refine zg_goto (tgt := 104) dX7_drawOut_134 (by decide) ?_
      exact ih _ _ _ _ h
set_option maxRecDepth 20000 in
set_option maxHeartbeats 4000000 in
theorem k_X7_drawOut {T : List zN} {a0 : Nat} (h0 : zWv T a0) {v1 : Int32} {v2 : Int32} {M : zM} {r1 : Int32} {Mr : zM} (h : f7_drawOut a0 v1 v2 M = some (r1, Mr)) : zK T yX7_drawOut cX7_drawOut 5 (some .int) 3 [.ref a0, .int v1, .int v2] M (some (.int r1)) Mr := by
  refine zK_of pl_X7 (Nat.le_of_ble_eq_true rfl) ?_
  show zJ T RX7 cX7_drawOut 5 _ 0 0 0 [(0, .ref a0), (1, .int v1), (2, .int v2)] [] M
  rw [f7_drawOut] at h
  refine zg_aload_n 0 dX7_drawOut_0 rfl rfl ?_
  refine zg_iload_n 1 dX7_drawOut_1 rfl rfl ?_
  refine zg_iload_n 2 dX7_drawOut_2 rfl rfl ?_
  obtain ⟨x1, hx1, h⟩ := z_bind h
  refine zg_callV (st := []) (k_X7_has h0 hx1) zY_X7_has lv_X7_32 rfl h0.1 rfl (zfit_m (by decide) (by decide)) (Nat.le_of_ble_eq_true rfl) dX7_drawOut_3 rfl ?_
  refine zg_if_ne (tgt := 11) dX7_drawOut_6 (by decide) (fun hc => ?_) (fun hc => ?_)
  · replace h := (if_neg hc).symm.trans h
    refine zg_aload_n 0 dX7_drawOut_11 rfl rfl ?_
    refine zg_iload_n 1 dX7_drawOut_12 rfl rfl ?_
    obtain ⟨x2, hx2, h⟩ := z_bind h
    refine zg_callV (st := []) (k_X7_sizeOf h0 hx2) zY_X7_sizeOf lv_X7_29 rfl h0.1 rfl (zfit_m (by decide) (by decide)) (Nat.le_of_ble_eq_true rfl) dX7_drawOut_13 rfl ?_
    refine zg_iconst dX7_drawOut_16 zki_1 ?_
    refine zg_icmp_ne (tgt := 23) dX7_drawOut_17 (by decide) (fun hc => ?_) (fun hc => ?_)
    · replace h := (if_neg hc).symm.trans h
      refine zg_aload_n 0 dX7_drawOut_23 rfl rfl ?_
      refine zg_iload_n 1 dX7_drawOut_24 rfl rfl ?_
      refine zg_iload_n 2 dX7_drawOut_25 rfl rfl ?_
      obtain ⟨x3, hx3, h⟩ := z_bind h
      refine zg_callV (st := []) (k_X7_cellsOf h0 hx3) zY_X7_cellsOf lv_X7_44 rfl h0.1 rfl (zfit_m (by decide) (by decide)) (Nat.le_of_ble_eq_true rfl) dX7_drawOut_26 rfl ?_
      refine zg_istore_n (ls' := [(0, .ref a0), (1, .int v1), (2, .int v2), (3, .int x3)]) dX7_drawOut_29 rfl (Nat.le_of_ble_eq_true rfl) rfl ?_
      refine zg_iload_n 1 dX7_drawOut_30 rfl rfl ?_
      refine zg_if_ne (tgt := 91) dX7_drawOut_31 (by decide) (fun hc => ?_) (fun hc => ?_)
      · replace h := (if_neg hc).symm.trans h
        refine zg_aload_n 0 dX7_drawOut_91 rfl rfl ?_
        refine zg_dup dX7_drawOut_92 rfl ?_
        refine zg_geti fl_X7_15 h0.1 rfl dX7_drawOut_93 ?_
        refine zg_iconst dX7_drawOut_96 zki_1 ?_
        refine zg_isub dX7_drawOut_97 ?_
        refine zg_puti fp_X7_15 h0.1 rfl dX7_drawOut_98 ?_
        refine zg_iconst dX7_drawOut_101 zki_0 ?_
        refine zg_istore (ls' := [(0, .ref a0), (1, .int v1), (2, .int v2), (3, .int x3), (4, .int (0 : Int32))]) dX7_drawOut_102 (Nat.le_of_ble_eq_true rfl) rfl ?_
        refine zo_sub (ls' := [(0, .ref a0), (2, .int v2), (3, .int x3), (4, .int (0 : Int32))]) [0, 2, 3, 4] rfl ?_
        exact g7_drawOut_104 h0 zfuel _ _ _ _ h
      · replace h := (if_pos hc).symm.trans h
        refine zg_aload_n 0 dX7_drawOut_34 rfl rfl ?_
        refine zg_dup dX7_drawOut_35 rfl ?_
        refine zg_geti fl_X7_9 h0.1 rfl dX7_drawOut_36 ?_
        refine zg_iconst dX7_drawOut_39 zki_1 ?_
        refine zg_isub dX7_drawOut_40 ?_
        refine zg_puti fp_X7_9 h0.1 rfl dX7_drawOut_41 ?_
        refine zg_iload_n 2 dX7_drawOut_44 rfl rfl ?_
        refine zg_istore (ls' := [(0, .ref a0), (1, .int v1), (2, .int v2), (3, .int x3), (4, .int v2)]) dX7_drawOut_45 (Nat.le_of_ble_eq_true rfl) rfl ?_
        refine zo_sub (ls' := [(0, .ref a0), (3, .int x3), (4, .int v2)]) [0, 3, 4] rfl ?_
        exact g7_drawOut_47 h0 zfuel _ _ _ h
    · replace h := (if_pos hc).symm.trans h
      refine zg_bipush dX7_drawOut_20 zkb_m2 ?_
      obtain ⟨rfl, rfl⟩ := z_ret2 h
      exact zg_iret dX7_drawOut_22
  · replace h := (if_pos hc).symm.trans h
    refine zg_iconst dX7_drawOut_9 zki_m1 ?_
    obtain ⟨rfl, rfl⟩ := z_ret2 h
    exact zg_iret dX7_drawOut_10
set_option maxRecDepth 20000 in
set_option maxHeartbeats 4000000 in
theorem g7_turnRound_163 {T : List zN} {a0 : Nat} (h0 : zWv T a0) {r1 : Int32} {Mr : zM} : ∀ (v3 : Int32) (M : zM), f7_turnRound_163 a0 v3 M = some (r1, Mr) → zJ T RX7 cX7_turnRound 6 (zBm T 2 (some .int) (some (.int r1)) Mr) 0 0 163 [(0, .ref a0), (3, .int v3)] [] M := by
  intro v3 M h
  rw [f7_turnRound_163] at h
  refine zg_aload_n 0 dX7_turnRound_163 rfl rfl ?_
  obtain ⟨M1, hM1, h⟩ := z_bind h
  refine zg_callV (st := []) (k_X7_settle h0 hM1) zY_X7_settle lv_X7_66 rfl h0.1 rfl (zfit_m (by decide) (by decide)) (Nat.le_of_ble_eq_true rfl) dX7_turnRound_164 rfl ?_
  refine zg_iload_n 1 dX7_turnRound_167 rfl rfl ?_
  obtain ⟨rfl, rfl⟩ := z_ret2 h
  exact zg_iret dX7_turnRound_168
set_option maxRecDepth 20000 in
set_option maxHeartbeats 4000000 in
theorem g7_turnRound_130 {T : List zN} {a0 : Nat} (h0 : zWv T a0) {r1 : Int32} {Mr : zM} : ∀ (n : Nat) (v3 : Int32) (v4 : Int32) (M : zM), f7_turnRound_130 a0 n v3 v4 M = some (r1, Mr) → zJ T RX7 cX7_turnRound 6 (zBm T 2 (some .int) (some (.int r1)) Mr) 0 0 130 [(0, .ref a0), (3, .int v3), (4, .int v4)] [] M := by
  intro n
  induction n with
  | zero => intro v3 v4 M h; cases h
  | succ n ih =>
    intro v3 v4 M h
    rw [f7_turnRound_130] at h
    refine zg_iload 2 dX7_turnRound_130 rfl ?_
    refine zg_aload_n 0 dX7_turnRound_132 rfl rfl ?_
    refine zg_geti fl_X7_9 h0.1 rfl dX7_turnRound_133 ?_
    refine zg_icmp_ge (tgt := 163) dX7_turnRound_136 (by decide) (fun hc => ?_) (fun hc => ?_)
    · replace h := (if_pos hc).symm.trans h
      refine zo_sub (ls' := [(0, .ref a0), (3, .int v3)]) [0, 1] rfl ?_
      exact g7_turnRound_163 h0 _ _ h
    · replace h := (if_neg hc).symm.trans h
      refine zg_aload_n 0 dX7_turnRound_139 rfl rfl ?_
      refine zo_getr (a0 + 1) 0 rfl fl_X7_21 h0.1 rfl dX7_turnRound_140 ?_
      refine zg_iload 2 dX7_turnRound_143 rfl ?_
      refine zg_aload_n 0 dX7_turnRound_145 rfl rfl ?_
      refine zg_aload_n 0 dX7_turnRound_146 rfl rfl ?_
      refine zo_getr (a0 + 1) 0 rfl fl_X7_21 h0.1 rfl dX7_turnRound_147 ?_
      refine zg_iload 2 dX7_turnRound_150 rfl ?_
      obtain ⟨x1, hx1, h⟩ := z_bind h
      refine zo_iald h0.2 hx1 dX7_turnRound_152 ?_
      obtain ⟨x2, hx2, h⟩ := z_bind h
      refine zg_callV (st := [.int v4, .ref (a0 + 1)]) (k_X7_turnedRound h0 hx2) zY_X7_turnedRound lv_X7_97 rfl h0.1 rfl (zfit_m (by decide) (by decide)) (Nat.le_of_ble_eq_true rfl) dX7_turnRound_153 rfl ?_
      obtain ⟨M3, hM3, h⟩ := z_bind h
      refine zo_iast h0.2 hM3 dX7_turnRound_156 ?_
      refine zg_iinc (ls' := [(0, .ref a0), (3, .int v3), (4, .int (v4 + (1 : Int32)))]) 2 dX7_turnRound_157 rfl zki_1 (Nat.le_of_ble_eq_true rfl) rfl ?_
      refine zg_goto (tgt := 130) dX7_turnRound_160 (by decide) ?_
      exact ih _ _ _ h
set_option maxRecDepth 20000 in
set_option maxHeartbeats 4000000 in
theorem g7_turnRound_70 {T : List zN} {a0 : Nat} (h0 : zWv T a0) {r1 : Int32} {Mr : zM} : ∀ (n : Nat) (v2 : Int32) (v3 : Int32) (v4 : Int32) (M : zM), f7_turnRound_70 a0 n v2 v3 v4 M = some (r1, Mr) → zJ T RX7 cX7_turnRound 6 (zBm T 2 (some .int) (some (.int r1)) Mr) 0 0 70 [(0, .ref a0), (2, .int v2), (3, .int v3), (4, .int v4)] [] M := by
  intro n
  induction n with
  | zero => intro v2 v3 v4 M h; cases h
  | succ n ih =>
    intro v2 v3 v4 M h
    rw [f7_turnRound_70] at h
    refine zg_iload 3 dX7_turnRound_70 rfl ?_
    refine zg_iload_n 1 dX7_turnRound_72 rfl rfl ?_
    refine zg_iconst dX7_turnRound_73 zki_2 ?_
    refine zg_idiv (by decide) dX7_turnRound_74 ?_
    refine zg_icmp_ge (tgt := 124) dX7_turnRound_75 (by decide) (fun hc => ?_) (fun hc => ?_)
    · replace h := (if_pos hc).symm.trans h
      refine zg_goto (tgt := 163) dX7_turnRound_124 (by decide) ?_
      refine zo_sub (ls' := [(0, .ref a0), (3, .int v3)]) [0, 2] rfl ?_
      exact g7_turnRound_163 h0 _ _ h
    · replace h := (if_neg hc).symm.trans h
      refine zg_aload_n 0 dX7_turnRound_78 rfl rfl ?_
      refine zo_getr (a0 + 1) 0 rfl fl_X7_21 h0.1 rfl dX7_turnRound_79 ?_
      refine zg_iload 3 dX7_turnRound_82 rfl ?_
      obtain ⟨x1, hx1, h⟩ := z_bind h
      refine zo_iald h0.2 hx1 dX7_turnRound_84 ?_
      refine zg_istore (ls' := [(0, .ref a0), (2, .int v2), (3, .int v3), (4, .int v4), (5, .int x1)]) dX7_turnRound_85 (Nat.le_of_ble_eq_true rfl) rfl ?_
      refine zg_aload_n 0 dX7_turnRound_87 rfl rfl ?_
      refine zo_getr (a0 + 1) 0 rfl fl_X7_21 h0.1 rfl dX7_turnRound_88 ?_
      refine zg_iload 3 dX7_turnRound_91 rfl ?_
      refine zg_aload_n 0 dX7_turnRound_93 rfl rfl ?_
      refine zo_getr (a0 + 1) 0 rfl fl_X7_21 h0.1 rfl dX7_turnRound_94 ?_
      refine zg_iload_n 1 dX7_turnRound_97 rfl rfl ?_
      refine zg_iconst dX7_turnRound_98 zki_1 ?_
      refine zg_isub dX7_turnRound_99 ?_
      refine zg_iload 3 dX7_turnRound_100 rfl ?_
      refine zg_isub dX7_turnRound_102 ?_
      obtain ⟨x2, hx2, h⟩ := z_bind h
      refine zo_iald h0.2 hx2 dX7_turnRound_103 ?_
      obtain ⟨M3, hM3, h⟩ := z_bind h
      refine zo_iast h0.2 hM3 dX7_turnRound_104 ?_
      refine zg_aload_n 0 dX7_turnRound_105 rfl rfl ?_
      refine zo_getr (a0 + 1) 0 rfl fl_X7_21 h0.1 rfl dX7_turnRound_106 ?_
      refine zg_iload_n 1 dX7_turnRound_109 rfl rfl ?_
      refine zg_iconst dX7_turnRound_110 zki_1 ?_
      refine zg_isub dX7_turnRound_111 ?_
      refine zg_iload 3 dX7_turnRound_112 rfl ?_
      refine zg_isub dX7_turnRound_114 ?_
      refine zg_iload 4 dX7_turnRound_115 rfl ?_
      obtain ⟨M4, hM4, h⟩ := z_bind h
      refine zo_iast h0.2 hM4 dX7_turnRound_117 ?_
      refine zg_iinc (ls' := [(0, .ref a0), (2, .int v2), (3, .int v3), (4, .int (v4 + (1 : Int32))), (5, .int x1)]) 3 dX7_turnRound_118 rfl zki_1 (Nat.le_of_ble_eq_true rfl) rfl ?_
      refine zg_goto (tgt := 70) dX7_turnRound_121 (by decide) ?_
      refine zo_sub (ls' := [(0, .ref a0), (2, .int v2), (3, .int v3), (4, .int (v4 + (1 : Int32)))]) [0, 1, 2, 3] rfl ?_
      exact ih _ _ _ _ h
set_option maxRecDepth 20000 in
set_option maxHeartbeats 4000000 in
theorem g7_turnRound_22 {T : List zN} {a0 : Nat} (h0 : zWv T a0) {r1 : Int32} {Mr : zM} : ∀ (n : Nat) (v1 : Int32) (v2 : Int32) (v3 : Int32) (v4 : Int32) (M : zM), f7_turnRound_22 a0 n v1 v2 v3 v4 M = some (r1, Mr) → zJ T RX7 cX7_turnRound 6 (zBm T 2 (some .int) (some (.int r1)) Mr) 0 0 22 [(0, .ref a0), (1, .int v1), (2, .int v2), (3, .int v3), (4, .int v4)] [] M := by
  intro n
  induction n with
  | zero => intro v1 v2 v3 v4 M h; cases h
  | succ n ih =>
    intro v1 v2 v3 v4 M h
    rw [f7_turnRound_22] at h
    refine zg_iload 4 dX7_turnRound_22 rfl ?_
    refine zg_iload_n 2 dX7_turnRound_24 rfl rfl ?_
    refine zg_icmp_ge (tgt := 63) dX7_turnRound_25 (by decide) (fun hc => ?_) (fun hc => ?_)
    · replace h := (if_pos hc).symm.trans h
      refine zg_iload_n 1 dX7_turnRound_63 rfl rfl ?_
      refine zg_if_ne (tgt := 127) dX7_turnRound_64 (by decide) (fun hc => ?_) (fun hc => ?_)
      · replace h := (if_neg hc).symm.trans h
        refine zg_iconst dX7_turnRound_127 zki_0 ?_
        refine zg_istore (ls' := [(0, .ref a0), (1, .int v1), (2, .int v2), (3, .int v3), (4, .int (0 : Int32))]) dX7_turnRound_128 (Nat.le_of_ble_eq_true rfl) rfl ?_
        refine zo_sub (ls' := [(0, .ref a0), (3, .int v3), (4, .int (0 : Int32))]) [0, 3, 4] rfl ?_
        exact g7_turnRound_130 h0 zfuel _ _ _ h
      · replace h := (if_pos hc).symm.trans h
        refine zg_iconst dX7_turnRound_67 zki_0 ?_
        refine zg_istore (ls' := [(0, .ref a0), (1, .int v1), (2, .int v2), (3, .int v3), (4, .int (0 : Int32))]) dX7_turnRound_68 (Nat.le_of_ble_eq_true rfl) rfl ?_
        refine zo_sub (ls' := [(0, .ref a0), (2, .int v2), (3, .int v3), (4, .int (0 : Int32))]) [0, 2, 3, 4] rfl ?_
        exact g7_turnRound_70 h0 zfuel _ _ _ _ h
    · replace h := (if_neg hc).symm.trans h
      refine zg_iload_n 3 dX7_turnRound_28 rfl rfl ?_
      refine zg_aload_n 0 dX7_turnRound_29 rfl rfl ?_
      refine zg_iload_n 1 dX7_turnRound_30 rfl rfl ?_
      refine zg_iload 4 dX7_turnRound_31 rfl ?_
      obtain ⟨x1, hx1, h⟩ := z_bind h
      refine zg_callV (st := [.int v3]) (k_X7_cellsOf h0 hx1) zY_X7_cellsOf lv_X7_44 rfl h0.1 rfl (zfit_m (by decide) (by decide)) (Nat.le_of_ble_eq_true rfl) dX7_turnRound_33 rfl ?_
      refine zg_aload_n 0 dX7_turnRound_36 rfl rfl ?_
      refine zg_iload_n 1 dX7_turnRound_37 rfl rfl ?_
      refine zg_iload_n 2 dX7_turnRound_38 rfl rfl ?_
      refine zg_iconst dX7_turnRound_39 zki_1 ?_
      refine zg_isub dX7_turnRound_40 ?_
      refine zg_iload 4 dX7_turnRound_41 rfl ?_
      refine zg_isub dX7_turnRound_43 ?_
      obtain ⟨x2, hx2, h⟩ := z_bind h
      refine zg_callV (st := [.int x1, .int v3]) (k_X7_cellsOf h0 hx2) zY_X7_cellsOf lv_X7_44 rfl h0.1 rfl (zfit_m (by decide) (by decide)) (Nat.le_of_ble_eq_true rfl) dX7_turnRound_44 rfl ?_
      suffices hj : zJ T RX7 cX7_turnRound 6 (zBm T 2 (some .int) (some (.int r1)) Mr) 0 0 55 [(0, .ref a0), (1, .int v1), (2, .int v2), (3, .int v3), (4, .int v4)] [.int (if x1 = x2 then (0 : Int32) else (1 : Int32)), .int v3] M by
        refine zg_icmp_ne (tgt := 54) dX7_turnRound_47 (by decide) (fun hc => ?_) (fun hc => ?_)
        · rw [show (if x1 = x2 then (0 : Int32) else (1 : Int32)) = (1 : Int32) from if_neg hc] at hj
          refine zg_iconst dX7_turnRound_54 zki_1 ?_
          exact hj
        · rw [show (if x1 = x2 then (0 : Int32) else (1 : Int32)) = (0 : Int32) from if_pos hc] at hj
          refine zg_iconst dX7_turnRound_50 zki_0 ?_
          refine zg_goto (tgt := 55) dX7_turnRound_51 (by decide) ?_
          exact hj
      refine zg_iadd dX7_turnRound_55 ?_
      refine zg_istore_n (ls' := [(0, .ref a0), (1, .int v1), (2, .int v2), (3, .int (v3 + (if x1 = x2 then (0 : Int32) else (1 : Int32)))), (4, .int v4)]) dX7_turnRound_56 rfl (Nat.le_of_ble_eq_true rfl) rfl ?_
      refine zg_iinc (ls' := [(0, .ref a0), (1, .int v1), (2, .int v2), (3, .int (v3 + (if x1 = x2 then (0 : Int32) else (1 : Int32)))), (4, .int (v4 + (1 : Int32)))]) 4 dX7_turnRound_57 rfl zki_1 (Nat.le_of_ble_eq_true rfl) rfl ?_
      refine zg_goto (tgt := 22) dX7_turnRound_60 (by decide) ?_
      exact ih _ _ _ _ _ h
set_option maxRecDepth 20000 in
set_option maxHeartbeats 4000000 in
theorem g7_turnRound_11 {T : List zN} {a0 : Nat} (h0 : zWv T a0) {r1 : Int32} {Mr : zM} : ∀ (v1 : Int32) (M : zM), f7_turnRound_11 a0 v1 M = some (r1, Mr) → zJ T RX7 cX7_turnRound 6 (zBm T 2 (some .int) (some (.int r1)) Mr) 0 0 11 [(0, .ref a0), (1, .int v1)] [] M := by
  intro v1 M h
  rw [f7_turnRound_11] at h
  refine zg_aload_n 0 dX7_turnRound_11 rfl rfl ?_
  refine zg_iload_n 1 dX7_turnRound_12 rfl rfl ?_
  obtain ⟨x1, hx1, h⟩ := z_bind h
  refine zg_callV (st := []) (k_X7_sizeOf h0 hx1) zY_X7_sizeOf lv_X7_29 rfl h0.1 rfl (zfit_m (by decide) (by decide)) (Nat.le_of_ble_eq_true rfl) dX7_turnRound_13 rfl ?_
  refine zg_istore_n (ls' := [(0, .ref a0), (1, .int v1), (2, .int x1)]) dX7_turnRound_16 rfl (Nat.le_of_ble_eq_true rfl) rfl ?_
  refine zg_iconst dX7_turnRound_17 zki_0 ?_
  refine zg_istore_n (ls' := [(0, .ref a0), (1, .int v1), (2, .int x1), (3, .int (0 : Int32))]) dX7_turnRound_18 rfl (Nat.le_of_ble_eq_true rfl) rfl ?_
  refine zg_iconst dX7_turnRound_19 zki_0 ?_
  refine zg_istore (ls' := [(0, .ref a0), (1, .int v1), (2, .int x1), (3, .int (0 : Int32)), (4, .int (0 : Int32))]) dX7_turnRound_20 (Nat.le_of_ble_eq_true rfl) rfl ?_
  exact g7_turnRound_22 h0 zfuel _ _ _ _ _ h
set_option maxRecDepth 20000 in
set_option maxHeartbeats 4000000 in
theorem k_X7_turnRound {T : List zN} {a0 : Nat} (h0 : zWv T a0) {v1 : Int32} {M : zM} {r1 : Int32} {Mr : zM} (h : f7_turnRound a0 v1 M = some (r1, Mr)) : zK T yX7_turnRound cX7_turnRound 6 (some .int) 2 [.ref a0, .int v1] M (some (.int r1)) Mr := by
  refine zK_of pl_X7 (Nat.le_of_ble_eq_true rfl) ?_
  show zJ T RX7 cX7_turnRound 6 _ 0 0 0 [(0, .ref a0), (1, .int v1)] [] M
  rw [f7_turnRound] at h
  refine zg_iload_n 1 dX7_turnRound_0 rfl rfl ?_
  refine zg_if_eq (tgt := 11) dX7_turnRound_1 (by decide) (fun hc => ?_) (fun hc => ?_)
  · replace h := (if_pos hc).symm.trans h
    exact g7_turnRound_11 h0 _ _ h
  · replace h := (if_neg hc).symm.trans h
    refine zg_iload_n 1 dX7_turnRound_4 rfl rfl ?_
    refine zg_iconst dX7_turnRound_5 zki_1 ?_
    refine zg_icmp_eq (tgt := 11) dX7_turnRound_6 (by decide) (fun hc => ?_) (fun hc => ?_)
    · replace h := (if_pos hc).symm.trans h
      exact g7_turnRound_11 h0 _ _ h
    · replace h := (if_neg hc).symm.trans h
      refine zg_iconst dX7_turnRound_9 zki_m1 ?_
      obtain ⟨rfl, rfl⟩ := z_ret2 h
      exact zg_iret dX7_turnRound_10
set_option maxRecDepth 20000 in
set_option maxHeartbeats 4000000 in
theorem g7_passNight_17 {T : List zN} {a0 : Nat} (h0 : zWv T a0) {Mr : zM} : ∀ (M : zM), f7_passNight_17 a0 M = some Mr → zJ T RX7 cX7_passNight 2 (zBm T 4 (none) none Mr) 0 0 17 [(0, .ref a0)] [] M := by
  intro M h
  rw [f7_passNight_17] at h
  refine zg_aload_n 0 dX7_passNight_17 rfl rfl ?_
  refine zg_dup dX7_passNight_18 rfl ?_
  refine zg_geti fl_X7_18 h0.1 rfl dX7_passNight_19 ?_
  refine zg_iconst dX7_passNight_22 zki_1 ?_
  refine zg_iadd dX7_passNight_23 ?_
  refine zg_puti fp_X7_18 h0.1 rfl dX7_passNight_24 ?_
  obtain rfl := z_ret1 h
  exact zg_vret dX7_passNight_27
set_option maxRecDepth 20000 in
set_option maxHeartbeats 4000000 in
theorem k_X7_passNight {T : List zN} {a0 : Nat} (h0 : zWv T a0) {v1 : Int32} {M : zM} {Mr : zM} (h : f7_passNight a0 v1 M = some Mr) : zK T yX7_passNight cX7_passNight 2 (none) 4 [.ref a0, .int v1] M none Mr := by
  refine zK_of pl_X7 (Nat.le_of_ble_eq_true rfl) ?_
  show zJ T RX7 cX7_passNight 2 _ 0 0 0 [(0, .ref a0), (1, .int v1)] [] M
  rw [f7_passNight] at h
  refine zg_iload_n 1 dX7_passNight_0 rfl rfl ?_
  refine zg_if_lt (tgt := 17) dX7_passNight_1 (by decide) (fun hc => ?_) (fun hc => ?_)
  · replace h := (if_pos hc).symm.trans h
    refine zo_sub (ls' := [(0, .ref a0)]) [0] rfl ?_
    exact g7_passNight_17 h0 _ h
  · replace h := (if_neg hc).symm.trans h
    refine zg_aload_n 0 dX7_passNight_4 rfl rfl ?_
    refine zg_iload_n 1 dX7_passNight_5 rfl rfl ?_
    refine zg_bipush dX7_passNight_6 zkb_6 ?_
    refine zg_idiv (by decide) dX7_passNight_8 ?_
    refine zg_iload_n 1 dX7_passNight_9 rfl rfl ?_
    refine zg_bipush dX7_passNight_10 zkb_6 ?_
    refine zg_irem (by decide) dX7_passNight_12 ?_
    obtain ⟨p1, hp1, h⟩ := z_bind h
    refine zg_callV (st := []) (k_X7_drawOut h0 hp1) zY_X7_drawOut lv_X7_100 rfl h0.1 rfl (zfit_m (by decide) (by decide)) (Nat.le_of_ble_eq_true rfl) dX7_passNight_13 rfl ?_
    refine zg_pop dX7_passNight_16 rfl ?_
    refine zo_sub (ls' := [(0, .ref a0)]) [0] rfl ?_
    exact g7_passNight_17 h0 _ h
set_option maxRecDepth 20000 in
set_option maxHeartbeats 4000000 in
theorem k_X8_undo {M : zM} {r1 : Int32} {Mr : zM} (h : f8_undo M = some (r1, Mr)) : zK ztops yX8_undo cX8_undo 1 (some .int) 4 [.ref 0] M (some (.int r1)) Mr := by
  refine zK_of pl_X8 (Nat.le_of_ble_eq_true rfl) ?_
  show zJ ztops RX8 cX8_undo 1 _ 0 0 0 [(0, .ref 0)] [] M
  rw [f8_undo] at h
  refine zg_aload_n 0 dX8_undo_0 rfl rfl ?_
  refine zo_getr 33 32 rfl fl_X8_72 zt_0 rfl dX8_undo_1 ?_
  refine zg_geti fl_X8_198 zt_33 rfl dX8_undo_4 ?_
  refine zg_if_ne (tgt := 12) dX8_undo_7 (by decide) (fun hc => ?_) (fun hc => ?_)
  · replace h := (if_neg hc).symm.trans h
    refine zg_aload_n 0 dX8_undo_12 rfl rfl ?_
    refine zo_getr 33 32 rfl fl_X8_72 zt_0 rfl dX8_undo_13 ?_
    refine zg_dup dX8_undo_16 rfl ?_
    refine zg_geti fl_X8_198 zt_33 rfl dX8_undo_17 ?_
    refine zg_iconst dX8_undo_20 zki_1 ?_
    refine zg_isub dX8_undo_21 ?_
    refine zg_puti fp_X8_198 zt_33 rfl dX8_undo_22 ?_
    refine zg_aload_n 0 dX8_undo_25 rfl rfl ?_
    refine zo_getr 33 32 rfl fl_X8_72 zt_0 rfl dX8_undo_26 ?_
    refine zg_aload_n 0 dX8_undo_29 rfl rfl ?_
    refine zo_getr 33 32 rfl fl_X8_72 zt_0 rfl dX8_undo_30 ?_
    refine zg_geti fl_X8_198 zt_33 rfl dX8_undo_33 ?_
    refine zg_aload_n 0 dX8_undo_36 rfl rfl ?_
    refine zo_getr 1 0 rfl fl_X8_10 zt_0 rfl dX8_undo_37 ?_
    obtain ⟨M1, hM1, h⟩ := z_bind h
    refine zg_callV (st := []) (k_X2_bringBack zM_33 zW_1 hM1) zY_X2_bringBack lv_X8_199 rfl zt_33 rfl (zfit_m (by decide) (by decide)) (Nat.le_of_ble_eq_true rfl) dX8_undo_40 rfl ?_
    refine zg_aload_n 0 dX8_undo_43 rfl rfl ?_
    refine zo_getr 33 32 rfl fl_X8_72 zt_0 rfl dX8_undo_44 ?_
    refine zg_geti fl_X8_198 zt_33 rfl dX8_undo_47 ?_
    obtain ⟨rfl, rfl⟩ := z_ret2 h
    exact zg_iret dX8_undo_50
  · replace h := (if_pos hc).symm.trans h
    refine zg_iconst dX8_undo_10 zki_m1 ?_
    obtain ⟨rfl, rfl⟩ := z_ret2 h
    exact zg_iret dX8_undo_11
set_option maxRecDepth 20000 in
set_option maxHeartbeats 4000000 in
theorem g8_lefts_130 {r1 : Int32} {Mr : zM} {k74 : Int32 → Int32 → Int32 → Int32 → Int32 → Int32 → Int32 → zM → Option (Int32 × zM)} (hk74 : ∀ (v1 : Int32) (v2 : Int32) (v3 : Int32) (v4 : Int32) (v5 : Int32) (v6 : Int32) (v7 : Int32) (M : zM), k74 v1 v2 v3 v4 v5 v6 v7 M = some (r1, Mr) → zJ ztops RX8 cX8_lefts 8 (zBm ztops 3 (some .int) (some (.int r1)) Mr) 0 0 74 [(0, .ref 0), (1, .int v1), (2, .int v2), (3, .int v3), (4, .int v4), (5, .int v5), (6, .int v6), (7, .int v7)] [] M) : ∀ (v1 : Int32) (v2 : Int32) (v3 : Int32) (v4 : Int32) (v5 : Int32) (v6 : Int32) (v7 : Int32) (M : zM), f8_lefts_130 k74 v1 v2 v3 v4 v5 v6 v7 M = some (r1, Mr) → zJ ztops RX8 cX8_lefts 8 (zBm ztops 3 (some .int) (some (.int r1)) Mr) 0 0 130 [(0, .ref 0), (1, .int v1), (2, .int v2), (3, .int v3), (4, .int v4), (5, .int v5), (6, .int v6), (7, .int v7)] [] M := by
  intro v1 v2 v3 v4 v5 v6 v7 M h
  rw [f8_lefts_130] at h
  refine zg_iinc (ls' := [(0, .ref 0), (1, .int v1), (2, .int v2), (3, .int v3), (4, .int v4), (5, .int v5), (6, .int v6), (7, .int (v7 + (1 : Int32)))]) 7 dX8_lefts_130 rfl zki_1 (Nat.le_of_ble_eq_true rfl) rfl ?_
  refine zg_goto (tgt := 74) dX8_lefts_133 (by decide) ?_
  exact hk74 _ _ _ _ _ _ _ _ h
set_option maxRecDepth 20000 in
set_option maxHeartbeats 4000000 in
theorem g8_lefts_74 {r1 : Int32} {Mr : zM} {k136 : Int32 → Int32 → Int32 → Int32 → Int32 → Int32 → zM → Option (Int32 × zM)} (hk136 : ∀ (v1 : Int32) (v2 : Int32) (v3 : Int32) (v4 : Int32) (v5 : Int32) (v6 : Int32) (M : zM), k136 v1 v2 v3 v4 v5 v6 M = some (r1, Mr) → zJ ztops RX8 cX8_lefts 8 (zBm ztops 3 (some .int) (some (.int r1)) Mr) 0 0 136 [(0, .ref 0), (1, .int v1), (2, .int v2), (3, .int v3), (4, .int v4), (5, .int v5), (6, .int v6)] [] M) : ∀ (n : Nat) (v1 : Int32) (v2 : Int32) (v3 : Int32) (v4 : Int32) (v5 : Int32) (v6 : Int32) (v7 : Int32) (M : zM), f8_lefts_74 k136 n v1 v2 v3 v4 v5 v6 v7 M = some (r1, Mr) → zJ ztops RX8 cX8_lefts 8 (zBm ztops 3 (some .int) (some (.int r1)) Mr) 0 0 74 [(0, .ref 0), (1, .int v1), (2, .int v2), (3, .int v3), (4, .int v4), (5, .int v5), (6, .int v6), (7, .int v7)] [] M := by
  intro n
  induction n with
  | zero => intro v1 v2 v3 v4 v5 v6 v7 M h; cases h
  | succ n ih =>
    intro v1 v2 v3 v4 v5 v6 v7 M h
    rw [f8_lefts_74] at h
    refine zg_iload 7 dX8_lefts_74 rfl ?_
    refine zg_iload 4 dX8_lefts_76 rfl ?_
    refine zg_icmp_ge (tgt := 136) dX8_lefts_78 (by decide) (fun hc => ?_) (fun hc => ?_)
    · replace h := (if_pos hc).symm.trans h
      refine zo_sub (ls' := [(0, .ref 0), (1, .int v1), (2, .int v2), (3, .int v3), (4, .int v4), (5, .int v5), (6, .int v6)]) [0, 1, 2, 3, 4, 5, 6] rfl ?_
      exact hk136 _ _ _ _ _ _ _ h
    · replace h := (if_neg hc).symm.trans h
      refine zg_iload 7 dX8_lefts_81 rfl ?_
      obtain ⟨x1, hx1, h⟩ := z_bind h
      refine zg_callS (st := []) (k_J6_bitCount_0f7a4 hx1) zY_J6_bitCount_0f7a4 ls_X8_225 rfl (zfit_m (by decide) (by decide)) (Nat.le_of_ble_eq_true rfl) dX8_lefts_83 rfl ?_
      refine zg_iload 6 dX8_lefts_86 rfl ?_
      obtain ⟨x2, hx2, h⟩ := z_bind h
      refine zg_callS (st := [.int x1]) (k_J6_bitCount_0f7a4 hx2) zY_J6_bitCount_0f7a4 ls_X8_225 rfl (zfit_m (by decide) (by decide)) (Nat.le_of_ble_eq_true rfl) dX8_lefts_88 rfl ?_
      refine zg_iadd dX8_lefts_91 ?_
      refine zg_iload_n 1 dX8_lefts_92 rfl rfl ?_
      refine zg_icmp_ne (tgt := 130) dX8_lefts_93 (by decide) (fun hc => ?_) (fun hc => ?_)
      · replace h := (if_neg hc).symm.trans h
        exact g8_lefts_130 (fun u0 u1 u2 u3 u4 u5 u6 u7 h => ih u0 u1 u2 u3 u4 u5 u6 u7 h) _ _ _ _ _ _ _ _ h
      · replace h := (if_pos hc).symm.trans h
        refine zg_iinc (ls' := [(0, .ref 0), (1, .int v1), (2, .int (v2 + (1 : Int32))), (3, .int v3), (4, .int v4), (5, .int v5), (6, .int v6), (7, .int v7)]) 2 dX8_lefts_96 rfl zki_1 (Nat.le_of_ble_eq_true rfl) rfl ?_
        refine zg_iload_n 3 dX8_lefts_99 rfl rfl ?_
        refine zg_aload_n 0 dX8_lefts_100 rfl rfl ?_
        refine zo_getr 27 26 rfl fl_X8_56 zt_0 rfl dX8_lefts_101 ?_
        refine zg_aload_n 0 dX8_lefts_104 rfl rfl ?_
        refine zo_getr 27 26 rfl fl_X8_56 zt_0 rfl dX8_lefts_105 ?_
        refine zg_aload_n 0 dX8_lefts_108 rfl rfl ?_
        refine zo_getr 1 0 rfl fl_X8_10 zt_0 rfl dX8_lefts_109 ?_
        refine zg_iload 7 dX8_lefts_112 rfl ?_
        obtain ⟨x3, hx3, h⟩ := z_bind h
        refine zg_callV (st := [.ref 27, .int v3]) (k_X1_shapeWithout zW_1 hx3) zY_X1_shapeWithout lv_X8_241 rfl zt_27 rfl (zfit_m (by decide) (by decide)) (Nat.le_of_ble_eq_true rfl) dX8_lefts_114 rfl ?_
        obtain ⟨p4, hp4, h⟩ := z_bind h
        refine zg_callV (st := [.int v3]) (k_X1_isNew hp4) zY_X1_isNew lv_X8_245 rfl zt_27 rfl (zfit_m (by decide) (by decide)) (Nat.le_of_ble_eq_true rfl) dX8_lefts_117 rfl ?_
        suffices hj : zJ ztops RX8 cX8_lefts 8 (zBm ztops 3 (some .int) (some (.int r1)) Mr) 0 0 128 [(0, .ref 0), (1, .int v1), (2, .int (v2 + (1 : Int32))), (3, .int v3), (4, .int v4), (5, .int v5), (6, .int v6), (7, .int v7)] [.int (if p4.1 = 0 then (0 : Int32) else (1 : Int32)), .int v3] p4.2 by
          refine zg_if_eq (tgt := 127) dX8_lefts_120 (by decide) (fun hc => ?_) (fun hc => ?_)
          · rw [show (if p4.1 = 0 then (0 : Int32) else (1 : Int32)) = (0 : Int32) from if_pos hc] at hj
            refine zg_iconst dX8_lefts_127 zki_0 ?_
            exact hj
          · rw [show (if p4.1 = 0 then (0 : Int32) else (1 : Int32)) = (1 : Int32) from if_neg hc] at hj
            refine zg_iconst dX8_lefts_123 zki_1 ?_
            refine zg_goto (tgt := 128) dX8_lefts_124 (by decide) ?_
            exact hj
        refine zg_iadd dX8_lefts_128 ?_
        refine zg_istore_n (ls' := [(0, .ref 0), (1, .int v1), (2, .int (v2 + (1 : Int32))), (3, .int (v3 + (if p4.1 = 0 then (0 : Int32) else (1 : Int32)))), (4, .int v4), (5, .int v5), (6, .int v6), (7, .int v7)]) dX8_lefts_129 rfl (Nat.le_of_ble_eq_true rfl) rfl ?_
        exact g8_lefts_130 (fun u0 u1 u2 u3 u4 u5 u6 u7 h => ih u0 u1 u2 u3 u4 u5 u6 u7 h) _ _ _ _ _ _ _ _ h
set_option maxRecDepth 20000 in
set_option maxHeartbeats 4000000 in
theorem g8_lefts_136 {r1 : Int32} {Mr : zM} {k51 : Int32 → Int32 → Int32 → Int32 → Int32 → Int32 → zM → Option (Int32 × zM)} (hk51 : ∀ (v1 : Int32) (v2 : Int32) (v3 : Int32) (v4 : Int32) (v5 : Int32) (v6 : Int32) (M : zM), k51 v1 v2 v3 v4 v5 v6 M = some (r1, Mr) → zJ ztops RX8 cX8_lefts 8 (zBm ztops 3 (some .int) (some (.int r1)) Mr) 0 0 51 [(0, .ref 0), (1, .int v1), (2, .int v2), (3, .int v3), (4, .int v4), (5, .int v5), (6, .int v6)] [] M) : ∀ (v1 : Int32) (v2 : Int32) (v3 : Int32) (v4 : Int32) (v5 : Int32) (v6 : Int32) (M : zM), f8_lefts_136 k51 v1 v2 v3 v4 v5 v6 M = some (r1, Mr) → zJ ztops RX8 cX8_lefts 8 (zBm ztops 3 (some .int) (some (.int r1)) Mr) 0 0 136 [(0, .ref 0), (1, .int v1), (2, .int v2), (3, .int v3), (4, .int v4), (5, .int v5), (6, .int v6)] [] M := by
  intro v1 v2 v3 v4 v5 v6 M h
  rw [f8_lefts_136] at h
  refine zg_iinc (ls' := [(0, .ref 0), (1, .int v1), (2, .int v2), (3, .int v3), (4, .int v4), (5, .int v5), (6, .int (v6 + (1 : Int32)))]) 6 dX8_lefts_136 rfl zki_1 (Nat.le_of_ble_eq_true rfl) rfl ?_
  refine zg_goto (tgt := 51) dX8_lefts_139 (by decide) ?_
  exact hk51 _ _ _ _ _ _ _ h
set_option maxRecDepth 20000 in
set_option maxHeartbeats 4000000 in
theorem g8_lefts_51 {r1 : Int32} {Mr : zM} : ∀ (n : Nat) (v1 : Int32) (v2 : Int32) (v3 : Int32) (v4 : Int32) (v5 : Int32) (v6 : Int32) (M : zM), f8_lefts_51 n v1 v2 v3 v4 v5 v6 M = some (r1, Mr) → zJ ztops RX8 cX8_lefts 8 (zBm ztops 3 (some .int) (some (.int r1)) Mr) 0 0 51 [(0, .ref 0), (1, .int v1), (2, .int v2), (3, .int v3), (4, .int v4), (5, .int v5), (6, .int v6)] [] M := by
  intro n
  induction n with
  | zero => intro v1 v2 v3 v4 v5 v6 M h; cases h
  | succ n ih =>
    intro v1 v2 v3 v4 v5 v6 M h
    rw [f8_lefts_51] at h
    refine zg_iload 6 dX8_lefts_51 rfl ?_
    refine zg_iload 5 dX8_lefts_53 rfl ?_
    refine zg_icmp_ge (tgt := 142) dX8_lefts_55 (by decide) (fun hc => ?_) (fun hc => ?_)
    · replace h := (if_pos hc).symm.trans h
      refine zg_aload_n 0 dX8_lefts_142 rfl rfl ?_
      refine zo_getr 9 8 rfl fl_X8_32 zt_0 rfl dX8_lefts_143 ?_
      refine zg_iload_n 2 dX8_lefts_146 rfl rfl ?_
      refine zg_i2l dX8_lefts_147 ?_
      obtain ⟨M1, hM1, h⟩ := z_bind h
      refine zg_callV (st := []) (k_X3_tell hM1) zY_X3_tell lv_X8_207 rfl zt_9 rfl (zfit_m (by decide) (by decide)) (Nat.le_of_ble_eq_true rfl) dX8_lefts_148 rfl ?_
      refine zg_iload_n 3 dX8_lefts_151 rfl rfl ?_
      obtain ⟨rfl, rfl⟩ := z_ret2 h
      exact zg_iret dX8_lefts_152
    · replace h := (if_neg hc).symm.trans h
      refine zg_aload_n 0 dX8_lefts_58 rfl rfl ?_
      refine zo_getr 27 26 rfl fl_X8_56 zt_0 rfl dX8_lefts_59 ?_
      refine zg_aload_n 0 dX8_lefts_62 rfl rfl ?_
      refine zo_getr 1 0 rfl fl_X8_10 zt_0 rfl dX8_lefts_63 ?_
      refine zg_iload 6 dX8_lefts_66 rfl ?_
      obtain ⟨M1, hM1, h⟩ := z_bind h
      refine zg_callV (st := []) (k_X1_narrow zW_1 hM1) zY_X1_narrow lv_X8_237 rfl zt_27 rfl (zfit_m (by decide) (by decide)) (Nat.le_of_ble_eq_true rfl) dX8_lefts_68 rfl ?_
      refine zg_iconst dX8_lefts_71 zki_0 ?_
      refine zg_istore (ls' := [(0, .ref 0), (1, .int v1), (2, .int v2), (3, .int v3), (4, .int v4), (5, .int v5), (6, .int v6), (7, .int (0 : Int32))]) dX8_lefts_72 (Nat.le_of_ble_eq_true rfl) rfl ?_
      exact g8_lefts_74 (fun u0 u1 u2 u3 u4 u5 u6 h => g8_lefts_136 (fun u0 u1 u2 u3 u4 u5 u6 h => ih u0 u1 u2 u3 u4 u5 u6 h) u0 u1 u2 u3 u4 u5 u6 h) zfuel _ _ _ _ _ _ _ _ h
set_option maxRecDepth 20000 in
set_option maxHeartbeats 4000000 in
theorem k_X8_lefts {v1 : Int32} {M : zM} {r1 : Int32} {Mr : zM} (h : f8_lefts v1 M = some (r1, Mr)) : zK ztops yX8_lefts cX8_lefts 8 (some .int) 3 [.ref 0, .int v1] M (some (.int r1)) Mr := by
  refine zK_of pl_X8 (Nat.le_of_ble_eq_true rfl) ?_
  show zJ ztops RX8 cX8_lefts 8 _ 0 0 0 [(0, .ref 0), (1, .int v1)] [] M
  rw [f8_lefts] at h
  refine zg_iload_n 1 dX8_lefts_0 rfl rfl ?_
  refine zg_if_lt (tgt := 9) dX8_lefts_1 (by decide) (fun hc => ?_) (fun hc => ?_)
  · replace h := (if_pos hc).symm.trans h
    refine zg_iconst dX8_lefts_9 zki_m1 ?_
    obtain ⟨rfl, rfl⟩ := z_ret2 h
    exact zg_iret dX8_lefts_10
  · replace h := (if_neg hc).symm.trans h
    refine zg_iload_n 1 dX8_lefts_4 rfl rfl ?_
    refine zg_iconst dX8_lefts_5 zki_4 ?_
    refine zg_icmp_le (tgt := 11) dX8_lefts_6 (by decide) (fun hc => ?_) (fun hc => ?_)
    · replace h := (if_pos hc).symm.trans h
      refine zg_aload_n 0 dX8_lefts_11 rfl rfl ?_
      refine zo_getr 27 26 rfl fl_X8_56 zt_0 rfl dX8_lefts_12 ?_
      obtain ⟨M1, hM1, h⟩ := z_bind h
      refine zg_callV (st := []) (k_X1_forgetShapes hM1) zY_X1_forgetShapes lv_X8_234 rfl zt_27 rfl (zfit_m (by decide) (by decide)) (Nat.le_of_ble_eq_true rfl) dX8_lefts_15 rfl ?_
      refine zg_iconst dX8_lefts_18 zki_0 ?_
      refine zg_istore_n (ls' := [(0, .ref 0), (1, .int v1), (2, .int (0 : Int32))]) dX8_lefts_19 rfl (Nat.le_of_ble_eq_true rfl) rfl ?_
      refine zg_iconst dX8_lefts_20 zki_0 ?_
      refine zg_istore_n (ls' := [(0, .ref 0), (1, .int v1), (2, .int (0 : Int32)), (3, .int (0 : Int32))]) dX8_lefts_21 rfl (Nat.le_of_ble_eq_true rfl) rfl ?_
      refine zg_iconst dX8_lefts_22 zki_1 ?_
      refine zg_aload_n 0 dX8_lefts_23 rfl rfl ?_
      refine zo_getr 1 0 rfl fl_X8_10 zt_0 rfl dX8_lefts_24 ?_
      refine zg_geti fl_X8_100 zt_1 rfl dX8_lefts_27 ?_
      refine zg_ishl dX8_lefts_30 ?_
      refine zg_iconst dX8_lefts_31 zki_1 ?_
      refine zg_isub dX8_lefts_32 ?_
      refine zg_istore (ls' := [(0, .ref 0), (1, .int v1), (2, .int (0 : Int32)), (3, .int (0 : Int32)), (4, .int ((zshl (1 : Int32) (M1.1 1 0)) - (1 : Int32)))]) dX8_lefts_33 (Nat.le_of_ble_eq_true rfl) rfl ?_
      refine zg_iconst dX8_lefts_35 zki_1 ?_
      refine zg_aload_n 0 dX8_lefts_36 rfl rfl ?_
      refine zo_getr 1 0 rfl fl_X8_10 zt_0 rfl dX8_lefts_37 ?_
      refine zg_geti fl_X8_213 zt_1 rfl dX8_lefts_40 ?_
      refine zg_ishl dX8_lefts_43 ?_
      refine zg_iconst dX8_lefts_44 zki_1 ?_
      refine zg_isub dX8_lefts_45 ?_
      refine zg_istore (ls' := [(0, .ref 0), (1, .int v1), (2, .int (0 : Int32)), (3, .int (0 : Int32)), (4, .int ((zshl (1 : Int32) (M1.1 1 0)) - (1 : Int32))), (5, .int ((zshl (1 : Int32) (M1.1 1 1)) - (1 : Int32)))]) dX8_lefts_46 (Nat.le_of_ble_eq_true rfl) rfl ?_
      refine zg_iconst dX8_lefts_48 zki_0 ?_
      refine zg_istore (ls' := [(0, .ref 0), (1, .int v1), (2, .int (0 : Int32)), (3, .int (0 : Int32)), (4, .int ((zshl (1 : Int32) (M1.1 1 0)) - (1 : Int32))), (5, .int ((zshl (1 : Int32) (M1.1 1 1)) - (1 : Int32))), (6, .int (0 : Int32))]) dX8_lefts_49 (Nat.le_of_ble_eq_true rfl) rfl ?_
      exact g8_lefts_51 zfuel _ _ _ _ _ _ _ h
    · replace h := (if_neg hc).symm.trans h
      refine zg_iconst dX8_lefts_9 zki_m1 ?_
      obtain ⟨rfl, rfl⟩ := z_ret2 h
      exact zg_iret dX8_lefts_10
set_option maxRecDepth 20000 in
set_option maxHeartbeats 4000000 in
theorem g8_words_75 {r1 : Int32} {Mr : zM} {k33 : Int32 → Int32 → Int32 → Int32 → Int32 → Int32 → zM → Option (Int32 × zM)} (hk33 : ∀ (v1 : Int32) (v2 : Int32) (v3 : Int32) (v4 : Int32) (v5 : Int32) (v6 : Int32) (M : zM), k33 v1 v2 v3 v4 v5 v6 M = some (r1, Mr) → zJ ztops RX8 cX8_words 7 (zBm ztops 3 (some .int) (some (.int r1)) Mr) 0 0 33 [(0, .ref 0), (1, .int v1), (2, .int v2), (3, .int v3), (4, .int v4), (5, .int v5), (6, .int v6)] [] M) : ∀ (v1 : Int32) (v2 : Int32) (v3 : Int32) (v4 : Int32) (v5 : Int32) (v6 : Int32) (M : zM), f8_words_75 k33 v1 v2 v3 v4 v5 v6 M = some (r1, Mr) → zJ ztops RX8 cX8_words 7 (zBm ztops 3 (some .int) (some (.int r1)) Mr) 0 0 75 [(0, .ref 0), (1, .int v1), (2, .int v2), (3, .int v3), (4, .int v4), (5, .int v5), (6, .int v6)] [] M := by
  intro v1 v2 v3 v4 v5 v6 M h
  rw [f8_words_75] at h
  refine zg_iinc (ls' := [(0, .ref 0), (1, .int v1), (2, .int v2), (3, .int v3), (4, .int v4), (5, .int v5), (6, .int (v6 + (1 : Int32)))]) 6 dX8_words_75 rfl zki_1 (Nat.le_of_ble_eq_true rfl) rfl ?_
  refine zg_goto (tgt := 33) dX8_words_78 (by decide) ?_
  exact hk33 _ _ _ _ _ _ _ h
set_option maxRecDepth 20000 in
set_option maxHeartbeats 4000000 in
theorem g8_words_33 {r1 : Int32} {Mr : zM} : ∀ (n : Nat) (v1 : Int32) (v2 : Int32) (v3 : Int32) (v4 : Int32) (v5 : Int32) (v6 : Int32) (M : zM), f8_words_33 n v1 v2 v3 v4 v5 v6 M = some (r1, Mr) → zJ ztops RX8 cX8_words 7 (zBm ztops 3 (some .int) (some (.int r1)) Mr) 0 0 33 [(0, .ref 0), (1, .int v1), (2, .int v2), (3, .int v3), (4, .int v4), (5, .int v5), (6, .int v6)] [] M := by
  intro n
  induction n with
  | zero => intro v1 v2 v3 v4 v5 v6 M h; cases h
  | succ n ih =>
    intro v1 v2 v3 v4 v5 v6 M h
    rw [f8_words_33] at h
    refine zg_iload 6 dX8_words_33 rfl ?_
    refine zg_iconst dX8_words_35 zki_1 ?_
    refine zg_iload_n 1 dX8_words_36 rfl rfl ?_
    refine zg_ishl dX8_words_37 ?_
    refine zg_icmp_ge (tgt := 81) dX8_words_38 (by decide) (fun hc => ?_) (fun hc => ?_)
    · replace h := (if_pos hc).symm.trans h
      refine zg_aload_n 0 dX8_words_81 rfl rfl ?_
      refine zo_getr 9 8 rfl fl_X8_32 zt_0 rfl dX8_words_82 ?_
      obtain ⟨M1, hM1, h⟩ := z_bind h
      refine zg_callV (st := []) (k_X3_clear hM1) zY_X3_clear lv_X8_222 rfl zt_9 rfl (zfit_m (by decide) (by decide)) (Nat.le_of_ble_eq_true rfl) dX8_words_85 rfl ?_
      refine zg_iload_n 3 dX8_words_88 rfl rfl ?_
      refine zg_if_le (tgt := 105) dX8_words_89 (by decide) (fun hc => ?_) (fun hc => ?_)
      · replace h := (if_pos hc).symm.trans h
        refine zg_iload_n 3 dX8_words_105 rfl rfl ?_
        obtain ⟨rfl, rfl⟩ := z_ret2 h
        exact zg_iret dX8_words_106
      · replace h := (if_neg hc).symm.trans h
        refine zg_aload_n 0 dX8_words_92 rfl rfl ?_
        refine zo_getr 9 8 rfl fl_X8_32 zt_0 rfl dX8_words_93 ?_
        refine zg_iload 4 dX8_words_96 rfl ?_
        refine zg_i2l dX8_words_98 ?_
        refine zg_iload 5 dX8_words_99 rfl ?_
        refine zg_i2l dX8_words_101 ?_
        obtain ⟨M2, hM2, h⟩ := z_bind h
        refine zg_callV (st := []) (k_X3_tell_ hM2) zY_X3_tell_ lv_X8_194 rfl zt_9 rfl (zfit_m (by decide) (by decide)) (Nat.le_of_ble_eq_true rfl) dX8_words_102 rfl ?_
        refine zg_iload_n 3 dX8_words_105 rfl rfl ?_
        obtain ⟨rfl, rfl⟩ := z_ret2 h
        exact zg_iret dX8_words_106
    · replace h := (if_neg hc).symm.trans h
      refine zg_iload 6 dX8_words_41 rfl ?_
      refine zg_iload_n 1 dX8_words_43 rfl rfl ?_
      obtain ⟨x1, hx1, h⟩ := z_bind h
      refine zg_callS (st := []) (k_X8_checkSum hx1) zY_X8_checkSum ls_X8_253 rfl (zfit_m (by decide) (by decide)) (Nat.le_of_ble_eq_true rfl) dX8_words_44 rfl ?_
      refine zg_iload_n 1 dX8_words_47 rfl rfl ?_
      refine zg_iconst dX8_words_48 zki_1 ?_
      refine zg_iadd dX8_words_49 ?_
      obtain ⟨x2, hx2, h⟩ := z_bind h
      refine zo_irem hx2 dX8_words_50 ?_
      refine zg_iload_n 2 dX8_words_51 rfl rfl ?_
      refine zg_icmp_ne (tgt := 75) dX8_words_52 (by decide) (fun hc => ?_) (fun hc => ?_)
      · replace h := (if_neg hc).symm.trans h
        exact g8_words_75 (fun u0 u1 u2 u3 u4 u5 u6 h => ih u0 u1 u2 u3 u4 u5 u6 h) _ _ _ _ _ _ _ h
      · replace h := (if_pos hc).symm.trans h
        refine zg_iload_n 3 dX8_words_55 rfl rfl ?_
        suffices hj : zJ ztops RX8 cX8_words 7 (zBm ztops 3 (some .int) (some (.int r1)) Mr) 0 0 66 [(0, .ref 0), (1, .int v1), (2, .int v2), (3, .int v3), (4, .int v4), (5, .int v5), (6, .int v6)] [.int (if v3 = 0 then v6 else v4)] M by
          refine zg_if_ne (tgt := 64) dX8_words_56 (by decide) (fun hc => ?_) (fun hc => ?_)
          · rw [show (if v3 = 0 then v6 else v4) = v4 from if_neg hc] at hj
            refine zg_iload 4 dX8_words_64 rfl ?_
            exact hj
          · rw [show (if v3 = 0 then v6 else v4) = v6 from if_pos hc] at hj
            refine zg_iload 6 dX8_words_59 rfl ?_
            refine zg_goto (tgt := 66) dX8_words_61 (by decide) ?_
            exact hj
        refine zg_istore (ls' := [(0, .ref 0), (1, .int v1), (2, .int v2), (3, .int v3), (4, .int (if v3 = 0 then v6 else v4)), (5, .int v5), (6, .int v6)]) dX8_words_66 (Nat.le_of_ble_eq_true rfl) rfl ?_
        refine zg_iload 6 dX8_words_68 rfl ?_
        refine zg_istore (ls' := [(0, .ref 0), (1, .int v1), (2, .int v2), (3, .int v3), (4, .int (if v3 = 0 then v6 else v4)), (5, .int v6), (6, .int v6)]) dX8_words_70 (Nat.le_of_ble_eq_true rfl) rfl ?_
        refine zg_iinc (ls' := [(0, .ref 0), (1, .int v1), (2, .int v2), (3, .int (v3 + (1 : Int32))), (4, .int (if v3 = 0 then v6 else v4)), (5, .int v6), (6, .int v6)]) 3 dX8_words_72 rfl zki_1 (Nat.le_of_ble_eq_true rfl) rfl ?_
        exact g8_words_75 (fun u0 u1 u2 u3 u4 u5 u6 h => ih u0 u1 u2 u3 u4 u5 u6 h) _ _ _ _ _ _ _ h
set_option maxRecDepth 20000 in
set_option maxHeartbeats 4000000 in
theorem k_X8_words {v1 : Int32} {v2 : Int32} {M : zM} {r1 : Int32} {Mr : zM} (h : f8_words v1 v2 M = some (r1, Mr)) : zK ztops yX8_words cX8_words 7 (some .int) 3 [.ref 0, .int v1, .int v2] M (some (.int r1)) Mr := by
  refine zK_of pl_X8 (Nat.le_of_ble_eq_true rfl) ?_
  show zJ ztops RX8 cX8_words 7 _ 0 0 0 [(0, .ref 0), (1, .int v1), (2, .int v2)] [] M
  rw [f8_words] at h
  refine zg_iload_n 1 dX8_words_0 rfl rfl ?_
  refine zg_iconst dX8_words_1 zki_1 ?_
  refine zg_icmp_lt (tgt := 20) dX8_words_2 (by decide) (fun hc => ?_) (fun hc => ?_)
  · replace h := (if_pos hc).symm.trans h
    refine zg_iconst dX8_words_20 zki_m1 ?_
    obtain ⟨rfl, rfl⟩ := z_ret2 h
    exact zg_iret dX8_words_21
  · replace h := (if_neg hc).symm.trans h
    refine zg_iload_n 1 dX8_words_5 rfl rfl ?_
    refine zg_bipush dX8_words_6 zkb_6 ?_
    refine zg_icmp_gt (tgt := 20) dX8_words_8 (by decide) (fun hc => ?_) (fun hc => ?_)
    · replace h := (if_pos hc).symm.trans h
      refine zg_iconst dX8_words_20 zki_m1 ?_
      obtain ⟨rfl, rfl⟩ := z_ret2 h
      exact zg_iret dX8_words_21
    · replace h := (if_neg hc).symm.trans h
      refine zg_iload_n 2 dX8_words_11 rfl rfl ?_
      refine zg_if_lt (tgt := 20) dX8_words_12 (by decide) (fun hc => ?_) (fun hc => ?_)
      · replace h := (if_pos hc).symm.trans h
        refine zg_iconst dX8_words_20 zki_m1 ?_
        obtain ⟨rfl, rfl⟩ := z_ret2 h
        exact zg_iret dX8_words_21
      · replace h := (if_neg hc).symm.trans h
        refine zg_iload_n 2 dX8_words_15 rfl rfl ?_
        refine zg_iload_n 1 dX8_words_16 rfl rfl ?_
        refine zg_icmp_le (tgt := 22) dX8_words_17 (by decide) (fun hc => ?_) (fun hc => ?_)
        · replace h := (if_pos hc).symm.trans h
          refine zg_iconst dX8_words_22 zki_0 ?_
          refine zg_istore_n (ls' := [(0, .ref 0), (1, .int v1), (2, .int v2), (3, .int (0 : Int32))]) dX8_words_23 rfl (Nat.le_of_ble_eq_true rfl) rfl ?_
          refine zg_iconst dX8_words_24 zki_0 ?_
          refine zg_istore (ls' := [(0, .ref 0), (1, .int v1), (2, .int v2), (3, .int (0 : Int32)), (4, .int (0 : Int32))]) dX8_words_25 (Nat.le_of_ble_eq_true rfl) rfl ?_
          refine zg_iconst dX8_words_27 zki_0 ?_
          refine zg_istore (ls' := [(0, .ref 0), (1, .int v1), (2, .int v2), (3, .int (0 : Int32)), (4, .int (0 : Int32)), (5, .int (0 : Int32))]) dX8_words_28 (Nat.le_of_ble_eq_true rfl) rfl ?_
          refine zg_iconst dX8_words_30 zki_0 ?_
          refine zg_istore (ls' := [(0, .ref 0), (1, .int v1), (2, .int v2), (3, .int (0 : Int32)), (4, .int (0 : Int32)), (5, .int (0 : Int32)), (6, .int (0 : Int32))]) dX8_words_31 (Nat.le_of_ble_eq_true rfl) rfl ?_
          exact g8_words_33 zfuel _ _ _ _ _ _ _ h
        · replace h := (if_neg hc).symm.trans h
          refine zg_iconst dX8_words_20 zki_m1 ?_
          obtain ⟨rfl, rfl⟩ := z_ret2 h
          exact zg_iret dX8_words_21
