set_option maxRecDepth 20000 in
set_option maxHeartbeats 4000000 in
theorem g9_endures_158 {r1 : Int32} {Mr : zM} {k90 : Int32 → Int32 → Int32 → Int32 → zM → Option (Int32 × zM)} (hk90 : ∀ (v1 : Int32) (v2 : Int32) (v3 : Int32) (v5 : Int32) (M : zM), k90 v1 v2 v3 v5 M = some (r1, Mr) → zJ ztops RX9 cX9_endures 7 (zBm ztops 5 (some .int) (some (.int r1)) Mr) 0 0 90 [(0, .ref 39), (1, .int v1), (2, .int v2), (3, .int v3), (5, .int v5)] [] M) : ∀ (v1 : Int32) (v2 : Int32) (v3 : Int32) (v5 : Int32) (s1 : Int32) (s2 : Int32) (M : zM), f9_endures_158 k90 v1 v2 v3 v5 s1 s2 M = some (r1, Mr) → zJ ztops RX9 cX9_endures 7 (zBm ztops 5 (some .int) (some (.int r1)) Mr) 0 0 158 [(0, .ref 39), (1, .int v1), (2, .int v2), (3, .int v3), (5, .int v5)] [.int s2, .int s1, .ref 58] M := by
  intro v1 v2 v3 v5 s1 s2 M h
  rw [f9_endures_158] at h
  obtain ⟨M1, hM1, h⟩ := z_bind h
  refine zo_iast zt_58 hM1 dX9_endures_158 ?_
  refine zg_iinc (ls' := [(0, .ref 39), (1, .int v1), (2, .int v2), (3, .int v3), (5, .int (v5 + (1 : Int32)))]) 4 dX9_endures_159 rfl zki_1 (Nat.le_of_ble_eq_true rfl) rfl ?_
  refine zg_goto (tgt := 90) dX9_endures_162 (by decide) ?_
  exact hk90 _ _ _ _ _ h
set_option maxRecDepth 20000 in
set_option maxHeartbeats 4000000 in
theorem g9_endures_152 {r1 : Int32} {Mr : zM} {k90 : Int32 → Int32 → Int32 → Int32 → zM → Option (Int32 × zM)} (hk90 : ∀ (v1 : Int32) (v2 : Int32) (v3 : Int32) (v5 : Int32) (M : zM), k90 v1 v2 v3 v5 M = some (r1, Mr) → zJ ztops RX9 cX9_endures 7 (zBm ztops 5 (some .int) (some (.int r1)) Mr) 0 0 90 [(0, .ref 39), (1, .int v1), (2, .int v2), (3, .int v3), (5, .int v5)] [] M) : ∀ (v1 : Int32) (v2 : Int32) (v3 : Int32) (v5 : Int32) (s1 : Int32) (M : zM), f9_endures_152 k90 v1 v2 v3 v5 s1 M = some (r1, Mr) → zJ ztops RX9 cX9_endures 7 (zBm ztops 5 (some .int) (some (.int r1)) Mr) 0 0 152 [(0, .ref 39), (1, .int v1), (2, .int v2), (3, .int v3), (5, .int v5)] [.int s1, .ref 58] M := by
  intro v1 v2 v3 v5 s1 M h
  rw [f9_endures_152] at h
  refine zg_aload_n 0 dX9_endures_152 rfl rfl ?_
  refine zo_getr 58 18 rfl fl_X9_77 zt_39 rfl dX9_endures_153 ?_
  refine zg_iload_n 3 dX9_endures_156 rfl rfl ?_
  obtain ⟨x1, hx1, h⟩ := z_bind h
  refine zo_iald zt_58 hx1 dX9_endures_157 ?_
  exact g9_endures_158 hk90 _ _ _ _ _ _ _ h
set_option maxRecDepth 20000 in
set_option maxHeartbeats 4000000 in
theorem g9_endures_90 {r1 : Int32} {Mr : zM} {k165 : Int32 → Int32 → Int32 → zM → Option (Int32 × zM)} (hk165 : ∀ (v1 : Int32) (v2 : Int32) (v3 : Int32) (M : zM), k165 v1 v2 v3 M = some (r1, Mr) → zJ ztops RX9 cX9_endures 7 (zBm ztops 5 (some .int) (some (.int r1)) Mr) 0 0 165 [(0, .ref 39), (1, .int v1), (2, .int v2), (3, .int v3)] [] M) : ∀ (n : Nat) (v1 : Int32) (v2 : Int32) (v3 : Int32) (v5 : Int32) (M : zM), f9_endures_90 k165 n v1 v2 v3 v5 M = some (r1, Mr) → zJ ztops RX9 cX9_endures 7 (zBm ztops 5 (some .int) (some (.int r1)) Mr) 0 0 90 [(0, .ref 39), (1, .int v1), (2, .int v2), (3, .int v3), (5, .int v5)] [] M := by
  intro n
  induction n with
  | zero => intro v1 v2 v3 v5 M h; cases h
  | succ n ih =>
    intro v1 v2 v3 v5 M h
    rw [f9_endures_90] at h
    refine zg_iload 4 dX9_endures_90 rfl ?_
    refine zg_bipush dX9_endures_92 zkb_12 ?_
    refine zg_icmp_ge (tgt := 165) dX9_endures_94 (by decide) (fun hc => ?_) (fun hc => ?_)
    · replace h := (if_pos hc).symm.trans h
      refine zo_sub (ls' := [(0, .ref 39), (1, .int v1), (2, .int v2), (3, .int v3)]) [0, 1, 2, 3] rfl ?_
      exact hk165 _ _ _ _ h
    · replace h := (if_neg hc).symm.trans h
      refine zg_iload_n 3 dX9_endures_97 rfl rfl ?_
      refine zg_iconst dX9_endures_98 zki_1 ?_
      refine zg_iload 4 dX9_endures_99 rfl ?_
      refine zg_ishl dX9_endures_101 ?_
      refine zg_iconst dX9_endures_102 zki_m1 ?_
      refine zg_ixor dX9_endures_103 ?_
      refine zg_iand dX9_endures_104 ?_
      refine zg_istore (ls' := [(0, .ref 39), (1, .int v1), (2, .int v2), (3, .int v3), (5, .int v5), (6, .int (v3 &&& ((zshl (1 : Int32) v5) ^^^ (-1 : Int32))))]) dX9_endures_105 (Nat.le_of_ble_eq_true rfl) rfl ?_
      refine zg_aload_n 0 dX9_endures_107 rfl rfl ?_
      refine zo_getr 58 18 rfl fl_X9_77 zt_39 rfl dX9_endures_108 ?_
      refine zg_iload_n 3 dX9_endures_111 rfl rfl ?_
      refine zg_iload_n 3 dX9_endures_112 rfl rfl ?_
      refine zg_iload 4 dX9_endures_113 rfl ?_
      obtain ⟨x1, hx1, h⟩ := z_bind h
      refine zg_callS (st := [.int v3, .ref 58]) (k_X9_has hx1) zY_X9_has ls_X9_112 rfl (zfit_m (by decide) (by decide)) (Nat.le_of_ble_eq_true rfl) dX9_endures_115 rfl ?_
      refine zg_if_eq (tgt := 152) dX9_endures_118 (by decide) (fun hc => ?_) (fun hc => ?_)
      · replace h := (if_pos hc).symm.trans h
        refine zo_sub (ls' := [(0, .ref 39), (1, .int v1), (2, .int v2), (3, .int v3), (5, .int v5)]) [0, 1, 2, 3, 4] rfl ?_
        exact g9_endures_152 (fun u0 u1 u2 u3 u4 h => ih u0 u1 u2 u3 u4 h) _ _ _ _ _ _ h
      · replace h := (if_neg hc).symm.trans h
        refine zg_aload_n 0 dX9_endures_121 rfl rfl ?_
        refine zo_getr 56 16 rfl fl_X9_70 zt_39 rfl dX9_endures_122 ?_
        refine zg_iload 5 dX9_endures_125 rfl ?_
        obtain ⟨x2, hx2, h⟩ := z_bind h
        refine zo_zald zt_56 hx2 dX9_endures_127 ?_
        refine zg_if_eq (tgt := 152) dX9_endures_128 (by decide) (fun hc => ?_) (fun hc => ?_)
        · replace h := (if_pos hc).symm.trans h
          refine zo_sub (ls' := [(0, .ref 39), (1, .int v1), (2, .int v2), (3, .int v3), (5, .int v5)]) [0, 1, 2, 3, 4] rfl ?_
          exact g9_endures_152 (fun u0 u1 u2 u3 u4 h => ih u0 u1 u2 u3 u4 h) _ _ _ _ _ _ h
        · replace h := (if_neg hc).symm.trans h
          refine zg_aload_n 0 dX9_endures_131 rfl rfl ?_
          refine zo_getr 58 18 rfl fl_X9_77 zt_39 rfl dX9_endures_132 ?_
          refine zg_iload_n 3 dX9_endures_135 rfl rfl ?_
          obtain ⟨x3, hx3, h⟩ := z_bind h
          refine zo_iald zt_58 hx3 dX9_endures_136 ?_
          refine zg_aload_n 0 dX9_endures_137 rfl rfl ?_
          refine zo_getr 58 18 rfl fl_X9_77 zt_39 rfl dX9_endures_138 ?_
          refine zg_iload 5 dX9_endures_141 rfl ?_
          obtain ⟨x4, hx4, h⟩ := z_bind h
          refine zo_iald zt_58 hx4 dX9_endures_143 ?_
          refine zg_iconst dX9_endures_144 zki_1 ?_
          refine zg_iadd dX9_endures_145 ?_
          refine zo_max ls_X9_258 ⟨Nat.le_of_ble_eq_true rfl, Nat.le_of_ble_eq_true rfl, Nat.le_refl _, Nat.le_refl _⟩ z_iM z_cmax dX9_endures_146 ?_
          refine zg_goto (tgt := 158) dX9_endures_149 (by decide) ?_
          refine zo_sub (ls' := [(0, .ref 39), (1, .int v1), (2, .int v2), (3, .int v3), (5, .int v5)]) [0, 1, 2, 3, 4] rfl ?_
          exact g9_endures_158 (fun u0 u1 u2 u3 u4 h => ih u0 u1 u2 u3 u4 h) _ _ _ _ _ _ _ h
set_option maxRecDepth 20000 in
set_option maxHeartbeats 4000000 in
theorem g9_endures_165 {r1 : Int32} {Mr : zM} {k21 : Int32 → Int32 → Int32 → zM → Option (Int32 × zM)} (hk21 : ∀ (v1 : Int32) (v2 : Int32) (v3 : Int32) (M : zM), k21 v1 v2 v3 M = some (r1, Mr) → zJ ztops RX9 cX9_endures 7 (zBm ztops 5 (some .int) (some (.int r1)) Mr) 0 0 21 [(0, .ref 39), (1, .int v1), (2, .int v2), (3, .int v3)] [] M) : ∀ (v1 : Int32) (v2 : Int32) (v3 : Int32) (M : zM), f9_endures_165 k21 v1 v2 v3 M = some (r1, Mr) → zJ ztops RX9 cX9_endures 7 (zBm ztops 5 (some .int) (some (.int r1)) Mr) 0 0 165 [(0, .ref 39), (1, .int v1), (2, .int v2), (3, .int v3)] [] M := by
  intro v1 v2 v3 M h
  rw [f9_endures_165] at h
  refine zg_iinc (ls' := [(0, .ref 39), (1, .int v1), (2, .int v2), (3, .int (v3 + (1 : Int32)))]) 3 dX9_endures_165 rfl zki_1 (Nat.le_of_ble_eq_true rfl) rfl ?_
  refine zg_goto (tgt := 21) dX9_endures_168 (by decide) ?_
  exact hk21 _ _ _ _ h
set_option maxRecDepth 20000 in
set_option maxHeartbeats 4000000 in
theorem g9_endures_79 {r1 : Int32} {Mr : zM} {k21 : Int32 → Int32 → Int32 → zM → Option (Int32 × zM)} (hk21 : ∀ (v1 : Int32) (v2 : Int32) (v3 : Int32) (M : zM), k21 v1 v2 v3 M = some (r1, Mr) → zJ ztops RX9 cX9_endures 7 (zBm ztops 5 (some .int) (some (.int r1)) Mr) 0 0 21 [(0, .ref 39), (1, .int v1), (2, .int v2), (3, .int v3)] [] M) : ∀ (v1 : Int32) (v3 : Int32) (s0 : Int32) (M : zM), f9_endures_79 k21 v1 v3 s0 M = some (r1, Mr) → zJ ztops RX9 cX9_endures 7 (zBm ztops 5 (some .int) (some (.int r1)) Mr) 0 0 79 [(0, .ref 39), (1, .int v1), (3, .int v3)] [.int s0] M := by
  intro v1 v3 s0 M h
  rw [f9_endures_79] at h
  refine zg_istore_n (ls' := [(0, .ref 39), (1, .int v1), (2, .int s0), (3, .int v3)]) dX9_endures_79 rfl (Nat.le_of_ble_eq_true rfl) rfl ?_
  refine zg_aload_n 0 dX9_endures_80 rfl rfl ?_
  refine zo_getr 58 18 rfl fl_X9_77 zt_39 rfl dX9_endures_81 ?_
  refine zg_iload_n 3 dX9_endures_84 rfl rfl ?_
  refine zg_iconst dX9_endures_85 zki_0 ?_
  obtain ⟨M1, hM1, h⟩ := z_bind h
  refine zo_iast zt_58 hM1 dX9_endures_86 ?_
  refine zg_iconst dX9_endures_87 zki_0 ?_
  refine zg_istore (ls' := [(0, .ref 39), (1, .int v1), (2, .int s0), (3, .int v3), (5, .int (0 : Int32))]) dX9_endures_88 (Nat.le_of_ble_eq_true rfl) rfl ?_
  exact g9_endures_90 (fun u0 u1 u2 u3 h => g9_endures_165 hk21 u0 u1 u2 u3 h) zfuel _ _ _ _ _ h
set_option maxRecDepth 20000 in
set_option maxHeartbeats 4000000 in
theorem g9_endures_78 {r1 : Int32} {Mr : zM} {k21 : Int32 → Int32 → Int32 → zM → Option (Int32 × zM)} (hk21 : ∀ (v1 : Int32) (v2 : Int32) (v3 : Int32) (M : zM), k21 v1 v2 v3 M = some (r1, Mr) → zJ ztops RX9 cX9_endures 7 (zBm ztops 5 (some .int) (some (.int r1)) Mr) 0 0 21 [(0, .ref 39), (1, .int v1), (2, .int v2), (3, .int v3)] [] M) : ∀ (v1 : Int32) (v2 : Int32) (v3 : Int32) (M : zM), f9_endures_78 k21 v1 v2 v3 M = some (r1, Mr) → zJ ztops RX9 cX9_endures 7 (zBm ztops 5 (some .int) (some (.int r1)) Mr) 0 0 78 [(0, .ref 39), (1, .int v1), (2, .int v2), (3, .int v3)] [] M := by
  intro v1 v2 v3 M h
  rw [f9_endures_78] at h
  refine zg_iload_n 2 dX9_endures_78 rfl rfl ?_
  refine zo_sub (ls' := [(0, .ref 39), (1, .int v1), (3, .int v3)]) [0, 1, 3] rfl ?_
  exact g9_endures_79 hk21 _ _ _ _ h
set_option maxRecDepth 20000 in
set_option maxHeartbeats 4000000 in
theorem g9_endures_52 {r1 : Int32} {Mr : zM} {k21 : Int32 → Int32 → Int32 → zM → Option (Int32 × zM)} (hk21 : ∀ (v1 : Int32) (v2 : Int32) (v3 : Int32) (M : zM), k21 v1 v2 v3 M = some (r1, Mr) → zJ ztops RX9 cX9_endures 7 (zBm ztops 5 (some .int) (some (.int r1)) Mr) 0 0 21 [(0, .ref 39), (1, .int v1), (2, .int v2), (3, .int v3)] [] M) : ∀ (v1 : Int32) (v2 : Int32) (v3 : Int32) (s0 : Int32) (M : zM), f9_endures_52 k21 v1 v2 v3 s0 M = some (r1, Mr) → zJ ztops RX9 cX9_endures 7 (zBm ztops 5 (some .int) (some (.int r1)) Mr) 0 0 52 [(0, .ref 39), (1, .int v1), (2, .int v2), (3, .int v3)] [.int s0] M := by
  intro v1 v2 v3 s0 M h
  rw [f9_endures_52] at h
  refine zg_istore (ls' := [(0, .ref 39), (1, .int v1), (2, .int v2), (3, .int v3), (4, .int s0)]) dX9_endures_52 (Nat.le_of_ble_eq_true rfl) rfl ?_
  refine zg_iload 4 dX9_endures_54 rfl ?_
  refine zg_if_eq (tgt := 78) dX9_endures_56 (by decide) (fun hc => ?_) (fun hc => ?_)
  · replace h := (if_pos hc).symm.trans h
    refine zo_sub (ls' := [(0, .ref 39), (1, .int v1), (2, .int v2), (3, .int v3)]) [0, 1, 2, 3] rfl ?_
    exact g9_endures_78 hk21 _ _ _ _ h
  · replace h := (if_neg hc).symm.trans h
    refine zg_iload_n 2 dX9_endures_59 rfl rfl ?_
    refine zg_if_lt (tgt := 74) dX9_endures_60 (by decide) (fun hc => ?_) (fun hc => ?_)
    · replace h := (if_pos hc).symm.trans h
      refine zg_iload_n 3 dX9_endures_74 rfl rfl ?_
      refine zg_goto (tgt := 79) dX9_endures_75 (by decide) ?_
      refine zo_sub (ls' := [(0, .ref 39), (1, .int v1), (3, .int v3)]) [0, 1, 3] rfl ?_
      exact g9_endures_79 hk21 _ _ _ _ h
    · replace h := (if_neg hc).symm.trans h
      refine zg_iload_n 3 dX9_endures_63 rfl rfl ?_
      obtain ⟨x1, hx1, h⟩ := z_bind h
      refine zg_callS (st := []) (k_J6_bitCount_0f7a4 hx1) zY_J6_bitCount_0f7a4 ls_X9_131 rfl (zfit_m (by decide) (by decide)) (Nat.le_of_ble_eq_true rfl) dX9_endures_64 rfl ?_
      refine zg_iload_n 2 dX9_endures_67 rfl rfl ?_
      obtain ⟨x2, hx2, h⟩ := z_bind h
      refine zg_callS (st := [.int x1]) (k_J6_bitCount_0f7a4 hx2) zY_J6_bitCount_0f7a4 ls_X9_131 rfl (zfit_m (by decide) (by decide)) (Nat.le_of_ble_eq_true rfl) dX9_endures_68 rfl ?_
      suffices hj : zJ ztops RX9 cX9_endures 7 (zBm ztops 5 (some .int) (some (.int r1)) Mr) 0 0 79 [(0, .ref 39), (1, .int v1), (2, .int v2), (3, .int v3), (4, .int s0)] [.int (if x2 ≤ x1 then v2 else v3)] M by
        refine zg_icmp_ge (tgt := 78) dX9_endures_71 (by decide) (fun hc => ?_) (fun hc => ?_)
        · rw [show (if x2 ≤ x1 then v2 else v3) = v2 from if_pos hc] at hj
          refine zg_iload_n 2 dX9_endures_78 rfl rfl ?_
          exact hj
        · rw [show (if x2 ≤ x1 then v2 else v3) = v3 from if_neg hc] at hj
          refine zg_iload_n 3 dX9_endures_74 rfl rfl ?_
          refine zg_goto (tgt := 79) dX9_endures_75 (by decide) ?_
          exact hj
      refine zo_sub (ls' := [(0, .ref 39), (1, .int v1), (3, .int v3)]) [0, 1, 3] rfl ?_
      exact g9_endures_79 hk21 _ _ _ _ h
set_option maxRecDepth 20000 in
set_option maxHeartbeats 4000000 in
theorem g9_endures_203 {r1 : Int32} {Mr : zM} : ∀ (v2 : Int32) (s1 : Int64) (M : zM), f9_endures_203 v2 s1 M = some (r1, Mr) → zJ ztops RX9 cX9_endures 7 (zBm ztops 5 (some .int) (some (.int r1)) Mr) 0 0 203 [(2, .int v2)] [.long s1, .ref 39] M := by
  intro v2 s1 M h
  rw [f9_endures_203] at h
  obtain ⟨M1, hM1, h⟩ := z_bind h
  refine zg_callV (st := []) (k_X9_enters hM1) zY_X9_enters lv_X9_311 rfl zt_39 rfl (zfit_m (by decide) (by decide)) (Nat.le_of_ble_eq_true rfl) dX9_endures_203 rfl ?_
  refine zg_iload_n 0 dX9_endures_206 rfl rfl ?_
  obtain ⟨x2, hx2, h⟩ := z_bind h
  refine zg_callS (st := []) (k_J6_bitCount_0f7a4 hx2) zY_J6_bitCount_0f7a4 ls_X9_131 rfl (zfit_m (by decide) (by decide)) (Nat.le_of_ble_eq_true rfl) dX9_endures_207 rfl ?_
  obtain ⟨rfl, rfl⟩ := z_ret2 h
  exact zg_iret dX9_endures_210
set_option maxRecDepth 20000 in
set_option maxHeartbeats 4000000 in
theorem g9_endures_21 {r1 : Int32} {Mr : zM} : ∀ (n : Nat) (v1 : Int32) (v2 : Int32) (v3 : Int32) (M : zM), f9_endures_21 n v1 v2 v3 M = some (r1, Mr) → zJ ztops RX9 cX9_endures 7 (zBm ztops 5 (some .int) (some (.int r1)) Mr) 0 0 21 [(0, .ref 39), (1, .int v1), (2, .int v2), (3, .int v3)] [] M := by
  intro n
  induction n with
  | zero => intro v1 v2 v3 M h; cases h
  | succ n ih =>
    intro v1 v2 v3 M h
    rw [f9_endures_21] at h
    refine zg_iload_n 3 dX9_endures_21 rfl rfl ?_
    refine zg_iload_n 1 dX9_endures_22 rfl rfl ?_
    refine zg_icmp_gt (tgt := 171) dX9_endures_23 (by decide) (fun hc => ?_) (fun hc => ?_)
    · replace h := (if_pos hc).symm.trans h
      refine zg_aload_n 0 dX9_endures_171 rfl rfl ?_
      refine zg_iconst dX9_endures_172 zki_0 ?_
      refine zg_puti fp_X9_15 zt_39 rfl dX9_endures_173 ?_
      refine zg_aload_n 0 dX9_endures_176 rfl rfl ?_
      refine zg_iload_n 2 dX9_endures_177 rfl rfl ?_
      refine zg_i2l dX9_endures_178 ?_
      obtain ⟨M1, hM1, h⟩ := z_bind h
      refine zg_callV (st := []) (k_X9_enters hM1) zY_X9_enters lv_X9_311 rfl zt_39 rfl (zfit_m (by decide) (by decide)) (Nat.le_of_ble_eq_true rfl) dX9_endures_179 rfl ?_
      refine zg_aload_n 0 dX9_endures_182 rfl rfl ?_
      refine zg_aload_n 0 dX9_endures_183 rfl rfl ?_
      refine zo_getr 56 16 rfl fl_X9_70 zt_39 rfl dX9_endures_184 ?_
      refine zg_iload_n 1 dX9_endures_187 rfl rfl ?_
      obtain ⟨x2, hx2, h⟩ := z_bind h
      refine zo_zald zt_56 hx2 dX9_endures_188 ?_
      refine zg_if_eq (tgt := 202) dX9_endures_189 (by decide) (fun hc => ?_) (fun hc => ?_)
      · replace h := (if_pos hc).symm.trans h
        refine zg_lconst dX9_endures_202 (v := 0) rfl ?_
        refine zo_sub (ls' := [(2, .int v2)]) [2] rfl ?_
        exact g9_endures_203 _ _ _ h
      · replace h := (if_neg hc).symm.trans h
        refine zg_aload_n 0 dX9_endures_192 rfl rfl ?_
        refine zo_getr 58 18 rfl fl_X9_77 zt_39 rfl dX9_endures_193 ?_
        refine zg_iload_n 1 dX9_endures_196 rfl rfl ?_
        obtain ⟨x3, hx3, h⟩ := z_bind h
        refine zo_iald zt_58 hx3 dX9_endures_197 ?_
        refine zg_i2l dX9_endures_198 ?_
        refine zg_goto (tgt := 203) dX9_endures_199 (by decide) ?_
        refine zo_sub (ls' := [(2, .int v2)]) [2] rfl ?_
        exact g9_endures_203 _ _ _ h
    · replace h := (if_neg hc).symm.trans h
      refine zg_iload_n 3 dX9_endures_26 rfl rfl ?_
      refine zg_iload_n 1 dX9_endures_27 rfl rfl ?_
      refine zg_iconst dX9_endures_28 zki_m1 ?_
      refine zg_ixor dX9_endures_29 ?_
      refine zg_iand dX9_endures_30 ?_
      refine zg_if_ne (tgt := 51) dX9_endures_31 (by decide) (fun hc => ?_) (fun hc => ?_)
      · replace h := (if_neg hc).symm.trans h
        refine zg_iconst dX9_endures_51 zki_0 ?_
        exact g9_endures_52 (fun u0 u1 u2 u3 h => ih u0 u1 u2 u3 h) _ _ _ _ _ h
      · replace h := (if_pos hc).symm.trans h
        refine zg_aload_n 0 dX9_endures_34 rfl rfl ?_
        refine zo_getr 56 16 rfl fl_X9_70 zt_39 rfl dX9_endures_35 ?_
        refine zg_iload_n 1 dX9_endures_38 rfl rfl ?_
        refine zg_iload_n 3 dX9_endures_39 rfl rfl ?_
        refine zg_iconst dX9_endures_40 zki_m1 ?_
        refine zg_ixor dX9_endures_41 ?_
        refine zg_iand dX9_endures_42 ?_
        obtain ⟨x1, hx1, h⟩ := z_bind h
        refine zo_zald zt_56 hx1 dX9_endures_43 ?_
        suffices hj : zJ ztops RX9 cX9_endures 7 (zBm ztops 5 (some .int) (some (.int r1)) Mr) 0 0 52 [(0, .ref 39), (1, .int v1), (2, .int v2), (3, .int v3)] [.int (if x1 = 0 then (1 : Int32) else (0 : Int32))] M by
          refine zg_if_ne (tgt := 51) dX9_endures_44 (by decide) (fun hc => ?_) (fun hc => ?_)
          · rw [show (if x1 = 0 then (1 : Int32) else (0 : Int32)) = (0 : Int32) from if_neg hc] at hj
            refine zg_iconst dX9_endures_51 zki_0 ?_
            exact hj
          · rw [show (if x1 = 0 then (1 : Int32) else (0 : Int32)) = (1 : Int32) from if_pos hc] at hj
            refine zg_iconst dX9_endures_47 zki_1 ?_
            refine zg_goto (tgt := 52) dX9_endures_48 (by decide) ?_
            exact hj
        exact g9_endures_52 (fun u0 u1 u2 u3 h => ih u0 u1 u2 u3 h) _ _ _ _ _ h
set_option maxRecDepth 20000 in
set_option maxHeartbeats 4000000 in
theorem k_X9_endures {M : zM} {r1 : Int32} {Mr : zM} (h : f9_endures M = some (r1, Mr)) : zK ztops yX9_endures cX9_endures 7 (some .int) 5 [.ref 39] M (some (.int r1)) Mr := by
  refine zK_of pl_X9 (Nat.le_of_ble_eq_true rfl) ?_
  show zJ ztops RX9 cX9_endures 7 _ 0 0 0 [(0, .ref 39)] [] M
  rw [f9_endures] at h
  refine zg_aload_n 0 dX9_endures_0 rfl rfl ?_
  refine zg_iconst dX9_endures_1 zki_0 ?_
  refine zg_puti fp_X9_3 zt_39 rfl dX9_endures_2 ?_
  refine zg_aload_n 0 dX9_endures_5 rfl rfl ?_
  obtain ⟨M1, hM1, h⟩ := z_bind h
  refine zg_callV (st := []) (k_X9_laysHangs hM1) zY_X9_laysHangs lv_X9_394 rfl zt_39 rfl (zfit_m (by decide) (by decide)) (Nat.le_of_ble_eq_true rfl) dX9_endures_6 rfl ?_
  refine zg_aload_n 0 dX9_endures_9 rfl rfl ?_
  refine zo_getr 41 1 rfl fl_X9_24 zt_39 rfl dX9_endures_10 ?_
  obtain ⟨x2, hx2, h⟩ := z_bind h
  refine zg_callS (st := []) (k_X9_allOf zt_41 hx2) zY_X9_allOf ls_X9_356 rfl (zfit_m (by decide) (by decide)) (Nat.le_of_ble_eq_true rfl) dX9_endures_13 rfl ?_
  refine zg_istore_n (ls' := [(0, .ref 39), (1, .int x2)]) dX9_endures_16 rfl (Nat.le_of_ble_eq_true rfl) rfl ?_
  refine zg_iconst dX9_endures_17 zki_m1 ?_
  refine zg_istore_n (ls' := [(0, .ref 39), (1, .int x2), (2, .int (-1 : Int32))]) dX9_endures_18 rfl (Nat.le_of_ble_eq_true rfl) rfl ?_
  refine zg_iconst dX9_endures_19 zki_0 ?_
  refine zg_istore_n (ls' := [(0, .ref 39), (1, .int x2), (2, .int (-1 : Int32)), (3, .int (0 : Int32))]) dX9_endures_20 rfl (Nat.le_of_ble_eq_true rfl) rfl ?_
  exact g9_endures_21 zfuel _ _ _ _ h
set_option maxRecDepth 20000 in
set_option maxHeartbeats 4000000 in
theorem g9_differs_110 {r1 : Int32} {Mr : zM} {k190 : Int32 → Int32 → Int32 → Int32 → Int32 → Int32 → zM → Option (Int32 × zM)} (hk190 : ∀ (v2 : Int32) (v3 : Int32) (v4 : Int32) (v5 : Int32) (v6 : Int32) (v7 : Int32) (M : zM), k190 v2 v3 v4 v5 v6 v7 M = some (r1, Mr) → zJ ztops RX9 cX9_differs 9 (zBm ztops 8 (some .int) (some (.int r1)) Mr) 0 0 190 [(0, .ref 39), (2, .int v2), (3, .int v3), (4, .int v4), (5, .int v5), (6, .int v6), (7, .int v7)] [] M) : ∀ (n : Nat) (v2 : Int32) (v3 : Int32) (v4 : Int32) (v5 : Int32) (v6 : Int32) (v7 : Int32) (v8 : Int32) (M : zM), f9_differs_110 k190 n v2 v3 v4 v5 v6 v7 v8 M = some (r1, Mr) → zJ ztops RX9 cX9_differs 9 (zBm ztops 8 (some .int) (some (.int r1)) Mr) 0 0 110 [(0, .ref 39), (2, .int v2), (3, .int v3), (4, .int v4), (5, .int v5), (6, .int v6), (7, .int v7), (8, .int v8)] [] M := by
  intro n
  induction n with
  | zero => intro v2 v3 v4 v5 v6 v7 v8 M h; cases h
  | succ n ih =>
    intro v2 v3 v4 v5 v6 v7 v8 M h
    rw [f9_differs_110] at h
    refine zg_iload 7 dX9_differs_110 rfl ?_
    refine zg_aload_n 0 dX9_differs_112 rfl rfl ?_
    refine zo_getr 41 1 rfl fl_X9_24 zt_39 rfl dX9_differs_113 ?_
    refine zg_bipush dX9_differs_116 zkb_7 ?_
    refine zo_ialdc 7 zt_41 (by decide) rfl dX9_differs_118 ?_
    refine zg_icmp_ge (tgt := 190) dX9_differs_119 (by decide) (fun hc => ?_) (fun hc => ?_)
    · replace h := (if_pos hc).symm.trans h
      refine zo_sub (ls' := [(0, .ref 39), (2, .int v2), (3, .int v3), (4, .int v4), (5, .int v5), (6, .int v6), (7, .int v7)]) [0, 1, 2, 3, 4, 5, 6] rfl ?_
      exact hk190 _ _ _ _ _ _ _ h
    · replace h := (if_neg hc).symm.trans h
      refine zg_iload 5 dX9_differs_122 rfl ?_
      refine zg_aload_n 0 dX9_differs_124 rfl rfl ?_
      refine zo_getr 44 4 rfl fl_X9_34 zt_39 rfl dX9_differs_125 ?_
      refine zg_iload 6 dX9_differs_128 rfl ?_
      obtain ⟨x1, hx1, h⟩ := z_bind h
      refine zo_iald zt_44 hx1 dX9_differs_130 ?_
      refine zg_iload 7 dX9_differs_131 rfl ?_
      obtain ⟨x2, hx2, h⟩ := z_bind h
      refine zg_callS (st := [.int v6]) (k_X9_has hx2) zY_X9_has ls_X9_112 rfl (zfit_m (by decide) (by decide)) (Nat.le_of_ble_eq_true rfl) dX9_differs_133 rfl ?_
      refine zg_aload_n 0 dX9_differs_136 rfl rfl ?_
      refine zo_getr 41 1 rfl fl_X9_24 zt_39 rfl dX9_differs_137 ?_
      refine zg_iload 6 dX9_differs_140 rfl ?_
      refine zg_iload 3 dX9_differs_142 rfl ?_
      refine zg_iadd dX9_differs_144 ?_
      refine zg_aload_n 0 dX9_differs_145 rfl rfl ?_
      refine zo_getr 41 1 rfl fl_X9_24 zt_39 rfl dX9_differs_146 ?_
      refine zg_bipush dX9_differs_149 zkb_6 ?_
      refine zo_ialdc 6 zt_41 (by decide) rfl dX9_differs_151 ?_
      obtain ⟨x3, hx3, h⟩ := z_bind h
      refine zo_irem hx3 dX9_differs_152 ?_
      obtain ⟨x4, hx4, h⟩ := z_bind h
      refine zo_iald zt_41 hx4 dX9_differs_153 ?_
      refine zg_iload 7 dX9_differs_154 rfl ?_
      refine zg_iload 4 dX9_differs_156 rfl ?_
      refine zg_iadd dX9_differs_158 ?_
      refine zg_aload_n 0 dX9_differs_159 rfl rfl ?_
      refine zo_getr 41 1 rfl fl_X9_24 zt_39 rfl dX9_differs_160 ?_
      refine zg_bipush dX9_differs_163 zkb_7 ?_
      refine zo_ialdc 7 zt_41 (by decide) rfl dX9_differs_165 ?_
      obtain ⟨x5, hx5, h⟩ := z_bind h
      refine zo_irem hx5 dX9_differs_166 ?_
      obtain ⟨x6, hx6, h⟩ := z_bind h
      refine zg_callS (st := [.int x2, .int v6]) (k_X9_has hx6) zY_X9_has ls_X9_112 rfl (zfit_m (by decide) (by decide)) (Nat.le_of_ble_eq_true rfl) dX9_differs_167 rfl ?_
      suffices hj : zJ ztops RX9 cX9_differs 9 (zBm ztops 8 (some .int) (some (.int r1)) Mr) 0 0 178 [(0, .ref 39), (2, .int v2), (3, .int v3), (4, .int v4), (5, .int v5), (6, .int v6), (7, .int v7), (8, .int v8)] [.int (if x2 = x6 then (0 : Int32) else (1 : Int32)), .int v6] M by
        refine zg_icmp_eq (tgt := 177) dX9_differs_170 (by decide) (fun hc => ?_) (fun hc => ?_)
        · rw [show (if x2 = x6 then (0 : Int32) else (1 : Int32)) = (0 : Int32) from if_pos hc] at hj
          refine zg_iconst dX9_differs_177 zki_0 ?_
          exact hj
        · rw [show (if x2 = x6 then (0 : Int32) else (1 : Int32)) = (1 : Int32) from if_neg hc] at hj
          refine zg_iconst dX9_differs_173 zki_1 ?_
          refine zg_goto (tgt := 178) dX9_differs_174 (by decide) ?_
          exact hj
      obtain ⟨x7, hx7, h⟩ := z_bind h
      refine zg_callS (st := [.int v6]) (k_X9_flag hx7) zY_X9_flag ls_X9_116 rfl (zfit_m (by decide) (by decide)) (Nat.le_of_ble_eq_true rfl) dX9_differs_178 rfl ?_
      refine zg_iadd dX9_differs_181 ?_
      refine zg_istore (ls' := [(0, .ref 39), (2, .int v2), (3, .int v3), (4, .int v4), (5, .int v5), (6, .int (v6 + x7)), (7, .int v7), (8, .int v8)]) dX9_differs_182 (Nat.le_of_ble_eq_true rfl) rfl ?_
      refine zg_iinc (ls' := [(0, .ref 39), (2, .int v2), (3, .int v3), (4, .int v4), (5, .int v5), (6, .int (v6 + x7)), (7, .int v7), (8, .int (v8 + (1 : Int32)))]) 7 dX9_differs_184 rfl zki_1 (Nat.le_of_ble_eq_true rfl) rfl ?_
      refine zg_goto (tgt := 110) dX9_differs_187 (by decide) ?_
      exact ih _ _ _ _ _ _ _ _ h
set_option maxRecDepth 20000 in
set_option maxHeartbeats 4000000 in
theorem g9_differs_190 {r1 : Int32} {Mr : zM} {k95 : Int32 → Int32 → Int32 → Int32 → Int32 → Int32 → zM → Option (Int32 × zM)} (hk95 : ∀ (v2 : Int32) (v3 : Int32) (v4 : Int32) (v5 : Int32) (v6 : Int32) (v7 : Int32) (M : zM), k95 v2 v3 v4 v5 v6 v7 M = some (r1, Mr) → zJ ztops RX9 cX9_differs 9 (zBm ztops 8 (some .int) (some (.int r1)) Mr) 0 0 95 [(0, .ref 39), (2, .int v2), (3, .int v3), (4, .int v4), (5, .int v5), (6, .int v6), (7, .int v7)] [] M) : ∀ (v2 : Int32) (v3 : Int32) (v4 : Int32) (v5 : Int32) (v6 : Int32) (v7 : Int32) (M : zM), f9_differs_190 k95 v2 v3 v4 v5 v6 v7 M = some (r1, Mr) → zJ ztops RX9 cX9_differs 9 (zBm ztops 8 (some .int) (some (.int r1)) Mr) 0 0 190 [(0, .ref 39), (2, .int v2), (3, .int v3), (4, .int v4), (5, .int v5), (6, .int v6), (7, .int v7)] [] M := by
  intro v2 v3 v4 v5 v6 v7 M h
  rw [f9_differs_190] at h
  refine zg_iinc (ls' := [(0, .ref 39), (2, .int v2), (3, .int v3), (4, .int v4), (5, .int v5), (6, .int v6), (7, .int (v7 + (1 : Int32)))]) 6 dX9_differs_190 rfl zki_1 (Nat.le_of_ble_eq_true rfl) rfl ?_
  refine zg_goto (tgt := 95) dX9_differs_193 (by decide) ?_
  exact hk95 _ _ _ _ _ _ _ h
set_option maxRecDepth 20000 in
set_option maxHeartbeats 4000000 in
theorem g9_differs_95 {r1 : Int32} {Mr : zM} {k196 : Int32 → Int32 → Int32 → Int32 → Int32 → zM → Option (Int32 × zM)} (hk196 : ∀ (v2 : Int32) (v3 : Int32) (v4 : Int32) (v5 : Int32) (v6 : Int32) (M : zM), k196 v2 v3 v4 v5 v6 M = some (r1, Mr) → zJ ztops RX9 cX9_differs 9 (zBm ztops 8 (some .int) (some (.int r1)) Mr) 0 0 196 [(0, .ref 39), (2, .int v2), (3, .int v3), (4, .int v4), (5, .int v5), (6, .int v6)] [] M) : ∀ (n : Nat) (v2 : Int32) (v3 : Int32) (v4 : Int32) (v5 : Int32) (v6 : Int32) (v7 : Int32) (M : zM), f9_differs_95 k196 n v2 v3 v4 v5 v6 v7 M = some (r1, Mr) → zJ ztops RX9 cX9_differs 9 (zBm ztops 8 (some .int) (some (.int r1)) Mr) 0 0 95 [(0, .ref 39), (2, .int v2), (3, .int v3), (4, .int v4), (5, .int v5), (6, .int v6), (7, .int v7)] [] M := by
  intro n
  induction n with
  | zero => intro v2 v3 v4 v5 v6 v7 M h; cases h
  | succ n ih =>
    intro v2 v3 v4 v5 v6 v7 M h
    rw [f9_differs_95] at h
    refine zg_iload 6 dX9_differs_95 rfl ?_
    refine zg_aload_n 0 dX9_differs_97 rfl rfl ?_
    refine zo_getr 41 1 rfl fl_X9_24 zt_39 rfl dX9_differs_98 ?_
    refine zg_bipush dX9_differs_101 zkb_6 ?_
    refine zo_ialdc 6 zt_41 (by decide) rfl dX9_differs_103 ?_
    refine zg_icmp_ge (tgt := 196) dX9_differs_104 (by decide) (fun hc => ?_) (fun hc => ?_)
    · replace h := (if_pos hc).symm.trans h
      refine zo_sub (ls' := [(0, .ref 39), (2, .int v2), (3, .int v3), (4, .int v4), (5, .int v5), (6, .int v6)]) [0, 1, 2, 3, 4, 5] rfl ?_
      exact hk196 _ _ _ _ _ _ h
    · replace h := (if_neg hc).symm.trans h
      refine zg_iconst dX9_differs_107 zki_0 ?_
      refine zg_istore (ls' := [(0, .ref 39), (2, .int v2), (3, .int v3), (4, .int v4), (5, .int v5), (6, .int v6), (7, .int v7), (8, .int (0 : Int32))]) dX9_differs_108 (Nat.le_of_ble_eq_true rfl) rfl ?_
      exact g9_differs_110 (fun u0 u1 u2 u3 u4 u5 u6 h => g9_differs_190 (fun u0 u1 u2 u3 u4 u5 u6 h => ih u0 u1 u2 u3 u4 u5 u6 h) u0 u1 u2 u3 u4 u5 u6 h) zfuel _ _ _ _ _ _ _ _ h
set_option maxRecDepth 20000 in
set_option maxHeartbeats 4000000 in
theorem g9_differs_246 {r1 : Int32} {Mr : zM} {k77 : Int32 → Int32 → Int32 → Int32 → zM → Option (Int32 × zM)} (hk77 : ∀ (v2 : Int32) (v3 : Int32) (v4 : Int32) (v5 : Int32) (M : zM), k77 v2 v3 v4 v5 M = some (r1, Mr) → zJ ztops RX9 cX9_differs 9 (zBm ztops 8 (some .int) (some (.int r1)) Mr) 0 0 77 [(0, .ref 39), (2, .int v2), (3, .int v3), (4, .int v4), (5, .int v5)] [] M) : ∀ (v2 : Int32) (v3 : Int32) (v4 : Int32) (v5 : Int32) (M : zM), f9_differs_246 k77 v2 v3 v4 v5 M = some (r1, Mr) → zJ ztops RX9 cX9_differs 9 (zBm ztops 8 (some .int) (some (.int r1)) Mr) 0 0 246 [(0, .ref 39), (2, .int v2), (3, .int v3), (4, .int v4), (5, .int v5)] [] M := by
  intro v2 v3 v4 v5 M h
  rw [f9_differs_246] at h
  refine zg_iinc (ls' := [(0, .ref 39), (2, .int v2), (3, .int v3), (4, .int v4), (5, .int (v5 + (1 : Int32)))]) 4 dX9_differs_246 rfl zki_1 (Nat.le_of_ble_eq_true rfl) rfl ?_
  refine zg_goto (tgt := 77) dX9_differs_249 (by decide) ?_
  exact hk77 _ _ _ _ _ h
set_option maxRecDepth 20000 in
set_option maxHeartbeats 4000000 in
theorem g9_differs_196 {r1 : Int32} {Mr : zM} {k77 : Int32 → Int32 → Int32 → Int32 → zM → Option (Int32 × zM)} (hk77 : ∀ (v2 : Int32) (v3 : Int32) (v4 : Int32) (v5 : Int32) (M : zM), k77 v2 v3 v4 v5 M = some (r1, Mr) → zJ ztops RX9 cX9_differs 9 (zBm ztops 8 (some .int) (some (.int r1)) Mr) 0 0 77 [(0, .ref 39), (2, .int v2), (3, .int v3), (4, .int v4), (5, .int v5)] [] M) : ∀ (v2 : Int32) (v3 : Int32) (v4 : Int32) (v5 : Int32) (v6 : Int32) (M : zM), f9_differs_196 k77 v2 v3 v4 v5 v6 M = some (r1, Mr) → zJ ztops RX9 cX9_differs 9 (zBm ztops 8 (some .int) (some (.int r1)) Mr) 0 0 196 [(0, .ref 39), (2, .int v2), (3, .int v3), (4, .int v4), (5, .int v5), (6, .int v6)] [] M := by
  intro v2 v3 v4 v5 v6 M h
  rw [f9_differs_196] at h
  refine zg_iload 3 dX9_differs_196 rfl ?_
  refine zg_iload 4 dX9_differs_198 rfl ?_
  refine zg_iadd dX9_differs_200 ?_
  suffices hj : zJ ztops RX9 cX9_differs 9 (zBm ztops 8 (some .int) (some (.int r1)) Mr) 0 0 210 [(0, .ref 39), (2, .int v2), (3, .int v3), (4, .int v4), (5, .int v5), (6, .int v6)] [.int (if (v4 + v5) = 0 then v6 else v2)] M by
    refine zg_if_ne (tgt := 209) dX9_differs_201 (by decide) (fun hc => ?_) (fun hc => ?_)
    · rw [show (if (v4 + v5) = 0 then v6 else v2) = v2 from if_neg hc] at hj
      refine zg_iload_n 1 dX9_differs_209 rfl rfl ?_
      exact hj
    · rw [show (if (v4 + v5) = 0 then v6 else v2) = v6 from if_pos hc] at hj
      refine zg_iload 5 dX9_differs_204 rfl ?_
      refine zg_goto (tgt := 210) dX9_differs_206 (by decide) ?_
      exact hj
  refine zg_istore_n (ls' := [(0, .ref 39), (2, .int (if (v4 + v5) = 0 then v6 else v2)), (3, .int v3), (4, .int v4), (5, .int v5), (6, .int v6)]) dX9_differs_210 rfl (Nat.le_of_ble_eq_true rfl) rfl ?_
  refine zg_iload 5 dX9_differs_211 rfl ?_
  refine zg_iload_n 2 dX9_differs_213 rfl rfl ?_
  refine zg_icmp_ge (tgt := 246) dX9_differs_214 (by decide) (fun hc => ?_) (fun hc => ?_)
  · replace h := (if_pos hc).symm.trans h
    refine zo_sub (ls' := [(0, .ref 39), (2, .int (if (v4 + v5) = 0 then v6 else v2)), (3, .int v3), (4, .int v4), (5, .int v5)]) [0, 1, 2, 3, 4] rfl ?_
    exact g9_differs_246 hk77 _ _ _ _ _ h
  · replace h := (if_neg hc).symm.trans h
    refine zg_iload 5 dX9_differs_217 rfl ?_
    refine zg_istore_n (ls' := [(0, .ref 39), (2, .int (if (v4 + v5) = 0 then v6 else v2)), (3, .int v6), (4, .int v4), (5, .int v5), (6, .int v6)]) dX9_differs_219 rfl (Nat.le_of_ble_eq_true rfl) rfl ?_
    refine zg_aload_n 0 dX9_differs_220 rfl rfl ?_
    refine zg_iconst dX9_differs_221 zki_0 ?_
    refine zg_puti fp_X9_15 zt_39 rfl dX9_differs_222 ?_
    refine zg_aload_n 0 dX9_differs_225 rfl rfl ?_
    refine zg_iload 5 dX9_differs_226 rfl ?_
    refine zg_i2l dX9_differs_228 ?_
    obtain ⟨M1, hM1, h⟩ := z_bind h
    refine zg_callV (st := []) (k_X9_enters hM1) zY_X9_enters lv_X9_311 rfl zt_39 rfl (zfit_m (by decide) (by decide)) (Nat.le_of_ble_eq_true rfl) dX9_differs_229 rfl ?_
    refine zg_aload_n 0 dX9_differs_232 rfl rfl ?_
    refine zg_iload 3 dX9_differs_233 rfl ?_
    refine zg_i2l dX9_differs_235 ?_
    obtain ⟨M2, hM2, h⟩ := z_bind h
    refine zg_callV (st := []) (k_X9_enters hM2) zY_X9_enters lv_X9_311 rfl zt_39 rfl (zfit_m (by decide) (by decide)) (Nat.le_of_ble_eq_true rfl) dX9_differs_236 rfl ?_
    refine zg_aload_n 0 dX9_differs_239 rfl rfl ?_
    refine zg_iload 4 dX9_differs_240 rfl ?_
    refine zg_i2l dX9_differs_242 ?_
    obtain ⟨M3, hM3, h⟩ := z_bind h
    refine zg_callV (st := []) (k_X9_enters hM3) zY_X9_enters lv_X9_311 rfl zt_39 rfl (zfit_m (by decide) (by decide)) (Nat.le_of_ble_eq_true rfl) dX9_differs_243 rfl ?_
    refine zo_sub (ls' := [(0, .ref 39), (2, .int (if (v4 + v5) = 0 then v6 else v2)), (3, .int v6), (4, .int v4), (5, .int v5)]) [0, 1, 2, 3, 4] rfl ?_
    exact g9_differs_246 hk77 _ _ _ _ _ h
set_option maxRecDepth 20000 in
set_option maxHeartbeats 4000000 in
theorem g9_differs_77 {r1 : Int32} {Mr : zM} {k252 : Int32 → Int32 → Int32 → zM → Option (Int32 × zM)} (hk252 : ∀ (v2 : Int32) (v3 : Int32) (v4 : Int32) (M : zM), k252 v2 v3 v4 M = some (r1, Mr) → zJ ztops RX9 cX9_differs 9 (zBm ztops 8 (some .int) (some (.int r1)) Mr) 0 0 252 [(0, .ref 39), (2, .int v2), (3, .int v3), (4, .int v4)] [] M) : ∀ (n : Nat) (v2 : Int32) (v3 : Int32) (v4 : Int32) (v5 : Int32) (M : zM), f9_differs_77 k252 n v2 v3 v4 v5 M = some (r1, Mr) → zJ ztops RX9 cX9_differs 9 (zBm ztops 8 (some .int) (some (.int r1)) Mr) 0 0 77 [(0, .ref 39), (2, .int v2), (3, .int v3), (4, .int v4), (5, .int v5)] [] M := by
  intro n
  induction n with
  | zero => intro v2 v3 v4 v5 M h; cases h
  | succ n ih =>
    intro v2 v3 v4 v5 M h
    rw [f9_differs_77] at h
    refine zg_iload 4 dX9_differs_77 rfl ?_
    refine zg_aload_n 0 dX9_differs_79 rfl rfl ?_
    refine zo_getr 41 1 rfl fl_X9_24 zt_39 rfl dX9_differs_80 ?_
    refine zg_bipush dX9_differs_83 zkb_7 ?_
    refine zo_ialdc 7 zt_41 (by decide) rfl dX9_differs_85 ?_
    refine zg_icmp_ge (tgt := 252) dX9_differs_86 (by decide) (fun hc => ?_) (fun hc => ?_)
    · replace h := (if_pos hc).symm.trans h
      refine zo_sub (ls' := [(0, .ref 39), (2, .int v2), (3, .int v3), (4, .int v4)]) [0, 1, 2, 3] rfl ?_
      exact hk252 _ _ _ _ h
    · replace h := (if_neg hc).symm.trans h
      refine zg_iconst dX9_differs_89 zki_0 ?_
      refine zg_istore (ls' := [(0, .ref 39), (2, .int v2), (3, .int v3), (4, .int v4), (5, .int v5), (6, .int (0 : Int32))]) dX9_differs_90 (Nat.le_of_ble_eq_true rfl) rfl ?_
      refine zg_iconst dX9_differs_92 zki_0 ?_
      refine zg_istore (ls' := [(0, .ref 39), (2, .int v2), (3, .int v3), (4, .int v4), (5, .int v5), (6, .int (0 : Int32)), (7, .int (0 : Int32))]) dX9_differs_93 (Nat.le_of_ble_eq_true rfl) rfl ?_
      exact g9_differs_95 (fun u0 u1 u2 u3 u4 u5 h => g9_differs_196 (fun u0 u1 u2 u3 u4 h => ih u0 u1 u2 u3 u4 h) u0 u1 u2 u3 u4 u5 h) zfuel _ _ _ _ _ _ _ h
set_option maxRecDepth 20000 in
set_option maxHeartbeats 4000000 in
theorem g9_differs_252 {r1 : Int32} {Mr : zM} {k62 : Int32 → Int32 → Int32 → zM → Option (Int32 × zM)} (hk62 : ∀ (v2 : Int32) (v3 : Int32) (v4 : Int32) (M : zM), k62 v2 v3 v4 M = some (r1, Mr) → zJ ztops RX9 cX9_differs 9 (zBm ztops 8 (some .int) (some (.int r1)) Mr) 0 0 62 [(0, .ref 39), (2, .int v2), (3, .int v3), (4, .int v4)] [] M) : ∀ (v2 : Int32) (v3 : Int32) (v4 : Int32) (M : zM), f9_differs_252 k62 v2 v3 v4 M = some (r1, Mr) → zJ ztops RX9 cX9_differs 9 (zBm ztops 8 (some .int) (some (.int r1)) Mr) 0 0 252 [(0, .ref 39), (2, .int v2), (3, .int v3), (4, .int v4)] [] M := by
  intro v2 v3 v4 M h
  rw [f9_differs_252] at h
  refine zg_iinc (ls' := [(0, .ref 39), (2, .int v2), (3, .int v3), (4, .int (v4 + (1 : Int32)))]) 3 dX9_differs_252 rfl zki_1 (Nat.le_of_ble_eq_true rfl) rfl ?_
  refine zg_goto (tgt := 62) dX9_differs_255 (by decide) ?_
  exact hk62 _ _ _ _ h
set_option maxRecDepth 20000 in
set_option maxHeartbeats 4000000 in
theorem g9_differs_62 {r1 : Int32} {Mr : zM} : ∀ (n : Nat) (v2 : Int32) (v3 : Int32) (v4 : Int32) (M : zM), f9_differs_62 n v2 v3 v4 M = some (r1, Mr) → zJ ztops RX9 cX9_differs 9 (zBm ztops 8 (some .int) (some (.int r1)) Mr) 0 0 62 [(0, .ref 39), (2, .int v2), (3, .int v3), (4, .int v4)] [] M := by
  intro n
  induction n with
  | zero => intro v2 v3 v4 M h; cases h
  | succ n ih =>
    intro v2 v3 v4 M h
    rw [f9_differs_62] at h
    refine zg_iload 3 dX9_differs_62 rfl ?_
    refine zg_aload_n 0 dX9_differs_64 rfl rfl ?_
    refine zo_getr 41 1 rfl fl_X9_24 zt_39 rfl dX9_differs_65 ?_
    refine zg_bipush dX9_differs_68 zkb_6 ?_
    refine zo_ialdc 6 zt_41 (by decide) rfl dX9_differs_70 ?_
    refine zg_icmp_ge (tgt := 258) dX9_differs_71 (by decide) (fun hc => ?_) (fun hc => ?_)
    · replace h := (if_pos hc).symm.trans h
      refine zg_iload_n 1 dX9_differs_258 rfl rfl ?_
      obtain ⟨rfl, rfl⟩ := z_ret2 h
      exact zg_iret dX9_differs_259
    · replace h := (if_neg hc).symm.trans h
      refine zg_iconst dX9_differs_74 zki_0 ?_
      refine zg_istore (ls' := [(0, .ref 39), (2, .int v2), (3, .int v3), (4, .int v4), (5, .int (0 : Int32))]) dX9_differs_75 (Nat.le_of_ble_eq_true rfl) rfl ?_
      exact g9_differs_77 (fun u0 u1 u2 u3 h => g9_differs_252 (fun u0 u1 u2 u3 h => ih u0 u1 u2 u3 h) u0 u1 u2 u3 h) zfuel _ _ _ _ _ h
set_option maxRecDepth 20000 in
set_option maxHeartbeats 4000000 in
theorem k_X9_differs {M : zM} {r1 : Int32} {Mr : zM} (h : f9_differs M = some (r1, Mr)) : zK ztops yX9_differs cX9_differs 9 (some .int) 8 [.ref 39] M (some (.int r1)) Mr := by
  refine zK_of pl_X9 (Nat.le_of_ble_eq_true rfl) ?_
  show zJ ztops RX9 cX9_differs 9 _ 0 0 0 [(0, .ref 39)] [] M
  rw [f9_differs] at h
  refine zg_aload_n 0 dX9_differs_0 rfl rfl ?_
  refine zg_iconst dX9_differs_1 zki_0 ?_
  refine zg_puti fp_X9_3 zt_39 rfl dX9_differs_2 ?_
  refine zg_aload_n 0 dX9_differs_5 rfl rfl ?_
  obtain ⟨p1, hp1, h⟩ := z_bind h
  refine zg_callV (st := []) (k_X9_readsCloth hp1) zY_X9_readsCloth lv_X9_191 rfl zt_39 rfl (zfit_m (by decide) (by decide)) (Nat.le_of_ble_eq_true rfl) dX9_differs_6 rfl ?_
  refine zg_istore_n (ls' := [(0, .ref 39), (1, .int p1.1)]) dX9_differs_9 rfl (Nat.le_of_ble_eq_true rfl) rfl ?_
  refine zg_iload_n 1 dX9_differs_10 rfl rfl ?_
  refine zg_if_ge (tgt := 16) dX9_differs_11 (by decide) (fun hc => ?_) (fun hc => ?_)
  · replace h := (if_pos hc).symm.trans h
    refine zg_aload_n 0 dX9_differs_16 rfl rfl ?_
    refine zo_getr 44 4 rfl fl_X9_34 zt_39 rfl dX9_differs_17 ?_
    refine zg_bipush dX9_differs_20 zkb_6 ?_
    refine zo_ialdc 6 zt_44 (by decide) rfl dX9_differs_22 ?_
    refine zg_aload_n 0 dX9_differs_23 rfl rfl ?_
    refine zo_getr 41 1 rfl fl_X9_24 zt_39 rfl dX9_differs_24 ?_
    refine zg_bipush dX9_differs_27 zkb_6 ?_
    refine zo_ialdc 6 zt_41 (by decide) rfl dX9_differs_29 ?_
    refine zg_icmp_ne (tgt := 50) dX9_differs_30 (by decide) (fun hc => ?_) (fun hc => ?_)
    · replace h := (if_neg hc).symm.trans h
      refine zg_bipush dX9_differs_50 zkb_m100 ?_
      obtain ⟨rfl, rfl⟩ := z_ret2 h
      exact zg_iret dX9_differs_52
    · replace h := (if_pos hc).symm.trans h
      refine zg_aload_n 0 dX9_differs_33 rfl rfl ?_
      refine zo_getr 44 4 rfl fl_X9_34 zt_39 rfl dX9_differs_34 ?_
      refine zg_bipush dX9_differs_37 zkb_7 ?_
      refine zo_ialdc 7 zt_44 (by decide) rfl dX9_differs_39 ?_
      refine zg_aload_n 0 dX9_differs_40 rfl rfl ?_
      refine zo_getr 41 1 rfl fl_X9_24 zt_39 rfl dX9_differs_41 ?_
      refine zg_bipush dX9_differs_44 zkb_7 ?_
      refine zo_ialdc 7 zt_41 (by decide) rfl dX9_differs_46 ?_
      refine zg_icmp_eq (tgt := 53) dX9_differs_47 (by decide) (fun hc => ?_) (fun hc => ?_)
      · replace h := (if_pos hc).symm.trans h
        refine zg_iconst dX9_differs_53 zki_0 ?_
        refine zg_istore_n (ls' := [(0, .ref 39), (1, .int p1.1), (2, .int (0 : Int32))]) dX9_differs_54 rfl (Nat.le_of_ble_eq_true rfl) rfl ?_
        refine zg_ldcw kc_X9_397 dX9_differs_55 ?_
        refine zg_istore_n (ls' := [(0, .ref 39), (1, .int p1.1), (2, .int (0 : Int32)), (3, .int (1000000 : Int32))]) dX9_differs_58 rfl (Nat.le_of_ble_eq_true rfl) rfl ?_
        refine zg_iconst dX9_differs_59 zki_0 ?_
        refine zg_istore (ls' := [(0, .ref 39), (1, .int p1.1), (2, .int (0 : Int32)), (3, .int (1000000 : Int32)), (4, .int (0 : Int32))]) dX9_differs_60 (Nat.le_of_ble_eq_true rfl) rfl ?_
        refine zo_sub (ls' := [(0, .ref 39), (2, .int (0 : Int32)), (3, .int (1000000 : Int32)), (4, .int (0 : Int32))]) [0, 2, 3, 4] rfl ?_
        exact g9_differs_62 zfuel _ _ _ _ h
      · replace h := (if_neg hc).symm.trans h
        refine zg_bipush dX9_differs_50 zkb_m100 ?_
        obtain ⟨rfl, rfl⟩ := z_ret2 h
        exact zg_iret dX9_differs_52
  · replace h := (if_neg hc).symm.trans h
    refine zg_iload_n 1 dX9_differs_14 rfl rfl ?_
    obtain ⟨rfl, rfl⟩ := z_ret2 h
    exact zg_iret dX9_differs_15
set_option maxRecDepth 20000 in
set_option maxHeartbeats 4000000 in
theorem g9_turned_18 {r1 : Int32} {M : zM} {k147 : Int32 → Int32 → Int32 → zM → Option Int32} (hk147 : ∀ (v1 : Int32) (v2 : Int32) (v3 : Int32), k147 v1 v2 v3 M = some r1 → zJ ztops RX9 cX9_turned 7 (zBm ztops 2 (some .int) (some (.int r1)) M) 0 0 147 [(0, .ref 39), (1, .int v1), (2, .int v2), (3, .int v3)] [] M) : ∀ (n : Nat) (v1 : Int32) (v2 : Int32) (v3 : Int32) (v4 : Int32), f9_turned_18 k147 n v1 v2 v3 v4 M = some r1 → zJ ztops RX9 cX9_turned 7 (zBm ztops 2 (some .int) (some (.int r1)) M) 0 0 18 [(0, .ref 39), (1, .int v1), (2, .int v2), (3, .int v3), (4, .int v4)] [] M := by
  intro n
  induction n with
  | zero => intro v1 v2 v3 v4 h; cases h
  | succ n ih =>
    intro v1 v2 v3 v4 h
    rw [f9_turned_18] at h
    refine zg_iload 4 dX9_turned_18 rfl ?_
    refine zg_aload_n 0 dX9_turned_20 rfl rfl ?_
    refine zo_getr 41 1 rfl fl_X9_24 zt_39 rfl dX9_turned_21 ?_
    refine zg_bipush dX9_turned_24 zkb_7 ?_
    refine zo_ialdc 7 zt_41 (by decide) rfl dX9_turned_26 ?_
    refine zg_icmp_ge (tgt := 147) dX9_turned_27 (by decide) (fun hc => ?_) (fun hc => ?_)
    · replace h := (if_pos hc).symm.trans h
      refine zo_sub (ls' := [(0, .ref 39), (1, .int v1), (2, .int v2), (3, .int v3)]) [0, 1, 2, 3] rfl ?_
      exact hk147 _ _ _ h
    · replace h := (if_neg hc).symm.trans h
      refine zg_iload_n 1 dX9_turned_30 rfl rfl ?_
      refine zg_iconst dX9_turned_31 zki_0 ?_
      obtain ⟨x1, hx1, h⟩ := z_bind h
      refine zg_callS (st := []) (k_X9_has hx1) zY_X9_has ls_X9_112 rfl (zfit_m (by decide) (by decide)) (Nat.le_of_ble_eq_true rfl) dX9_turned_32 rfl ?_
      suffices hj : zJ ztops RX9 cX9_turned 7 (zBm ztops 2 (some .int) (some (.int r1)) M) 0 0 53 [(0, .ref 39), (1, .int v1), (2, .int v2), (3, .int v3), (4, .int v4)] [.int (if x1 = 0 then v3 else (((M.1 41 6) - (1 : Int32)) - v3))] M by
        refine zg_if_eq (tgt := 52) dX9_turned_35 (by decide) (fun hc => ?_) (fun hc => ?_)
        · rw [show (if x1 = 0 then v3 else (((M.1 41 6) - (1 : Int32)) - v3)) = v3 from if_pos hc] at hj
          refine zg_iload_n 3 dX9_turned_52 rfl rfl ?_
          exact hj
        · rw [show (if x1 = 0 then v3 else (((M.1 41 6) - (1 : Int32)) - v3)) = (((M.1 41 6) - (1 : Int32)) - v3) from if_neg hc] at hj
          refine zg_aload_n 0 dX9_turned_38 rfl rfl ?_
          refine zo_getr 41 1 rfl fl_X9_24 zt_39 rfl dX9_turned_39 ?_
          refine zg_bipush dX9_turned_42 zkb_6 ?_
          refine zo_ialdc 6 zt_41 (by decide) rfl dX9_turned_44 ?_
          refine zg_iconst dX9_turned_45 zki_1 ?_
          refine zg_isub dX9_turned_46 ?_
          refine zg_iload_n 3 dX9_turned_47 rfl rfl ?_
          refine zg_isub dX9_turned_48 ?_
          refine zg_goto (tgt := 53) dX9_turned_49 (by decide) ?_
          exact hj
      refine zg_istore (ls' := [(0, .ref 39), (1, .int v1), (2, .int v2), (3, .int v3), (4, .int v4), (5, .int (if x1 = 0 then v3 else (((M.1 41 6) - (1 : Int32)) - v3)))]) dX9_turned_53 (Nat.le_of_ble_eq_true rfl) rfl ?_
      refine zg_iload_n 1 dX9_turned_55 rfl rfl ?_
      refine zg_iconst dX9_turned_56 zki_1 ?_
      obtain ⟨x2, hx2, h⟩ := z_bind h
      refine zg_callS (st := []) (k_X9_has hx2) zY_X9_has ls_X9_112 rfl (zfit_m (by decide) (by decide)) (Nat.le_of_ble_eq_true rfl) dX9_turned_57 rfl ?_
      suffices hj : zJ ztops RX9 cX9_turned 7 (zBm ztops 2 (some .int) (some (.int r1)) M) 0 0 80 [(0, .ref 39), (1, .int v1), (2, .int v2), (3, .int v3), (4, .int v4), (5, .int (if x1 = 0 then v3 else (((M.1 41 6) - (1 : Int32)) - v3)))] [.int (if x2 = 0 then v4 else (((M.1 41 7) - (1 : Int32)) - v4))] M by
        refine zg_if_eq (tgt := 78) dX9_turned_60 (by decide) (fun hc => ?_) (fun hc => ?_)
        · rw [show (if x2 = 0 then v4 else (((M.1 41 7) - (1 : Int32)) - v4)) = v4 from if_pos hc] at hj
          refine zg_iload 4 dX9_turned_78 rfl ?_
          exact hj
        · rw [show (if x2 = 0 then v4 else (((M.1 41 7) - (1 : Int32)) - v4)) = (((M.1 41 7) - (1 : Int32)) - v4) from if_neg hc] at hj
          refine zg_aload_n 0 dX9_turned_63 rfl rfl ?_
          refine zo_getr 41 1 rfl fl_X9_24 zt_39 rfl dX9_turned_64 ?_
          refine zg_bipush dX9_turned_67 zkb_7 ?_
          refine zo_ialdc 7 zt_41 (by decide) rfl dX9_turned_69 ?_
          refine zg_iconst dX9_turned_70 zki_1 ?_
          refine zg_isub dX9_turned_71 ?_
          refine zg_iload 4 dX9_turned_72 rfl ?_
          refine zg_isub dX9_turned_74 ?_
          refine zg_goto (tgt := 80) dX9_turned_75 (by decide) ?_
          exact hj
      refine zg_istore (ls' := [(0, .ref 39), (1, .int v1), (2, .int v2), (3, .int v3), (4, .int v4), (5, .int (if x1 = 0 then v3 else (((M.1 41 6) - (1 : Int32)) - v3))), (6, .int (if x2 = 0 then v4 else (((M.1 41 7) - (1 : Int32)) - v4)))]) dX9_turned_80 (Nat.le_of_ble_eq_true rfl) rfl ?_
      refine zg_iload_n 2 dX9_turned_82 rfl rfl ?_
      refine zg_aload_n 0 dX9_turned_83 rfl rfl ?_
      refine zo_getr 41 1 rfl fl_X9_24 zt_39 rfl dX9_turned_84 ?_
      refine zg_iload_n 3 dX9_turned_87 rfl rfl ?_
      obtain ⟨x3, hx3, h⟩ := z_bind h
      refine zo_iald zt_41 hx3 dX9_turned_88 ?_
      refine zg_iload 4 dX9_turned_89 rfl ?_
      obtain ⟨x4, hx4, h⟩ := z_bind h
      refine zg_callS (st := [.int v2]) (k_X9_has hx4) zY_X9_has ls_X9_112 rfl (zfit_m (by decide) (by decide)) (Nat.le_of_ble_eq_true rfl) dX9_turned_91 rfl ?_
      refine zg_iload_n 1 dX9_turned_94 rfl rfl ?_
      refine zg_iconst dX9_turned_95 zki_2 ?_
      obtain ⟨x5, hx5, h⟩ := z_bind h
      refine zg_callS (st := [.int x4, .int v2]) (k_X9_has hx5) zY_X9_has ls_X9_112 rfl (zfit_m (by decide) (by decide)) (Nat.le_of_ble_eq_true rfl) dX9_turned_96 rfl ?_
      refine zg_if_eq (tgt := 116) dX9_turned_99 (by decide) (fun hc => ?_) (fun hc => ?_)
      · replace h := (if_pos hc).symm.trans h
        refine zg_aload_n 0 dX9_turned_116 rfl rfl ?_
        refine zo_getr 41 1 rfl fl_X9_24 zt_39 rfl dX9_turned_117 ?_
        refine zg_iload 5 dX9_turned_120 rfl ?_
        obtain ⟨x6, hx6, h⟩ := z_bind h
        refine zo_iald zt_41 hx6 dX9_turned_122 ?_
        refine zg_iload 6 dX9_turned_123 rfl ?_
        obtain ⟨x7, hx7, h⟩ := z_bind h
        refine zg_callS (st := [.int x4, .int v2]) (k_X9_has hx7) zY_X9_has ls_X9_112 rfl (zfit_m (by decide) (by decide)) (Nat.le_of_ble_eq_true rfl) dX9_turned_125 rfl ?_
        suffices hj : zJ ztops RX9 cX9_turned 7 (zBm ztops 2 (some .int) (some (.int r1)) M) 0 0 136 [(0, .ref 39), (1, .int v1), (2, .int v2), (3, .int v3), (4, .int v4), (5, .int (if x1 = 0 then v3 else (((M.1 41 6) - (1 : Int32)) - v3))), (6, .int (if x2 = 0 then v4 else (((M.1 41 7) - (1 : Int32)) - v4)))] [.int (if x4 = x7 then (0 : Int32) else (1 : Int32)), .int v2] M by
          refine zg_icmp_eq (tgt := 135) dX9_turned_128 (by decide) (fun hc => ?_) (fun hc => ?_)
          · rw [show (if x4 = x7 then (0 : Int32) else (1 : Int32)) = (0 : Int32) from if_pos hc] at hj
            refine zg_iconst dX9_turned_135 zki_0 ?_
            exact hj
          · rw [show (if x4 = x7 then (0 : Int32) else (1 : Int32)) = (1 : Int32) from if_neg hc] at hj
            refine zg_iconst dX9_turned_131 zki_1 ?_
            refine zg_goto (tgt := 136) dX9_turned_132 (by decide) ?_
            exact hj
        obtain ⟨x8, hx8, h⟩ := z_bind h
        refine zg_callS (st := [.int v2]) (k_X9_flag hx8) zY_X9_flag ls_X9_116 rfl (zfit_m (by decide) (by decide)) (Nat.le_of_ble_eq_true rfl) dX9_turned_136 rfl ?_
        refine zg_iadd dX9_turned_139 ?_
        refine zg_istore_n (ls' := [(0, .ref 39), (1, .int v1), (2, .int (v2 + x8)), (3, .int v3), (4, .int v4), (5, .int (if x1 = 0 then v3 else (((M.1 41 6) - (1 : Int32)) - v3))), (6, .int (if x2 = 0 then v4 else (((M.1 41 7) - (1 : Int32)) - v4)))]) dX9_turned_140 rfl (Nat.le_of_ble_eq_true rfl) rfl ?_
        refine zg_iinc (ls' := [(0, .ref 39), (1, .int v1), (2, .int (v2 + x8)), (3, .int v3), (4, .int (v4 + (1 : Int32))), (5, .int (if x1 = 0 then v3 else (((M.1 41 6) - (1 : Int32)) - v3))), (6, .int (if x2 = 0 then v4 else (((M.1 41 7) - (1 : Int32)) - v4)))]) 4 dX9_turned_141 rfl zki_1 (Nat.le_of_ble_eq_true rfl) rfl ?_
        refine zg_goto (tgt := 18) dX9_turned_144 (by decide) ?_
        refine zo_sub (ls' := [(0, .ref 39), (1, .int v1), (2, .int (v2 + x8)), (3, .int v3), (4, .int (v4 + (1 : Int32)))]) [0, 1, 2, 3, 4] rfl ?_
        exact ih _ _ _ _ h
      · replace h := (if_neg hc).symm.trans h
        refine zg_aload_n 0 dX9_turned_102 rfl rfl ?_
        refine zo_getr 41 1 rfl fl_X9_24 zt_39 rfl dX9_turned_103 ?_
        refine zg_iload 4 dX9_turned_106 rfl ?_
        obtain ⟨x6, hx6, h⟩ := z_bind h
        refine zo_iald zt_41 hx6 dX9_turned_108 ?_
        refine zg_iload_n 3 dX9_turned_109 rfl rfl ?_
        obtain ⟨x7, hx7, h⟩ := z_bind h
        refine zg_callS (st := [.int x4, .int v2]) (k_X9_has hx7) zY_X9_has ls_X9_112 rfl (zfit_m (by decide) (by decide)) (Nat.le_of_ble_eq_true rfl) dX9_turned_110 rfl ?_
        refine zg_goto (tgt := 128) dX9_turned_113 (by decide) ?_
        suffices hj : zJ ztops RX9 cX9_turned 7 (zBm ztops 2 (some .int) (some (.int r1)) M) 0 0 136 [(0, .ref 39), (1, .int v1), (2, .int v2), (3, .int v3), (4, .int v4), (5, .int (if x1 = 0 then v3 else (((M.1 41 6) - (1 : Int32)) - v3))), (6, .int (if x2 = 0 then v4 else (((M.1 41 7) - (1 : Int32)) - v4)))] [.int (if x4 = x7 then (0 : Int32) else (1 : Int32)), .int v2] M by
          refine zg_icmp_eq (tgt := 135) dX9_turned_128 (by decide) (fun hc => ?_) (fun hc => ?_)
          · rw [show (if x4 = x7 then (0 : Int32) else (1 : Int32)) = (0 : Int32) from if_pos hc] at hj
            refine zg_iconst dX9_turned_135 zki_0 ?_
            exact hj
          · rw [show (if x4 = x7 then (0 : Int32) else (1 : Int32)) = (1 : Int32) from if_neg hc] at hj
            refine zg_iconst dX9_turned_131 zki_1 ?_
            refine zg_goto (tgt := 136) dX9_turned_132 (by decide) ?_
            exact hj
        obtain ⟨x8, hx8, h⟩ := z_bind h
        refine zg_callS (st := [.int v2]) (k_X9_flag hx8) zY_X9_flag ls_X9_116 rfl (zfit_m (by decide) (by decide)) (Nat.le_of_ble_eq_true rfl) dX9_turned_136 rfl ?_
        refine zg_iadd dX9_turned_139 ?_
        refine zg_istore_n (ls' := [(0, .ref 39), (1, .int v1), (2, .int (v2 + x8)), (3, .int v3), (4, .int v4), (5, .int (if x1 = 0 then v3 else (((M.1 41 6) - (1 : Int32)) - v3))), (6, .int (if x2 = 0 then v4 else (((M.1 41 7) - (1 : Int32)) - v4)))]) dX9_turned_140 rfl (Nat.le_of_ble_eq_true rfl) rfl ?_
        refine zg_iinc (ls' := [(0, .ref 39), (1, .int v1), (2, .int (v2 + x8)), (3, .int v3), (4, .int (v4 + (1 : Int32))), (5, .int (if x1 = 0 then v3 else (((M.1 41 6) - (1 : Int32)) - v3))), (6, .int (if x2 = 0 then v4 else (((M.1 41 7) - (1 : Int32)) - v4)))]) 4 dX9_turned_141 rfl zki_1 (Nat.le_of_ble_eq_true rfl) rfl ?_
        refine zg_goto (tgt := 18) dX9_turned_144 (by decide) ?_
        refine zo_sub (ls' := [(0, .ref 39), (1, .int v1), (2, .int (v2 + x8)), (3, .int v3), (4, .int (v4 + (1 : Int32)))]) [0, 1, 2, 3, 4] rfl ?_
        exact ih _ _ _ _ h
set_option maxRecDepth 20000 in
set_option maxHeartbeats 4000000 in
theorem g9_turned_147 {r1 : Int32} {M : zM} {k4 : Int32 → Int32 → Int32 → zM → Option Int32} (hk4 : ∀ (v1 : Int32) (v2 : Int32) (v3 : Int32), k4 v1 v2 v3 M = some r1 → zJ ztops RX9 cX9_turned 7 (zBm ztops 2 (some .int) (some (.int r1)) M) 0 0 4 [(0, .ref 39), (1, .int v1), (2, .int v2), (3, .int v3)] [] M) : ∀ (v1 : Int32) (v2 : Int32) (v3 : Int32), f9_turned_147 k4 v1 v2 v3 M = some r1 → zJ ztops RX9 cX9_turned 7 (zBm ztops 2 (some .int) (some (.int r1)) M) 0 0 147 [(0, .ref 39), (1, .int v1), (2, .int v2), (3, .int v3)] [] M := by
  intro v1 v2 v3 h
  rw [f9_turned_147] at h
  refine zg_iinc (ls' := [(0, .ref 39), (1, .int v1), (2, .int v2), (3, .int (v3 + (1 : Int32)))]) 3 dX9_turned_147 rfl zki_1 (Nat.le_of_ble_eq_true rfl) rfl ?_
  refine zg_goto (tgt := 4) dX9_turned_150 (by decide) ?_
  exact hk4 _ _ _ h
set_option maxRecDepth 20000 in
set_option maxHeartbeats 4000000 in
theorem g9_turned_4 {r1 : Int32} {M : zM} : ∀ (n : Nat) (v1 : Int32) (v2 : Int32) (v3 : Int32), f9_turned_4 n v1 v2 v3 M = some r1 → zJ ztops RX9 cX9_turned 7 (zBm ztops 2 (some .int) (some (.int r1)) M) 0 0 4 [(0, .ref 39), (1, .int v1), (2, .int v2), (3, .int v3)] [] M := by
  intro n
  induction n with
  | zero => intro v1 v2 v3 h; cases h
  | succ n ih =>
    intro v1 v2 v3 h
    rw [f9_turned_4] at h
    refine zg_iload_n 3 dX9_turned_4 rfl rfl ?_
    refine zg_aload_n 0 dX9_turned_5 rfl rfl ?_
    refine zo_getr 41 1 rfl fl_X9_24 zt_39 rfl dX9_turned_6 ?_
    refine zg_bipush dX9_turned_9 zkb_6 ?_
    refine zo_ialdc 6 zt_41 (by decide) rfl dX9_turned_11 ?_
    refine zg_icmp_ge (tgt := 153) dX9_turned_12 (by decide) (fun hc => ?_) (fun hc => ?_)
    · replace h := (if_pos hc).symm.trans h
      refine zg_iload_n 2 dX9_turned_153 rfl rfl ?_
      obtain rfl := z_ret1 h
      exact zg_iret dX9_turned_154
    · replace h := (if_neg hc).symm.trans h
      refine zg_iconst dX9_turned_15 zki_0 ?_
      refine zg_istore (ls' := [(0, .ref 39), (1, .int v1), (2, .int v2), (3, .int v3), (4, .int (0 : Int32))]) dX9_turned_16 (Nat.le_of_ble_eq_true rfl) rfl ?_
      exact g9_turned_18 (fun u0 u1 u2 h => g9_turned_147 (fun u0 u1 u2 h => ih u0 u1 u2 h) u0 u1 u2 h) zfuel _ _ _ _ h
set_option maxRecDepth 20000 in
set_option maxHeartbeats 4000000 in
theorem k_X9_turned {v1 : Int32} {r1 : Int32} {M : zM} (h : f9_turned v1 M = some r1) : zK ztops yX9_turned cX9_turned 7 (some .int) 2 [.ref 39, .int v1] M (some (.int r1)) M := by
  refine zK_of pl_X9 (Nat.le_of_ble_eq_true rfl) ?_
  show zJ ztops RX9 cX9_turned 7 _ 0 0 0 [(0, .ref 39), (1, .int v1)] [] M
  rw [f9_turned] at h
  refine zg_iconst dX9_turned_0 zki_0 ?_
  refine zg_istore_n (ls' := [(0, .ref 39), (1, .int v1), (2, .int (0 : Int32))]) dX9_turned_1 rfl (Nat.le_of_ble_eq_true rfl) rfl ?_
  refine zg_iconst dX9_turned_2 zki_0 ?_
  refine zg_istore_n (ls' := [(0, .ref 39), (1, .int v1), (2, .int (0 : Int32)), (3, .int (0 : Int32))]) dX9_turned_3 rfl (Nat.le_of_ble_eq_true rfl) rfl ?_
  exact g9_turned_4 zfuel _ _ _ h
set_option maxRecDepth 20000 in
set_option maxHeartbeats 4000000 in
theorem g9_looks_50 {r1 : Int32} {Mr : zM} {k14 : Int32 → Int32 → zM → Option (Int32 × zM)} (hk14 : ∀ (v1 : Int32) (v2 : Int32) (M : zM), k14 v1 v2 M = some (r1, Mr) → zJ ztops RX9 cX9_looks 4 (zBm ztops 3 (some .int) (some (.int r1)) Mr) 0 0 14 [(0, .ref 39), (1, .int v1), (2, .int v2)] [] M) : ∀ (v1 : Int32) (v2 : Int32) (s0 : Int32) (M : zM), f9_looks_50 k14 v1 v2 s0 M = some (r1, Mr) → zJ ztops RX9 cX9_looks 4 (zBm ztops 3 (some .int) (some (.int r1)) Mr) 0 0 50 [(0, .ref 39), (1, .int v1), (2, .int v2)] [.int s0] M := by
  intro v1 v2 s0 M h
  rw [f9_looks_50] at h
  refine zg_istore_n (ls' := [(0, .ref 39), (1, .int v1), (2, .int v2), (3, .int s0)]) dX9_looks_50 rfl (Nat.le_of_ble_eq_true rfl) rfl ?_
  refine zg_iload_n 1 dX9_looks_51 rfl rfl ?_
  refine zg_iload_n 3 dX9_looks_52 rfl rfl ?_
  suffices hj : zJ ztops RX9 cX9_looks 4 (zBm ztops 3 (some .int) (some (.int r1)) Mr) 0 0 65 [(0, .ref 39), (1, .int v1), (2, .int v2), (3, .int s0)] [.int (if s0 = 0 then (zshl (1 : Int32) (v2 - (1 : Int32))) else (0 : Int32)), .int v1] M by
    refine zg_if_ne (tgt := 64) dX9_looks_53 (by decide) (fun hc => ?_) (fun hc => ?_)
    · rw [show (if s0 = 0 then (zshl (1 : Int32) (v2 - (1 : Int32))) else (0 : Int32)) = (0 : Int32) from if_neg hc] at hj
      refine zg_iconst dX9_looks_64 zki_0 ?_
      exact hj
    · rw [show (if s0 = 0 then (zshl (1 : Int32) (v2 - (1 : Int32))) else (0 : Int32)) = (zshl (1 : Int32) (v2 - (1 : Int32))) from if_pos hc] at hj
      refine zg_iconst dX9_looks_56 zki_1 ?_
      refine zg_iload_n 2 dX9_looks_57 rfl rfl ?_
      refine zg_iconst dX9_looks_58 zki_1 ?_
      refine zg_isub dX9_looks_59 ?_
      refine zg_ishl dX9_looks_60 ?_
      refine zg_goto (tgt := 65) dX9_looks_61 (by decide) ?_
      exact hj
  refine zg_ior dX9_looks_65 ?_
  refine zg_istore_n (ls' := [(0, .ref 39), (1, .int (v1 ||| (if s0 = 0 then (zshl (1 : Int32) (v2 - (1 : Int32))) else (0 : Int32)))), (2, .int v2), (3, .int s0)]) dX9_looks_66 rfl (Nat.le_of_ble_eq_true rfl) rfl ?_
  refine zg_aload_n 0 dX9_looks_67 rfl rfl ?_
  refine zg_iload_n 3 dX9_looks_68 rfl rfl ?_
  refine zg_i2l dX9_looks_69 ?_
  obtain ⟨M1, hM1, h⟩ := z_bind h
  refine zg_callV (st := []) (k_X9_enters hM1) zY_X9_enters lv_X9_311 rfl zt_39 rfl (zfit_m (by decide) (by decide)) (Nat.le_of_ble_eq_true rfl) dX9_looks_70 rfl ?_
  refine zg_iinc (ls' := [(0, .ref 39), (1, .int (v1 ||| (if s0 = 0 then (zshl (1 : Int32) (v2 - (1 : Int32))) else (0 : Int32)))), (2, .int (v2 + (1 : Int32))), (3, .int s0)]) 2 dX9_looks_73 rfl zki_1 (Nat.le_of_ble_eq_true rfl) rfl ?_
  refine zg_goto (tgt := 14) dX9_looks_76 (by decide) ?_
  refine zo_sub (ls' := [(0, .ref 39), (1, .int (v1 ||| (if s0 = 0 then (zshl (1 : Int32) (v2 - (1 : Int32))) else (0 : Int32)))), (2, .int (v2 + (1 : Int32)))]) [0, 1, 2] rfl ?_
  exact hk14 _ _ _ h
set_option maxRecDepth 20000 in
set_option maxHeartbeats 4000000 in
theorem g9_looks_41 {r1 : Int32} {Mr : zM} {k14 : Int32 → Int32 → zM → Option (Int32 × zM)} (hk14 : ∀ (v1 : Int32) (v2 : Int32) (M : zM), k14 v1 v2 M = some (r1, Mr) → zJ ztops RX9 cX9_looks 4 (zBm ztops 3 (some .int) (some (.int r1)) Mr) 0 0 14 [(0, .ref 39), (1, .int v1), (2, .int v2)] [] M) : ∀ (v1 : Int32) (v2 : Int32) (M : zM), f9_looks_41 k14 v1 v2 M = some (r1, Mr) → zJ ztops RX9 cX9_looks 4 (zBm ztops 3 (some .int) (some (.int r1)) Mr) 0 0 41 [(0, .ref 39), (1, .int v1), (2, .int v2)] [] M := by
  intro v1 v2 M h
  rw [f9_looks_41] at h
  refine zg_aload_n 0 dX9_looks_41 rfl rfl ?_
  refine zg_iload_n 2 dX9_looks_42 rfl rfl ?_
  obtain ⟨x1, hx1, h⟩ := z_bind h
  refine zg_callV (st := []) (k_X9_turned hx1) zY_X9_turned lv_X9_398 rfl zt_39 rfl (zfit_m (by decide) (by decide)) (Nat.le_of_ble_eq_true rfl) dX9_looks_43 rfl ?_
  refine zg_goto (tgt := 50) dX9_looks_46 (by decide) ?_
  exact g9_looks_50 hk14 _ _ _ _ h
set_option maxRecDepth 20000 in
set_option maxHeartbeats 4000000 in
theorem g9_looks_14 {r1 : Int32} {Mr : zM} : ∀ (n : Nat) (v1 : Int32) (v2 : Int32) (M : zM), f9_looks_14 n v1 v2 M = some (r1, Mr) → zJ ztops RX9 cX9_looks 4 (zBm ztops 3 (some .int) (some (.int r1)) Mr) 0 0 14 [(0, .ref 39), (1, .int v1), (2, .int v2)] [] M := by
  intro n
  induction n with
  | zero => intro v1 v2 M h; cases h
  | succ n ih =>
    intro v1 v2 M h
    rw [f9_looks_14] at h
    refine zg_iload_n 2 dX9_looks_14 rfl rfl ?_
    refine zg_iconst dX9_looks_15 zki_5 ?_
    refine zg_icmp_ge (tgt := 79) dX9_looks_16 (by decide) (fun hc => ?_) (fun hc => ?_)
    · replace h := (if_pos hc).symm.trans h
      refine zg_iload_n 1 dX9_looks_79 rfl rfl ?_
      obtain ⟨rfl, rfl⟩ := z_ret2 h
      exact zg_iret dX9_looks_80
    · replace h := (if_neg hc).symm.trans h
      refine zg_iload_n 2 dX9_looks_19 rfl rfl ?_
      refine zg_iconst dX9_looks_20 zki_4 ?_
      refine zg_icmp_lt (tgt := 41) dX9_looks_21 (by decide) (fun hc => ?_) (fun hc => ?_)
      · replace h := (if_pos hc).symm.trans h
        exact g9_looks_41 (fun u0 u1 u2 h => ih u0 u1 u2 h) _ _ _ h
      · replace h := (if_neg hc).symm.trans h
        refine zg_aload_n 0 dX9_looks_24 rfl rfl ?_
        refine zo_getr 41 1 rfl fl_X9_24 zt_39 rfl dX9_looks_25 ?_
        refine zg_bipush dX9_looks_28 zkb_6 ?_
        refine zo_ialdc 6 zt_41 (by decide) rfl dX9_looks_30 ?_
        refine zg_aload_n 0 dX9_looks_31 rfl rfl ?_
        refine zo_getr 41 1 rfl fl_X9_24 zt_39 rfl dX9_looks_32 ?_
        refine zg_bipush dX9_looks_35 zkb_7 ?_
        refine zo_ialdc 7 zt_41 (by decide) rfl dX9_looks_37 ?_
        refine zg_icmp_ne (tgt := 49) dX9_looks_38 (by decide) (fun hc => ?_) (fun hc => ?_)
        · replace h := (if_neg hc).symm.trans h
          refine zg_iconst dX9_looks_49 zki_m1 ?_
          exact g9_looks_50 (fun u0 u1 u2 h => ih u0 u1 u2 h) _ _ _ _ h
        · replace h := (if_pos hc).symm.trans h
          exact g9_looks_41 (fun u0 u1 u2 h => ih u0 u1 u2 h) _ _ _ h
set_option maxRecDepth 20000 in
set_option maxHeartbeats 4000000 in
theorem k_X9_looks {M : zM} {r1 : Int32} {Mr : zM} (h : f9_looks M = some (r1, Mr)) : zK ztops yX9_looks cX9_looks 4 (some .int) 3 [.ref 39] M (some (.int r1)) Mr := by
  refine zK_of pl_X9 (Nat.le_of_ble_eq_true rfl) ?_
  show zJ ztops RX9 cX9_looks 4 _ 0 0 0 [(0, .ref 39)] [] M
  rw [f9_looks] at h
  refine zg_aload_n 0 dX9_looks_0 rfl rfl ?_
  refine zg_iconst dX9_looks_1 zki_0 ?_
  refine zg_puti fp_X9_3 zt_39 rfl dX9_looks_2 ?_
  refine zg_iconst dX9_looks_5 zki_0 ?_
  refine zg_istore_n (ls' := [(0, .ref 39), (1, .int (0 : Int32))]) dX9_looks_6 rfl (Nat.le_of_ble_eq_true rfl) rfl ?_
  refine zg_aload_n 0 dX9_looks_7 rfl rfl ?_
  refine zg_iconst dX9_looks_8 zki_0 ?_
  refine zg_puti fp_X9_15 zt_39 rfl dX9_looks_9 ?_
  refine zg_iconst dX9_looks_12 zki_1 ?_
  refine zg_istore_n (ls' := [(0, .ref 39), (1, .int (0 : Int32)), (2, .int (1 : Int32))]) dX9_looks_13 rfl (Nat.le_of_ble_eq_true rfl) rfl ?_
  exact g9_looks_14 zfuel _ _ _ h
set_option maxRecDepth 20000 in
set_option maxHeartbeats 4000000 in
theorem g9_repeatsOf_51 {T : List zN} {a0 : Nat} (h0 : T[a0]? = some (.inl (0, 9))) {r1 : Int32} {M : zM} {k13 : Int32 → Int32 → Int32 → Int32 → zM → Option Int32} (hk13 : ∀ (v1 : Int32) (v2 : Int32) (v3 : Int32) (v4 : Int32), k13 v1 v2 v3 v4 M = some r1 → zJ T RX9 cX9_repeatsOf 5 (zBm T 3 (some .int) (some (.int r1)) M) 0 0 13 [(0, .ref a0), (1, .int v1), (2, .int v2), (3, .int v3), (4, .int v4)] [] M) : ∀ (v1 : Int32) (v2 : Int32) (v4 : Int32) (s0 : Int32), f9_repeatsOf_51 a0 k13 v1 v2 v4 s0 M = some r1 → zJ T RX9 cX9_repeatsOf 5 (zBm T 3 (some .int) (some (.int r1)) M) 0 0 51 [(0, .ref a0), (1, .int v1), (2, .int v2), (4, .int v4)] [.int s0] M := by
  intro v1 v2 v4 s0 h
  rw [f9_repeatsOf_51] at h
  refine zg_istore_n (ls' := [(0, .ref a0), (1, .int v1), (2, .int v2), (3, .int s0), (4, .int v4)]) dX9_repeatsOf_51 rfl (Nat.le_of_ble_eq_true rfl) rfl ?_
  refine zg_iinc (ls' := [(0, .ref a0), (1, .int v1), (2, .int v2), (3, .int s0), (4, .int (v4 + (1 : Int32)))]) 4 dX9_repeatsOf_52 rfl zki_1 (Nat.le_of_ble_eq_true rfl) rfl ?_
  refine zg_goto (tgt := 13) dX9_repeatsOf_55 (by decide) ?_
  exact hk13 _ _ _ _ h
set_option maxRecDepth 20000 in
set_option maxHeartbeats 4000000 in
theorem g9_repeatsOf_13 {T : List zN} {a0 : Nat} (h0 : T[a0]? = some (.inl (0, 9))) {r1 : Int32} {M : zM} {k58 : Int32 → Int32 → Int32 → zM → Option Int32} (hk58 : ∀ (v1 : Int32) (v2 : Int32) (v3 : Int32), k58 v1 v2 v3 M = some r1 → zJ T RX9 cX9_repeatsOf 5 (zBm T 3 (some .int) (some (.int r1)) M) 0 0 58 [(0, .ref a0), (1, .int v1), (2, .int v2), (3, .int v3)] [] M) : ∀ (n : Nat) (v1 : Int32) (v2 : Int32) (v3 : Int32) (v4 : Int32), f9_repeatsOf_13 a0 k58 n v1 v2 v3 v4 M = some r1 → zJ T RX9 cX9_repeatsOf 5 (zBm T 3 (some .int) (some (.int r1)) M) 0 0 13 [(0, .ref a0), (1, .int v1), (2, .int v2), (3, .int v3), (4, .int v4)] [] M := by
  intro n
  induction n with
  | zero => intro v1 v2 v3 v4 h; cases h
  | succ n ih =>
    intro v1 v2 v3 v4 h
    rw [f9_repeatsOf_13] at h
    refine zg_iload 4 dX9_repeatsOf_13 rfl ?_
    refine zg_aload_n 0 dX9_repeatsOf_15 rfl rfl ?_
    refine zg_iload_n 1 dX9_repeatsOf_16 rfl rfl ?_
    obtain ⟨x1, hx1, h⟩ := z_bind h
    refine zg_callS (st := [.int v4]) (k_X9_manyOf h0 hx1) zY_X9_manyOf ls_X9_108 rfl (zfit_m (by decide) (by decide)) (Nat.le_of_ble_eq_true rfl) dX9_repeatsOf_17 rfl ?_
    refine zg_icmp_ge (tgt := 58) dX9_repeatsOf_20 (by decide) (fun hc => ?_) (fun hc => ?_)
    · replace h := (if_pos hc).symm.trans h
      refine zo_sub (ls' := [(0, .ref a0), (1, .int v1), (2, .int v2), (3, .int v3)]) [0, 1, 2, 3] rfl ?_
      exact hk58 _ _ _ h
    · replace h := (if_neg hc).symm.trans h
      refine zg_iload_n 3 dX9_repeatsOf_23 rfl rfl ?_
      refine zg_if_eq (tgt := 50) dX9_repeatsOf_24 (by decide) (fun hc => ?_) (fun hc => ?_)
      · replace h := (if_pos hc).symm.trans h
        refine zg_iconst dX9_repeatsOf_50 zki_0 ?_
        refine zo_sub (ls' := [(0, .ref a0), (1, .int v1), (2, .int v2), (4, .int v4)]) [0, 1, 2, 4] rfl ?_
        exact g9_repeatsOf_51 h0 (fun u0 u1 u2 u3 h => ih u0 u1 u2 u3 h) _ _ _ _ h
      · replace h := (if_neg hc).symm.trans h
        refine zg_aload_n 0 dX9_repeatsOf_27 rfl rfl ?_
        refine zg_iload_n 1 dX9_repeatsOf_28 rfl rfl ?_
        refine zg_iload 4 dX9_repeatsOf_29 rfl ?_
        obtain ⟨x2, hx2, h⟩ := z_bind h
        refine zg_callS (st := []) (k_X9_bitsOf h0 hx2) zY_X9_bitsOf ls_X9_120 rfl (zfit_m (by decide) (by decide)) (Nat.le_of_ble_eq_true rfl) dX9_repeatsOf_31 rfl ?_
        refine zg_aload_n 0 dX9_repeatsOf_34 rfl rfl ?_
        refine zg_iload_n 1 dX9_repeatsOf_35 rfl rfl ?_
        refine zg_iload 4 dX9_repeatsOf_36 rfl ?_
        refine zg_iload_n 2 dX9_repeatsOf_38 rfl rfl ?_
        refine zg_isub dX9_repeatsOf_39 ?_
        obtain ⟨x3, hx3, h⟩ := z_bind h
        refine zg_callS (st := [.int x2]) (k_X9_bitsOf h0 hx3) zY_X9_bitsOf ls_X9_120 rfl (zfit_m (by decide) (by decide)) (Nat.le_of_ble_eq_true rfl) dX9_repeatsOf_40 rfl ?_
        suffices hj : zJ T RX9 cX9_repeatsOf 5 (zBm T 3 (some .int) (some (.int r1)) M) 0 0 51 [(0, .ref a0), (1, .int v1), (2, .int v2), (3, .int v3), (4, .int v4)] [.int (if x2 = x3 then (1 : Int32) else (0 : Int32))] M by
          refine zg_icmp_ne (tgt := 50) dX9_repeatsOf_43 (by decide) (fun hc => ?_) (fun hc => ?_)
          · rw [show (if x2 = x3 then (1 : Int32) else (0 : Int32)) = (0 : Int32) from if_neg hc] at hj
            refine zg_iconst dX9_repeatsOf_50 zki_0 ?_
            exact hj
          · rw [show (if x2 = x3 then (1 : Int32) else (0 : Int32)) = (1 : Int32) from if_pos hc] at hj
            refine zg_iconst dX9_repeatsOf_46 zki_1 ?_
            refine zg_goto (tgt := 51) dX9_repeatsOf_47 (by decide) ?_
            exact hj
        refine zo_sub (ls' := [(0, .ref a0), (1, .int v1), (2, .int v2), (4, .int v4)]) [0, 1, 2, 4] rfl ?_
        exact g9_repeatsOf_51 h0 (fun u0 u1 u2 u3 h => ih u0 u1 u2 u3 h) _ _ _ _ h
set_option maxRecDepth 20000 in
set_option maxHeartbeats 4000000 in
theorem g9_repeatsOf_58 {T : List zN} {a0 : Nat} (h0 : T[a0]? = some (.inl (0, 9))) {r1 : Int32} {M : zM} {k4 : Int32 → Int32 → Int32 → zM → Option Int32} (hk4 : ∀ (v1 : Int32) (v2 : Int32) (v3 : Int32), k4 v1 v2 v3 M = some r1 → zJ T RX9 cX9_repeatsOf 5 (zBm T 3 (some .int) (some (.int r1)) M) 0 0 4 [(0, .ref a0), (1, .int v1), (2, .int v2), (3, .int v3)] [] M) : ∀ (v1 : Int32) (v2 : Int32) (v3 : Int32), f9_repeatsOf_58 a0 k4 v1 v2 v3 M = some r1 → zJ T RX9 cX9_repeatsOf 5 (zBm T 3 (some .int) (some (.int r1)) M) 0 0 58 [(0, .ref a0), (1, .int v1), (2, .int v2), (3, .int v3)] [] M := by
  intro v1 v2 v3 h
  rw [f9_repeatsOf_58] at h
  refine zg_iload_n 2 dX9_repeatsOf_58 rfl rfl ?_
  refine zg_iload_n 3 dX9_repeatsOf_59 rfl rfl ?_
  suffices hj : zJ T RX9 cX9_repeatsOf 5 (zBm T 3 (some .int) (some (.int r1)) M) 0 0 68 [(0, .ref a0), (1, .int v1), (2, .int v2), (3, .int v3)] [.int (if v3 = 0 then (1 : Int32) else (0 : Int32)), .int v2] M by
    refine zg_if_ne (tgt := 67) dX9_repeatsOf_60 (by decide) (fun hc => ?_) (fun hc => ?_)
    · rw [show (if v3 = 0 then (1 : Int32) else (0 : Int32)) = (0 : Int32) from if_neg hc] at hj
      refine zg_iconst dX9_repeatsOf_67 zki_0 ?_
      exact hj
    · rw [show (if v3 = 0 then (1 : Int32) else (0 : Int32)) = (1 : Int32) from if_pos hc] at hj
      refine zg_iconst dX9_repeatsOf_63 zki_1 ?_
      refine zg_goto (tgt := 68) dX9_repeatsOf_64 (by decide) ?_
      exact hj
  obtain ⟨x1, hx1, h⟩ := z_bind h
  refine zg_callS (st := [.int v2]) (k_X9_flag hx1) zY_X9_flag ls_X9_116 rfl (zfit_m (by decide) (by decide)) (Nat.le_of_ble_eq_true rfl) dX9_repeatsOf_68 rfl ?_
  refine zg_iadd dX9_repeatsOf_71 ?_
  refine zg_istore_n (ls' := [(0, .ref a0), (1, .int v1), (2, .int (v2 + x1)), (3, .int v3)]) dX9_repeatsOf_72 rfl (Nat.le_of_ble_eq_true rfl) rfl ?_
  refine zg_goto (tgt := 4) dX9_repeatsOf_73 (by decide) ?_
  exact hk4 _ _ _ h
set_option maxRecDepth 20000 in
set_option maxHeartbeats 4000000 in
theorem g9_repeatsOf_4 {T : List zN} {a0 : Nat} (h0 : T[a0]? = some (.inl (0, 9))) {r1 : Int32} {M : zM} : ∀ (n : Nat) (v1 : Int32) (v2 : Int32) (v3 : Int32), f9_repeatsOf_4 a0 n v1 v2 v3 M = some r1 → zJ T RX9 cX9_repeatsOf 5 (zBm T 3 (some .int) (some (.int r1)) M) 0 0 4 [(0, .ref a0), (1, .int v1), (2, .int v2), (3, .int v3)] [] M := by
  intro n
  induction n with
  | zero => intro v1 v2 v3 h; cases h
  | succ n ih =>
    intro v1 v2 v3 h
    rw [f9_repeatsOf_4] at h
    refine zg_iload_n 3 dX9_repeatsOf_4 rfl rfl ?_
    refine zg_if_ne (tgt := 76) dX9_repeatsOf_5 (by decide) (fun hc => ?_) (fun hc => ?_)
    · replace h := (if_neg hc).symm.trans h
      refine zg_iload_n 2 dX9_repeatsOf_76 rfl rfl ?_
      obtain rfl := z_ret1 h
      exact zg_iret dX9_repeatsOf_77
    · replace h := (if_pos hc).symm.trans h
      refine zg_iconst dX9_repeatsOf_8 zki_1 ?_
      refine zg_istore_n (ls' := [(0, .ref a0), (1, .int v1), (2, .int v2), (3, .int (1 : Int32))]) dX9_repeatsOf_9 rfl (Nat.le_of_ble_eq_true rfl) rfl ?_
      refine zg_iload_n 2 dX9_repeatsOf_10 rfl rfl ?_
      refine zg_istore (ls' := [(0, .ref a0), (1, .int v1), (2, .int v2), (3, .int (1 : Int32)), (4, .int v2)]) dX9_repeatsOf_11 (Nat.le_of_ble_eq_true rfl) rfl ?_
      exact g9_repeatsOf_13 h0 (fun u0 u1 u2 h => g9_repeatsOf_58 h0 (fun u0 u1 u2 h => ih u0 u1 u2 h) u0 u1 u2 h) zfuel _ _ _ _ h
set_option maxRecDepth 20000 in
set_option maxHeartbeats 4000000 in
theorem k_X9_repeatsOf {T : List zN} {a0 : Nat} (h0 : T[a0]? = some (.inl (0, 9))) {v1 : Int32} {r1 : Int32} {M : zM} (h : f9_repeatsOf a0 v1 M = some r1) : zK T yX9_repeatsOf cX9_repeatsOf 5 (some .int) 3 [.ref a0, .int v1] M (some (.int r1)) M := by
  refine zK_of pl_X9 (Nat.le_of_ble_eq_true rfl) ?_
  show zJ T RX9 cX9_repeatsOf 5 _ 0 0 0 [(0, .ref a0), (1, .int v1)] [] M
  rw [f9_repeatsOf] at h
  refine zg_iconst dX9_repeatsOf_0 zki_1 ?_
  refine zg_istore_n (ls' := [(0, .ref a0), (1, .int v1), (2, .int (1 : Int32))]) dX9_repeatsOf_1 rfl (Nat.le_of_ble_eq_true rfl) rfl ?_
  refine zg_iconst dX9_repeatsOf_2 zki_0 ?_
  refine zg_istore_n (ls' := [(0, .ref a0), (1, .int v1), (2, .int (1 : Int32)), (3, .int (0 : Int32))]) dX9_repeatsOf_3 rfl (Nat.le_of_ble_eq_true rfl) rfl ?_
  exact g9_repeatsOf_4 h0 zfuel _ _ _ h
set_option maxRecDepth 20000 in
set_option maxHeartbeats 4000000 in
theorem k_X9_repeats {M : zM} {r1 : Int32} {Mr : zM} (h : f9_repeats M = some (r1, Mr)) : zK ztops yX9_repeats cX9_repeats 1 (some .int) 4 [.ref 39] M (some (.int r1)) Mr := by
  refine zK_of pl_X9 (Nat.le_of_ble_eq_true rfl) ?_
  show zJ ztops RX9 cX9_repeats 1 _ 0 0 0 [(0, .ref 39)] [] M
  rw [f9_repeats] at h
  refine zg_aload_n 0 dX9_repeats_0 rfl rfl ?_
  refine zg_iconst dX9_repeats_1 zki_0 ?_
  refine zg_puti fp_X9_3 zt_39 rfl dX9_repeats_2 ?_
  refine zg_aload_n 0 dX9_repeats_5 rfl rfl ?_
  refine zg_iconst dX9_repeats_6 zki_0 ?_
  refine zg_puti fp_X9_15 zt_39 rfl dX9_repeats_7 ?_
  refine zg_aload_n 0 dX9_repeats_10 rfl rfl ?_
  refine zg_aload_n 0 dX9_repeats_11 rfl rfl ?_
  refine zo_getr 41 1 rfl fl_X9_24 zt_39 rfl dX9_repeats_12 ?_
  refine zg_iconst dX9_repeats_15 zki_1 ?_
  obtain ⟨x1, hx1, h⟩ := z_bind h
  refine zg_callS (st := [.ref 39]) (k_X9_repeatsOf zt_41 hx1) zY_X9_repeatsOf ls_X9_401 rfl (zfit_m (by decide) (by decide)) (Nat.le_of_ble_eq_true rfl) dX9_repeats_16 rfl ?_
  refine zg_i2l dX9_repeats_19 ?_
  obtain ⟨M2, hM2, h⟩ := z_bind h
  refine zg_callV (st := []) (k_X9_enters hM2) zY_X9_enters lv_X9_311 rfl zt_39 rfl (zfit_m (by decide) (by decide)) (Nat.le_of_ble_eq_true rfl) dX9_repeats_20 rfl ?_
  refine zg_aload_n 0 dX9_repeats_23 rfl rfl ?_
  refine zo_getr 41 1 rfl fl_X9_24 zt_39 rfl dX9_repeats_24 ?_
  refine zg_iconst dX9_repeats_27 zki_0 ?_
  obtain ⟨x3, hx3, h⟩ := z_bind h
  refine zg_callS (st := []) (k_X9_repeatsOf zt_41 hx3) zY_X9_repeatsOf ls_X9_401 rfl (zfit_m (by decide) (by decide)) (Nat.le_of_ble_eq_true rfl) dX9_repeats_28 rfl ?_
  obtain ⟨rfl, rfl⟩ := z_ret2 h
  exact zg_iret dX9_repeats_31
set_option maxRecDepth 20000 in
set_option maxHeartbeats 4000000 in
theorem g9_runsOf_80 {r1 : Int32} {Mr : zM} {k38 : Int32 → Int32 → Int32 → Int32 → Int32 → Int32 → zM → Option (Int32 × zM)} (hk38 : ∀ (v1 : Int32) (v2 : Int32) (v3 : Int32) (v4 : Int32) (v5 : Int32) (v6 : Int32) (M : zM), k38 v1 v2 v3 v4 v5 v6 M = some (r1, Mr) → zJ ztops RX9 cX9_runsOf 8 (zBm ztops 3 (some .int) (some (.int r1)) Mr) 0 0 38 [(0, .ref 39), (1, .int v1), (2, .int v2), (3, .int v3), (4, .int v4), (5, .int v5), (6, .int v6)] [] M) : ∀ (v1 : Int32) (v2 : Int32) (v3 : Int32) (v4 : Int32) (v5 : Int32) (v6 : Int32) (s0 : Int32) (M : zM), f9_runsOf_80 k38 v1 v2 v3 v4 v5 v6 s0 M = some (r1, Mr) → zJ ztops RX9 cX9_runsOf 8 (zBm ztops 3 (some .int) (some (.int r1)) Mr) 0 0 80 [(0, .ref 39), (1, .int v1), (2, .int v2), (3, .int v3), (4, .int v4), (5, .int v5), (6, .int v6)] [.int s0] M := by
  intro v1 v2 v3 v4 v5 v6 s0 M h
  rw [f9_runsOf_80] at h
  refine zg_istore (ls' := [(0, .ref 39), (1, .int v1), (2, .int v2), (3, .int v3), (4, .int v4), (5, .int v5), (6, .int v6), (7, .int s0)]) dX9_runsOf_80 (Nat.le_of_ble_eq_true rfl) rfl ?_
  refine zg_iload 7 dX9_runsOf_82 rfl ?_
  suffices hj : zJ ztops RX9 cX9_runsOf 8 (zBm ztops 3 (some .int) (some (.int r1)) Mr) 0 0 95 [(0, .ref 39), (1, .int v1), (2, .int v2), (3, .int v3), (4, .int v4), (5, .int v5), (6, .int v6), (7, .int s0)] [.int (if s0 = 0 then (1 : Int32) else (v5 + (1 : Int32)))] M by
    refine zg_if_eq (tgt := 94) dX9_runsOf_84 (by decide) (fun hc => ?_) (fun hc => ?_)
    · rw [show (if s0 = 0 then (1 : Int32) else (v5 + (1 : Int32))) = (1 : Int32) from if_pos hc] at hj
      refine zg_iconst dX9_runsOf_94 zki_1 ?_
      exact hj
    · rw [show (if s0 = 0 then (1 : Int32) else (v5 + (1 : Int32))) = (v5 + (1 : Int32)) from if_neg hc] at hj
      refine zg_iload 5 dX9_runsOf_87 rfl ?_
      refine zg_iconst dX9_runsOf_89 zki_1 ?_
      refine zg_iadd dX9_runsOf_90 ?_
      refine zg_goto (tgt := 95) dX9_runsOf_91 (by decide) ?_
      exact hj
  refine zg_istore (ls' := [(0, .ref 39), (1, .int v1), (2, .int v2), (3, .int v3), (4, .int v4), (5, .int (if s0 = 0 then (1 : Int32) else (v5 + (1 : Int32)))), (6, .int v6), (7, .int s0)]) dX9_runsOf_95 (Nat.le_of_ble_eq_true rfl) rfl ?_
  refine zg_iload_n 2 dX9_runsOf_97 rfl rfl ?_
  refine zg_iload 7 dX9_runsOf_98 rfl ?_
  suffices hj : zJ ztops RX9 cX9_runsOf 8 (zBm ztops 3 (some .int) (some (.int r1)) Mr) 0 0 108 [(0, .ref 39), (1, .int v1), (2, .int v2), (3, .int v3), (4, .int v4), (5, .int (if s0 = 0 then (1 : Int32) else (v5 + (1 : Int32)))), (6, .int v6), (7, .int s0)] [.int (if s0 = 0 then (1 : Int32) else (0 : Int32)), .int v2] M by
    refine zg_if_ne (tgt := 107) dX9_runsOf_100 (by decide) (fun hc => ?_) (fun hc => ?_)
    · rw [show (if s0 = 0 then (1 : Int32) else (0 : Int32)) = (0 : Int32) from if_neg hc] at hj
      refine zg_iconst dX9_runsOf_107 zki_0 ?_
      exact hj
    · rw [show (if s0 = 0 then (1 : Int32) else (0 : Int32)) = (1 : Int32) from if_pos hc] at hj
      refine zg_iconst dX9_runsOf_103 zki_1 ?_
      refine zg_goto (tgt := 108) dX9_runsOf_104 (by decide) ?_
      exact hj
  obtain ⟨x1, hx1, h⟩ := z_bind h
  refine zg_callS (st := [.int v2]) (k_X9_flag hx1) zY_X9_flag ls_X9_116 rfl (zfit_m (by decide) (by decide)) (Nat.le_of_ble_eq_true rfl) dX9_runsOf_108 rfl ?_
  refine zg_iadd dX9_runsOf_111 ?_
  refine zg_istore_n (ls' := [(0, .ref 39), (1, .int v1), (2, .int (v2 + x1)), (3, .int v3), (4, .int v4), (5, .int (if s0 = 0 then (1 : Int32) else (v5 + (1 : Int32)))), (6, .int v6), (7, .int s0)]) dX9_runsOf_112 rfl (Nat.le_of_ble_eq_true rfl) rfl ?_
  refine zg_aload_n 0 dX9_runsOf_113 rfl rfl ?_
  refine zg_aload_n 0 dX9_runsOf_114 rfl rfl ?_
  refine zg_geti fl_X9_404 zt_39 rfl dX9_runsOf_115 ?_
  refine zg_iload 5 dX9_runsOf_118 rfl ?_
  refine zo_max ls_X9_258 ⟨Nat.le_of_ble_eq_true rfl, Nat.le_of_ble_eq_true rfl, Nat.le_refl _, Nat.le_refl _⟩ z_iM z_cmax dX9_runsOf_120 ?_
  refine zg_puti fp_X9_404 zt_39 rfl dX9_runsOf_123 ?_
  refine zg_iinc (ls' := [(0, .ref 39), (1, .int v1), (2, .int (v2 + x1)), (3, .int v3), (4, .int v4), (5, .int (if s0 = 0 then (1 : Int32) else (v5 + (1 : Int32)))), (6, .int (v6 + (1 : Int32))), (7, .int s0)]) 6 dX9_runsOf_126 rfl zki_1 (Nat.le_of_ble_eq_true rfl) rfl ?_
  refine zg_goto (tgt := 38) dX9_runsOf_129 (by decide) ?_
  refine zo_sub (ls' := [(0, .ref 39), (1, .int v1), (2, .int (v2 + x1)), (3, .int v3), (4, .int v4), (5, .int (if s0 = 0 then (1 : Int32) else (v5 + (1 : Int32)))), (6, .int (v6 + (1 : Int32)))]) [0, 1, 2, 3, 4, 5, 6] rfl ?_
  exact hk38 _ _ _ _ _ _ _ h
set_option maxRecDepth 20000 in
set_option maxHeartbeats 4000000 in
theorem g9_runsOf_38 {r1 : Int32} {Mr : zM} {k132 : Int32 → Int32 → Int32 → zM → Option (Int32 × zM)} (hk132 : ∀ (v1 : Int32) (v2 : Int32) (v3 : Int32) (M : zM), k132 v1 v2 v3 M = some (r1, Mr) → zJ ztops RX9 cX9_runsOf 8 (zBm ztops 3 (some .int) (some (.int r1)) Mr) 0 0 132 [(0, .ref 39), (1, .int v1), (2, .int v2), (3, .int v3)] [] M) : ∀ (n : Nat) (v1 : Int32) (v2 : Int32) (v3 : Int32) (v4 : Int32) (v5 : Int32) (v6 : Int32) (M : zM), f9_runsOf_38 k132 n v1 v2 v3 v4 v5 v6 M = some (r1, Mr) → zJ ztops RX9 cX9_runsOf 8 (zBm ztops 3 (some .int) (some (.int r1)) Mr) 0 0 38 [(0, .ref 39), (1, .int v1), (2, .int v2), (3, .int v3), (4, .int v4), (5, .int v5), (6, .int v6)] [] M := by
  intro n
  induction n with
  | zero => intro v1 v2 v3 v4 v5 v6 M h; cases h
  | succ n ih =>
    intro v1 v2 v3 v4 v5 v6 M h
    rw [f9_runsOf_38] at h
    refine zg_iload 6 dX9_runsOf_38 rfl ?_
    refine zg_aload_n 0 dX9_runsOf_40 rfl rfl ?_
    refine zo_getr 41 1 rfl fl_X9_24 zt_39 rfl dX9_runsOf_41 ?_
    refine zg_iload_n 1 dX9_runsOf_44 rfl rfl ?_
    obtain ⟨x1, hx1, h⟩ := z_bind h
    refine zg_callS (st := [.int v6]) (k_X9_cellsOf zt_41 hx1) zY_X9_cellsOf ls_X9_124 rfl (zfit_m (by decide) (by decide)) (Nat.le_of_ble_eq_true rfl) dX9_runsOf_45 rfl ?_
    refine zg_icmp_ge (tgt := 132) dX9_runsOf_48 (by decide) (fun hc => ?_) (fun hc => ?_)
    · replace h := (if_pos hc).symm.trans h
      refine zo_sub (ls' := [(0, .ref 39), (1, .int v1), (2, .int v2), (3, .int v3)]) [0, 1, 2, 3] rfl ?_
      exact hk132 _ _ _ _ h
    · replace h := (if_neg hc).symm.trans h
      refine zg_iload 6 dX9_runsOf_51 rfl ?_
      refine zg_if_le (tgt := 79) dX9_runsOf_53 (by decide) (fun hc => ?_) (fun hc => ?_)
      · replace h := (if_pos hc).symm.trans h
        refine zg_iconst dX9_runsOf_79 zki_0 ?_
        exact g9_runsOf_80 (fun u0 u1 u2 u3 u4 u5 u6 h => ih u0 u1 u2 u3 u4 u5 u6 h) _ _ _ _ _ _ _ _ h
      · replace h := (if_neg hc).symm.trans h
        refine zg_iload 4 dX9_runsOf_56 rfl ?_
        refine zg_iload 6 dX9_runsOf_58 rfl ?_
        obtain ⟨x2, hx2, h⟩ := z_bind h
        refine zg_callS (st := []) (k_X9_has hx2) zY_X9_has ls_X9_112 rfl (zfit_m (by decide) (by decide)) (Nat.le_of_ble_eq_true rfl) dX9_runsOf_60 rfl ?_
        refine zg_iload 4 dX9_runsOf_63 rfl ?_
        refine zg_iload 6 dX9_runsOf_65 rfl ?_
        refine zg_iconst dX9_runsOf_67 zki_1 ?_
        refine zg_isub dX9_runsOf_68 ?_
        obtain ⟨x3, hx3, h⟩ := z_bind h
        refine zg_callS (st := [.int x2]) (k_X9_has hx3) zY_X9_has ls_X9_112 rfl (zfit_m (by decide) (by decide)) (Nat.le_of_ble_eq_true rfl) dX9_runsOf_69 rfl ?_
        suffices hj : zJ ztops RX9 cX9_runsOf 8 (zBm ztops 3 (some .int) (some (.int r1)) Mr) 0 0 80 [(0, .ref 39), (1, .int v1), (2, .int v2), (3, .int v3), (4, .int v4), (5, .int v5), (6, .int v6)] [.int (if x2 = x3 then (1 : Int32) else (0 : Int32))] M by
          refine zg_icmp_ne (tgt := 79) dX9_runsOf_72 (by decide) (fun hc => ?_) (fun hc => ?_)
          · rw [show (if x2 = x3 then (1 : Int32) else (0 : Int32)) = (0 : Int32) from if_neg hc] at hj
            refine zg_iconst dX9_runsOf_79 zki_0 ?_
            exact hj
          · rw [show (if x2 = x3 then (1 : Int32) else (0 : Int32)) = (1 : Int32) from if_pos hc] at hj
            refine zg_iconst dX9_runsOf_75 zki_1 ?_
            refine zg_goto (tgt := 80) dX9_runsOf_76 (by decide) ?_
            exact hj
        exact g9_runsOf_80 (fun u0 u1 u2 u3 u4 u5 u6 h => ih u0 u1 u2 u3 u4 u5 u6 h) _ _ _ _ _ _ _ _ h
set_option maxRecDepth 20000 in
set_option maxHeartbeats 4000000 in
theorem g9_runsOf_132 {r1 : Int32} {Mr : zM} {k9 : Int32 → Int32 → Int32 → zM → Option (Int32 × zM)} (hk9 : ∀ (v1 : Int32) (v2 : Int32) (v3 : Int32) (M : zM), k9 v1 v2 v3 M = some (r1, Mr) → zJ ztops RX9 cX9_runsOf 8 (zBm ztops 3 (some .int) (some (.int r1)) Mr) 0 0 9 [(0, .ref 39), (1, .int v1), (2, .int v2), (3, .int v3)] [] M) : ∀ (v1 : Int32) (v2 : Int32) (v3 : Int32) (M : zM), f9_runsOf_132 k9 v1 v2 v3 M = some (r1, Mr) → zJ ztops RX9 cX9_runsOf 8 (zBm ztops 3 (some .int) (some (.int r1)) Mr) 0 0 132 [(0, .ref 39), (1, .int v1), (2, .int v2), (3, .int v3)] [] M := by
  intro v1 v2 v3 M h
  rw [f9_runsOf_132] at h
  refine zg_iinc (ls' := [(0, .ref 39), (1, .int v1), (2, .int v2), (3, .int (v3 + (1 : Int32)))]) 3 dX9_runsOf_132 rfl zki_1 (Nat.le_of_ble_eq_true rfl) rfl ?_
  refine zg_goto (tgt := 9) dX9_runsOf_135 (by decide) ?_
  exact hk9 _ _ _ _ h
set_option maxRecDepth 20000 in
set_option maxHeartbeats 4000000 in
theorem g9_runsOf_9 {r1 : Int32} {Mr : zM} : ∀ (n : Nat) (v1 : Int32) (v2 : Int32) (v3 : Int32) (M : zM), f9_runsOf_9 n v1 v2 v3 M = some (r1, Mr) → zJ ztops RX9 cX9_runsOf 8 (zBm ztops 3 (some .int) (some (.int r1)) Mr) 0 0 9 [(0, .ref 39), (1, .int v1), (2, .int v2), (3, .int v3)] [] M := by
  intro n
  induction n with
  | zero => intro v1 v2 v3 M h; cases h
  | succ n ih =>
    intro v1 v2 v3 M h
    rw [f9_runsOf_9] at h
    refine zg_iload_n 3 dX9_runsOf_9 rfl rfl ?_
    refine zg_aload_n 0 dX9_runsOf_10 rfl rfl ?_
    refine zo_getr 41 1 rfl fl_X9_24 zt_39 rfl dX9_runsOf_11 ?_
    refine zg_iload_n 1 dX9_runsOf_14 rfl rfl ?_
    obtain ⟨x1, hx1, h⟩ := z_bind h
    refine zg_callS (st := [.int v3]) (k_X9_manyOf zt_41 hx1) zY_X9_manyOf ls_X9_108 rfl (zfit_m (by decide) (by decide)) (Nat.le_of_ble_eq_true rfl) dX9_runsOf_15 rfl ?_
    refine zg_icmp_ge (tgt := 138) dX9_runsOf_18 (by decide) (fun hc => ?_) (fun hc => ?_)
    · replace h := (if_pos hc).symm.trans h
      refine zg_iload_n 2 dX9_runsOf_138 rfl rfl ?_
      obtain ⟨rfl, rfl⟩ := z_ret2 h
      exact zg_iret dX9_runsOf_139
    · replace h := (if_neg hc).symm.trans h
      refine zg_aload_n 0 dX9_runsOf_21 rfl rfl ?_
      refine zo_getr 41 1 rfl fl_X9_24 zt_39 rfl dX9_runsOf_22 ?_
      refine zg_iload_n 1 dX9_runsOf_25 rfl rfl ?_
      refine zg_iload_n 3 dX9_runsOf_26 rfl rfl ?_
      obtain ⟨x2, hx2, h⟩ := z_bind h
      refine zg_callS (st := []) (k_X9_bitsOf zt_41 hx2) zY_X9_bitsOf ls_X9_120 rfl (zfit_m (by decide) (by decide)) (Nat.le_of_ble_eq_true rfl) dX9_runsOf_27 rfl ?_
      refine zg_istore (ls' := [(0, .ref 39), (1, .int v1), (2, .int v2), (3, .int v3), (4, .int x2)]) dX9_runsOf_30 (Nat.le_of_ble_eq_true rfl) rfl ?_
      refine zg_iconst dX9_runsOf_32 zki_0 ?_
      refine zg_istore (ls' := [(0, .ref 39), (1, .int v1), (2, .int v2), (3, .int v3), (4, .int x2), (5, .int (0 : Int32))]) dX9_runsOf_33 (Nat.le_of_ble_eq_true rfl) rfl ?_
      refine zg_iconst dX9_runsOf_35 zki_0 ?_
      refine zg_istore (ls' := [(0, .ref 39), (1, .int v1), (2, .int v2), (3, .int v3), (4, .int x2), (5, .int (0 : Int32)), (6, .int (0 : Int32))]) dX9_runsOf_36 (Nat.le_of_ble_eq_true rfl) rfl ?_
      exact g9_runsOf_38 (fun u0 u1 u2 u3 h => g9_runsOf_132 (fun u0 u1 u2 u3 h => ih u0 u1 u2 u3 h) u0 u1 u2 u3 h) zfuel _ _ _ _ _ _ _ h
set_option maxRecDepth 20000 in
set_option maxHeartbeats 4000000 in
theorem k_X9_runsOf {v1 : Int32} {M : zM} {r1 : Int32} {Mr : zM} (h : f9_runsOf v1 M = some (r1, Mr)) : zK ztops yX9_runsOf cX9_runsOf 8 (some .int) 3 [.ref 39, .int v1] M (some (.int r1)) Mr := by
  refine zK_of pl_X9 (Nat.le_of_ble_eq_true rfl) ?_
  show zJ ztops RX9 cX9_runsOf 8 _ 0 0 0 [(0, .ref 39), (1, .int v1)] [] M
  rw [f9_runsOf] at h
  refine zg_iconst dX9_runsOf_0 zki_0 ?_
  refine zg_istore_n (ls' := [(0, .ref 39), (1, .int v1), (2, .int (0 : Int32))]) dX9_runsOf_1 rfl (Nat.le_of_ble_eq_true rfl) rfl ?_
  refine zg_aload_n 0 dX9_runsOf_2 rfl rfl ?_
  refine zg_iconst dX9_runsOf_3 zki_0 ?_
  refine zg_puti fp_X9_404 zt_39 rfl dX9_runsOf_4 ?_
  refine zg_iconst dX9_runsOf_7 zki_0 ?_
  refine zg_istore_n (ls' := [(0, .ref 39), (1, .int v1), (2, .int (0 : Int32)), (3, .int (0 : Int32))]) dX9_runsOf_8 rfl (Nat.le_of_ble_eq_true rfl) rfl ?_
  exact g9_runsOf_9 zfuel _ _ _ _ h
set_option maxRecDepth 20000 in
set_option maxHeartbeats 4000000 in
theorem k_X9_runs {M : zM} {r1 : Int32} {Mr : zM} (h : f9_runs M = some (r1, Mr)) : zK ztops yX9_runs cX9_runs 2 (some .int) 4 [.ref 39] M (some (.int r1)) Mr := by
  refine zK_of pl_X9 (Nat.le_of_ble_eq_true rfl) ?_
  show zJ ztops RX9 cX9_runs 2 _ 0 0 0 [(0, .ref 39)] [] M
  rw [f9_runs] at h
  refine zg_aload_n 0 dX9_runs_0 rfl rfl ?_
  refine zg_iconst dX9_runs_1 zki_0 ?_
  refine zg_puti fp_X9_3 zt_39 rfl dX9_runs_2 ?_
  refine zg_aload_n 0 dX9_runs_5 rfl rfl ?_
  refine zg_iconst dX9_runs_6 zki_0 ?_
  obtain ⟨p1, hp1, h⟩ := z_bind h
  refine zg_callV (st := []) (k_X9_runsOf hp1) zY_X9_runsOf lv_X9_407 rfl zt_39 rfl (zfit_m (by decide) (by decide)) (Nat.le_of_ble_eq_true rfl) dX9_runs_7 rfl ?_
  refine zg_istore_n (ls' := [(0, .ref 39), (1, .int p1.1)]) dX9_runs_10 rfl (Nat.le_of_ble_eq_true rfl) rfl ?_
  refine zg_aload_n 0 dX9_runs_11 rfl rfl ?_
  refine zg_iconst dX9_runs_12 zki_0 ?_
  refine zg_puti fp_X9_15 zt_39 rfl dX9_runs_13 ?_
  refine zg_aload_n 0 dX9_runs_16 rfl rfl ?_
  refine zg_aload_n 0 dX9_runs_17 rfl rfl ?_
  refine zg_geti fl_X9_404 zt_39 rfl dX9_runs_18 ?_
  refine zg_i2l dX9_runs_21 ?_
  obtain ⟨M2, hM2, h⟩ := z_bind h
  refine zg_callV (st := []) (k_X9_enters hM2) zY_X9_enters lv_X9_311 rfl zt_39 rfl (zfit_m (by decide) (by decide)) (Nat.le_of_ble_eq_true rfl) dX9_runs_22 rfl ?_
  refine zg_aload_n 0 dX9_runs_25 rfl rfl ?_
  refine zg_aload_n 0 dX9_runs_26 rfl rfl ?_
  refine zg_iconst dX9_runs_27 zki_1 ?_
  obtain ⟨p3, hp3, h⟩ := z_bind h
  refine zg_callV (st := [.ref 39]) (k_X9_runsOf hp3) zY_X9_runsOf lv_X9_407 rfl zt_39 rfl (zfit_m (by decide) (by decide)) (Nat.le_of_ble_eq_true rfl) dX9_runs_28 rfl ?_
  refine zg_i2l dX9_runs_31 ?_
  obtain ⟨M4, hM4, h⟩ := z_bind h
  refine zg_callV (st := []) (k_X9_enters hM4) zY_X9_enters lv_X9_311 rfl zt_39 rfl (zfit_m (by decide) (by decide)) (Nat.le_of_ble_eq_true rfl) dX9_runs_32 rfl ?_
  refine zg_aload_n 0 dX9_runs_35 rfl rfl ?_
  refine zg_aload_n 0 dX9_runs_36 rfl rfl ?_
  refine zg_geti fl_X9_404 zt_39 rfl dX9_runs_37 ?_
  refine zg_i2l dX9_runs_40 ?_
  obtain ⟨M5, hM5, h⟩ := z_bind h
  refine zg_callV (st := []) (k_X9_enters hM5) zY_X9_enters lv_X9_311 rfl zt_39 rfl (zfit_m (by decide) (by decide)) (Nat.le_of_ble_eq_true rfl) dX9_runs_41 rfl ?_
  refine zg_iload_n 1 dX9_runs_44 rfl rfl ?_
  obtain ⟨rfl, rfl⟩ := z_ret2 h
  exact zg_iret dX9_runs_45
set_option maxRecDepth 20000 in
set_option maxHeartbeats 4000000 in
theorem g9_twins_120 {r1 : Int32} {Mr : zM} {k24 : Int32 → Int32 → Int32 → zM → Option (Int32 × zM)} (hk24 : ∀ (v1 : Int32) (v2 : Int32) (v3 : Int32) (M : zM), k24 v1 v2 v3 M = some (r1, Mr) → zJ ztops RX9 cX9_twins 5 (zBm ztops 3 (some .int) (some (.int r1)) Mr) 0 0 24 [(0, .ref 39), (1, .int v1), (2, .int v2), (3, .int v3)] [] M) : ∀ (v1 : Int32) (v2 : Int32) (v3 : Int32) (v4 : Int32) (M : zM), f9_twins_120 k24 v1 v2 v3 v4 M = some (r1, Mr) → zJ ztops RX9 cX9_twins 5 (zBm ztops 3 (some .int) (some (.int r1)) Mr) 0 0 120 [(0, .ref 39), (1, .int v1), (2, .int v2), (3, .int v3), (4, .int v4)] [] M := by
  intro v1 v2 v3 v4 M h
  rw [f9_twins_120] at h
  refine zg_iload_n 1 dX9_twins_120 rfl rfl ?_
  refine zg_iload 4 dX9_twins_121 rfl ?_
  obtain ⟨x1, hx1, h⟩ := z_bind h
  refine zg_callS (st := [.int v1]) (k_X9_flag hx1) zY_X9_flag ls_X9_116 rfl (zfit_m (by decide) (by decide)) (Nat.le_of_ble_eq_true rfl) dX9_twins_123 rfl ?_
  refine zg_iadd dX9_twins_126 ?_
  refine zg_istore_n (ls' := [(0, .ref 39), (1, .int (v1 + x1)), (2, .int v2), (3, .int v3), (4, .int v4)]) dX9_twins_127 rfl (Nat.le_of_ble_eq_true rfl) rfl ?_
  refine zg_iinc (ls' := [(0, .ref 39), (1, .int (v1 + x1)), (2, .int v2), (3, .int (v3 + (1 : Int32))), (4, .int v4)]) 3 dX9_twins_128 rfl zki_1 (Nat.le_of_ble_eq_true rfl) rfl ?_
  refine zg_goto (tgt := 24) dX9_twins_131 (by decide) ?_
  refine zo_sub (ls' := [(0, .ref 39), (1, .int (v1 + x1)), (2, .int v2), (3, .int (v3 + (1 : Int32)))]) [0, 1, 2, 3] rfl ?_
  exact hk24 _ _ _ _ h
set_option maxRecDepth 20000 in
set_option maxHeartbeats 4000000 in
theorem g9_twins_97 {r1 : Int32} {Mr : zM} {k24 : Int32 → Int32 → Int32 → zM → Option (Int32 × zM)} (hk24 : ∀ (v1 : Int32) (v2 : Int32) (v3 : Int32) (M : zM), k24 v1 v2 v3 M = some (r1, Mr) → zJ ztops RX9 cX9_twins 5 (zBm ztops 3 (some .int) (some (.int r1)) Mr) 0 0 24 [(0, .ref 39), (1, .int v1), (2, .int v2), (3, .int v3)] [] M) : ∀ (v1 : Int32) (v2 : Int32) (v3 : Int32) (s0 : Int32) (M : zM), f9_twins_97 k24 v1 v2 v3 s0 M = some (r1, Mr) → zJ ztops RX9 cX9_twins 5 (zBm ztops 3 (some .int) (some (.int r1)) Mr) 0 0 97 [(0, .ref 39), (1, .int v1), (2, .int v2), (3, .int v3)] [.int s0] M := by
  intro v1 v2 v3 s0 M h
  rw [f9_twins_97] at h
  refine zg_istore (ls' := [(0, .ref 39), (1, .int v1), (2, .int v2), (3, .int v3), (4, .int s0)]) dX9_twins_97 (Nat.le_of_ble_eq_true rfl) rfl ?_
  refine zg_iload 4 dX9_twins_99 rfl ?_
  refine zg_if_eq (tgt := 120) dX9_twins_101 (by decide) (fun hc => ?_) (fun hc => ?_)
  · replace h := (if_pos hc).symm.trans h
    exact g9_twins_120 hk24 _ _ _ _ _ h
  · replace h := (if_neg hc).symm.trans h
    refine zg_iload_n 1 dX9_twins_104 rfl rfl ?_
    refine zg_if_ne (tgt := 120) dX9_twins_105 (by decide) (fun hc => ?_) (fun hc => ?_)
    · replace h := (if_neg hc).symm.trans h
      exact g9_twins_120 hk24 _ _ _ _ _ h
    · replace h := (if_pos hc).symm.trans h
      refine zg_aload_n 0 dX9_twins_108 rfl rfl ?_
      refine zg_iload_n 2 dX9_twins_109 rfl rfl ?_
      refine zg_i2l dX9_twins_110 ?_
      obtain ⟨M1, hM1, h⟩ := z_bind h
      refine zg_callV (st := []) (k_X9_enters hM1) zY_X9_enters lv_X9_311 rfl zt_39 rfl (zfit_m (by decide) (by decide)) (Nat.le_of_ble_eq_true rfl) dX9_twins_111 rfl ?_
      refine zg_aload_n 0 dX9_twins_114 rfl rfl ?_
      refine zg_iload_n 3 dX9_twins_115 rfl rfl ?_
      refine zg_i2l dX9_twins_116 ?_
      obtain ⟨M2, hM2, h⟩ := z_bind h
      refine zg_callV (st := []) (k_X9_enters hM2) zY_X9_enters lv_X9_311 rfl zt_39 rfl (zfit_m (by decide) (by decide)) (Nat.le_of_ble_eq_true rfl) dX9_twins_117 rfl ?_
      exact g9_twins_120 hk24 _ _ _ _ _ h
set_option maxRecDepth 20000 in
set_option maxHeartbeats 4000000 in
theorem g9_twins_24 {r1 : Int32} {Mr : zM} {k134 : Int32 → Int32 → zM → Option (Int32 × zM)} (hk134 : ∀ (v1 : Int32) (v2 : Int32) (M : zM), k134 v1 v2 M = some (r1, Mr) → zJ ztops RX9 cX9_twins 5 (zBm ztops 3 (some .int) (some (.int r1)) Mr) 0 0 134 [(0, .ref 39), (1, .int v1), (2, .int v2)] [] M) : ∀ (n : Nat) (v1 : Int32) (v2 : Int32) (v3 : Int32) (M : zM), f9_twins_24 k134 n v1 v2 v3 M = some (r1, Mr) → zJ ztops RX9 cX9_twins 5 (zBm ztops 3 (some .int) (some (.int r1)) Mr) 0 0 24 [(0, .ref 39), (1, .int v1), (2, .int v2), (3, .int v3)] [] M := by
  intro n
  induction n with
  | zero => intro v1 v2 v3 M h; cases h
  | succ n ih =>
    intro v1 v2 v3 M h
    rw [f9_twins_24] at h
    refine zg_iload_n 3 dX9_twins_24 rfl rfl ?_
    refine zg_bipush dX9_twins_25 zkb_12 ?_
    refine zg_icmp_ge (tgt := 134) dX9_twins_27 (by decide) (fun hc => ?_) (fun hc => ?_)
    · replace h := (if_pos hc).symm.trans h
      refine zo_sub (ls' := [(0, .ref 39), (1, .int v1), (2, .int v2)]) [0, 1, 2] rfl ?_
      exact hk134 _ _ _ h
    · replace h := (if_neg hc).symm.trans h
      refine zg_iload_n 2 dX9_twins_30 rfl rfl ?_
      refine zg_bipush dX9_twins_31 zkb_6 ?_
      refine zg_idiv (by decide) dX9_twins_33 ?_
      refine zg_iload_n 3 dX9_twins_34 rfl rfl ?_
      refine zg_bipush dX9_twins_35 zkb_6 ?_
      refine zg_idiv (by decide) dX9_twins_37 ?_
      refine zg_icmp_ne (tgt := 96) dX9_twins_38 (by decide) (fun hc => ?_) (fun hc => ?_)
      · replace h := (if_neg hc).symm.trans h
        refine zg_iconst dX9_twins_96 zki_0 ?_
        exact g9_twins_97 (fun u0 u1 u2 u3 h => ih u0 u1 u2 u3 h) _ _ _ _ _ h
      · replace h := (if_pos hc).symm.trans h
        refine zg_aload_n 0 dX9_twins_41 rfl rfl ?_
        refine zo_getr 41 1 rfl fl_X9_24 zt_39 rfl dX9_twins_42 ?_
        refine zg_iload_n 3 dX9_twins_45 rfl rfl ?_
        refine zg_bipush dX9_twins_46 zkb_6 ?_
        refine zg_idiv (by decide) dX9_twins_48 ?_
        refine zg_iload_n 3 dX9_twins_49 rfl rfl ?_
        refine zg_bipush dX9_twins_50 zkb_6 ?_
        refine zg_irem (by decide) dX9_twins_52 ?_
        obtain ⟨x1, hx1, h⟩ := z_bind h
        refine zg_callS (st := []) (k_X9_isThread zt_41 hx1) zY_X9_isThread ls_X9_262 rfl (zfit_m (by decide) (by decide)) (Nat.le_of_ble_eq_true rfl) dX9_twins_53 rfl ?_
        refine zg_if_eq (tgt := 96) dX9_twins_56 (by decide) (fun hc => ?_) (fun hc => ?_)
        · replace h := (if_pos hc).symm.trans h
          refine zg_iconst dX9_twins_96 zki_0 ?_
          exact g9_twins_97 (fun u0 u1 u2 u3 h => ih u0 u1 u2 u3 h) _ _ _ _ _ h
        · replace h := (if_neg hc).symm.trans h
          refine zg_aload_n 0 dX9_twins_59 rfl rfl ?_
          refine zo_getr 41 1 rfl fl_X9_24 zt_39 rfl dX9_twins_60 ?_
          refine zg_iload_n 2 dX9_twins_63 rfl rfl ?_
          refine zg_bipush dX9_twins_64 zkb_6 ?_
          refine zg_idiv (by decide) dX9_twins_66 ?_
          refine zg_iload_n 2 dX9_twins_67 rfl rfl ?_
          refine zg_bipush dX9_twins_68 zkb_6 ?_
          refine zg_irem (by decide) dX9_twins_70 ?_
          obtain ⟨x2, hx2, h⟩ := z_bind h
          refine zg_callS (st := []) (k_X9_bitsOf zt_41 hx2) zY_X9_bitsOf ls_X9_120 rfl (zfit_m (by decide) (by decide)) (Nat.le_of_ble_eq_true rfl) dX9_twins_71 rfl ?_
          refine zg_aload_n 0 dX9_twins_74 rfl rfl ?_
          refine zo_getr 41 1 rfl fl_X9_24 zt_39 rfl dX9_twins_75 ?_
          refine zg_iload_n 3 dX9_twins_78 rfl rfl ?_
          refine zg_bipush dX9_twins_79 zkb_6 ?_
          refine zg_idiv (by decide) dX9_twins_81 ?_
          refine zg_iload_n 3 dX9_twins_82 rfl rfl ?_
          refine zg_bipush dX9_twins_83 zkb_6 ?_
          refine zg_irem (by decide) dX9_twins_85 ?_
          obtain ⟨x3, hx3, h⟩ := z_bind h
          refine zg_callS (st := [.int x2]) (k_X9_bitsOf zt_41 hx3) zY_X9_bitsOf ls_X9_120 rfl (zfit_m (by decide) (by decide)) (Nat.le_of_ble_eq_true rfl) dX9_twins_86 rfl ?_
          suffices hj : zJ ztops RX9 cX9_twins 5 (zBm ztops 3 (some .int) (some (.int r1)) Mr) 0 0 97 [(0, .ref 39), (1, .int v1), (2, .int v2), (3, .int v3)] [.int (if x2 = x3 then (1 : Int32) else (0 : Int32))] M by
            refine zg_icmp_ne (tgt := 96) dX9_twins_89 (by decide) (fun hc => ?_) (fun hc => ?_)
            · rw [show (if x2 = x3 then (1 : Int32) else (0 : Int32)) = (0 : Int32) from if_neg hc] at hj
              refine zg_iconst dX9_twins_96 zki_0 ?_
              exact hj
            · rw [show (if x2 = x3 then (1 : Int32) else (0 : Int32)) = (1 : Int32) from if_pos hc] at hj
              refine zg_iconst dX9_twins_92 zki_1 ?_
              refine zg_goto (tgt := 97) dX9_twins_93 (by decide) ?_
              exact hj
          exact g9_twins_97 (fun u0 u1 u2 u3 h => ih u0 u1 u2 u3 h) _ _ _ _ _ h
set_option maxRecDepth 20000 in
set_option maxHeartbeats 4000000 in
theorem g9_twins_134 {r1 : Int32} {Mr : zM} {k14 : Int32 → Int32 → zM → Option (Int32 × zM)} (hk14 : ∀ (v1 : Int32) (v2 : Int32) (M : zM), k14 v1 v2 M = some (r1, Mr) → zJ ztops RX9 cX9_twins 5 (zBm ztops 3 (some .int) (some (.int r1)) Mr) 0 0 14 [(0, .ref 39), (1, .int v1), (2, .int v2)] [] M) : ∀ (v1 : Int32) (v2 : Int32) (M : zM), f9_twins_134 k14 v1 v2 M = some (r1, Mr) → zJ ztops RX9 cX9_twins 5 (zBm ztops 3 (some .int) (some (.int r1)) Mr) 0 0 134 [(0, .ref 39), (1, .int v1), (2, .int v2)] [] M := by
  intro v1 v2 M h
  rw [f9_twins_134] at h
  refine zg_iinc (ls' := [(0, .ref 39), (1, .int v1), (2, .int (v2 + (1 : Int32)))]) 2 dX9_twins_134 rfl zki_1 (Nat.le_of_ble_eq_true rfl) rfl ?_
  refine zg_goto (tgt := 14) dX9_twins_137 (by decide) ?_
  exact hk14 _ _ _ h
set_option maxRecDepth 20000 in
set_option maxHeartbeats 4000000 in
theorem g9_twins_14 {r1 : Int32} {Mr : zM} : ∀ (n : Nat) (v1 : Int32) (v2 : Int32) (M : zM), f9_twins_14 n v1 v2 M = some (r1, Mr) → zJ ztops RX9 cX9_twins 5 (zBm ztops 3 (some .int) (some (.int r1)) Mr) 0 0 14 [(0, .ref 39), (1, .int v1), (2, .int v2)] [] M := by
  intro n
  induction n with
  | zero => intro v1 v2 M h; cases h
  | succ n ih =>
    intro v1 v2 M h
    rw [f9_twins_14] at h
    refine zg_iload_n 2 dX9_twins_14 rfl rfl ?_
    refine zg_bipush dX9_twins_15 zkb_12 ?_
    refine zg_icmp_ge (tgt := 140) dX9_twins_17 (by decide) (fun hc => ?_) (fun hc => ?_)
    · replace h := (if_pos hc).symm.trans h
      refine zg_iload_n 1 dX9_twins_140 rfl rfl ?_
      obtain ⟨rfl, rfl⟩ := z_ret2 h
      exact zg_iret dX9_twins_141
    · replace h := (if_neg hc).symm.trans h
      refine zg_iload_n 2 dX9_twins_20 rfl rfl ?_
      refine zg_iconst dX9_twins_21 zki_1 ?_
      refine zg_iadd dX9_twins_22 ?_
      refine zg_istore_n (ls' := [(0, .ref 39), (1, .int v1), (2, .int v2), (3, .int (v2 + (1 : Int32)))]) dX9_twins_23 rfl (Nat.le_of_ble_eq_true rfl) rfl ?_
      exact g9_twins_24 (fun u0 u1 u2 h => g9_twins_134 (fun u0 u1 u2 h => ih u0 u1 u2 h) u0 u1 u2 h) zfuel _ _ _ _ h
set_option maxRecDepth 20000 in
set_option maxHeartbeats 4000000 in
theorem k_X9_twins {M : zM} {r1 : Int32} {Mr : zM} (h : f9_twins M = some (r1, Mr)) : zK ztops yX9_twins cX9_twins 5 (some .int) 3 [.ref 39] M (some (.int r1)) Mr := by
  refine zK_of pl_X9 (Nat.le_of_ble_eq_true rfl) ?_
  show zJ ztops RX9 cX9_twins 5 _ 0 0 0 [(0, .ref 39)] [] M
  rw [f9_twins] at h
  refine zg_aload_n 0 dX9_twins_0 rfl rfl ?_
  refine zg_iconst dX9_twins_1 zki_0 ?_
  refine zg_puti fp_X9_3 zt_39 rfl dX9_twins_2 ?_
  refine zg_iconst dX9_twins_5 zki_0 ?_
  refine zg_istore_n (ls' := [(0, .ref 39), (1, .int (0 : Int32))]) dX9_twins_6 rfl (Nat.le_of_ble_eq_true rfl) rfl ?_
  refine zg_aload_n 0 dX9_twins_7 rfl rfl ?_
  refine zg_iconst dX9_twins_8 zki_0 ?_
  refine zg_puti fp_X9_15 zt_39 rfl dX9_twins_9 ?_
  refine zg_iconst dX9_twins_12 zki_0 ?_
  refine zg_istore_n (ls' := [(0, .ref 39), (1, .int (0 : Int32)), (2, .int (0 : Int32))]) dX9_twins_13 rfl (Nat.le_of_ble_eq_true rfl) rfl ?_
  exact g9_twins_14 zfuel _ _ _ h
