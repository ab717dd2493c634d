set_option maxRecDepth 20000 in
set_option maxHeartbeats 4000000 in
theorem g9_outlasts_119 {r1 : Int32} {Mr : zM} {k58 : Int32 → Int32 → Int32 → Int32 → Int32 → zM → Option (Int32 × zM)} (hk58 : ∀ (v1 : Int32) (v2 : Int32) (v3 : Int32) (v4 : Int32) (v5 : Int32) (M : zM), k58 v1 v2 v3 v4 v5 M = some (r1, Mr) → zJ ztops RX9 cX9_outlasts 6 (zBm ztops 4 (some .int) (some (.int r1)) Mr) 0 0 58 [(0, .ref 39), (1, .int v1), (2, .int v2), (3, .int v3), (4, .int v4), (5, .int v5)] [] M) : ∀ (v1 : Int32) (v2 : Int32) (v4 : Int32) (v5 : Int32) (s0 : Int32) (M : zM), f9_outlasts_119 k58 v1 v2 v4 v5 s0 M = some (r1, Mr) → zJ ztops RX9 cX9_outlasts 6 (zBm ztops 4 (some .int) (some (.int r1)) Mr) 0 0 119 [(0, .ref 39), (1, .int v1), (2, .int v2), (4, .int v4), (5, .int v5)] [.int s0] M := by
  intro v1 v2 v4 v5 s0 M h
  rw [f9_outlasts_119] at h
  refine zg_istore_n (ls' := [(0, .ref 39), (1, .int v1), (2, .int v2), (3, .int s0), (4, .int v4), (5, .int v5)]) dX9_outlasts_119 rfl (Nat.le_of_ble_eq_true rfl) rfl ?_
  refine zg_iinc (ls' := [(0, .ref 39), (1, .int v1), (2, .int v2), (3, .int s0), (4, .int v4), (5, .int (v5 + (1 : Int32)))]) 5 dX9_outlasts_120 rfl zki_1 (Nat.le_of_ble_eq_true rfl) rfl ?_
  refine zg_goto (tgt := 58) dX9_outlasts_123 (by decide) ?_
  exact hk58 _ _ _ _ _ _ h
set_option maxRecDepth 20000 in
set_option maxHeartbeats 4000000 in
theorem g9_outlasts_58 {r1 : Int32} {Mr : zM} {k126 : Int32 → Int32 → Int32 → Int32 → zM → Option (Int32 × zM)} (hk126 : ∀ (v1 : Int32) (v2 : Int32) (v3 : Int32) (v4 : Int32) (M : zM), k126 v1 v2 v3 v4 M = some (r1, Mr) → zJ ztops RX9 cX9_outlasts 6 (zBm ztops 4 (some .int) (some (.int r1)) Mr) 0 0 126 [(0, .ref 39), (1, .int v1), (2, .int v2), (3, .int v3), (4, .int v4)] [] M) : ∀ (n : Nat) (v1 : Int32) (v2 : Int32) (v3 : Int32) (v4 : Int32) (v5 : Int32) (M : zM), f9_outlasts_58 k126 n v1 v2 v3 v4 v5 M = some (r1, Mr) → zJ ztops RX9 cX9_outlasts 6 (zBm ztops 4 (some .int) (some (.int r1)) Mr) 0 0 58 [(0, .ref 39), (1, .int v1), (2, .int v2), (3, .int v3), (4, .int v4), (5, .int v5)] [] M := by
  intro n
  induction n with
  | zero => intro v1 v2 v3 v4 v5 M h; cases h
  | succ n ih =>
    intro v1 v2 v3 v4 v5 M h
    rw [f9_outlasts_58] at h
    refine zg_iload 5 dX9_outlasts_58 rfl ?_
    refine zg_iload 4 dX9_outlasts_60 rfl ?_
    refine zg_icmp_ge (tgt := 126) dX9_outlasts_62 (by decide) (fun hc => ?_) (fun hc => ?_)
    · replace h := (if_pos hc).symm.trans h
      refine zo_sub (ls' := [(0, .ref 39), (1, .int v1), (2, .int v2), (3, .int v3), (4, .int v4)]) [0, 1, 2, 3, 4] rfl ?_
      exact hk126 _ _ _ _ _ h
    · replace h := (if_neg hc).symm.trans h
      refine zg_iload_n 3 dX9_outlasts_65 rfl rfl ?_
      refine zg_if_eq (tgt := 126) dX9_outlasts_66 (by decide) (fun hc => ?_) (fun hc => ?_)
      · replace h := (if_pos hc).symm.trans h
        refine zo_sub (ls' := [(0, .ref 39), (1, .int v1), (2, .int v2), (3, .int v3), (4, .int v4)]) [0, 1, 2, 3, 4] rfl ?_
        exact hk126 _ _ _ _ _ h
      · replace h := (if_neg hc).symm.trans h
        refine zg_iload_n 2 dX9_outlasts_69 rfl rfl ?_
        refine zg_iload 4 dX9_outlasts_70 rfl ?_
        obtain ⟨x1, hx1, h⟩ := z_bind h
        refine zg_callS (st := []) (k_X9_has hx1) zY_X9_has ls_X9_112 rfl (zfit_m (by decide) (by decide)) (Nat.le_of_ble_eq_true rfl) dX9_outlasts_72 rfl ?_
        refine zg_if_eq (tgt := 114) dX9_outlasts_75 (by decide) (fun hc => ?_) (fun hc => ?_)
        · replace h := (if_pos hc).symm.trans h
          refine zg_iconst dX9_outlasts_114 zki_1 ?_
          refine zg_goto (tgt := 119) dX9_outlasts_115 (by decide) ?_
          refine zo_sub (ls' := [(0, .ref 39), (1, .int v1), (2, .int v2), (4, .int v4), (5, .int v5)]) [0, 1, 2, 4, 5] rfl ?_
          exact g9_outlasts_119 (fun u0 u1 u2 u3 u4 u5 h => ih u0 u1 u2 u3 u4 u5 h) _ _ _ _ _ _ h
        · replace h := (if_neg hc).symm.trans h
          refine zg_iload_n 2 dX9_outlasts_78 rfl rfl ?_
          refine zg_iload 5 dX9_outlasts_79 rfl ?_
          obtain ⟨x2, hx2, h⟩ := z_bind h
          refine zg_callS (st := []) (k_X9_has hx2) zY_X9_has ls_X9_112 rfl (zfit_m (by decide) (by decide)) (Nat.le_of_ble_eq_true rfl) dX9_outlasts_81 rfl ?_
          refine zg_if_eq (tgt := 114) dX9_outlasts_84 (by decide) (fun hc => ?_) (fun hc => ?_)
          · replace h := (if_pos hc).symm.trans h
            refine zg_iconst dX9_outlasts_114 zki_1 ?_
            refine zg_goto (tgt := 119) dX9_outlasts_115 (by decide) ?_
            refine zo_sub (ls' := [(0, .ref 39), (1, .int v1), (2, .int v2), (4, .int v4), (5, .int v5)]) [0, 1, 2, 4, 5] rfl ?_
            exact g9_outlasts_119 (fun u0 u1 u2 u3 u4 u5 h => ih u0 u1 u2 u3 u4 u5 h) _ _ _ _ _ _ h
          · replace h := (if_neg hc).symm.trans h
            refine zg_aload_n 0 dX9_outlasts_87 rfl rfl ?_
            refine zo_getr 41 1 rfl fl_X9_24 zt_39 rfl dX9_outlasts_88 ?_
            refine zg_iload 4 dX9_outlasts_91 rfl ?_
            obtain ⟨x3, hx3, h⟩ := z_bind h
            refine zo_iald zt_41 hx3 dX9_outlasts_93 ?_
            refine zg_aload_n 0 dX9_outlasts_94 rfl rfl ?_
            refine zo_getr 41 1 rfl fl_X9_24 zt_39 rfl dX9_outlasts_95 ?_
            refine zg_iload 5 dX9_outlasts_98 rfl ?_
            obtain ⟨x4, hx4, h⟩ := z_bind h
            refine zo_iald zt_41 hx4 dX9_outlasts_100 ?_
            refine zg_aload_n 0 dX9_outlasts_101 rfl rfl ?_
            refine zo_getr 41 1 rfl fl_X9_24 zt_39 rfl dX9_outlasts_102 ?_
            refine zg_bipush dX9_outlasts_105 zkb_7 ?_
            refine zo_ialdc 7 zt_41 (by decide) rfl dX9_outlasts_107 ?_
            obtain ⟨x5, hx5, h⟩ := z_bind h
            refine zg_callS (st := []) (k_X9_canBeAlike hx5) zY_X9_canBeAlike ls_X9_382 rfl (zfit_m (by decide) (by decide)) (Nat.le_of_ble_eq_true rfl) dX9_outlasts_108 rfl ?_
            suffices hj : zJ ztops RX9 cX9_outlasts 6 (zBm ztops 4 (some .int) (some (.int r1)) Mr) 0 0 119 [(0, .ref 39), (1, .int v1), (2, .int v2), (3, .int v3), (4, .int v4), (5, .int v5)] [.int (if x5 = 0 then (1 : Int32) else (0 : Int32))] M by
              refine zg_if_ne (tgt := 118) dX9_outlasts_111 (by decide) (fun hc => ?_) (fun hc => ?_)
              · rw [show (if x5 = 0 then (1 : Int32) else (0 : Int32)) = (0 : Int32) from if_neg hc] at hj
                refine zg_iconst dX9_outlasts_118 zki_0 ?_
                exact hj
              · rw [show (if x5 = 0 then (1 : Int32) else (0 : Int32)) = (1 : Int32) from if_pos hc] at hj
                refine zg_iconst dX9_outlasts_114 zki_1 ?_
                refine zg_goto (tgt := 119) dX9_outlasts_115 (by decide) ?_
                exact hj
            refine zo_sub (ls' := [(0, .ref 39), (1, .int v1), (2, .int v2), (4, .int v4), (5, .int v5)]) [0, 1, 2, 4, 5] rfl ?_
            exact g9_outlasts_119 (fun u0 u1 u2 u3 u4 u5 h => ih u0 u1 u2 u3 u4 u5 h) _ _ _ _ _ _ h
set_option maxRecDepth 20000 in
set_option maxHeartbeats 4000000 in
theorem g9_outlasts_126 {r1 : Int32} {Mr : zM} {k43 : Int32 → Int32 → Int32 → Int32 → zM → Option (Int32 × zM)} (hk43 : ∀ (v1 : Int32) (v2 : Int32) (v3 : Int32) (v4 : Int32) (M : zM), k43 v1 v2 v3 v4 M = some (r1, Mr) → zJ ztops RX9 cX9_outlasts 6 (zBm ztops 4 (some .int) (some (.int r1)) Mr) 0 0 43 [(0, .ref 39), (1, .int v1), (2, .int v2), (3, .int v3), (4, .int v4)] [] M) : ∀ (v1 : Int32) (v2 : Int32) (v3 : Int32) (v4 : Int32) (M : zM), f9_outlasts_126 k43 v1 v2 v3 v4 M = some (r1, Mr) → zJ ztops RX9 cX9_outlasts 6 (zBm ztops 4 (some .int) (some (.int r1)) Mr) 0 0 126 [(0, .ref 39), (1, .int v1), (2, .int v2), (3, .int v3), (4, .int v4)] [] M := by
  intro v1 v2 v3 v4 M h
  rw [f9_outlasts_126] at h
  refine zg_iinc (ls' := [(0, .ref 39), (1, .int v1), (2, .int v2), (3, .int v3), (4, .int (v4 + (1 : Int32)))]) 4 dX9_outlasts_126 rfl zki_1 (Nat.le_of_ble_eq_true rfl) rfl ?_
  refine zg_goto (tgt := 43) dX9_outlasts_129 (by decide) ?_
  exact hk43 _ _ _ _ _ h
set_option maxRecDepth 20000 in
set_option maxHeartbeats 4000000 in
theorem g9_outlasts_43 {r1 : Int32} {Mr : zM} {k132 : Int32 → Int32 → Int32 → zM → Option (Int32 × zM)} (hk132 : ∀ (v1 : Int32) (v2 : Int32) (v3 : Int32) (M : zM), k132 v1 v2 v3 M = some (r1, Mr) → zJ ztops RX9 cX9_outlasts 6 (zBm ztops 4 (some .int) (some (.int r1)) Mr) 0 0 132 [(0, .ref 39), (1, .int v1), (2, .int v2), (3, .int v3)] [] M) : ∀ (n : Nat) (v1 : Int32) (v2 : Int32) (v3 : Int32) (v4 : Int32) (M : zM), f9_outlasts_43 k132 n v1 v2 v3 v4 M = some (r1, Mr) → zJ ztops RX9 cX9_outlasts 6 (zBm ztops 4 (some .int) (some (.int r1)) Mr) 0 0 43 [(0, .ref 39), (1, .int v1), (2, .int v2), (3, .int v3), (4, .int v4)] [] M := by
  intro n
  induction n with
  | zero => intro v1 v2 v3 v4 M h; cases h
  | succ n ih =>
    intro v1 v2 v3 v4 M h
    rw [f9_outlasts_43] at h
    refine zg_iload 4 dX9_outlasts_43 rfl ?_
    refine zg_aload_n 0 dX9_outlasts_45 rfl rfl ?_
    refine zo_getr 41 1 rfl fl_X9_24 zt_39 rfl dX9_outlasts_46 ?_
    refine zg_bipush dX9_outlasts_49 zkb_6 ?_
    refine zo_ialdc 6 zt_41 (by decide) rfl dX9_outlasts_51 ?_
    refine zg_icmp_ge (tgt := 132) dX9_outlasts_52 (by decide) (fun hc => ?_) (fun hc => ?_)
    · replace h := (if_pos hc).symm.trans h
      refine zo_sub (ls' := [(0, .ref 39), (1, .int v1), (2, .int v2), (3, .int v3)]) [0, 1, 2, 3] rfl ?_
      exact hk132 _ _ _ _ h
    · replace h := (if_neg hc).symm.trans h
      refine zg_iconst dX9_outlasts_55 zki_0 ?_
      refine zg_istore (ls' := [(0, .ref 39), (1, .int v1), (2, .int v2), (3, .int v3), (4, .int v4), (5, .int (0 : Int32))]) dX9_outlasts_56 (Nat.le_of_ble_eq_true rfl) rfl ?_
      exact g9_outlasts_58 (fun u0 u1 u2 u3 u4 h => g9_outlasts_126 (fun u0 u1 u2 u3 u4 h => ih u0 u1 u2 u3 u4 h) u0 u1 u2 u3 u4 h) zfuel _ _ _ _ _ _ h
set_option maxRecDepth 20000 in
set_option maxHeartbeats 4000000 in
theorem g9_outlasts_132 {r1 : Int32} {Mr : zM} {k9 : Int32 → Int32 → zM → Option (Int32 × zM)} (hk9 : ∀ (v1 : Int32) (v2 : Int32) (M : zM), k9 v1 v2 M = some (r1, Mr) → zJ ztops RX9 cX9_outlasts 6 (zBm ztops 4 (some .int) (some (.int r1)) Mr) 0 0 9 [(0, .ref 39), (1, .int v1), (2, .int v2)] [] M) : ∀ (v1 : Int32) (v2 : Int32) (v3 : Int32) (M : zM), f9_outlasts_132 k9 v1 v2 v3 M = some (r1, Mr) → zJ ztops RX9 cX9_outlasts 6 (zBm ztops 4 (some .int) (some (.int r1)) Mr) 0 0 132 [(0, .ref 39), (1, .int v1), (2, .int v2), (3, .int v3)] [] M := by
  intro v1 v2 v3 M h
  rw [f9_outlasts_132] at h
  refine zg_iload_n 3 dX9_outlasts_132 rfl rfl ?_
  suffices hj : zJ ztops RX9 cX9_outlasts 6 (zBm ztops 4 (some .int) (some (.int r1)) Mr) 0 0 141 [(0, .ref 39), (1, .int v1), (2, .int v2), (3, .int v3)] [.int (if v3 = 0 then v1 else v2)] M by
    refine zg_if_eq (tgt := 140) dX9_outlasts_133 (by decide) (fun hc => ?_) (fun hc => ?_)
    · rw [show (if v3 = 0 then v1 else v2) = v1 from if_pos hc] at hj
      refine zg_iload_n 1 dX9_outlasts_140 rfl rfl ?_
      exact hj
    · rw [show (if v3 = 0 then v1 else v2) = v2 from if_neg hc] at hj
      refine zg_iload_n 2 dX9_outlasts_136 rfl rfl ?_
      refine zg_goto (tgt := 141) dX9_outlasts_137 (by decide) ?_
      exact hj
  refine zg_istore_n (ls' := [(0, .ref 39), (1, .int (if v3 = 0 then v1 else v2)), (2, .int v2), (3, .int v3)]) dX9_outlasts_141 rfl (Nat.le_of_ble_eq_true rfl) rfl ?_
  refine zg_iinc (ls' := [(0, .ref 39), (1, .int (if v3 = 0 then v1 else v2)), (2, .int (v2 + (1 : Int32))), (3, .int v3)]) 2 dX9_outlasts_142 rfl zki_1 (Nat.le_of_ble_eq_true rfl) rfl ?_
  refine zg_goto (tgt := 9) dX9_outlasts_145 (by decide) ?_
  refine zo_sub (ls' := [(0, .ref 39), (1, .int (if v3 = 0 then v1 else v2)), (2, .int (v2 + (1 : Int32)))]) [0, 1, 2] rfl ?_
  exact hk9 _ _ _ h
set_option maxRecDepth 20000 in
set_option maxHeartbeats 4000000 in
theorem g9_outlasts_9 {r1 : Int32} {Mr : zM} : ∀ (n : Nat) (v1 : Int32) (v2 : Int32) (M : zM), f9_outlasts_9 n v1 v2 M = some (r1, Mr) → zJ ztops RX9 cX9_outlasts 6 (zBm ztops 4 (some .int) (some (.int r1)) Mr) 0 0 9 [(0, .ref 39), (1, .int v1), (2, .int v2)] [] M := by
  intro n
  induction n with
  | zero => intro v1 v2 M h; cases h
  | succ n ih =>
    intro v1 v2 M h
    rw [f9_outlasts_9] at h
    refine zg_iload_n 2 dX9_outlasts_9 rfl rfl ?_
    refine zg_aload_n 0 dX9_outlasts_10 rfl rfl ?_
    refine zo_getr 41 1 rfl fl_X9_24 zt_39 rfl dX9_outlasts_11 ?_
    refine zg_bipush dX9_outlasts_14 zkb_6 ?_
    refine zo_ialdc 6 zt_41 (by decide) rfl dX9_outlasts_16 ?_
    obtain ⟨x1, hx1, h⟩ := z_bind h
    refine zg_callS (st := [.int v2]) (k_X9_full hx1) zY_X9_full ls_X9_127 rfl (zfit_m (by decide) (by decide)) (Nat.le_of_ble_eq_true rfl) dX9_outlasts_17 rfl ?_
    refine zg_icmp_gt (tgt := 148) dX9_outlasts_20 (by decide) (fun hc => ?_) (fun hc => ?_)
    · replace h := (if_pos hc).symm.trans h
      refine zg_aload_n 0 dX9_outlasts_148 rfl rfl ?_
      refine zg_iconst dX9_outlasts_149 zki_0 ?_
      refine zg_puti fp_X9_15 zt_39 rfl dX9_outlasts_150 ?_
      refine zg_aload_n 0 dX9_outlasts_153 rfl rfl ?_
      refine zg_iload_n 1 dX9_outlasts_154 rfl rfl ?_
      refine zg_i2l dX9_outlasts_155 ?_
      obtain ⟨M2, hM2, h⟩ := z_bind h
      refine zg_callV (st := []) (k_X9_enters hM2) zY_X9_enters lv_X9_311 rfl zt_39 rfl (zfit_m (by decide) (by decide)) (Nat.le_of_ble_eq_true rfl) dX9_outlasts_156 rfl ?_
      refine zg_iload_n 1 dX9_outlasts_159 rfl rfl ?_
      obtain ⟨x3, hx3, h⟩ := z_bind h
      refine zg_callS (st := []) (k_J6_bitCount_0f7a4 hx3) zY_J6_bitCount_0f7a4 ls_X9_131 rfl (zfit_m (by decide) (by decide)) (Nat.le_of_ble_eq_true rfl) dX9_outlasts_160 rfl ?_
      obtain ⟨rfl, rfl⟩ := z_ret2 h
      exact zg_iret dX9_outlasts_163
    · replace h := (if_neg hc).symm.trans h
      refine zg_iload_n 2 dX9_outlasts_23 rfl rfl ?_
      obtain ⟨x2, hx2, h⟩ := z_bind h
      refine zg_callS (st := []) (k_J6_bitCount_0f7a4 hx2) zY_J6_bitCount_0f7a4 ls_X9_131 rfl (zfit_m (by decide) (by decide)) (Nat.le_of_ble_eq_true rfl) dX9_outlasts_24 rfl ?_
      refine zg_iload_n 1 dX9_outlasts_27 rfl rfl ?_
      obtain ⟨x3, hx3, h⟩ := z_bind h
      refine zg_callS (st := [.int x2]) (k_J6_bitCount_0f7a4 hx3) zY_J6_bitCount_0f7a4 ls_X9_131 rfl (zfit_m (by decide) (by decide)) (Nat.le_of_ble_eq_true rfl) dX9_outlasts_28 rfl ?_
      suffices hj : zJ ztops RX9 cX9_outlasts 6 (zBm ztops 4 (some .int) (some (.int r1)) Mr) 0 0 39 [(0, .ref 39), (1, .int v1), (2, .int v2)] [.int (if x2 ≤ x3 then (0 : Int32) else (1 : Int32))] M by
        refine zg_icmp_le (tgt := 38) dX9_outlasts_31 (by decide) (fun hc => ?_) (fun hc => ?_)
        · rw [show (if x2 ≤ x3 then (0 : Int32) else (1 : Int32)) = (0 : Int32) from if_pos hc] at hj
          refine zg_iconst dX9_outlasts_38 zki_0 ?_
          exact hj
        · rw [show (if x2 ≤ x3 then (0 : Int32) else (1 : Int32)) = (1 : Int32) from if_neg hc] at hj
          refine zg_iconst dX9_outlasts_34 zki_1 ?_
          refine zg_goto (tgt := 39) dX9_outlasts_35 (by decide) ?_
          exact hj
      refine zg_istore_n (ls' := [(0, .ref 39), (1, .int v1), (2, .int v2), (3, .int (if x2 ≤ x3 then (0 : Int32) else (1 : Int32)))]) dX9_outlasts_39 rfl (Nat.le_of_ble_eq_true rfl) rfl ?_
      refine zg_iconst dX9_outlasts_40 zki_0 ?_
      refine zg_istore (ls' := [(0, .ref 39), (1, .int v1), (2, .int v2), (3, .int (if x2 ≤ x3 then (0 : Int32) else (1 : Int32))), (4, .int (0 : Int32))]) dX9_outlasts_41 (Nat.le_of_ble_eq_true rfl) rfl ?_
      exact g9_outlasts_43 (fun u0 u1 u2 u3 h => g9_outlasts_132 (fun u0 u1 u2 h => ih u0 u1 u2 h) u0 u1 u2 u3 h) zfuel _ _ _ _ _ h
set_option maxRecDepth 20000 in
set_option maxHeartbeats 4000000 in
theorem k_X9_outlasts {M : zM} {r1 : Int32} {Mr : zM} (h : f9_outlasts M = some (r1, Mr)) : zK ztops yX9_outlasts cX9_outlasts 6 (some .int) 4 [.ref 39] M (some (.int r1)) Mr := by
  refine zK_of pl_X9 (Nat.le_of_ble_eq_true rfl) ?_
  show zJ ztops RX9 cX9_outlasts 6 _ 0 0 0 [(0, .ref 39)] [] M
  rw [f9_outlasts] at h
  refine zg_aload_n 0 dX9_outlasts_0 rfl rfl ?_
  refine zg_iconst dX9_outlasts_1 zki_0 ?_
  refine zg_puti fp_X9_3 zt_39 rfl dX9_outlasts_2 ?_
  refine zg_iconst dX9_outlasts_5 zki_0 ?_
  refine zg_istore_n (ls' := [(0, .ref 39), (1, .int (0 : Int32))]) dX9_outlasts_6 rfl (Nat.le_of_ble_eq_true rfl) rfl ?_
  refine zg_iconst dX9_outlasts_7 zki_1 ?_
  refine zg_istore_n (ls' := [(0, .ref 39), (1, .int (0 : Int32)), (2, .int (1 : Int32))]) dX9_outlasts_8 rfl (Nat.le_of_ble_eq_true rfl) rfl ?_
  exact g9_outlasts_9 zfuel _ _ _ h
set_option maxRecDepth 20000 in
set_option maxHeartbeats 4000000 in
theorem g9_words_56 {r1 : Int32} {Mr : zM} {k91 : Int32 → Int32 → Int32 → Int32 → Int32 → Int32 → Int32 → zM → Option (Int32 × zM)} (hk91 : ∀ (v1 : Int32) (v2 : Int32) (v3 : Int32) (v4 : Int32) (v5 : Int32) (v6 : Int32) (v7 : Int32) (M : zM), k91 v1 v2 v3 v4 v5 v6 v7 M = some (r1, Mr) → zJ ztops RX9 cX9_words 9 (zBm ztops 2 (some .int) (some (.int r1)) Mr) 0 0 91 [(0, .ref 39), (1, .int v1), (2, .int v2), (3, .int v3), (4, .int v4), (5, .int v5), (6, .int v6), (7, .int v7)] [] M) : ∀ (n : Nat) (v1 : Int32) (v2 : Int32) (v3 : Int32) (v4 : Int32) (v5 : Int32) (v6 : Int32) (v7 : Int32) (v8 : Int32) (M : zM), f9_words_56 k91 n v1 v2 v3 v4 v5 v6 v7 v8 M = some (r1, Mr) → zJ ztops RX9 cX9_words 9 (zBm ztops 2 (some .int) (some (.int r1)) Mr) 0 0 56 [(0, .ref 39), (1, .int v1), (2, .int v2), (3, .int v3), (4, .int v4), (5, .int v5), (6, .int v6), (7, .int v7), (8, .int v8)] [] M := by
  intro n
  induction n with
  | zero => intro v1 v2 v3 v4 v5 v6 v7 v8 M h; cases h
  | succ n ih =>
    intro v1 v2 v3 v4 v5 v6 v7 v8 M h
    rw [f9_words_56] at h
    refine zg_iload 8 dX9_words_56 rfl ?_
    refine zg_iload_n 1 dX9_words_58 rfl rfl ?_
    refine zg_icmp_ge (tgt := 91) dX9_words_59 (by decide) (fun hc => ?_) (fun hc => ?_)
    · replace h := (if_pos hc).symm.trans h
      refine zo_sub (ls' := [(0, .ref 39), (1, .int v1), (2, .int v2), (3, .int v3), (4, .int v4), (5, .int v5), (6, .int v6), (7, .int v7)]) [0, 1, 2, 3, 4, 5, 6, 7] rfl ?_
      exact hk91 _ _ _ _ _ _ _ _ h
    · replace h := (if_neg hc).symm.trans h
      refine zg_iload 7 dX9_words_62 rfl ?_
      refine zg_iload 6 dX9_words_64 rfl ?_
      refine zg_iload 8 dX9_words_66 rfl ?_
      obtain ⟨x1, hx1, h⟩ := z_bind h
      refine zg_callS (st := [.int v7]) (k_X9_has hx1) zY_X9_has ls_X9_112 rfl (zfit_m (by decide) (by decide)) (Nat.le_of_ble_eq_true rfl) dX9_words_68 rfl ?_
      suffices hj : zJ ztops RX9 cX9_words 9 (zBm ztops 2 (some .int) (some (.int r1)) Mr) 0 0 82 [(0, .ref 39), (1, .int v1), (2, .int v2), (3, .int v3), (4, .int v4), (5, .int v5), (6, .int v6), (7, .int v7), (8, .int v8)] [.int (if x1 = 0 then (0 : Int32) else (v8 + (1 : Int32))), .int v7] M by
        refine zg_if_eq (tgt := 81) dX9_words_71 (by decide) (fun hc => ?_) (fun hc => ?_)
        · rw [show (if x1 = 0 then (0 : Int32) else (v8 + (1 : Int32))) = (0 : Int32) from if_pos hc] at hj
          refine zg_iconst dX9_words_81 zki_0 ?_
          exact hj
        · rw [show (if x1 = 0 then (0 : Int32) else (v8 + (1 : Int32))) = (v8 + (1 : Int32)) from if_neg hc] at hj
          refine zg_iload 8 dX9_words_74 rfl ?_
          refine zg_iconst dX9_words_76 zki_1 ?_
          refine zg_iadd dX9_words_77 ?_
          refine zg_goto (tgt := 82) dX9_words_78 (by decide) ?_
          exact hj
      refine zg_iadd dX9_words_82 ?_
      refine zg_istore (ls' := [(0, .ref 39), (1, .int v1), (2, .int v2), (3, .int v3), (4, .int v4), (5, .int v5), (6, .int v6), (7, .int (v7 + (if x1 = 0 then (0 : Int32) else (v8 + (1 : Int32))))), (8, .int v8)]) dX9_words_83 (Nat.le_of_ble_eq_true rfl) rfl ?_
      refine zg_iinc (ls' := [(0, .ref 39), (1, .int v1), (2, .int v2), (3, .int v3), (4, .int v4), (5, .int v5), (6, .int v6), (7, .int (v7 + (if x1 = 0 then (0 : Int32) else (v8 + (1 : Int32))))), (8, .int (v8 + (1 : Int32)))]) 8 dX9_words_85 rfl zki_1 (Nat.le_of_ble_eq_true rfl) rfl ?_
      refine zg_goto (tgt := 56) dX9_words_88 (by decide) ?_
      exact ih _ _ _ _ _ _ _ _ _ h
set_option maxRecDepth 20000 in
set_option maxHeartbeats 4000000 in
theorem g9_words_91 {r1 : Int32} {Mr : zM} {k41 : Int32 → Int32 → Int32 → Int32 → Int32 → Int32 → zM → Option (Int32 × zM)} (hk41 : ∀ (v1 : Int32) (v2 : Int32) (v3 : Int32) (v4 : Int32) (v5 : Int32) (v6 : Int32) (M : zM), k41 v1 v2 v3 v4 v5 v6 M = some (r1, Mr) → zJ ztops RX9 cX9_words 9 (zBm ztops 2 (some .int) (some (.int r1)) Mr) 0 0 41 [(0, .ref 39), (1, .int v1), (2, .int v2), (3, .int v3), (4, .int v4), (5, .int v5), (6, .int v6)] [] M) : ∀ (v1 : Int32) (v2 : Int32) (v3 : Int32) (v4 : Int32) (v5 : Int32) (v6 : Int32) (v7 : Int32) (M : zM), f9_words_91 k41 v1 v2 v3 v4 v5 v6 v7 M = some (r1, Mr) → zJ ztops RX9 cX9_words 9 (zBm ztops 2 (some .int) (some (.int r1)) Mr) 0 0 91 [(0, .ref 39), (1, .int v1), (2, .int v2), (3, .int v3), (4, .int v4), (5, .int v5), (6, .int v6), (7, .int v7)] [] M := by
  intro v1 v2 v3 v4 v5 v6 v7 M h
  rw [f9_words_91] at h
  refine zg_iload 7 dX9_words_91 rfl ?_
  refine zg_iload_n 1 dX9_words_93 rfl rfl ?_
  refine zg_iconst dX9_words_94 zki_1 ?_
  refine zg_iadd dX9_words_95 ?_
  obtain ⟨x1, hx1, h⟩ := z_bind h
  refine zo_irem hx1 dX9_words_96 ?_
  refine zg_iload_n 2 dX9_words_97 rfl rfl ?_
  suffices hj : zJ ztops RX9 cX9_words 9 (zBm ztops 2 (some .int) (some (.int r1)) Mr) 0 0 106 [(0, .ref 39), (1, .int v1), (2, .int v2), (3, .int v3), (4, .int v4), (5, .int v5), (6, .int v6), (7, .int v7)] [.int (if x1 = v2 then (1 : Int32) else (0 : Int32))] M by
    refine zg_icmp_ne (tgt := 105) dX9_words_98 (by decide) (fun hc => ?_) (fun hc => ?_)
    · rw [show (if x1 = v2 then (1 : Int32) else (0 : Int32)) = (0 : Int32) from if_neg hc] at hj
      refine zg_iconst dX9_words_105 zki_0 ?_
      exact hj
    · rw [show (if x1 = v2 then (1 : Int32) else (0 : Int32)) = (1 : Int32) from if_pos hc] at hj
      refine zg_iconst dX9_words_101 zki_1 ?_
      refine zg_goto (tgt := 106) dX9_words_102 (by decide) ?_
      exact hj
  refine zg_istore (ls' := [(0, .ref 39), (1, .int v1), (2, .int v2), (3, .int v3), (4, .int v4), (5, .int v5), (6, .int v6), (7, .int v7), (8, .int (if x1 = v2 then (1 : Int32) else (0 : Int32)))]) dX9_words_106 (Nat.le_of_ble_eq_true rfl) rfl ?_
  refine zg_iload 8 dX9_words_108 rfl ?_
  suffices hj : zJ ztops RX9 cX9_words 9 (zBm ztops 2 (some .int) (some (.int r1)) Mr) 0 0 124 [(0, .ref 39), (1, .int v1), (2, .int v2), (3, .int v3), (4, .int v4), (5, .int v5), (6, .int v6), (7, .int v7), (8, .int (if x1 = v2 then (1 : Int32) else (0 : Int32)))] [.int (if (if x1 = v2 then (1 : Int32) else (0 : Int32)) = 0 then v4 else (if v3 = 0 then v6 else v4))] M by
    refine zg_if_eq (tgt := 122) dX9_words_110 (by decide) (fun hc => ?_) (fun hc => ?_)
    · rw [show (if (if x1 = v2 then (1 : Int32) else (0 : Int32)) = 0 then v4 else (if v3 = 0 then v6 else v4)) = v4 from if_pos hc] at hj
      refine zg_iload 4 dX9_words_122 rfl ?_
      exact hj
    · rw [show (if (if x1 = v2 then (1 : Int32) else (0 : Int32)) = 0 then v4 else (if v3 = 0 then v6 else v4)) = (if v3 = 0 then v6 else v4) from if_neg hc] at hj
      refine zg_iload_n 3 dX9_words_113 rfl rfl ?_
      refine zg_if_ne (tgt := 122) dX9_words_114 (by decide) (fun hc => ?_) (fun hc => ?_)
      · rw [show (if v3 = 0 then v6 else v4) = v4 from if_neg hc] at hj
        refine zg_iload 4 dX9_words_122 rfl ?_
        exact hj
      · rw [show (if v3 = 0 then v6 else v4) = v6 from if_pos hc] at hj
        refine zg_iload 6 dX9_words_117 rfl ?_
        refine zg_goto (tgt := 124) dX9_words_119 (by decide) ?_
        exact hj
  refine zg_istore (ls' := [(0, .ref 39), (1, .int v1), (2, .int v2), (3, .int v3), (4, .int (if (if x1 = v2 then (1 : Int32) else (0 : Int32)) = 0 then v4 else (if v3 = 0 then v6 else v4))), (5, .int v5), (6, .int v6), (7, .int v7), (8, .int (if x1 = v2 then (1 : Int32) else (0 : Int32)))]) dX9_words_124 (Nat.le_of_ble_eq_true rfl) rfl ?_
  refine zg_iload 8 dX9_words_126 rfl ?_
  suffices hj : zJ ztops RX9 cX9_words 9 (zBm ztops 2 (some .int) (some (.int r1)) Mr) 0 0 138 [(0, .ref 39), (1, .int v1), (2, .int v2), (3, .int v3), (4, .int (if (if x1 = v2 then (1 : Int32) else (0 : Int32)) = 0 then v4 else (if v3 = 0 then v6 else v4))), (5, .int v5), (6, .int v6), (7, .int v7), (8, .int (if x1 = v2 then (1 : Int32) else (0 : Int32)))] [.int (if (if x1 = v2 then (1 : Int32) else (0 : Int32)) = 0 then v5 else v6)] M by
    refine zg_if_eq (tgt := 136) dX9_words_128 (by decide) (fun hc => ?_) (fun hc => ?_)
    · rw [show (if (if x1 = v2 then (1 : Int32) else (0 : Int32)) = 0 then v5 else v6) = v5 from if_pos hc] at hj
      refine zg_iload 5 dX9_words_136 rfl ?_
      exact hj
    · rw [show (if (if x1 = v2 then (1 : Int32) else (0 : Int32)) = 0 then v5 else v6) = v6 from if_neg hc] at hj
      refine zg_iload 6 dX9_words_131 rfl ?_
      refine zg_goto (tgt := 138) dX9_words_133 (by decide) ?_
      exact hj
  refine zg_istore (ls' := [(0, .ref 39), (1, .int v1), (2, .int v2), (3, .int v3), (4, .int (if (if x1 = v2 then (1 : Int32) else (0 : Int32)) = 0 then v4 else (if v3 = 0 then v6 else v4))), (5, .int (if (if x1 = v2 then (1 : Int32) else (0 : Int32)) = 0 then v5 else v6)), (6, .int v6), (7, .int v7), (8, .int (if x1 = v2 then (1 : Int32) else (0 : Int32)))]) dX9_words_138 (Nat.le_of_ble_eq_true rfl) rfl ?_
  refine zg_iload_n 3 dX9_words_140 rfl rfl ?_
  refine zg_iload 8 dX9_words_141 rfl ?_
  obtain ⟨x2, hx2, h⟩ := z_bind h
  refine zg_callS (st := [.int v3]) (k_X9_flag hx2) zY_X9_flag ls_X9_116 rfl (zfit_m (by decide) (by decide)) (Nat.le_of_ble_eq_true rfl) dX9_words_143 rfl ?_
  refine zg_iadd dX9_words_146 ?_
  refine zg_istore_n (ls' := [(0, .ref 39), (1, .int v1), (2, .int v2), (3, .int (v3 + x2)), (4, .int (if (if x1 = v2 then (1 : Int32) else (0 : Int32)) = 0 then v4 else (if v3 = 0 then v6 else v4))), (5, .int (if (if x1 = v2 then (1 : Int32) else (0 : Int32)) = 0 then v5 else v6)), (6, .int v6), (7, .int v7), (8, .int (if x1 = v2 then (1 : Int32) else (0 : Int32)))]) dX9_words_147 rfl (Nat.le_of_ble_eq_true rfl) rfl ?_
  refine zg_iinc (ls' := [(0, .ref 39), (1, .int v1), (2, .int v2), (3, .int (v3 + x2)), (4, .int (if (if x1 = v2 then (1 : Int32) else (0 : Int32)) = 0 then v4 else (if v3 = 0 then v6 else v4))), (5, .int (if (if x1 = v2 then (1 : Int32) else (0 : Int32)) = 0 then v5 else v6)), (6, .int (v6 + (1 : Int32))), (7, .int v7), (8, .int (if x1 = v2 then (1 : Int32) else (0 : Int32)))]) 6 dX9_words_148 rfl zki_1 (Nat.le_of_ble_eq_true rfl) rfl ?_
  refine zg_goto (tgt := 41) dX9_words_151 (by decide) ?_
  refine zo_sub (ls' := [(0, .ref 39), (1, .int v1), (2, .int v2), (3, .int (v3 + x2)), (4, .int (if (if x1 = v2 then (1 : Int32) else (0 : Int32)) = 0 then v4 else (if v3 = 0 then v6 else v4))), (5, .int (if (if x1 = v2 then (1 : Int32) else (0 : Int32)) = 0 then v5 else v6)), (6, .int (v6 + (1 : Int32)))]) [0, 1, 2, 3, 4, 5, 6] rfl ?_
  exact hk41 _ _ _ _ _ _ _ h
set_option maxRecDepth 20000 in
set_option maxHeartbeats 4000000 in
theorem g9_words_41 {r1 : Int32} {Mr : zM} : ∀ (n : Nat) (v1 : Int32) (v2 : Int32) (v3 : Int32) (v4 : Int32) (v5 : Int32) (v6 : Int32) (M : zM), f9_words_41 n v1 v2 v3 v4 v5 v6 M = some (r1, Mr) → zJ ztops RX9 cX9_words 9 (zBm ztops 2 (some .int) (some (.int r1)) Mr) 0 0 41 [(0, .ref 39), (1, .int v1), (2, .int v2), (3, .int v3), (4, .int v4), (5, .int v5), (6, .int v6)] [] M := by
  intro n
  induction n with
  | zero => intro v1 v2 v3 v4 v5 v6 M h; cases h
  | succ n ih =>
    intro v1 v2 v3 v4 v5 v6 M h
    rw [f9_words_41] at h
    refine zg_iload 6 dX9_words_41 rfl ?_
    refine zg_iload_n 1 dX9_words_43 rfl rfl ?_
    obtain ⟨x1, hx1, h⟩ := z_bind h
    refine zg_callS (st := [.int v6]) (k_X9_full hx1) zY_X9_full ls_X9_127 rfl (zfit_m (by decide) (by decide)) (Nat.le_of_ble_eq_true rfl) dX9_words_44 rfl ?_
    refine zg_icmp_gt (tgt := 154) dX9_words_47 (by decide) (fun hc => ?_) (fun hc => ?_)
    · replace h := (if_pos hc).symm.trans h
      refine zg_aload_n 0 dX9_words_154 rfl rfl ?_
      refine zg_iconst dX9_words_155 zki_0 ?_
      refine zg_puti fp_X9_15 zt_39 rfl dX9_words_156 ?_
      refine zg_iload_n 3 dX9_words_159 rfl rfl ?_
      refine zg_if_le (tgt := 177) dX9_words_160 (by decide) (fun hc => ?_) (fun hc => ?_)
      · replace h := (if_pos hc).symm.trans h
        refine zg_iload_n 3 dX9_words_177 rfl rfl ?_
        obtain ⟨rfl, rfl⟩ := z_ret2 h
        exact zg_iret dX9_words_178
      · replace h := (if_neg hc).symm.trans h
        refine zg_aload_n 0 dX9_words_163 rfl rfl ?_
        refine zg_iload 4 dX9_words_164 rfl ?_
        refine zg_i2l dX9_words_166 ?_
        obtain ⟨M2, hM2, h⟩ := z_bind h
        refine zg_callV (st := []) (k_X9_enters hM2) zY_X9_enters lv_X9_311 rfl zt_39 rfl (zfit_m (by decide) (by decide)) (Nat.le_of_ble_eq_true rfl) dX9_words_167 rfl ?_
        refine zg_aload_n 0 dX9_words_170 rfl rfl ?_
        refine zg_iload 5 dX9_words_171 rfl ?_
        refine zg_i2l dX9_words_173 ?_
        obtain ⟨M3, hM3, h⟩ := z_bind h
        refine zg_callV (st := []) (k_X9_enters hM3) zY_X9_enters lv_X9_311 rfl zt_39 rfl (zfit_m (by decide) (by decide)) (Nat.le_of_ble_eq_true rfl) dX9_words_174 rfl ?_
        refine zg_iload_n 3 dX9_words_177 rfl rfl ?_
        obtain ⟨rfl, rfl⟩ := z_ret2 h
        exact zg_iret dX9_words_178
    · replace h := (if_neg hc).symm.trans h
      refine zg_iconst dX9_words_50 zki_0 ?_
      refine zg_istore (ls' := [(0, .ref 39), (1, .int v1), (2, .int v2), (3, .int v3), (4, .int v4), (5, .int v5), (6, .int v6), (7, .int (0 : Int32))]) dX9_words_51 (Nat.le_of_ble_eq_true rfl) rfl ?_
      refine zg_iconst dX9_words_53 zki_0 ?_
      refine zg_istore (ls' := [(0, .ref 39), (1, .int v1), (2, .int v2), (3, .int v3), (4, .int v4), (5, .int v5), (6, .int v6), (7, .int (0 : Int32)), (8, .int (0 : Int32))]) dX9_words_54 (Nat.le_of_ble_eq_true rfl) rfl ?_
      exact g9_words_56 (fun u0 u1 u2 u3 u4 u5 u6 u7 h => g9_words_91 (fun u0 u1 u2 u3 u4 u5 u6 h => ih u0 u1 u2 u3 u4 u5 u6 h) u0 u1 u2 u3 u4 u5 u6 u7 h) zfuel _ _ _ _ _ _ _ _ _ h
set_option maxRecDepth 20000 in
set_option maxHeartbeats 4000000 in
theorem k_X9_words {v1 : Int32} {v2 : Int32} {M : zM} {r1 : Int32} {Mr : zM} (h : f9_words v1 v2 M = some (r1, Mr)) : zK ztops yX9_words cX9_words 9 (some .int) 2 [.ref 39, .int v1, .int v2] M (some (.int r1)) Mr := by
  refine zK_of pl_X9 (Nat.le_of_ble_eq_true rfl) ?_
  show zJ ztops RX9 cX9_words 9 _ 0 0 0 [(0, .ref 39), (1, .int v1), (2, .int v2)] [] M
  rw [f9_words] at h
  refine zg_aload_n 0 dX9_words_0 rfl rfl ?_
  refine zg_iconst dX9_words_1 zki_0 ?_
  refine zg_puti fp_X9_3 zt_39 rfl dX9_words_2 ?_
  refine zg_iload_n 1 dX9_words_5 rfl rfl ?_
  refine zg_i2l dX9_words_6 ?_
  refine zg_lconst dX9_words_7 (v := 1) rfl ?_
  refine zg_ldc2 kc_X9_386 dX9_words_8 ?_
  obtain ⟨x1, hx1, h⟩ := z_bind h
  refine zg_callS (st := []) (k_X9_in hx1) zY_X9_in ls_X9_104 rfl (zfit_m (by decide) (by decide)) (Nat.le_of_ble_eq_true rfl) dX9_words_11 rfl ?_
  refine zg_if_eq (tgt := 28) dX9_words_14 (by decide) (fun hc => ?_) (fun hc => ?_)
  · replace h := (if_pos hc).symm.trans h
    refine zg_iconst dX9_words_28 zki_m1 ?_
    obtain ⟨rfl, rfl⟩ := z_ret2 h
    exact zg_iret dX9_words_29
  · replace h := (if_neg hc).symm.trans h
    refine zg_iload_n 2 dX9_words_17 rfl rfl ?_
    refine zg_i2l dX9_words_18 ?_
    refine zg_lconst dX9_words_19 (v := 0) rfl ?_
    refine zg_iload_n 1 dX9_words_20 rfl rfl ?_
    refine zg_i2l dX9_words_21 ?_
    obtain ⟨x2, hx2, h⟩ := z_bind h
    refine zg_callS (st := []) (k_X9_in hx2) zY_X9_in ls_X9_104 rfl (zfit_m (by decide) (by decide)) (Nat.le_of_ble_eq_true rfl) dX9_words_22 rfl ?_
    refine zg_if_ne (tgt := 30) dX9_words_25 (by decide) (fun hc => ?_) (fun hc => ?_)
    · replace h := (if_neg hc).symm.trans h
      refine zg_iconst dX9_words_30 zki_0 ?_
      refine zg_istore_n (ls' := [(0, .ref 39), (1, .int v1), (2, .int v2), (3, .int (0 : Int32))]) dX9_words_31 rfl (Nat.le_of_ble_eq_true rfl) rfl ?_
      refine zg_iconst dX9_words_32 zki_m1 ?_
      refine zg_istore (ls' := [(0, .ref 39), (1, .int v1), (2, .int v2), (3, .int (0 : Int32)), (4, .int (-1 : Int32))]) dX9_words_33 (Nat.le_of_ble_eq_true rfl) rfl ?_
      refine zg_iconst dX9_words_35 zki_m1 ?_
      refine zg_istore (ls' := [(0, .ref 39), (1, .int v1), (2, .int v2), (3, .int (0 : Int32)), (4, .int (-1 : Int32)), (5, .int (-1 : Int32))]) dX9_words_36 (Nat.le_of_ble_eq_true rfl) rfl ?_
      refine zg_iconst dX9_words_38 zki_0 ?_
      refine zg_istore (ls' := [(0, .ref 39), (1, .int v1), (2, .int v2), (3, .int (0 : Int32)), (4, .int (-1 : Int32)), (5, .int (-1 : Int32)), (6, .int (0 : Int32))]) dX9_words_39 (Nat.le_of_ble_eq_true rfl) rfl ?_
      exact g9_words_41 zfuel _ _ _ _ _ _ _ h
    · replace h := (if_pos hc).symm.trans h
      refine zg_iconst dX9_words_28 zki_m1 ?_
      obtain ⟨rfl, rfl⟩ := z_ret2 h
      exact zg_iret dX9_words_29
set_option maxRecDepth 20000 in
set_option maxHeartbeats 4000000 in
theorem g9_loose_56 {r1 : Int32} {Mr : zM} {k9 : Int32 → Int32 → zM → Option (Int32 × zM)} (hk9 : ∀ (v1 : Int32) (v2 : Int32) (M : zM), k9 v1 v2 M = some (r1, Mr) → zJ ztops RX9 cX9_loose 4 (zBm ztops 4 (some .int) (some (.int r1)) Mr) 0 0 9 [(0, .ref 39), (1, .int v1), (2, .int v2)] [] M) : ∀ (v1 : Int32) (v2 : Int32) (s0 : Int32) (M : zM), f9_loose_56 k9 v1 v2 s0 M = some (r1, Mr) → zJ ztops RX9 cX9_loose 4 (zBm ztops 4 (some .int) (some (.int r1)) Mr) 0 0 56 [(0, .ref 39), (1, .int v1), (2, .int v2)] [.int s0] M := by
  intro v1 v2 s0 M h
  rw [f9_loose_56] at h
  refine zg_istore_n (ls' := [(0, .ref 39), (1, .int v1), (2, .int v2), (3, .int s0)]) dX9_loose_56 rfl (Nat.le_of_ble_eq_true rfl) rfl ?_
  refine zg_iload_n 1 dX9_loose_57 rfl rfl ?_
  refine zg_iload_n 3 dX9_loose_58 rfl rfl ?_
  suffices hj : zJ ztops RX9 cX9_loose 4 (zBm ztops 4 (some .int) (some (.int r1)) Mr) 0 0 69 [(0, .ref 39), (1, .int v1), (2, .int v2), (3, .int s0)] [.int (if s0 = 0 then (0 : Int32) else (zshl (1 : Int32) v2)), .int v1] M by
    refine zg_if_eq (tgt := 68) dX9_loose_59 (by decide) (fun hc => ?_) (fun hc => ?_)
    · rw [show (if s0 = 0 then (0 : Int32) else (zshl (1 : Int32) v2)) = (0 : Int32) from if_pos hc] at hj
      refine zg_iconst dX9_loose_68 zki_0 ?_
      exact hj
    · rw [show (if s0 = 0 then (0 : Int32) else (zshl (1 : Int32) v2)) = (zshl (1 : Int32) v2) from if_neg hc] at hj
      refine zg_iconst dX9_loose_62 zki_1 ?_
      refine zg_iload_n 2 dX9_loose_63 rfl rfl ?_
      refine zg_ishl dX9_loose_64 ?_
      refine zg_goto (tgt := 69) dX9_loose_65 (by decide) ?_
      exact hj
  refine zg_ior dX9_loose_69 ?_
  refine zg_istore_n (ls' := [(0, .ref 39), (1, .int (v1 ||| (if s0 = 0 then (0 : Int32) else (zshl (1 : Int32) v2)))), (2, .int v2), (3, .int s0)]) dX9_loose_70 rfl (Nat.le_of_ble_eq_true rfl) rfl ?_
  refine zg_iinc (ls' := [(0, .ref 39), (1, .int (v1 ||| (if s0 = 0 then (0 : Int32) else (zshl (1 : Int32) v2)))), (2, .int (v2 + (1 : Int32))), (3, .int s0)]) 2 dX9_loose_71 rfl zki_1 (Nat.le_of_ble_eq_true rfl) rfl ?_
  refine zg_goto (tgt := 9) dX9_loose_74 (by decide) ?_
  refine zo_sub (ls' := [(0, .ref 39), (1, .int (v1 ||| (if s0 = 0 then (0 : Int32) else (zshl (1 : Int32) v2)))), (2, .int (v2 + (1 : Int32)))]) [0, 1, 2] rfl ?_
  exact hk9 _ _ _ h
set_option maxRecDepth 20000 in
set_option maxHeartbeats 4000000 in
theorem g9_loose_9 {r1 : Int32} {Mr : zM} : ∀ (n : Nat) (v1 : Int32) (v2 : Int32) (M : zM), f9_loose_9 n v1 v2 M = some (r1, Mr) → zJ ztops RX9 cX9_loose 4 (zBm ztops 4 (some .int) (some (.int r1)) Mr) 0 0 9 [(0, .ref 39), (1, .int v1), (2, .int v2)] [] M := by
  intro n
  induction n with
  | zero => intro v1 v2 M h; cases h
  | succ n ih =>
    intro v1 v2 M h
    rw [f9_loose_9] at h
    refine zg_iload_n 2 dX9_loose_9 rfl rfl ?_
    refine zg_bipush dX9_loose_10 zkb_12 ?_
    refine zg_icmp_ge (tgt := 77) dX9_loose_12 (by decide) (fun hc => ?_) (fun hc => ?_)
    · replace h := (if_pos hc).symm.trans h
      refine zg_aload_n 0 dX9_loose_77 rfl rfl ?_
      refine zg_iconst dX9_loose_78 zki_0 ?_
      refine zg_puti fp_X9_15 zt_39 rfl dX9_loose_79 ?_
      refine zg_aload_n 0 dX9_loose_82 rfl rfl ?_
      refine zg_iload_n 1 dX9_loose_83 rfl rfl ?_
      refine zg_bipush dX9_loose_84 zkb_63 ?_
      refine zg_iand dX9_loose_86 ?_
      obtain ⟨x1, hx1, h⟩ := z_bind h
      refine zg_callS (st := [.ref 39]) (k_J6_bitCount_0f7a4 hx1) zY_J6_bitCount_0f7a4 ls_X9_131 rfl (zfit_m (by decide) (by decide)) (Nat.le_of_ble_eq_true rfl) dX9_loose_87 rfl ?_
      refine zg_i2l dX9_loose_90 ?_
      obtain ⟨M2, hM2, h⟩ := z_bind h
      refine zg_callV (st := []) (k_X9_enters hM2) zY_X9_enters lv_X9_311 rfl zt_39 rfl (zfit_m (by decide) (by decide)) (Nat.le_of_ble_eq_true rfl) dX9_loose_91 rfl ?_
      refine zg_aload_n 0 dX9_loose_94 rfl rfl ?_
      refine zg_iload_n 1 dX9_loose_95 rfl rfl ?_
      refine zg_bipush dX9_loose_96 zkb_6 ?_
      refine zg_ishr dX9_loose_98 ?_
      obtain ⟨x3, hx3, h⟩ := z_bind h
      refine zg_callS (st := [.ref 39]) (k_J6_bitCount_0f7a4 hx3) zY_J6_bitCount_0f7a4 ls_X9_131 rfl (zfit_m (by decide) (by decide)) (Nat.le_of_ble_eq_true rfl) dX9_loose_99 rfl ?_
      refine zg_i2l dX9_loose_102 ?_
      obtain ⟨M4, hM4, h⟩ := z_bind h
      refine zg_callV (st := []) (k_X9_enters hM4) zY_X9_enters lv_X9_311 rfl zt_39 rfl (zfit_m (by decide) (by decide)) (Nat.le_of_ble_eq_true rfl) dX9_loose_103 rfl ?_
      refine zg_iload_n 1 dX9_loose_106 rfl rfl ?_
      obtain ⟨rfl, rfl⟩ := z_ret2 h
      exact zg_iret dX9_loose_107
    · replace h := (if_neg hc).symm.trans h
      refine zg_aload_n 0 dX9_loose_15 rfl rfl ?_
      refine zo_getr 41 1 rfl fl_X9_24 zt_39 rfl dX9_loose_16 ?_
      refine zg_iload_n 2 dX9_loose_19 rfl rfl ?_
      refine zg_bipush dX9_loose_20 zkb_6 ?_
      refine zg_idiv (by decide) dX9_loose_22 ?_
      refine zg_iload_n 2 dX9_loose_23 rfl rfl ?_
      refine zg_bipush dX9_loose_24 zkb_6 ?_
      refine zg_irem (by decide) dX9_loose_26 ?_
      obtain ⟨x1, hx1, h⟩ := z_bind h
      refine zg_callS (st := []) (k_X9_isThread zt_41 hx1) zY_X9_isThread ls_X9_262 rfl (zfit_m (by decide) (by decide)) (Nat.le_of_ble_eq_true rfl) dX9_loose_27 rfl ?_
      refine zg_if_eq (tgt := 55) dX9_loose_30 (by decide) (fun hc => ?_) (fun hc => ?_)
      · replace h := (if_pos hc).symm.trans h
        refine zg_iconst dX9_loose_55 zki_0 ?_
        exact g9_loose_56 (fun u0 u1 u2 h => ih u0 u1 u2 h) _ _ _ _ h
      · replace h := (if_neg hc).symm.trans h
        refine zg_aload_n 0 dX9_loose_33 rfl rfl ?_
        refine zo_getr 41 1 rfl fl_X9_24 zt_39 rfl dX9_loose_34 ?_
        refine zg_iload_n 2 dX9_loose_37 rfl rfl ?_
        refine zg_bipush dX9_loose_38 zkb_6 ?_
        refine zg_idiv (by decide) dX9_loose_40 ?_
        refine zg_iload_n 2 dX9_loose_41 rfl rfl ?_
        refine zg_bipush dX9_loose_42 zkb_6 ?_
        refine zg_irem (by decide) dX9_loose_44 ?_
        obtain ⟨x2, hx2, h⟩ := z_bind h
        refine zg_callS (st := []) (k_X9_isLoose zt_41 hx2) zY_X9_isLoose ls_X9_278 rfl (zfit_m (by decide) (by decide)) (Nat.le_of_ble_eq_true rfl) dX9_loose_45 rfl ?_
        suffices hj : zJ ztops RX9 cX9_loose 4 (zBm ztops 4 (some .int) (some (.int r1)) Mr) 0 0 56 [(0, .ref 39), (1, .int v1), (2, .int v2)] [.int (if x2 = 0 then (0 : Int32) else (1 : Int32))] M by
          refine zg_if_eq (tgt := 55) dX9_loose_48 (by decide) (fun hc => ?_) (fun hc => ?_)
          · rw [show (if x2 = 0 then (0 : Int32) else (1 : Int32)) = (0 : Int32) from if_pos hc] at hj
            refine zg_iconst dX9_loose_55 zki_0 ?_
            exact hj
          · rw [show (if x2 = 0 then (0 : Int32) else (1 : Int32)) = (1 : Int32) from if_neg hc] at hj
            refine zg_iconst dX9_loose_51 zki_1 ?_
            refine zg_goto (tgt := 56) dX9_loose_52 (by decide) ?_
            exact hj
        exact g9_loose_56 (fun u0 u1 u2 h => ih u0 u1 u2 h) _ _ _ _ h
set_option maxRecDepth 20000 in
set_option maxHeartbeats 4000000 in
theorem k_X9_loose {M : zM} {r1 : Int32} {Mr : zM} (h : f9_loose M = some (r1, Mr)) : zK ztops yX9_loose cX9_loose 4 (some .int) 4 [.ref 39] M (some (.int r1)) Mr := by
  refine zK_of pl_X9 (Nat.le_of_ble_eq_true rfl) ?_
  show zJ ztops RX9 cX9_loose 4 _ 0 0 0 [(0, .ref 39)] [] M
  rw [f9_loose] at h
  refine zg_aload_n 0 dX9_loose_0 rfl rfl ?_
  refine zg_iconst dX9_loose_1 zki_0 ?_
  refine zg_puti fp_X9_3 zt_39 rfl dX9_loose_2 ?_
  refine zg_iconst dX9_loose_5 zki_0 ?_
  refine zg_istore_n (ls' := [(0, .ref 39), (1, .int (0 : Int32))]) dX9_loose_6 rfl (Nat.le_of_ble_eq_true rfl) rfl ?_
  refine zg_iconst dX9_loose_7 zki_0 ?_
  refine zg_istore_n (ls' := [(0, .ref 39), (1, .int (0 : Int32)), (2, .int (0 : Int32))]) dX9_loose_8 rfl (Nat.le_of_ble_eq_true rfl) rfl ?_
  exact g9_loose_9 zfuel _ _ _ h
set_option maxRecDepth 20000 in
set_option maxHeartbeats 4000000 in
theorem k_X9_isLooseAmong {v1 : Int32} {v2 : Int32} {r1 : Int32} {M : zM} (h : f9_isLooseAmong v1 v2 M = some r1) : zK ztops yX9_isLooseAmong cX9_isLooseAmong 4 (some .boolean) 0 [.ref 39, .int v1, .int v2] M (some (.int r1)) M := by
  refine zK_of pl_X9 (Nat.le_of_ble_eq_true rfl) ?_
  show zJ ztops RX9 cX9_isLooseAmong 4 _ 0 0 0 [(0, .ref 39), (1, .int v1), (2, .int v2)] [] M
  rw [f9_isLooseAmong] at h
  refine zg_iload_n 2 dX9_isLooseAmong_0 rfl rfl ?_
  refine zg_iload_n 1 dX9_isLooseAmong_1 rfl rfl ?_
  refine zg_bipush dX9_isLooseAmong_2 zkb_6 ?_
  suffices hj : zJ ztops RX9 cX9_isLooseAmong 4 (zBm ztops 0 (some .boolean) (some (.int r1)) M) 0 0 15 [(0, .ref 39), (1, .int v1), (2, .int v2)] [.int (if (6 : Int32) ≤ v1 then (63 : Int32) else (4032 : Int32)), .int v2] M by
    refine zg_icmp_ge (tgt := 13) dX9_isLooseAmong_4 (by decide) (fun hc => ?_) (fun hc => ?_)
    · rw [show (if (6 : Int32) ≤ v1 then (63 : Int32) else (4032 : Int32)) = (63 : Int32) from if_pos hc] at hj
      refine zg_bipush dX9_isLooseAmong_13 zkb_63 ?_
      exact hj
    · rw [show (if (6 : Int32) ≤ v1 then (63 : Int32) else (4032 : Int32)) = (4032 : Int32) from if_neg hc] at hj
      refine zg_sipush dX9_isLooseAmong_7 zks_4032 ?_
      refine zg_goto (tgt := 15) dX9_isLooseAmong_10 (by decide) ?_
      exact hj
  refine zg_iand dX9_isLooseAmong_15 ?_
  refine zg_istore_n (ls' := [(0, .ref 39), (1, .int v1), (2, .int v2), (3, .int (v2 &&& (if (6 : Int32) ≤ v1 then (63 : Int32) else (4032 : Int32))))]) dX9_isLooseAmong_16 rfl (Nat.le_of_ble_eq_true rfl) rfl ?_
  refine zg_aload_n 0 dX9_isLooseAmong_17 rfl rfl ?_
  refine zo_getr 54 14 rfl fl_X9_64 zt_39 rfl dX9_isLooseAmong_18 ?_
  refine zg_iload_n 1 dX9_isLooseAmong_21 rfl rfl ?_
  obtain ⟨x1, hx1, h⟩ := z_bind h
  refine zo_iald zt_54 hx1 dX9_isLooseAmong_22 ?_
  refine zg_iload_n 3 dX9_isLooseAmong_23 rfl rfl ?_
  refine zg_iand dX9_isLooseAmong_24 ?_
  refine zg_if_eq (tgt := 40) dX9_isLooseAmong_25 (by decide) (fun hc => ?_) (fun hc => ?_)
  · replace h := (if_pos hc).symm.trans h
    refine zg_iconst dX9_isLooseAmong_40 zki_1 ?_
    refine zg_goto (tgt := 45) dX9_isLooseAmong_41 (by decide) ?_
    obtain rfl := z_ret1 h
    exact zg_zret rfl dX9_isLooseAmong_45
  · replace h := (if_neg hc).symm.trans h
    refine zg_aload_n 0 dX9_isLooseAmong_28 rfl rfl ?_
    refine zo_getr 54 14 rfl fl_X9_64 zt_39 rfl dX9_isLooseAmong_29 ?_
    refine zg_iload_n 1 dX9_isLooseAmong_32 rfl rfl ?_
    obtain ⟨x2, hx2, h⟩ := z_bind h
    refine zo_iald zt_54 hx2 dX9_isLooseAmong_33 ?_
    refine zg_iload_n 3 dX9_isLooseAmong_34 rfl rfl ?_
    refine zg_iand dX9_isLooseAmong_35 ?_
    refine zg_iload_n 3 dX9_isLooseAmong_36 rfl rfl ?_
    suffices hj : zJ ztops RX9 cX9_isLooseAmong 4 (zBm ztops 0 (some .boolean) (some (.int r1)) M) 0 0 45 [(0, .ref 39), (1, .int v1), (2, .int v2), (3, .int (v2 &&& (if (6 : Int32) ≤ v1 then (63 : Int32) else (4032 : Int32))))] [.int (if (x2 &&& (v2 &&& (if (6 : Int32) ≤ v1 then (63 : Int32) else (4032 : Int32)))) = (v2 &&& (if (6 : Int32) ≤ v1 then (63 : Int32) else (4032 : Int32))) then (1 : Int32) else (0 : Int32))] M by
      refine zg_icmp_ne (tgt := 44) dX9_isLooseAmong_37 (by decide) (fun hc => ?_) (fun hc => ?_)
      · rw [show (if (x2 &&& (v2 &&& (if (6 : Int32) ≤ v1 then (63 : Int32) else (4032 : Int32)))) = (v2 &&& (if (6 : Int32) ≤ v1 then (63 : Int32) else (4032 : Int32))) then (1 : Int32) else (0 : Int32)) = (0 : Int32) from if_neg hc] at hj
        refine zg_iconst dX9_isLooseAmong_44 zki_0 ?_
        exact hj
      · rw [show (if (x2 &&& (v2 &&& (if (6 : Int32) ≤ v1 then (63 : Int32) else (4032 : Int32)))) = (v2 &&& (if (6 : Int32) ≤ v1 then (63 : Int32) else (4032 : Int32))) then (1 : Int32) else (0 : Int32)) = (1 : Int32) from if_pos hc] at hj
        refine zg_iconst dX9_isLooseAmong_40 zki_1 ?_
        refine zg_goto (tgt := 45) dX9_isLooseAmong_41 (by decide) ?_
        exact hj
    obtain rfl := z_ret1 h
    exact zg_zret (zn_ite rfl rfl) dX9_isLooseAmong_45
set_option maxRecDepth 20000 in
set_option maxHeartbeats 4000000 in
theorem g9_sheds_97 {r1 : Int32} {Mr : zM} {k56 : Int32 → Int32 → Int32 → Int32 → Int32 → zM → Option (Int32 × zM)} (hk56 : ∀ (v1 : Int32) (v2 : Int32) (v4 : Int32) (v5 : Int32) (v6 : Int32) (M : zM), k56 v1 v2 v4 v5 v6 M = some (r1, Mr) → zJ ztops RX9 cX9_sheds 7 (zBm ztops 3 (some .int) (some (.int r1)) Mr) 0 0 56 [(0, .ref 39), (1, .int v1), (2, .int v2), (4, .int v4), (5, .int v5), (6, .int v6)] [] M) : ∀ (v1 : Int32) (v2 : Int32) (v5 : Int32) (v6 : Int32) (s0 : Int32) (s1 : Int32) (M : zM), f9_sheds_97 k56 v1 v2 v5 v6 s0 s1 M = some (r1, Mr) → zJ ztops RX9 cX9_sheds 7 (zBm ztops 3 (some .int) (some (.int r1)) Mr) 0 0 97 [(0, .ref 39), (1, .int v1), (2, .int v2), (5, .int v5), (6, .int v6)] [.int s1, .int s0] M := by
  intro v1 v2 v5 v6 s0 s1 M h
  rw [f9_sheds_97] at h
  refine zg_ior dX9_sheds_97 ?_
  refine zg_istore (ls' := [(0, .ref 39), (1, .int v1), (2, .int v2), (4, .int (s0 ||| s1)), (5, .int v5), (6, .int v6)]) dX9_sheds_98 (Nat.le_of_ble_eq_true rfl) rfl ?_
  refine zg_iinc (ls' := [(0, .ref 39), (1, .int v1), (2, .int v2), (4, .int (s0 ||| s1)), (5, .int v5), (6, .int (v6 + (1 : Int32)))]) 5 dX9_sheds_100 rfl zki_1 (Nat.le_of_ble_eq_true rfl) rfl ?_
  refine zg_goto (tgt := 56) dX9_sheds_103 (by decide) ?_
  exact hk56 _ _ _ _ _ _ h
set_option maxRecDepth 20000 in
set_option maxHeartbeats 4000000 in
theorem g9_sheds_56 {r1 : Int32} {Mr : zM} {k106 : Int32 → Int32 → Int32 → zM → Option (Int32 × zM)} (hk106 : ∀ (v1 : Int32) (v2 : Int32) (v4 : Int32) (M : zM), k106 v1 v2 v4 M = some (r1, Mr) → zJ ztops RX9 cX9_sheds 7 (zBm ztops 3 (some .int) (some (.int r1)) Mr) 0 0 106 [(0, .ref 39), (1, .int v1), (2, .int v2), (4, .int v4)] [] M) : ∀ (n : Nat) (v1 : Int32) (v2 : Int32) (v4 : Int32) (v5 : Int32) (v6 : Int32) (M : zM), f9_sheds_56 k106 n v1 v2 v4 v5 v6 M = some (r1, Mr) → zJ ztops RX9 cX9_sheds 7 (zBm ztops 3 (some .int) (some (.int r1)) Mr) 0 0 56 [(0, .ref 39), (1, .int v1), (2, .int v2), (4, .int v4), (5, .int v5), (6, .int v6)] [] M := by
  intro n
  induction n with
  | zero => intro v1 v2 v4 v5 v6 M h; cases h
  | succ n ih =>
    intro v1 v2 v4 v5 v6 M h
    rw [f9_sheds_56] at h
    refine zg_iload 5 dX9_sheds_56 rfl ?_
    refine zg_bipush dX9_sheds_58 zkb_12 ?_
    refine zg_icmp_ge (tgt := 106) dX9_sheds_60 (by decide) (fun hc => ?_) (fun hc => ?_)
    · replace h := (if_pos hc).symm.trans h
      refine zo_sub (ls' := [(0, .ref 39), (1, .int v1), (2, .int v2), (4, .int v4)]) [0, 1, 2, 3] rfl ?_
      exact hk106 _ _ _ _ h
    · replace h := (if_neg hc).symm.trans h
      refine zg_iload 4 dX9_sheds_63 rfl ?_
      refine zg_if_eq (tgt := 106) dX9_sheds_65 (by decide) (fun hc => ?_) (fun hc => ?_)
      · replace h := (if_pos hc).symm.trans h
        refine zo_sub (ls' := [(0, .ref 39), (1, .int v1), (2, .int v2), (4, .int v4)]) [0, 1, 2, 3] rfl ?_
        exact hk106 _ _ _ _ h
      · replace h := (if_neg hc).symm.trans h
        refine zg_iload 3 dX9_sheds_68 rfl ?_
        refine zg_iload_n 1 dX9_sheds_70 rfl rfl ?_
        refine zg_iload 5 dX9_sheds_71 rfl ?_
        obtain ⟨x1, hx1, h⟩ := z_bind h
        refine zg_callS (st := [.int v4]) (k_X9_has hx1) zY_X9_has ls_X9_112 rfl (zfit_m (by decide) (by decide)) (Nat.le_of_ble_eq_true rfl) dX9_sheds_73 rfl ?_
        refine zg_if_eq (tgt := 96) dX9_sheds_76 (by decide) (fun hc => ?_) (fun hc => ?_)
        · replace h := (if_pos hc).symm.trans h
          refine zg_iconst dX9_sheds_96 zki_0 ?_
          refine zo_sub (ls' := [(0, .ref 39), (1, .int v1), (2, .int v2), (5, .int v5), (6, .int v6)]) [0, 1, 2, 4, 5] rfl ?_
          exact g9_sheds_97 (fun u0 u1 u2 u3 u4 u5 h => ih u0 u1 u2 u3 u4 u5 h) _ _ _ _ _ _ _ h
        · replace h := (if_neg hc).symm.trans h
          refine zg_aload_n 0 dX9_sheds_79 rfl rfl ?_
          refine zg_iload 5 dX9_sheds_80 rfl ?_
          refine zg_iload_n 1 dX9_sheds_82 rfl rfl ?_
          obtain ⟨x2, hx2, h⟩ := z_bind h
          refine zg_callV (st := [.int v4]) (k_X9_isLooseAmong hx2) zY_X9_isLooseAmong lv_X9_388 rfl zt_39 rfl (zfit_m (by decide) (by decide)) (Nat.le_of_ble_eq_true rfl) dX9_sheds_83 rfl ?_
          suffices hj : zJ ztops RX9 cX9_sheds 7 (zBm ztops 3 (some .int) (some (.int r1)) Mr) 0 0 97 [(0, .ref 39), (1, .int v1), (2, .int v2), (4, .int v4), (5, .int v5), (6, .int v6)] [.int (if x2 = 0 then (0 : Int32) else (zshl (1 : Int32) v6)), .int v4] M by
            refine zg_if_eq (tgt := 96) dX9_sheds_86 (by decide) (fun hc => ?_) (fun hc => ?_)
            · rw [show (if x2 = 0 then (0 : Int32) else (zshl (1 : Int32) v6)) = (0 : Int32) from if_pos hc] at hj
              refine zg_iconst dX9_sheds_96 zki_0 ?_
              exact hj
            · rw [show (if x2 = 0 then (0 : Int32) else (zshl (1 : Int32) v6)) = (zshl (1 : Int32) v6) from if_neg hc] at hj
              refine zg_iconst dX9_sheds_89 zki_1 ?_
              refine zg_iload 5 dX9_sheds_90 rfl ?_
              refine zg_ishl dX9_sheds_92 ?_
              refine zg_goto (tgt := 97) dX9_sheds_93 (by decide) ?_
              exact hj
          refine zo_sub (ls' := [(0, .ref 39), (1, .int v1), (2, .int v2), (5, .int v5), (6, .int v6)]) [0, 1, 2, 4, 5] rfl ?_
          exact g9_sheds_97 (fun u0 u1 u2 u3 u4 u5 h => ih u0 u1 u2 u3 u4 u5 h) _ _ _ _ _ _ _ h
set_option maxRecDepth 20000 in
set_option maxHeartbeats 4000000 in
theorem g9_sheds_106 {r1 : Int32} {Mr : zM} {k25 : Int32 → Int32 → Int32 → zM → Option (Int32 × zM)} (hk25 : ∀ (v1 : Int32) (v2 : Int32) (v3 : Int32) (M : zM), k25 v1 v2 v3 M = some (r1, Mr) → zJ ztops RX9 cX9_sheds 7 (zBm ztops 3 (some .int) (some (.int r1)) Mr) 0 0 25 [(0, .ref 39), (1, .int v1), (2, .int v2), (3, .int v3)] [] M) : ∀ (v1 : Int32) (v2 : Int32) (v4 : Int32) (M : zM), f9_sheds_106 k25 v1 v2 v4 M = some (r1, Mr) → zJ ztops RX9 cX9_sheds 7 (zBm ztops 3 (some .int) (some (.int r1)) Mr) 0 0 106 [(0, .ref 39), (1, .int v1), (2, .int v2), (4, .int v4)] [] M := by
  intro v1 v2 v4 M h
  rw [f9_sheds_106] at h
  refine zg_iload 3 dX9_sheds_106 rfl ?_
  suffices hj : zJ ztops RX9 cX9_sheds 7 (zBm ztops 3 (some .int) (some (.int r1)) Mr) 0 0 116 [(0, .ref 39), (1, .int v1), (2, .int v2), (4, .int v4)] [.int (if v4 = 0 then (0 : Int32) else (1 : Int32))] M by
    refine zg_if_eq (tgt := 115) dX9_sheds_108 (by decide) (fun hc => ?_) (fun hc => ?_)
    · rw [show (if v4 = 0 then (0 : Int32) else (1 : Int32)) = (0 : Int32) from if_pos hc] at hj
      refine zg_iconst dX9_sheds_115 zki_0 ?_
      exact hj
    · rw [show (if v4 = 0 then (0 : Int32) else (1 : Int32)) = (1 : Int32) from if_neg hc] at hj
      refine zg_iconst dX9_sheds_111 zki_1 ?_
      refine zg_goto (tgt := 116) dX9_sheds_112 (by decide) ?_
      exact hj
  refine zg_istore_n (ls' := [(0, .ref 39), (1, .int v1), (2, .int v2), (3, .int (if v4 = 0 then (0 : Int32) else (1 : Int32))), (4, .int v4)]) dX9_sheds_116 rfl (Nat.le_of_ble_eq_true rfl) rfl ?_
  refine zg_iload_n 1 dX9_sheds_117 rfl rfl ?_
  refine zg_iload 4 dX9_sheds_118 rfl ?_
  refine zg_iconst dX9_sheds_120 zki_m1 ?_
  refine zg_ixor dX9_sheds_121 ?_
  refine zg_iand dX9_sheds_122 ?_
  refine zg_istore_n (ls' := [(0, .ref 39), (1, .int (v1 &&& (v4 ^^^ (-1 : Int32)))), (2, .int v2), (3, .int (if v4 = 0 then (0 : Int32) else (1 : Int32))), (4, .int v4)]) dX9_sheds_123 rfl (Nat.le_of_ble_eq_true rfl) rfl ?_
  refine zg_iload_n 2 dX9_sheds_124 rfl rfl ?_
  refine zg_iload_n 3 dX9_sheds_125 rfl rfl ?_
  obtain ⟨x1, hx1, h⟩ := z_bind h
  refine zg_callS (st := [.int v2]) (k_X9_flag hx1) zY_X9_flag ls_X9_116 rfl (zfit_m (by decide) (by decide)) (Nat.le_of_ble_eq_true rfl) dX9_sheds_126 rfl ?_
  refine zg_iadd dX9_sheds_129 ?_
  refine zg_istore_n (ls' := [(0, .ref 39), (1, .int (v1 &&& (v4 ^^^ (-1 : Int32)))), (2, .int (v2 + x1)), (3, .int (if v4 = 0 then (0 : Int32) else (1 : Int32))), (4, .int v4)]) dX9_sheds_130 rfl (Nat.le_of_ble_eq_true rfl) rfl ?_
  refine zg_goto (tgt := 25) dX9_sheds_131 (by decide) ?_
  refine zo_sub (ls' := [(0, .ref 39), (1, .int (v1 &&& (v4 ^^^ (-1 : Int32)))), (2, .int (v2 + x1)), (3, .int (if v4 = 0 then (0 : Int32) else (1 : Int32)))]) [0, 1, 2, 3] rfl ?_
  exact hk25 _ _ _ _ h
set_option maxRecDepth 20000 in
set_option maxHeartbeats 4000000 in
theorem g9_sheds_25 {r1 : Int32} {Mr : zM} : ∀ (n : Nat) (v1 : Int32) (v2 : Int32) (v3 : Int32) (M : zM), f9_sheds_25 n v1 v2 v3 M = some (r1, Mr) → zJ ztops RX9 cX9_sheds 7 (zBm ztops 3 (some .int) (some (.int r1)) Mr) 0 0 25 [(0, .ref 39), (1, .int v1), (2, .int v2), (3, .int v3)] [] M := by
  intro n
  induction n with
  | zero => intro v1 v2 v3 M h; cases h
  | succ n ih =>
    intro v1 v2 v3 M h
    rw [f9_sheds_25] at h
    refine zg_iload_n 3 dX9_sheds_25 rfl rfl ?_
    refine zg_if_eq (tgt := 134) dX9_sheds_26 (by decide) (fun hc => ?_) (fun hc => ?_)
    · replace h := (if_pos hc).symm.trans h
      refine zg_aload_n 0 dX9_sheds_134 rfl rfl ?_
      refine zg_iconst dX9_sheds_135 zki_0 ?_
      refine zg_puti fp_X9_15 zt_39 rfl dX9_sheds_136 ?_
      refine zg_aload_n 0 dX9_sheds_139 rfl rfl ?_
      refine zg_iload_n 1 dX9_sheds_140 rfl rfl ?_
      refine zg_i2l dX9_sheds_141 ?_
      obtain ⟨M1, hM1, h⟩ := z_bind h
      refine zg_callV (st := []) (k_X9_enters hM1) zY_X9_enters lv_X9_311 rfl zt_39 rfl (zfit_m (by decide) (by decide)) (Nat.le_of_ble_eq_true rfl) dX9_sheds_142 rfl ?_
      refine zg_aload_n 0 dX9_sheds_145 rfl rfl ?_
      refine zg_iload_n 2 dX9_sheds_146 rfl rfl ?_
      refine zg_i2l dX9_sheds_147 ?_
      obtain ⟨M2, hM2, h⟩ := z_bind h
      refine zg_callV (st := []) (k_X9_enters hM2) zY_X9_enters lv_X9_311 rfl zt_39 rfl (zfit_m (by decide) (by decide)) (Nat.le_of_ble_eq_true rfl) dX9_sheds_148 rfl ?_
      refine zg_iload_n 1 dX9_sheds_151 rfl rfl ?_
      obtain ⟨x3, hx3, h⟩ := z_bind h
      refine zg_callS (st := []) (k_J6_bitCount_0f7a4 hx3) zY_J6_bitCount_0f7a4 ls_X9_131 rfl (zfit_m (by decide) (by decide)) (Nat.le_of_ble_eq_true rfl) dX9_sheds_152 rfl ?_
      obtain ⟨rfl, rfl⟩ := z_ret2 h
      exact zg_iret dX9_sheds_155
    · replace h := (if_neg hc).symm.trans h
      refine zg_iconst dX9_sheds_29 zki_0 ?_
      refine zg_istore (ls' := [(0, .ref 39), (1, .int v1), (2, .int v2), (3, .int v3), (4, .int (0 : Int32))]) dX9_sheds_30 (Nat.le_of_ble_eq_true rfl) rfl ?_
      refine zg_iload_n 1 dX9_sheds_32 rfl rfl ?_
      refine zg_bipush dX9_sheds_33 zkb_63 ?_
      refine zg_iand dX9_sheds_35 ?_
      suffices hj : zJ ztops RX9 cX9_sheds 7 (zBm ztops 3 (some .int) (some (.int r1)) Mr) 0 0 51 [(0, .ref 39), (1, .int v1), (2, .int v2), (3, .int v3), (4, .int (0 : Int32))] [.int (if (v1 &&& (63 : Int32)) = 0 then (0 : Int32) else (if (zshr v1 (6 : Int32)) = 0 then (0 : Int32) else (1 : Int32)))] M by
        refine zg_if_eq (tgt := 50) dX9_sheds_36 (by decide) (fun hc => ?_) (fun hc => ?_)
        · rw [show (if (v1 &&& (63 : Int32)) = 0 then (0 : Int32) else (if (zshr v1 (6 : Int32)) = 0 then (0 : Int32) else (1 : Int32))) = (0 : Int32) from if_pos hc] at hj
          refine zg_iconst dX9_sheds_50 zki_0 ?_
          exact hj
        · rw [show (if (v1 &&& (63 : Int32)) = 0 then (0 : Int32) else (if (zshr v1 (6 : Int32)) = 0 then (0 : Int32) else (1 : Int32))) = (if (zshr v1 (6 : Int32)) = 0 then (0 : Int32) else (1 : Int32)) from if_neg hc] at hj
          refine zg_iload_n 1 dX9_sheds_39 rfl rfl ?_
          refine zg_bipush dX9_sheds_40 zkb_6 ?_
          refine zg_ishr dX9_sheds_42 ?_
          refine zg_if_eq (tgt := 50) dX9_sheds_43 (by decide) (fun hc => ?_) (fun hc => ?_)
          · rw [show (if (zshr v1 (6 : Int32)) = 0 then (0 : Int32) else (1 : Int32)) = (0 : Int32) from if_pos hc] at hj
            refine zg_iconst dX9_sheds_50 zki_0 ?_
            exact hj
          · rw [show (if (zshr v1 (6 : Int32)) = 0 then (0 : Int32) else (1 : Int32)) = (1 : Int32) from if_neg hc] at hj
            refine zg_iconst dX9_sheds_46 zki_1 ?_
            refine zg_goto (tgt := 51) dX9_sheds_47 (by decide) ?_
            exact hj
      refine zg_istore (ls' := [(0, .ref 39), (1, .int v1), (2, .int v2), (3, .int v3), (4, .int (0 : Int32)), (5, .int (if (v1 &&& (63 : Int32)) = 0 then (0 : Int32) else (if (zshr v1 (6 : Int32)) = 0 then (0 : Int32) else (1 : Int32))))]) dX9_sheds_51 (Nat.le_of_ble_eq_true rfl) rfl ?_
      refine zg_iconst dX9_sheds_53 zki_0 ?_
      refine zg_istore (ls' := [(0, .ref 39), (1, .int v1), (2, .int v2), (3, .int v3), (4, .int (0 : Int32)), (5, .int (if (v1 &&& (63 : Int32)) = 0 then (0 : Int32) else (if (zshr v1 (6 : Int32)) = 0 then (0 : Int32) else (1 : Int32)))), (6, .int (0 : Int32))]) dX9_sheds_54 (Nat.le_of_ble_eq_true rfl) rfl ?_
      refine zo_sub (ls' := [(0, .ref 39), (1, .int v1), (2, .int v2), (4, .int (0 : Int32)), (5, .int (if (v1 &&& (63 : Int32)) = 0 then (0 : Int32) else (if (zshr v1 (6 : Int32)) = 0 then (0 : Int32) else (1 : Int32)))), (6, .int (0 : Int32))]) [0, 1, 2, 4, 5, 6] rfl ?_
      exact g9_sheds_56 (fun u0 u1 u2 u3 h => g9_sheds_106 (fun u0 u1 u2 u3 h => ih u0 u1 u2 u3 h) u0 u1 u2 u3 h) zfuel _ _ _ _ _ _ h
set_option maxRecDepth 20000 in
set_option maxHeartbeats 4000000 in
theorem k_X9_sheds {M : zM} {r1 : Int32} {Mr : zM} (h : f9_sheds M = some (r1, Mr)) : zK ztops yX9_sheds cX9_sheds 7 (some .int) 3 [.ref 39] M (some (.int r1)) Mr := by
  refine zK_of pl_X9 (Nat.le_of_ble_eq_true rfl) ?_
  show zJ ztops RX9 cX9_sheds 7 _ 0 0 0 [(0, .ref 39)] [] M
  rw [f9_sheds] at h
  refine zg_aload_n 0 dX9_sheds_0 rfl rfl ?_
  refine zg_iconst dX9_sheds_1 zki_0 ?_
  refine zg_puti fp_X9_3 zt_39 rfl dX9_sheds_2 ?_
  refine zg_aload_n 0 dX9_sheds_5 rfl rfl ?_
  refine zg_aload_n 0 dX9_sheds_6 rfl rfl ?_
  refine zo_getr 41 1 rfl fl_X9_24 zt_39 rfl dX9_sheds_7 ?_
  obtain ⟨M1, hM1, h⟩ := z_bind h
  refine zg_callV (st := []) (k_X9_laysAbove zt_41 hM1) zY_X9_laysAbove lv_X9_352 rfl zt_39 rfl (zfit_m (by decide) (by decide)) (Nat.le_of_ble_eq_true rfl) dX9_sheds_10 rfl ?_
  refine zg_aload_n 0 dX9_sheds_13 rfl rfl ?_
  refine zo_getr 41 1 rfl fl_X9_24 zt_39 rfl dX9_sheds_14 ?_
  obtain ⟨x2, hx2, h⟩ := z_bind h
  refine zg_callS (st := []) (k_X9_allOf zt_41 hx2) zY_X9_allOf ls_X9_356 rfl (zfit_m (by decide) (by decide)) (Nat.le_of_ble_eq_true rfl) dX9_sheds_17 rfl ?_
  refine zg_istore_n (ls' := [(0, .ref 39), (1, .int x2)]) dX9_sheds_20 rfl (Nat.le_of_ble_eq_true rfl) rfl ?_
  refine zg_iconst dX9_sheds_21 zki_0 ?_
  refine zg_istore_n (ls' := [(0, .ref 39), (1, .int x2), (2, .int (0 : Int32))]) dX9_sheds_22 rfl (Nat.le_of_ble_eq_true rfl) rfl ?_
  refine zg_iconst dX9_sheds_23 zki_1 ?_
  refine zg_istore_n (ls' := [(0, .ref 39), (1, .int x2), (2, .int (0 : Int32)), (3, .int (1 : Int32))]) dX9_sheds_24 rfl (Nat.le_of_ble_eq_true rfl) rfl ?_
  exact g9_sheds_25 zfuel _ _ _ _ h
set_option maxRecDepth 20000 in
set_option maxHeartbeats 4000000 in
theorem g9_hangs_106 {r1 : Int32} {Mr : zM} {k31 : Int32 → Int32 → Int32 → Int32 → Int32 → zM → Option (Int32 × zM)} (hk31 : ∀ (v1 : Int32) (v2 : Int32) (v3 : Int32) (v4 : Int32) (v5 : Int32) (M : zM), k31 v1 v2 v3 v4 v5 M = some (r1, Mr) → zJ ztops RX9 cX9_hangs 7 (zBm ztops 3 (some .int) (some (.int r1)) Mr) 0 0 31 [(0, .ref 39), (1, .int v1), (2, .int v2), (3, .int v3), (4, .int v4), (5, .int v5)] [] M) : ∀ (v1 : Int32) (v2 : Int32) (v3 : Int32) (v4 : Int32) (v5 : Int32) (M : zM), f9_hangs_106 k31 v1 v2 v3 v4 v5 M = some (r1, Mr) → zJ ztops RX9 cX9_hangs 7 (zBm ztops 3 (some .int) (some (.int r1)) Mr) 0 0 106 [(0, .ref 39), (1, .int v1), (2, .int v2), (3, .int v3), (4, .int v4), (5, .int v5)] [] M := by
  intro v1 v2 v3 v4 v5 M h
  rw [f9_hangs_106] at h
  refine zg_iinc (ls' := [(0, .ref 39), (1, .int v1), (2, .int v2), (3, .int v3), (4, .int v4), (5, .int (v5 + (1 : Int32)))]) 5 dX9_hangs_106 rfl zki_1 (Nat.le_of_ble_eq_true rfl) rfl ?_
  refine zg_goto (tgt := 31) dX9_hangs_109 (by decide) ?_
  exact hk31 _ _ _ _ _ _ h
set_option maxRecDepth 20000 in
set_option maxHeartbeats 4000000 in
theorem g9_hangs_31 {r1 : Int32} {Mr : zM} : ∀ (n : Nat) (v1 : Int32) (v2 : Int32) (v3 : Int32) (v4 : Int32) (v5 : Int32) (M : zM), f9_hangs_31 n v1 v2 v3 v4 v5 M = some (r1, Mr) → zJ ztops RX9 cX9_hangs 7 (zBm ztops 3 (some .int) (some (.int r1)) Mr) 0 0 31 [(0, .ref 39), (1, .int v1), (2, .int v2), (3, .int v3), (4, .int v4), (5, .int v5)] [] M := by
  intro n
  induction n with
  | zero => intro v1 v2 v3 v4 v5 M h; cases h
  | succ n ih =>
    intro v1 v2 v3 v4 v5 M h
    rw [f9_hangs_31] at h
    refine zg_iload 5 dX9_hangs_31 rfl ?_
    refine zg_bipush dX9_hangs_33 zkb_12 ?_
    refine zg_icmp_ge (tgt := 112) dX9_hangs_35 (by decide) (fun hc => ?_) (fun hc => ?_)
    · replace h := (if_pos hc).symm.trans h
      refine zg_aload_n 0 dX9_hangs_112 rfl rfl ?_
      refine zg_iconst dX9_hangs_113 zki_0 ?_
      refine zg_puti fp_X9_15 zt_39 rfl dX9_hangs_114 ?_
      refine zg_aload_n 0 dX9_hangs_117 rfl rfl ?_
      refine zg_iload_n 2 dX9_hangs_118 rfl rfl ?_
      refine zg_i2l dX9_hangs_119 ?_
      obtain ⟨M1, hM1, h⟩ := z_bind h
      refine zg_callV (st := []) (k_X9_enters hM1) zY_X9_enters lv_X9_311 rfl zt_39 rfl (zfit_m (by decide) (by decide)) (Nat.le_of_ble_eq_true rfl) dX9_hangs_120 rfl ?_
      refine zg_aload_n 0 dX9_hangs_123 rfl rfl ?_
      refine zg_iload_n 3 dX9_hangs_124 rfl rfl ?_
      refine zg_i2l dX9_hangs_125 ?_
      obtain ⟨M2, hM2, h⟩ := z_bind h
      refine zg_callV (st := []) (k_X9_enters hM2) zY_X9_enters lv_X9_311 rfl zt_39 rfl (zfit_m (by decide) (by decide)) (Nat.le_of_ble_eq_true rfl) dX9_hangs_126 rfl ?_
      refine zg_iload_n 2 dX9_hangs_129 rfl rfl ?_
      refine zg_iconst dX9_hangs_130 zki_1 ?_
      suffices hj : zJ ztops RX9 cX9_hangs 7 (zBm ztops 3 (some .int) (some (.int r1)) Mr) 0 0 139 [(0, .ref 39), (1, .int v1), (2, .int v2), (3, .int v3), (4, .int v4), (5, .int v5)] [.int (if v2 = (1 : Int32) then (1 : Int32) else (0 : Int32))] M2 by
        refine zg_icmp_ne (tgt := 138) dX9_hangs_131 (by decide) (fun hc => ?_) (fun hc => ?_)
        · rw [show (if v2 = (1 : Int32) then (1 : Int32) else (0 : Int32)) = (0 : Int32) from if_neg hc] at hj
          refine zg_iconst dX9_hangs_138 zki_0 ?_
          exact hj
        · rw [show (if v2 = (1 : Int32) then (1 : Int32) else (0 : Int32)) = (1 : Int32) from if_pos hc] at hj
          refine zg_iconst dX9_hangs_134 zki_1 ?_
          refine zg_goto (tgt := 139) dX9_hangs_135 (by decide) ?_
          exact hj
      obtain ⟨x3, hx3, h⟩ := z_bind h
      refine zg_callS (st := []) (k_X9_flag hx3) zY_X9_flag ls_X9_116 rfl (zfit_m (by decide) (by decide)) (Nat.le_of_ble_eq_true rfl) dX9_hangs_139 rfl ?_
      obtain ⟨rfl, rfl⟩ := z_ret2 h
      exact zg_iret dX9_hangs_142
    · replace h := (if_neg hc).symm.trans h
      refine zg_iload_n 1 dX9_hangs_38 rfl rfl ?_
      refine zg_iload 4 dX9_hangs_39 rfl ?_
      refine zg_iconst dX9_hangs_41 zki_m1 ?_
      refine zg_ixor dX9_hangs_42 ?_
      refine zg_iand dX9_hangs_43 ?_
      refine zg_iload 5 dX9_hangs_44 rfl ?_
      obtain ⟨x1, hx1, h⟩ := z_bind h
      refine zg_callS (st := []) (k_X9_has hx1) zY_X9_has ls_X9_112 rfl (zfit_m (by decide) (by decide)) (Nat.le_of_ble_eq_true rfl) dX9_hangs_46 rfl ?_
      refine zg_if_eq (tgt := 106) dX9_hangs_49 (by decide) (fun hc => ?_) (fun hc => ?_)
      · replace h := (if_pos hc).symm.trans h
        exact g9_hangs_106 (fun u0 u1 u2 u3 u4 u5 h => ih u0 u1 u2 u3 u4 u5 h) _ _ _ _ _ _ h
      · replace h := (if_neg hc).symm.trans h
        refine zg_iload 5 dX9_hangs_52 rfl ?_
        refine zg_iload_n 1 dX9_hangs_54 rfl rfl ?_
        refine zg_aload_n 0 dX9_hangs_55 rfl rfl ?_
        refine zo_getr 54 14 rfl fl_X9_64 zt_39 rfl dX9_hangs_56 ?_
        obtain ⟨x2, hx2, h⟩ := z_bind h
        refine zg_callS (st := []) (k_X9_reach zt_54 hx2) zY_X9_reach ls_X9_348 rfl (zfit_m (by decide) (by decide)) (Nat.le_of_ble_eq_true rfl) dX9_hangs_59 rfl ?_
        refine zg_iload 5 dX9_hangs_62 rfl ?_
        refine zg_iload_n 1 dX9_hangs_64 rfl rfl ?_
        refine zg_aload_n 0 dX9_hangs_65 rfl rfl ?_
        refine zo_getr 55 15 rfl fl_X9_67 zt_39 rfl dX9_hangs_66 ?_
        obtain ⟨x3, hx3, h⟩ := z_bind h
        refine zg_callS (st := [.int x2]) (k_X9_reach zt_55 hx3) zY_X9_reach ls_X9_348 rfl (zfit_m (by decide) (by decide)) (Nat.le_of_ble_eq_true rfl) dX9_hangs_69 rfl ?_
        refine zg_iand dX9_hangs_72 ?_
        refine zg_istore (ls' := [(0, .ref 39), (1, .int v1), (2, .int v2), (3, .int v3), (4, .int v4), (5, .int v5), (6, .int (x2 &&& x3))]) dX9_hangs_73 (Nat.le_of_ble_eq_true rfl) rfl ?_
        refine zg_iload 5 dX9_hangs_75 rfl ?_
        refine zg_iload_n 1 dX9_hangs_77 rfl rfl ?_
        refine zg_aload_n 0 dX9_hangs_78 rfl rfl ?_
        refine zo_getr 54 14 rfl fl_X9_64 zt_39 rfl dX9_hangs_79 ?_
        obtain ⟨x4, hx4, h⟩ := z_bind h
        refine zg_callS (st := []) (k_X9_reach zt_54 hx4) zY_X9_reach ls_X9_348 rfl (zfit_m (by decide) (by decide)) (Nat.le_of_ble_eq_true rfl) dX9_hangs_82 rfl ?_
        refine zg_iload_n 1 dX9_hangs_85 rfl rfl ?_
        suffices hj : zJ ztops RX9 cX9_hangs 7 (zBm ztops 3 (some .int) (some (.int r1)) Mr) 0 0 95 [(0, .ref 39), (1, .int v1), (2, .int v2), (3, .int v3), (4, .int v4), (5, .int v5), (6, .int (x2 &&& x3))] [.int (if x4 = v1 then (x2 &&& x3) else v3)] M by
          refine zg_icmp_ne (tgt := 94) dX9_hangs_86 (by decide) (fun hc => ?_) (fun hc => ?_)
          · rw [show (if x4 = v1 then (x2 &&& x3) else v3) = v3 from if_neg hc] at hj
            refine zg_iload_n 3 dX9_hangs_94 rfl rfl ?_
            exact hj
          · rw [show (if x4 = v1 then (x2 &&& x3) else v3) = (x2 &&& x3) from if_pos hc] at hj
            refine zg_iload 6 dX9_hangs_89 rfl ?_
            refine zg_goto (tgt := 95) dX9_hangs_91 (by decide) ?_
            exact hj
        refine zg_istore_n (ls' := [(0, .ref 39), (1, .int v1), (2, .int v2), (3, .int (if x4 = v1 then (x2 &&& x3) else v3)), (4, .int v4), (5, .int v5), (6, .int (x2 &&& x3))]) dX9_hangs_95 rfl (Nat.le_of_ble_eq_true rfl) rfl ?_
        refine zg_iload 4 dX9_hangs_96 rfl ?_
        refine zg_iload 6 dX9_hangs_98 rfl ?_
        refine zg_ior dX9_hangs_100 ?_
        refine zg_istore (ls' := [(0, .ref 39), (1, .int v1), (2, .int v2), (3, .int (if x4 = v1 then (x2 &&& x3) else v3)), (4, .int (v4 ||| (x2 &&& x3))), (5, .int v5), (6, .int (x2 &&& x3))]) dX9_hangs_101 (Nat.le_of_ble_eq_true rfl) rfl ?_
        refine zg_iinc (ls' := [(0, .ref 39), (1, .int v1), (2, .int (v2 + (1 : Int32))), (3, .int (if x4 = v1 then (x2 &&& x3) else v3)), (4, .int (v4 ||| (x2 &&& x3))), (5, .int v5), (6, .int (x2 &&& x3))]) 2 dX9_hangs_103 rfl zki_1 (Nat.le_of_ble_eq_true rfl) rfl ?_
        refine zo_sub (ls' := [(0, .ref 39), (1, .int v1), (2, .int (v2 + (1 : Int32))), (3, .int (if x4 = v1 then (x2 &&& x3) else v3)), (4, .int (v4 ||| (x2 &&& x3))), (5, .int v5)]) [0, 1, 2, 3, 4, 5] rfl ?_
        exact g9_hangs_106 (fun u0 u1 u2 u3 u4 u5 h => ih u0 u1 u2 u3 u4 u5 h) _ _ _ _ _ _ h
set_option maxRecDepth 20000 in
set_option maxHeartbeats 4000000 in
theorem k_X9_hangs {M : zM} {r1 : Int32} {Mr : zM} (h : f9_hangs M = some (r1, Mr)) : zK ztops yX9_hangs cX9_hangs 7 (some .int) 3 [.ref 39] M (some (.int r1)) Mr := by
  refine zK_of pl_X9 (Nat.le_of_ble_eq_true rfl) ?_
  show zJ ztops RX9 cX9_hangs 7 _ 0 0 0 [(0, .ref 39)] [] M
  rw [f9_hangs] at h
  refine zg_aload_n 0 dX9_hangs_0 rfl rfl ?_
  refine zg_iconst dX9_hangs_1 zki_0 ?_
  refine zg_puti fp_X9_3 zt_39 rfl dX9_hangs_2 ?_
  refine zg_aload_n 0 dX9_hangs_5 rfl rfl ?_
  refine zg_aload_n 0 dX9_hangs_6 rfl rfl ?_
  refine zo_getr 41 1 rfl fl_X9_24 zt_39 rfl dX9_hangs_7 ?_
  obtain ⟨M1, hM1, h⟩ := z_bind h
  refine zg_callV (st := []) (k_X9_laysAbove zt_41 hM1) zY_X9_laysAbove lv_X9_352 rfl zt_39 rfl (zfit_m (by decide) (by decide)) (Nat.le_of_ble_eq_true rfl) dX9_hangs_10 rfl ?_
  refine zg_aload_n 0 dX9_hangs_13 rfl rfl ?_
  refine zo_getr 41 1 rfl fl_X9_24 zt_39 rfl dX9_hangs_14 ?_
  obtain ⟨x2, hx2, h⟩ := z_bind h
  refine zg_callS (st := []) (k_X9_allOf zt_41 hx2) zY_X9_allOf ls_X9_356 rfl (zfit_m (by decide) (by decide)) (Nat.le_of_ble_eq_true rfl) dX9_hangs_17 rfl ?_
  refine zg_istore_n (ls' := [(0, .ref 39), (1, .int x2)]) dX9_hangs_20 rfl (Nat.le_of_ble_eq_true rfl) rfl ?_
  refine zg_iconst dX9_hangs_21 zki_0 ?_
  refine zg_istore_n (ls' := [(0, .ref 39), (1, .int x2), (2, .int (0 : Int32))]) dX9_hangs_22 rfl (Nat.le_of_ble_eq_true rfl) rfl ?_
  refine zg_iconst dX9_hangs_23 zki_0 ?_
  refine zg_istore_n (ls' := [(0, .ref 39), (1, .int x2), (2, .int (0 : Int32)), (3, .int (0 : Int32))]) dX9_hangs_24 rfl (Nat.le_of_ble_eq_true rfl) rfl ?_
  refine zg_iconst dX9_hangs_25 zki_0 ?_
  refine zg_istore (ls' := [(0, .ref 39), (1, .int x2), (2, .int (0 : Int32)), (3, .int (0 : Int32)), (4, .int (0 : Int32))]) dX9_hangs_26 (Nat.le_of_ble_eq_true rfl) rfl ?_
  refine zg_iconst dX9_hangs_28 zki_0 ?_
  refine zg_istore (ls' := [(0, .ref 39), (1, .int x2), (2, .int (0 : Int32)), (3, .int (0 : Int32)), (4, .int (0 : Int32)), (5, .int (0 : Int32))]) dX9_hangs_29 (Nat.le_of_ble_eq_true rfl) rfl ?_
  exact g9_hangs_31 zfuel _ _ _ _ _ _ h
set_option maxRecDepth 20000 in
set_option maxHeartbeats 4000000 in
theorem g9_spares_61 {r1 : Int32} {Mr : zM} {k25 : Int32 → Int32 → Int32 → zM → Option (Int32 × zM)} (hk25 : ∀ (v1 : Int32) (v2 : Int32) (v3 : Int32) (M : zM), k25 v1 v2 v3 M = some (r1, Mr) → zJ ztops RX9 cX9_spares 4 (zBm ztops 4 (some .int) (some (.int r1)) Mr) 0 0 25 [(0, .ref 39), (1, .int v1), (2, .int v2), (3, .int v3)] [] M) : ∀ (v1 : Int32) (v3 : Int32) (s0 : Int32) (s1 : Int32) (M : zM), f9_spares_61 k25 v1 v3 s0 s1 M = some (r1, Mr) → zJ ztops RX9 cX9_spares 4 (zBm ztops 4 (some .int) (some (.int r1)) Mr) 0 0 61 [(0, .ref 39), (1, .int v1), (3, .int v3)] [.int s1, .int s0] M := by
  intro v1 v3 s0 s1 M h
  rw [f9_spares_61] at h
  refine zg_ior dX9_spares_61 ?_
  refine zg_istore_n (ls' := [(0, .ref 39), (1, .int v1), (2, .int (s0 ||| s1)), (3, .int v3)]) dX9_spares_62 rfl (Nat.le_of_ble_eq_true rfl) rfl ?_
  refine zg_iinc (ls' := [(0, .ref 39), (1, .int v1), (2, .int (s0 ||| s1)), (3, .int (v3 + (1 : Int32)))]) 3 dX9_spares_63 rfl zki_1 (Nat.le_of_ble_eq_true rfl) rfl ?_
  refine zg_goto (tgt := 25) dX9_spares_66 (by decide) ?_
  exact hk25 _ _ _ _ h
set_option maxRecDepth 20000 in
set_option maxHeartbeats 4000000 in
theorem g9_spares_25 {r1 : Int32} {Mr : zM} : ∀ (n : Nat) (v1 : Int32) (v2 : Int32) (v3 : Int32) (M : zM), f9_spares_25 n v1 v2 v3 M = some (r1, Mr) → zJ ztops RX9 cX9_spares 4 (zBm ztops 4 (some .int) (some (.int r1)) Mr) 0 0 25 [(0, .ref 39), (1, .int v1), (2, .int v2), (3, .int v3)] [] M := by
  intro n
  induction n with
  | zero => intro v1 v2 v3 M h; cases h
  | succ n ih =>
    intro v1 v2 v3 M h
    rw [f9_spares_25] at h
    refine zg_iload_n 3 dX9_spares_25 rfl rfl ?_
    refine zg_bipush dX9_spares_26 zkb_12 ?_
    refine zg_icmp_ge (tgt := 69) dX9_spares_28 (by decide) (fun hc => ?_) (fun hc => ?_)
    · replace h := (if_pos hc).symm.trans h
      refine zg_aload_n 0 dX9_spares_69 rfl rfl ?_
      refine zg_iconst dX9_spares_70 zki_0 ?_
      refine zg_puti fp_X9_15 zt_39 rfl dX9_spares_71 ?_
      refine zg_aload_n 0 dX9_spares_74 rfl rfl ?_
      refine zg_iload_n 2 dX9_spares_75 rfl rfl ?_
      obtain ⟨x1, hx1, h⟩ := z_bind h
      refine zg_callS (st := [.ref 39]) (k_J6_bitCount_0f7a4 hx1) zY_J6_bitCount_0f7a4 ls_X9_131 rfl (zfit_m (by decide) (by decide)) (Nat.le_of_ble_eq_true rfl) dX9_spares_76 rfl ?_
      refine zg_i2l dX9_spares_79 ?_
      obtain ⟨M2, hM2, h⟩ := z_bind h
      refine zg_callV (st := []) (k_X9_enters hM2) zY_X9_enters lv_X9_311 rfl zt_39 rfl (zfit_m (by decide) (by decide)) (Nat.le_of_ble_eq_true rfl) dX9_spares_80 rfl ?_
      refine zg_iload_n 2 dX9_spares_83 rfl rfl ?_
      obtain ⟨rfl, rfl⟩ := z_ret2 h
      exact zg_iret dX9_spares_84
    · replace h := (if_neg hc).symm.trans h
      refine zg_iload_n 2 dX9_spares_31 rfl rfl ?_
      refine zg_iload_n 1 dX9_spares_32 rfl rfl ?_
      refine zg_iload_n 3 dX9_spares_33 rfl rfl ?_
      obtain ⟨x1, hx1, h⟩ := z_bind h
      refine zg_callS (st := [.int v2]) (k_X9_has hx1) zY_X9_has ls_X9_112 rfl (zfit_m (by decide) (by decide)) (Nat.le_of_ble_eq_true rfl) dX9_spares_34 rfl ?_
      refine zg_if_eq (tgt := 60) dX9_spares_37 (by decide) (fun hc => ?_) (fun hc => ?_)
      · replace h := (if_pos hc).symm.trans h
        refine zg_iconst dX9_spares_60 zki_0 ?_
        refine zo_sub (ls' := [(0, .ref 39), (1, .int v1), (3, .int v3)]) [0, 1, 3] rfl ?_
        exact g9_spares_61 (fun u0 u1 u2 u3 h => ih u0 u1 u2 u3 h) _ _ _ _ _ h
      · replace h := (if_neg hc).symm.trans h
        refine zg_aload_n 0 dX9_spares_40 rfl rfl ?_
        refine zg_iload_n 1 dX9_spares_41 rfl rfl ?_
        refine zg_iconst dX9_spares_42 zki_1 ?_
        refine zg_iload_n 3 dX9_spares_43 rfl rfl ?_
        refine zg_ishl dX9_spares_44 ?_
        refine zg_iconst dX9_spares_45 zki_m1 ?_
        refine zg_ixor dX9_spares_46 ?_
        refine zg_iand dX9_spares_47 ?_
        obtain ⟨x2, hx2, h⟩ := z_bind h
        refine zg_callV (st := [.int v2]) (k_X9_isHanging hx2) zY_X9_isHanging lv_X9_359 rfl zt_39 rfl (zfit_m (by decide) (by decide)) (Nat.le_of_ble_eq_true rfl) dX9_spares_48 rfl ?_
        suffices hj : zJ ztops RX9 cX9_spares 4 (zBm ztops 4 (some .int) (some (.int r1)) Mr) 0 0 61 [(0, .ref 39), (1, .int v1), (2, .int v2), (3, .int v3)] [.int (if x2 = 0 then (0 : Int32) else (zshl (1 : Int32) v3)), .int v2] M by
          refine zg_if_eq (tgt := 60) dX9_spares_51 (by decide) (fun hc => ?_) (fun hc => ?_)
          · rw [show (if x2 = 0 then (0 : Int32) else (zshl (1 : Int32) v3)) = (0 : Int32) from if_pos hc] at hj
            refine zg_iconst dX9_spares_60 zki_0 ?_
            exact hj
          · rw [show (if x2 = 0 then (0 : Int32) else (zshl (1 : Int32) v3)) = (zshl (1 : Int32) v3) from if_neg hc] at hj
            refine zg_iconst dX9_spares_54 zki_1 ?_
            refine zg_iload_n 3 dX9_spares_55 rfl rfl ?_
            refine zg_ishl dX9_spares_56 ?_
            refine zg_goto (tgt := 61) dX9_spares_57 (by decide) ?_
            exact hj
        refine zo_sub (ls' := [(0, .ref 39), (1, .int v1), (3, .int v3)]) [0, 1, 3] rfl ?_
        exact g9_spares_61 (fun u0 u1 u2 u3 h => ih u0 u1 u2 u3 h) _ _ _ _ _ h
set_option maxRecDepth 20000 in
set_option maxHeartbeats 4000000 in
theorem k_X9_spares {M : zM} {r1 : Int32} {Mr : zM} (h : f9_spares M = some (r1, Mr)) : zK ztops yX9_spares cX9_spares 4 (some .int) 4 [.ref 39] M (some (.int r1)) Mr := by
  refine zK_of pl_X9 (Nat.le_of_ble_eq_true rfl) ?_
  show zJ ztops RX9 cX9_spares 4 _ 0 0 0 [(0, .ref 39)] [] M
  rw [f9_spares] at h
  refine zg_aload_n 0 dX9_spares_0 rfl rfl ?_
  refine zg_iconst dX9_spares_1 zki_0 ?_
  refine zg_puti fp_X9_3 zt_39 rfl dX9_spares_2 ?_
  refine zg_aload_n 0 dX9_spares_5 rfl rfl ?_
  refine zg_aload_n 0 dX9_spares_6 rfl rfl ?_
  refine zo_getr 41 1 rfl fl_X9_24 zt_39 rfl dX9_spares_7 ?_
  obtain ⟨M1, hM1, h⟩ := z_bind h
  refine zg_callV (st := []) (k_X9_laysAbove zt_41 hM1) zY_X9_laysAbove lv_X9_352 rfl zt_39 rfl (zfit_m (by decide) (by decide)) (Nat.le_of_ble_eq_true rfl) dX9_spares_10 rfl ?_
  refine zg_aload_n 0 dX9_spares_13 rfl rfl ?_
  refine zo_getr 41 1 rfl fl_X9_24 zt_39 rfl dX9_spares_14 ?_
  obtain ⟨x2, hx2, h⟩ := z_bind h
  refine zg_callS (st := []) (k_X9_allOf zt_41 hx2) zY_X9_allOf ls_X9_356 rfl (zfit_m (by decide) (by decide)) (Nat.le_of_ble_eq_true rfl) dX9_spares_17 rfl ?_
  refine zg_istore_n (ls' := [(0, .ref 39), (1, .int x2)]) dX9_spares_20 rfl (Nat.le_of_ble_eq_true rfl) rfl ?_
  refine zg_iconst dX9_spares_21 zki_0 ?_
  refine zg_istore_n (ls' := [(0, .ref 39), (1, .int x2), (2, .int (0 : Int32))]) dX9_spares_22 rfl (Nat.le_of_ble_eq_true rfl) rfl ?_
  refine zg_iconst dX9_spares_23 zki_0 ?_
  refine zg_istore_n (ls' := [(0, .ref 39), (1, .int x2), (2, .int (0 : Int32)), (3, .int (0 : Int32))]) dX9_spares_24 rfl (Nat.le_of_ble_eq_true rfl) rfl ?_
  exact g9_spares_25 zfuel _ _ _ _ h
set_option maxRecDepth 20000 in
set_option maxHeartbeats 4000000 in
theorem k_X9_isCell {T : List zN} {a0 : Nat} (h0 : T[a0]? = some (.inl (0, 9))) {v1 : Int32} {r1 : Int32} {M : zM} (h : f9_isCell a0 v1 M = some r1) : zK T yX9_isCell cX9_isCell 2 (some .boolean) 0 [.ref a0, .int v1] M (some (.int r1)) M := by
  refine zK_of pl_X9 (Nat.le_of_ble_eq_true rfl) ?_
  show zJ T RX9 cX9_isCell 2 _ 0 0 0 [(0, .ref a0), (1, .int v1)] [] M
  rw [f9_isCell] at h
  refine zg_iload_n 1 dX9_isCell_0 rfl rfl ?_
  refine zg_bipush dX9_isCell_1 zkb_6 ?_
  refine zg_idiv (by decide) dX9_isCell_3 ?_
  refine zg_aload_n 0 dX9_isCell_4 rfl rfl ?_
  refine zg_bipush dX9_isCell_5 zkb_6 ?_
  refine zo_ialdc 6 h0 (by decide) rfl dX9_isCell_7 ?_
  suffices hj : zJ T RX9 cX9_isCell 2 (zBm T 0 (some .boolean) (some (.int r1)) M) 0 0 27 [(0, .ref a0), (1, .int v1)] [.int (if (M.1 a0 6) ≤ (v1 / (6 : Int32)) then (0 : Int32) else (if (M.1 a0 7) ≤ (zrem v1 (6 : Int32)) then (0 : Int32) else (1 : Int32)))] M by
    refine zg_icmp_ge (tgt := 26) dX9_isCell_8 (by decide) (fun hc => ?_) (fun hc => ?_)
    · rw [show (if (M.1 a0 6) ≤ (v1 / (6 : Int32)) then (0 : Int32) else (if (M.1 a0 7) ≤ (zrem v1 (6 : Int32)) then (0 : Int32) else (1 : Int32))) = (0 : Int32) from if_pos hc] at hj
      refine zg_iconst dX9_isCell_26 zki_0 ?_
      exact hj
    · rw [show (if (M.1 a0 6) ≤ (v1 / (6 : Int32)) then (0 : Int32) else (if (M.1 a0 7) ≤ (zrem v1 (6 : Int32)) then (0 : Int32) else (1 : Int32))) = (if (M.1 a0 7) ≤ (zrem v1 (6 : Int32)) then (0 : Int32) else (1 : Int32)) from if_neg hc] at hj
      refine zg_iload_n 1 dX9_isCell_11 rfl rfl ?_
      refine zg_bipush dX9_isCell_12 zkb_6 ?_
      refine zg_irem (by decide) dX9_isCell_14 ?_
      refine zg_aload_n 0 dX9_isCell_15 rfl rfl ?_
      refine zg_bipush dX9_isCell_16 zkb_7 ?_
      refine zo_ialdc 7 h0 (by decide) rfl dX9_isCell_18 ?_
      refine zg_icmp_ge (tgt := 26) dX9_isCell_19 (by decide) (fun hc => ?_) (fun hc => ?_)
      · rw [show (if (M.1 a0 7) ≤ (zrem v1 (6 : Int32)) then (0 : Int32) else (1 : Int32)) = (0 : Int32) from if_pos hc] at hj
        refine zg_iconst dX9_isCell_26 zki_0 ?_
        exact hj
      · rw [show (if (M.1 a0 7) ≤ (zrem v1 (6 : Int32)) then (0 : Int32) else (1 : Int32)) = (1 : Int32) from if_neg hc] at hj
        refine zg_iconst dX9_isCell_22 zki_1 ?_
        refine zg_goto (tgt := 27) dX9_isCell_23 (by decide) ?_
        exact hj
  obtain rfl := z_ret1 h
  exact zg_zret (zn_ite rfl (zn_ite rfl rfl)) dX9_isCell_27
set_option maxRecDepth 20000 in
set_option maxHeartbeats 4000000 in
theorem g9_mends_244 {r1 : Int32} {Mr : zM} {k143 : Int32 → Int32 → zM → Option (Int32 × zM)} (hk143 : ∀ (v1 : Int32) (v2 : Int32) (M : zM), k143 v1 v2 M = some (r1, Mr) → zJ ztops RX9 cX9_mends 3 (zBm ztops 5 (some .int) (some (.int r1)) Mr) 0 0 143 [(0, .ref 39), (1, .int v1), (2, .int v2)] [] M) : ∀ (v1 : Int32) (v2 : Int32) (M : zM), f9_mends_244 k143 v1 v2 M = some (r1, Mr) → zJ ztops RX9 cX9_mends 3 (zBm ztops 5 (some .int) (some (.int r1)) Mr) 0 0 244 [(0, .ref 39), (1, .int v1), (2, .int v2)] [] M := by
  intro v1 v2 M h
  rw [f9_mends_244] at h
  refine zg_iinc (ls' := [(0, .ref 39), (1, .int v1), (2, .int (v2 + (1 : Int32)))]) 2 dX9_mends_244 rfl zki_1 (Nat.le_of_ble_eq_true rfl) rfl ?_
  refine zg_goto (tgt := 143) dX9_mends_247 (by decide) ?_
  exact hk143 _ _ _ h
set_option maxRecDepth 20000 in
set_option maxHeartbeats 4000000 in
theorem g9_mends_143 {r1 : Int32} {Mr : zM} {k250 : Int32 → zM → Option (Int32 × zM)} (hk250 : ∀ (v1 : Int32) (M : zM), k250 v1 M = some (r1, Mr) → zJ ztops RX9 cX9_mends 3 (zBm ztops 5 (some .int) (some (.int r1)) Mr) 0 0 250 [(0, .ref 39), (1, .int v1)] [] M) : ∀ (n : Nat) (v1 : Int32) (v2 : Int32) (M : zM), f9_mends_143 k250 n v1 v2 M = some (r1, Mr) → zJ ztops RX9 cX9_mends 3 (zBm ztops 5 (some .int) (some (.int r1)) Mr) 0 0 143 [(0, .ref 39), (1, .int v1), (2, .int v2)] [] M := by
  intro n
  induction n with
  | zero => intro v1 v2 M h; cases h
  | succ n ih =>
    intro v1 v2 M h
    rw [f9_mends_143] at h
    refine zg_iload_n 2 dX9_mends_143 rfl rfl ?_
    refine zg_bipush dX9_mends_144 zkb_36 ?_
    refine zg_icmp_ge (tgt := 250) dX9_mends_146 (by decide) (fun hc => ?_) (fun hc => ?_)
    · replace h := (if_pos hc).symm.trans h
      refine zo_sub (ls' := [(0, .ref 39), (1, .int v1)]) [0, 1] rfl ?_
      exact hk250 _ _ h
    · replace h := (if_neg hc).symm.trans h
      refine zg_aload_n 0 dX9_mends_149 rfl rfl ?_
      refine zo_getr 41 1 rfl fl_X9_24 zt_39 rfl dX9_mends_150 ?_
      refine zg_iload_n 1 dX9_mends_153 rfl rfl ?_
      obtain ⟨x1, hx1, h⟩ := z_bind h
      refine zg_callS (st := []) (k_X9_isCell zt_41 hx1) zY_X9_isCell ls_X9_391 rfl (zfit_m (by decide) (by decide)) (Nat.le_of_ble_eq_true rfl) dX9_mends_154 rfl ?_
      refine zg_if_eq (tgt := 250) dX9_mends_157 (by decide) (fun hc => ?_) (fun hc => ?_)
      · replace h := (if_pos hc).symm.trans h
        refine zo_sub (ls' := [(0, .ref 39), (1, .int v1)]) [0, 1] rfl ?_
        exact hk250 _ _ h
      · replace h := (if_neg hc).symm.trans h
        refine zg_aload_n 0 dX9_mends_160 rfl rfl ?_
        refine zo_getr 41 1 rfl fl_X9_24 zt_39 rfl dX9_mends_161 ?_
        refine zg_iload_n 2 dX9_mends_164 rfl rfl ?_
        obtain ⟨x2, hx2, h⟩ := z_bind h
        refine zg_callS (st := []) (k_X9_isCell zt_41 hx2) zY_X9_isCell ls_X9_391 rfl (zfit_m (by decide) (by decide)) (Nat.le_of_ble_eq_true rfl) dX9_mends_165 rfl ?_
        refine zg_if_eq (tgt := 244) dX9_mends_168 (by decide) (fun hc => ?_) (fun hc => ?_)
        · replace h := (if_pos hc).symm.trans h
          exact g9_mends_244 (fun u0 u1 u2 h => ih u0 u1 u2 h) _ _ _ h
        · replace h := (if_neg hc).symm.trans h
          refine zg_aload_n 0 dX9_mends_171 rfl rfl ?_
          refine zo_getr 42 2 rfl fl_X9_28 zt_39 rfl dX9_mends_172 ?_
          refine zg_aload_n 0 dX9_mends_175 rfl rfl ?_
          refine zo_getr 41 1 rfl fl_X9_24 zt_39 rfl dX9_mends_176 ?_
          obtain ⟨M3, hM3, h⟩ := z_bind h
          refine zg_callS (st := []) (k_X9_copies zt_42 zt_41 hM3) zY_X9_copies ls_X9_194 rfl (zfit_m (by decide) (by decide)) (Nat.le_of_ble_eq_true rfl) dX9_mends_179 rfl ?_
          refine zg_aload_n 0 dX9_mends_182 rfl rfl ?_
          refine zo_getr 42 2 rfl fl_X9_28 zt_39 rfl dX9_mends_183 ?_
          refine zg_iload_n 1 dX9_mends_186 rfl rfl ?_
          refine zg_bipush dX9_mends_187 zkb_6 ?_
          refine zg_idiv (by decide) dX9_mends_189 ?_
          refine zg_iload_n 1 dX9_mends_190 rfl rfl ?_
          refine zg_bipush dX9_mends_191 zkb_6 ?_
          refine zg_irem (by decide) dX9_mends_193 ?_
          obtain ⟨p4, hp4, h⟩ := z_bind h
          refine zg_callS (st := []) (k_X9_flipsOne zt_42 hp4) zY_X9_flipsOne ls_X9_328 rfl (zfit_m (by decide) (by decide)) (Nat.le_of_ble_eq_true rfl) dX9_mends_194 rfl ?_
          refine zg_pop dX9_mends_197 rfl ?_
          refine zg_aload_n 0 dX9_mends_198 rfl rfl ?_
          refine zo_getr 42 2 rfl fl_X9_28 zt_39 rfl dX9_mends_199 ?_
          refine zg_iload_n 2 dX9_mends_202 rfl rfl ?_
          refine zg_bipush dX9_mends_203 zkb_6 ?_
          refine zg_idiv (by decide) dX9_mends_205 ?_
          refine zg_iload_n 2 dX9_mends_206 rfl rfl ?_
          refine zg_bipush dX9_mends_207 zkb_6 ?_
          refine zg_irem (by decide) dX9_mends_209 ?_
          obtain ⟨p5, hp5, h⟩ := z_bind h
          refine zg_callS (st := []) (k_X9_flipsOne zt_42 hp5) zY_X9_flipsOne ls_X9_328 rfl (zfit_m (by decide) (by decide)) (Nat.le_of_ble_eq_true rfl) dX9_mends_210 rfl ?_
          refine zg_pop dX9_mends_213 rfl ?_
          refine zg_aload_n 0 dX9_mends_214 rfl rfl ?_
          refine zg_aload_n 0 dX9_mends_215 rfl rfl ?_
          refine zo_getr 42 2 rfl fl_X9_28 zt_39 rfl dX9_mends_216 ?_
          obtain ⟨p6, hp6, h⟩ := z_bind h
          refine zg_callV (st := []) (k_X9_doesHang zt_42 hp6) zY_X9_doesHang lv_X9_362 rfl zt_39 rfl (zfit_m (by decide) (by decide)) (Nat.le_of_ble_eq_true rfl) dX9_mends_219 rfl ?_
          refine zg_if_eq (tgt := 244) dX9_mends_222 (by decide) (fun hc => ?_) (fun hc => ?_)
          · replace h := (if_pos hc).symm.trans h
            exact g9_mends_244 (fun u0 u1 u2 h => ih u0 u1 u2 h) _ _ _ h
          · replace h := (if_neg hc).symm.trans h
            refine zg_aload_n 0 dX9_mends_225 rfl rfl ?_
            refine zg_iconst dX9_mends_226 zki_0 ?_
            refine zg_puti fp_X9_15 zt_39 rfl dX9_mends_227 ?_
            refine zg_aload_n 0 dX9_mends_230 rfl rfl ?_
            refine zg_iload_n 1 dX9_mends_231 rfl rfl ?_
            refine zg_i2l dX9_mends_232 ?_
            obtain ⟨M7, hM7, h⟩ := z_bind h
            refine zg_callV (st := []) (k_X9_enters hM7) zY_X9_enters lv_X9_311 rfl zt_39 rfl (zfit_m (by decide) (by decide)) (Nat.le_of_ble_eq_true rfl) dX9_mends_233 rfl ?_
            refine zg_aload_n 0 dX9_mends_236 rfl rfl ?_
            refine zg_iload_n 2 dX9_mends_237 rfl rfl ?_
            refine zg_i2l dX9_mends_238 ?_
            obtain ⟨M8, hM8, h⟩ := z_bind h
            refine zg_callV (st := []) (k_X9_enters hM8) zY_X9_enters lv_X9_311 rfl zt_39 rfl (zfit_m (by decide) (by decide)) (Nat.le_of_ble_eq_true rfl) dX9_mends_239 rfl ?_
            refine zg_iconst dX9_mends_242 zki_2 ?_
            obtain ⟨rfl, rfl⟩ := z_ret2 h
            exact zg_iret dX9_mends_243
set_option maxRecDepth 20000 in
set_option maxHeartbeats 4000000 in
theorem g9_mends_250 {r1 : Int32} {Mr : zM} {k133 : Int32 → zM → Option (Int32 × zM)} (hk133 : ∀ (v1 : Int32) (M : zM), k133 v1 M = some (r1, Mr) → zJ ztops RX9 cX9_mends 3 (zBm ztops 5 (some .int) (some (.int r1)) Mr) 0 0 133 [(0, .ref 39), (1, .int v1)] [] M) : ∀ (v1 : Int32) (M : zM), f9_mends_250 k133 v1 M = some (r1, Mr) → zJ ztops RX9 cX9_mends 3 (zBm ztops 5 (some .int) (some (.int r1)) Mr) 0 0 250 [(0, .ref 39), (1, .int v1)] [] M := by
  intro v1 M h
  rw [f9_mends_250] at h
  refine zg_iinc (ls' := [(0, .ref 39), (1, .int (v1 + (1 : Int32)))]) 1 dX9_mends_250 rfl zki_1 (Nat.le_of_ble_eq_true rfl) rfl ?_
  refine zg_goto (tgt := 133) dX9_mends_253 (by decide) ?_
  exact hk133 _ _ h
set_option maxRecDepth 20000 in
set_option maxHeartbeats 4000000 in
theorem g9_mends_133 {r1 : Int32} {Mr : zM} : ∀ (n : Nat) (v1 : Int32) (M : zM), f9_mends_133 n v1 M = some (r1, Mr) → zJ ztops RX9 cX9_mends 3 (zBm ztops 5 (some .int) (some (.int r1)) Mr) 0 0 133 [(0, .ref 39), (1, .int v1)] [] M := by
  intro n
  induction n with
  | zero => intro v1 M h; cases h
  | succ n ih =>
    intro v1 M h
    rw [f9_mends_133] at h
    refine zg_iload_n 1 dX9_mends_133 rfl rfl ?_
    refine zg_bipush dX9_mends_134 zkb_36 ?_
    refine zg_icmp_ge (tgt := 256) dX9_mends_136 (by decide) (fun hc => ?_) (fun hc => ?_)
    · replace h := (if_pos hc).symm.trans h
      refine zg_bipush dX9_mends_256 zkb_m2 ?_
      obtain ⟨rfl, rfl⟩ := z_ret2 h
      exact zg_iret dX9_mends_258
    · replace h := (if_neg hc).symm.trans h
      refine zg_iload_n 1 dX9_mends_139 rfl rfl ?_
      refine zg_iconst dX9_mends_140 zki_1 ?_
      refine zg_iadd dX9_mends_141 ?_
      refine zg_istore_n (ls' := [(0, .ref 39), (1, .int v1), (2, .int (v1 + (1 : Int32)))]) dX9_mends_142 rfl (Nat.le_of_ble_eq_true rfl) rfl ?_
      exact g9_mends_143 (fun u0 u1 h => g9_mends_250 (fun u0 u1 h => ih u0 u1 h) u0 u1 h) zfuel _ _ _ h
set_option maxRecDepth 20000 in
set_option maxHeartbeats 4000000 in
theorem g9_mends_125 {r1 : Int32} {Mr : zM} {k57 : Int32 → zM → Option (Int32 × zM)} (hk57 : ∀ (v1 : Int32) (M : zM), k57 v1 M = some (r1, Mr) → zJ ztops RX9 cX9_mends 3 (zBm ztops 5 (some .int) (some (.int r1)) Mr) 0 0 57 [(0, .ref 39), (1, .int v1)] [] M) : ∀ (v1 : Int32) (M : zM), f9_mends_125 k57 v1 M = some (r1, Mr) → zJ ztops RX9 cX9_mends 3 (zBm ztops 5 (some .int) (some (.int r1)) Mr) 0 0 125 [(0, .ref 39), (1, .int v1)] [] M := by
  intro v1 M h
  rw [f9_mends_125] at h
  refine zg_iinc (ls' := [(0, .ref 39), (1, .int (v1 + (1 : Int32)))]) 1 dX9_mends_125 rfl zki_1 (Nat.le_of_ble_eq_true rfl) rfl ?_
  refine zg_goto (tgt := 57) dX9_mends_128 (by decide) ?_
  exact hk57 _ _ h
set_option maxRecDepth 20000 in
set_option maxHeartbeats 4000000 in
theorem g9_mends_57 {r1 : Int32} {Mr : zM} : ∀ (n : Nat) (v1 : Int32) (M : zM), f9_mends_57 n v1 M = some (r1, Mr) → zJ ztops RX9 cX9_mends 3 (zBm ztops 5 (some .int) (some (.int r1)) Mr) 0 0 57 [(0, .ref 39), (1, .int v1)] [] M := by
  intro n
  induction n with
  | zero => intro v1 M h; cases h
  | succ n ih =>
    intro v1 M h
    rw [f9_mends_57] at h
    refine zg_iload_n 1 dX9_mends_57 rfl rfl ?_
    refine zg_bipush dX9_mends_58 zkb_36 ?_
    refine zg_icmp_ge (tgt := 131) dX9_mends_60 (by decide) (fun hc => ?_) (fun hc => ?_)
    · replace h := (if_pos hc).symm.trans h
      refine zg_iconst dX9_mends_131 zki_0 ?_
      refine zg_istore_n (ls' := [(0, .ref 39), (1, .int (0 : Int32))]) dX9_mends_132 rfl (Nat.le_of_ble_eq_true rfl) rfl ?_
      exact g9_mends_133 zfuel _ _ h
    · replace h := (if_neg hc).symm.trans h
      refine zg_aload_n 0 dX9_mends_63 rfl rfl ?_
      refine zo_getr 41 1 rfl fl_X9_24 zt_39 rfl dX9_mends_64 ?_
      refine zg_iload_n 1 dX9_mends_67 rfl rfl ?_
      obtain ⟨x1, hx1, h⟩ := z_bind h
      refine zg_callS (st := []) (k_X9_isCell zt_41 hx1) zY_X9_isCell ls_X9_391 rfl (zfit_m (by decide) (by decide)) (Nat.le_of_ble_eq_true rfl) dX9_mends_68 rfl ?_
      refine zg_if_eq (tgt := 125) dX9_mends_71 (by decide) (fun hc => ?_) (fun hc => ?_)
      · replace h := (if_pos hc).symm.trans h
        exact g9_mends_125 (fun u0 u1 h => ih u0 u1 h) _ _ h
      · replace h := (if_neg hc).symm.trans h
        refine zg_aload_n 0 dX9_mends_74 rfl rfl ?_
        refine zo_getr 42 2 rfl fl_X9_28 zt_39 rfl dX9_mends_75 ?_
        refine zg_aload_n 0 dX9_mends_78 rfl rfl ?_
        refine zo_getr 41 1 rfl fl_X9_24 zt_39 rfl dX9_mends_79 ?_
        obtain ⟨M2, hM2, h⟩ := z_bind h
        refine zg_callS (st := []) (k_X9_copies zt_42 zt_41 hM2) zY_X9_copies ls_X9_194 rfl (zfit_m (by decide) (by decide)) (Nat.le_of_ble_eq_true rfl) dX9_mends_82 rfl ?_
        refine zg_aload_n 0 dX9_mends_85 rfl rfl ?_
        refine zo_getr 42 2 rfl fl_X9_28 zt_39 rfl dX9_mends_86 ?_
        refine zg_iload_n 1 dX9_mends_89 rfl rfl ?_
        refine zg_bipush dX9_mends_90 zkb_6 ?_
        refine zg_idiv (by decide) dX9_mends_92 ?_
        refine zg_iload_n 1 dX9_mends_93 rfl rfl ?_
        refine zg_bipush dX9_mends_94 zkb_6 ?_
        refine zg_irem (by decide) dX9_mends_96 ?_
        obtain ⟨p3, hp3, h⟩ := z_bind h
        refine zg_callS (st := []) (k_X9_flipsOne zt_42 hp3) zY_X9_flipsOne ls_X9_328 rfl (zfit_m (by decide) (by decide)) (Nat.le_of_ble_eq_true rfl) dX9_mends_97 rfl ?_
        refine zg_pop dX9_mends_100 rfl ?_
        refine zg_aload_n 0 dX9_mends_101 rfl rfl ?_
        refine zg_aload_n 0 dX9_mends_102 rfl rfl ?_
        refine zo_getr 42 2 rfl fl_X9_28 zt_39 rfl dX9_mends_103 ?_
        obtain ⟨p4, hp4, h⟩ := z_bind h
        refine zg_callV (st := []) (k_X9_doesHang zt_42 hp4) zY_X9_doesHang lv_X9_362 rfl zt_39 rfl (zfit_m (by decide) (by decide)) (Nat.le_of_ble_eq_true rfl) dX9_mends_106 rfl ?_
        refine zg_if_eq (tgt := 125) dX9_mends_109 (by decide) (fun hc => ?_) (fun hc => ?_)
        · replace h := (if_pos hc).symm.trans h
          exact g9_mends_125 (fun u0 u1 h => ih u0 u1 h) _ _ h
        · replace h := (if_neg hc).symm.trans h
          refine zg_aload_n 0 dX9_mends_112 rfl rfl ?_
          refine zg_iconst dX9_mends_113 zki_0 ?_
          refine zg_puti fp_X9_15 zt_39 rfl dX9_mends_114 ?_
          refine zg_aload_n 0 dX9_mends_117 rfl rfl ?_
          refine zg_iload_n 1 dX9_mends_118 rfl rfl ?_
          refine zg_i2l dX9_mends_119 ?_
          obtain ⟨M5, hM5, h⟩ := z_bind h
          refine zg_callV (st := []) (k_X9_enters hM5) zY_X9_enters lv_X9_311 rfl zt_39 rfl (zfit_m (by decide) (by decide)) (Nat.le_of_ble_eq_true rfl) dX9_mends_120 rfl ?_
          refine zg_iconst dX9_mends_123 zki_1 ?_
          obtain ⟨rfl, rfl⟩ := z_ret2 h
          exact zg_iret dX9_mends_124
set_option maxRecDepth 20000 in
set_option maxHeartbeats 4000000 in
theorem k_X9_mends {M : zM} {r1 : Int32} {Mr : zM} (h : f9_mends M = some (r1, Mr)) : zK ztops yX9_mends cX9_mends 3 (some .int) 5 [.ref 39] M (some (.int r1)) Mr := by
  refine zK_of pl_X9 (Nat.le_of_ble_eq_true rfl) ?_
  show zJ ztops RX9 cX9_mends 3 _ 0 0 0 [(0, .ref 39)] [] M
  rw [f9_mends] at h
  refine zg_aload_n 0 dX9_mends_0 rfl rfl ?_
  refine zg_iconst dX9_mends_1 zki_0 ?_
  refine zg_puti fp_X9_3 zt_39 rfl dX9_mends_2 ?_
  refine zg_aload_n 0 dX9_mends_5 rfl rfl ?_
  refine zo_getr 42 2 rfl fl_X9_28 zt_39 rfl dX9_mends_6 ?_
  refine zg_aload_n 0 dX9_mends_9 rfl rfl ?_
  refine zo_getr 41 1 rfl fl_X9_24 zt_39 rfl dX9_mends_10 ?_
  obtain ⟨M1, hM1, h⟩ := z_bind h
  refine zg_callS (st := []) (k_X9_copies zt_42 zt_41 hM1) zY_X9_copies ls_X9_194 rfl (zfit_m (by decide) (by decide)) (Nat.le_of_ble_eq_true rfl) dX9_mends_13 rfl ?_
  refine zg_aload_n 0 dX9_mends_16 rfl rfl ?_
  refine zg_aload_n 0 dX9_mends_17 rfl rfl ?_
  refine zg_aload_n 0 dX9_mends_18 rfl rfl ?_
  refine zo_getr 42 2 rfl fl_X9_28 zt_39 rfl dX9_mends_19 ?_
  obtain ⟨p2, hp2, h⟩ := z_bind h
  refine zg_callV (st := [.ref 39]) (k_X9_doesHang zt_42 hp2) zY_X9_doesHang lv_X9_362 rfl zt_39 rfl (zfit_m (by decide) (by decide)) (Nat.le_of_ble_eq_true rfl) dX9_mends_22 rfl ?_
  suffices hj : zJ ztops RX9 cX9_mends 3 (zBm ztops 5 (some .int) (some (.int r1)) Mr) 0 0 36 [(0, .ref 39)] [.int (if p2.1 = 0 then (p2.2.1 39 1) else (0 : Int32)), .ref 39] p2.2 by
    refine zg_if_eq (tgt := 32) dX9_mends_25 (by decide) (fun hc => ?_) (fun hc => ?_)
    · rw [show (if p2.1 = 0 then (p2.2.1 39 1) else (0 : Int32)) = (p2.2.1 39 1) from if_pos hc] at hj
      refine zg_aload_n 0 dX9_mends_32 rfl rfl ?_
      refine zg_geti fl_X9_15 zt_39 rfl dX9_mends_33 ?_
      exact hj
    · rw [show (if p2.1 = 0 then (p2.2.1 39 1) else (0 : Int32)) = (0 : Int32) from if_neg hc] at hj
      refine zg_iconst dX9_mends_28 zki_0 ?_
      refine zg_goto (tgt := 36) dX9_mends_29 (by decide) ?_
      exact hj
  refine zg_puti fp_X9_15 zt_39 rfl dX9_mends_36 ?_
  refine zg_aload_n 0 dX9_mends_39 rfl rfl ?_
  refine zg_aload_n 0 dX9_mends_40 rfl rfl ?_
  refine zo_getr 42 2 rfl fl_X9_28 zt_39 rfl dX9_mends_41 ?_
  obtain ⟨x3, hx3, h⟩ := z_bind h
  refine zg_callS (st := [.ref 39]) (k_X9_allOf zt_42 hx3) zY_X9_allOf ls_X9_356 rfl (zfit_m (by decide) (by decide)) (Nat.le_of_ble_eq_true rfl) dX9_mends_44 rfl ?_
  obtain ⟨x4, hx4, h⟩ := z_bind h
  refine zg_callV (st := []) (k_X9_isHanging hx4) zY_X9_isHanging lv_X9_359 rfl zt_39 rfl (zfit_m (by decide) (by decide)) (Nat.le_of_ble_eq_true rfl) dX9_mends_47 rfl ?_
  refine zg_if_eq (tgt := 55) dX9_mends_50 (by decide) (fun hc => ?_) (fun hc => ?_)
  · replace h := (if_pos hc).symm.trans h
    refine zg_iconst dX9_mends_55 zki_0 ?_
    refine zg_istore_n (ls' := [(0, .ref 39), (1, .int (0 : Int32))]) dX9_mends_56 rfl (Nat.le_of_ble_eq_true rfl) rfl ?_
    exact g9_mends_57 zfuel _ _ h
  · replace h := (if_neg hc).symm.trans h
    refine zg_iconst dX9_mends_53 zki_0 ?_
    obtain ⟨rfl, rfl⟩ := z_ret2 h
    exact zg_iret dX9_mends_54
