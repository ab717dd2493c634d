set_option maxRecDepth 20000 in
set_option maxHeartbeats 4000000 in
theorem g9_game_183 {r1 : Int32} {Mr : zM} : ∀ (M : zM), f9_game_183 M = some (r1, Mr) → zJ ztops RX9 cX9_game 5 (zBm ztops 5 (some .int) (some (.int r1)) Mr) 0 0 183 [(0, .ref 39)] [] M := by
  intro M h
  rw [f9_game_183] at h
  refine zg_aload_n 0 dX9_game_183 rfl rfl ?_
  refine zg_geti fl_X9_15 zt_39 rfl dX9_game_184 ?_
  suffices hj : zJ ztops RX9 cX9_game 5 (zBm ztops 5 (some .int) (some (.int r1)) Mr) 0 0 195 [(0, .ref 39)] [.int (if (M.1 39 1) ≤ 0 then (0 : Int32) else (1 : Int32))] M by
    refine zg_if_le (tgt := 194) dX9_game_187 (by decide) (fun hc => ?_) (fun hc => ?_)
    · rw [show (if (M.1 39 1) ≤ 0 then (0 : Int32) else (1 : Int32)) = (0 : Int32) from if_pos hc] at hj
      refine zg_iconst dX9_game_194 zki_0 ?_
      exact hj
    · rw [show (if (M.1 39 1) ≤ 0 then (0 : Int32) else (1 : Int32)) = (1 : Int32) from if_neg hc] at hj
      refine zg_iconst dX9_game_190 zki_1 ?_
      refine zg_goto (tgt := 195) dX9_game_191 (by decide) ?_
      exact hj
  obtain ⟨x1, hx1, h⟩ := z_bind h
  refine zg_callS (st := []) (k_X9_flag hx1) zY_X9_flag ls_X9_116 rfl (zfit_m (by decide) (by decide)) (Nat.le_of_ble_eq_true rfl) dX9_game_195 rfl ?_
  obtain ⟨rfl, rfl⟩ := z_ret2 h
  exact zg_iret dX9_game_198
set_option maxRecDepth 20000 in
set_option maxHeartbeats 4000000 in
theorem g9_game_177 {r1 : Int32} {Mr : zM} {k115 : Int32 → Int32 → zM → Option (Int32 × zM)} (hk115 : ∀ (v1 : Int32) (v2 : Int32) (M : zM), k115 v1 v2 M = some (r1, Mr) → zJ ztops RX9 cX9_game 5 (zBm ztops 5 (some .int) (some (.int r1)) Mr) 0 0 115 [(0, .ref 39), (1, .int v1), (2, .int v2)] [] M) : ∀ (v1 : Int32) (v2 : Int32) (M : zM), f9_game_177 k115 v1 v2 M = some (r1, Mr) → zJ ztops RX9 cX9_game 5 (zBm ztops 5 (some .int) (some (.int r1)) Mr) 0 0 177 [(0, .ref 39), (1, .int v1), (2, .int v2)] [] M := by
  intro v1 v2 M h
  rw [f9_game_177] at h
  refine zg_iinc (ls' := [(0, .ref 39), (1, .int v1), (2, .int (v2 + (1 : Int32)))]) 2 dX9_game_177 rfl zki_1 (Nat.le_of_ble_eq_true rfl) rfl ?_
  refine zg_goto (tgt := 115) dX9_game_180 (by decide) ?_
  exact hk115 _ _ _ h
set_option maxRecDepth 20000 in
set_option maxHeartbeats 4000000 in
theorem g9_game_115 {r1 : Int32} {Mr : zM} : ∀ (n : Nat) (v1 : Int32) (v2 : Int32) (M : zM), f9_game_115 n v1 v2 M = some (r1, Mr) → zJ ztops RX9 cX9_game 5 (zBm ztops 5 (some .int) (some (.int r1)) Mr) 0 0 115 [(0, .ref 39), (1, .int v1), (2, .int v2)] [] M := by
  intro n
  induction n with
  | zero => intro v1 v2 M h; cases h
  | succ n ih =>
    intro v1 v2 M h
    rw [f9_game_115] at h
    refine zg_iload_n 2 dX9_game_115 rfl rfl ?_
    refine zg_bipush dX9_game_116 zkb_12 ?_
    refine zg_icmp_ge (tgt := 183) dX9_game_118 (by decide) (fun hc => ?_) (fun hc => ?_)
    · replace h := (if_pos hc).symm.trans h
      refine zo_sub (ls' := [(0, .ref 39)]) [0] rfl ?_
      exact g9_game_183 _ h
    · replace h := (if_neg hc).symm.trans h
      refine zg_aload_n 0 dX9_game_121 rfl rfl ?_
      refine zo_getr 56 16 rfl fl_X9_70 zt_39 rfl dX9_game_122 ?_
      refine zg_iload_n 1 dX9_game_125 rfl rfl ?_
      obtain ⟨x1, hx1, h⟩ := z_bind h
      refine zo_zald zt_56 hx1 dX9_game_126 ?_
      refine zg_if_eq (tgt := 183) dX9_game_127 (by decide) (fun hc => ?_) (fun hc => ?_)
      · replace h := (if_pos hc).symm.trans h
        refine zo_sub (ls' := [(0, .ref 39)]) [0] rfl ?_
        exact g9_game_183 _ h
      · replace h := (if_neg hc).symm.trans h
        refine zg_aload_n 0 dX9_game_130 rfl rfl ?_
        refine zg_geti fl_X9_15 zt_39 rfl dX9_game_131 ?_
        refine zg_if_ne (tgt := 183) dX9_game_134 (by decide) (fun hc => ?_) (fun hc => ?_)
        · replace h := (if_neg hc).symm.trans h
          refine zo_sub (ls' := [(0, .ref 39)]) [0] rfl ?_
          exact g9_game_183 _ h
        · replace h := (if_pos hc).symm.trans h
          refine zg_iload_n 1 dX9_game_137 rfl rfl ?_
          refine zg_iconst dX9_game_138 zki_1 ?_
          refine zg_iload_n 2 dX9_game_139 rfl rfl ?_
          refine zg_ishl dX9_game_140 ?_
          refine zg_iconst dX9_game_141 zki_m1 ?_
          refine zg_ixor dX9_game_142 ?_
          refine zg_iand dX9_game_143 ?_
          refine zg_istore_n (ls' := [(0, .ref 39), (1, .int v1), (2, .int v2), (3, .int (v1 &&& ((zshl (1 : Int32) v2) ^^^ (-1 : Int32))))]) dX9_game_144 rfl (Nat.le_of_ble_eq_true rfl) rfl ?_
          refine zg_iload_n 1 dX9_game_145 rfl rfl ?_
          refine zg_iload_n 2 dX9_game_146 rfl rfl ?_
          obtain ⟨x2, hx2, h⟩ := z_bind h
          refine zg_callS (st := []) (k_X9_has hx2) zY_X9_has ls_X9_112 rfl (zfit_m (by decide) (by decide)) (Nat.le_of_ble_eq_true rfl) dX9_game_147 rfl ?_
          refine zg_if_eq (tgt := 177) dX9_game_150 (by decide) (fun hc => ?_) (fun hc => ?_)
          · replace h := (if_pos hc).symm.trans h
            refine zo_sub (ls' := [(0, .ref 39), (1, .int v1), (2, .int v2)]) [0, 1, 2] rfl ?_
            exact g9_game_177 (fun u0 u1 u2 h => ih u0 u1 u2 h) _ _ _ h
          · replace h := (if_neg hc).symm.trans h
            refine zg_aload_n 0 dX9_game_153 rfl rfl ?_
            refine zo_getr 56 16 rfl fl_X9_70 zt_39 rfl dX9_game_154 ?_
            refine zg_iload_n 3 dX9_game_157 rfl rfl ?_
            obtain ⟨x3, hx3, h⟩ := z_bind h
            refine zo_zald zt_56 hx3 dX9_game_158 ?_
            refine zg_if_eq (tgt := 177) dX9_game_159 (by decide) (fun hc => ?_) (fun hc => ?_)
            · replace h := (if_pos hc).symm.trans h
              refine zo_sub (ls' := [(0, .ref 39), (1, .int v1), (2, .int v2)]) [0, 1, 2] rfl ?_
              exact g9_game_177 (fun u0 u1 u2 h => ih u0 u1 u2 h) _ _ _ h
            · replace h := (if_neg hc).symm.trans h
              refine zg_aload_n 0 dX9_game_162 rfl rfl ?_
              refine zo_getr 59 19 rfl fl_X9_80 zt_39 rfl dX9_game_163 ?_
              refine zg_iload_n 3 dX9_game_166 rfl rfl ?_
              obtain ⟨x4, hx4, h⟩ := z_bind h
              refine zo_zald zt_59 hx4 dX9_game_167 ?_
              refine zg_if_ne (tgt := 177) dX9_game_168 (by decide) (fun hc => ?_) (fun hc => ?_)
              · replace h := (if_neg hc).symm.trans h
                refine zo_sub (ls' := [(0, .ref 39), (1, .int v1), (2, .int v2)]) [0, 1, 2] rfl ?_
                exact g9_game_177 (fun u0 u1 u2 h => ih u0 u1 u2 h) _ _ _ h
              · replace h := (if_pos hc).symm.trans h
                refine zg_aload_n 0 dX9_game_171 rfl rfl ?_
                refine zg_iload_n 2 dX9_game_172 rfl rfl ?_
                refine zg_i2l dX9_game_173 ?_
                obtain ⟨M5, hM5, h⟩ := z_bind h
                refine zg_callV (st := []) (k_X9_enters hM5) zY_X9_enters lv_X9_311 rfl zt_39 rfl (zfit_m (by decide) (by decide)) (Nat.le_of_ble_eq_true rfl) dX9_game_174 rfl ?_
                refine zo_sub (ls' := [(0, .ref 39), (1, .int v1), (2, .int v2)]) [0, 1, 2] rfl ?_
                exact g9_game_177 (fun u0 u1 u2 h => ih u0 u1 u2 h) _ _ _ h
set_option maxRecDepth 20000 in
set_option maxHeartbeats 4000000 in
theorem g9_game_95 {r1 : Int32} {Mr : zM} {k33 : Int32 → Int32 → Int32 → zM → Option (Int32 × zM)} (hk33 : ∀ (v1 : Int32) (v2 : Int32) (v3 : Int32) (M : zM), k33 v1 v2 v3 M = some (r1, Mr) → zJ ztops RX9 cX9_game 5 (zBm ztops 5 (some .int) (some (.int r1)) Mr) 0 0 33 [(0, .ref 39), (1, .int v1), (2, .int v2), (3, .int v3)] [] M) : ∀ (v1 : Int32) (v2 : Int32) (v3 : Int32) (s1 : Int32) (s2 : Int32) (M : zM), f9_game_95 k33 v1 v2 v3 s1 s2 M = some (r1, Mr) → zJ ztops RX9 cX9_game 5 (zBm ztops 5 (some .int) (some (.int r1)) Mr) 0 0 95 [(0, .ref 39), (1, .int v1), (2, .int v2), (3, .int v3)] [.int s2, .int s1, .ref 59] M := by
  intro v1 v2 v3 s1 s2 M h
  rw [f9_game_95] at h
  obtain ⟨M1, hM1, h⟩ := z_bind h
  refine zo_zast zt_59 hM1 dX9_game_95 ?_
  refine zg_iinc (ls' := [(0, .ref 39), (1, .int v1), (2, .int v2), (3, .int (v3 + (1 : Int32)))]) 3 dX9_game_96 rfl zki_1 (Nat.le_of_ble_eq_true rfl) rfl ?_
  refine zg_goto (tgt := 33) dX9_game_99 (by decide) ?_
  exact hk33 _ _ _ _ h
set_option maxRecDepth 20000 in
set_option maxHeartbeats 4000000 in
theorem g9_game_33 {r1 : Int32} {Mr : zM} {k102 : Int32 → Int32 → zM → Option (Int32 × zM)} (hk102 : ∀ (v1 : Int32) (v2 : Int32) (M : zM), k102 v1 v2 M = some (r1, Mr) → zJ ztops RX9 cX9_game 5 (zBm ztops 5 (some .int) (some (.int r1)) Mr) 0 0 102 [(0, .ref 39), (1, .int v1), (2, .int v2)] [] M) : ∀ (n : Nat) (v1 : Int32) (v2 : Int32) (v3 : Int32) (M : zM), f9_game_33 k102 n v1 v2 v3 M = some (r1, Mr) → zJ ztops RX9 cX9_game 5 (zBm ztops 5 (some .int) (some (.int r1)) Mr) 0 0 33 [(0, .ref 39), (1, .int v1), (2, .int v2), (3, .int v3)] [] M := by
  intro n
  induction n with
  | zero => intro v1 v2 v3 M h; cases h
  | succ n ih =>
    intro v1 v2 v3 M h
    rw [f9_game_33] at h
    refine zg_iload_n 3 dX9_game_33 rfl rfl ?_
    refine zg_bipush dX9_game_34 zkb_12 ?_
    refine zg_icmp_ge (tgt := 102) dX9_game_36 (by decide) (fun hc => ?_) (fun hc => ?_)
    · replace h := (if_pos hc).symm.trans h
      refine zo_sub (ls' := [(0, .ref 39), (1, .int v1), (2, .int v2)]) [0, 1, 2] rfl ?_
      exact hk102 _ _ _ h
    · replace h := (if_neg hc).symm.trans h
      refine zg_iload_n 2 dX9_game_39 rfl rfl ?_
      refine zg_iconst dX9_game_40 zki_1 ?_
      refine zg_iload_n 3 dX9_game_41 rfl rfl ?_
      refine zg_ishl dX9_game_42 ?_
      refine zg_iconst dX9_game_43 zki_m1 ?_
      refine zg_ixor dX9_game_44 ?_
      refine zg_iand dX9_game_45 ?_
      refine zg_istore (ls' := [(0, .ref 39), (1, .int v1), (2, .int v2), (3, .int v3), (4, .int (v2 &&& ((zshl (1 : Int32) v3) ^^^ (-1 : Int32))))]) dX9_game_46 (Nat.le_of_ble_eq_true rfl) rfl ?_
      refine zg_aload_n 0 dX9_game_48 rfl rfl ?_
      refine zo_getr 59 19 rfl fl_X9_80 zt_39 rfl dX9_game_49 ?_
      refine zg_iload_n 2 dX9_game_52 rfl rfl ?_
      refine zg_aload_n 0 dX9_game_53 rfl rfl ?_
      refine zo_getr 59 19 rfl fl_X9_80 zt_39 rfl dX9_game_54 ?_
      refine zg_iload_n 2 dX9_game_57 rfl rfl ?_
      obtain ⟨x1, hx1, h⟩ := z_bind h
      refine zo_zald zt_59 hx1 dX9_game_58 ?_
      refine zg_if_ne (tgt := 90) dX9_game_59 (by decide) (fun hc => ?_) (fun hc => ?_)
      · replace h := (if_neg hc).symm.trans h
        refine zg_iconst dX9_game_90 zki_1 ?_
        refine zg_goto (tgt := 95) dX9_game_91 (by decide) ?_
        refine zo_sub (ls' := [(0, .ref 39), (1, .int v1), (2, .int v2), (3, .int v3)]) [0, 1, 2, 3] rfl ?_
        exact g9_game_95 (fun u0 u1 u2 u3 h => ih u0 u1 u2 u3 h) _ _ _ _ _ _ h
      · replace h := (if_pos hc).symm.trans h
        refine zg_iload_n 2 dX9_game_62 rfl rfl ?_
        refine zg_iload_n 3 dX9_game_63 rfl rfl ?_
        obtain ⟨x2, hx2, h⟩ := z_bind h
        refine zg_callS (st := [.int v2, .ref 59]) (k_X9_has hx2) zY_X9_has ls_X9_112 rfl (zfit_m (by decide) (by decide)) (Nat.le_of_ble_eq_true rfl) dX9_game_64 rfl ?_
        refine zg_if_eq (tgt := 94) dX9_game_67 (by decide) (fun hc => ?_) (fun hc => ?_)
        · replace h := (if_pos hc).symm.trans h
          refine zg_iconst dX9_game_94 zki_0 ?_
          refine zo_sub (ls' := [(0, .ref 39), (1, .int v1), (2, .int v2), (3, .int v3)]) [0, 1, 2, 3] rfl ?_
          exact g9_game_95 (fun u0 u1 u2 u3 h => ih u0 u1 u2 u3 h) _ _ _ _ _ _ h
        · replace h := (if_neg hc).symm.trans h
          refine zg_aload_n 0 dX9_game_70 rfl rfl ?_
          refine zo_getr 56 16 rfl fl_X9_70 zt_39 rfl dX9_game_71 ?_
          refine zg_iload 4 dX9_game_74 rfl ?_
          obtain ⟨x3, hx3, h⟩ := z_bind h
          refine zo_zald zt_56 hx3 dX9_game_76 ?_
          refine zg_if_eq (tgt := 94) dX9_game_77 (by decide) (fun hc => ?_) (fun hc => ?_)
          · replace h := (if_pos hc).symm.trans h
            refine zg_iconst dX9_game_94 zki_0 ?_
            refine zo_sub (ls' := [(0, .ref 39), (1, .int v1), (2, .int v2), (3, .int v3)]) [0, 1, 2, 3] rfl ?_
            exact g9_game_95 (fun u0 u1 u2 u3 h => ih u0 u1 u2 u3 h) _ _ _ _ _ _ h
          · replace h := (if_neg hc).symm.trans h
            refine zg_aload_n 0 dX9_game_80 rfl rfl ?_
            refine zo_getr 59 19 rfl fl_X9_80 zt_39 rfl dX9_game_81 ?_
            refine zg_iload 4 dX9_game_84 rfl ?_
            obtain ⟨x4, hx4, h⟩ := z_bind h
            refine zo_zald zt_59 hx4 dX9_game_86 ?_
            suffices hj : zJ ztops RX9 cX9_game 5 (zBm ztops 5 (some .int) (some (.int r1)) Mr) 0 0 95 [(0, .ref 39), (1, .int v1), (2, .int v2), (3, .int v3), (4, .int (v2 &&& ((zshl (1 : Int32) v3) ^^^ (-1 : Int32))))] [.int (if x4 = 0 then (1 : Int32) else (0 : Int32)), .int v2, .ref 59] M by
              refine zg_if_ne (tgt := 94) dX9_game_87 (by decide) (fun hc => ?_) (fun hc => ?_)
              · rw [show (if x4 = 0 then (1 : Int32) else (0 : Int32)) = (0 : Int32) from if_neg hc] at hj
                refine zg_iconst dX9_game_94 zki_0 ?_
                exact hj
              · rw [show (if x4 = 0 then (1 : Int32) else (0 : Int32)) = (1 : Int32) from if_pos hc] at hj
                refine zg_iconst dX9_game_90 zki_1 ?_
                refine zg_goto (tgt := 95) dX9_game_91 (by decide) ?_
                exact hj
            refine zo_sub (ls' := [(0, .ref 39), (1, .int v1), (2, .int v2), (3, .int v3)]) [0, 1, 2, 3] rfl ?_
            exact g9_game_95 (fun u0 u1 u2 u3 h => ih u0 u1 u2 u3 h) _ _ _ _ _ _ h
set_option maxRecDepth 20000 in
set_option maxHeartbeats 4000000 in
theorem g9_game_102 {r1 : Int32} {Mr : zM} {k19 : Int32 → Int32 → zM → Option (Int32 × zM)} (hk19 : ∀ (v1 : Int32) (v2 : Int32) (M : zM), k19 v1 v2 M = some (r1, Mr) → zJ ztops RX9 cX9_game 5 (zBm ztops 5 (some .int) (some (.int r1)) Mr) 0 0 19 [(0, .ref 39), (1, .int v1), (2, .int v2)] [] M) : ∀ (v1 : Int32) (v2 : Int32) (M : zM), f9_game_102 k19 v1 v2 M = some (r1, Mr) → zJ ztops RX9 cX9_game 5 (zBm ztops 5 (some .int) (some (.int r1)) Mr) 0 0 102 [(0, .ref 39), (1, .int v1), (2, .int v2)] [] M := by
  intro v1 v2 M h
  rw [f9_game_102] at h
  refine zg_iinc (ls' := [(0, .ref 39), (1, .int v1), (2, .int (v2 + (1 : Int32)))]) 2 dX9_game_102 rfl zki_1 (Nat.le_of_ble_eq_true rfl) rfl ?_
  refine zg_goto (tgt := 19) dX9_game_105 (by decide) ?_
  exact hk19 _ _ _ h
set_option maxRecDepth 20000 in
set_option maxHeartbeats 4000000 in
theorem g9_game_19 {r1 : Int32} {Mr : zM} : ∀ (n : Nat) (v1 : Int32) (v2 : Int32) (M : zM), f9_game_19 n v1 v2 M = some (r1, Mr) → zJ ztops RX9 cX9_game 5 (zBm ztops 5 (some .int) (some (.int r1)) Mr) 0 0 19 [(0, .ref 39), (1, .int v1), (2, .int v2)] [] M := by
  intro n
  induction n with
  | zero => intro v1 v2 M h; cases h
  | succ n ih =>
    intro v1 v2 M h
    rw [f9_game_19] at h
    refine zg_iload_n 2 dX9_game_19 rfl rfl ?_
    refine zg_iload_n 1 dX9_game_20 rfl rfl ?_
    refine zg_icmp_gt (tgt := 108) dX9_game_21 (by decide) (fun hc => ?_) (fun hc => ?_)
    · replace h := (if_pos hc).symm.trans h
      refine zg_aload_n 0 dX9_game_108 rfl rfl ?_
      refine zg_iconst dX9_game_109 zki_0 ?_
      refine zg_puti fp_X9_15 zt_39 rfl dX9_game_110 ?_
      refine zg_iconst dX9_game_113 zki_0 ?_
      refine zg_istore_n (ls' := [(0, .ref 39), (1, .int v1), (2, .int (0 : Int32))]) dX9_game_114 rfl (Nat.le_of_ble_eq_true rfl) rfl ?_
      exact g9_game_115 zfuel _ _ _ h
    · replace h := (if_neg hc).symm.trans h
      refine zg_aload_n 0 dX9_game_24 rfl rfl ?_
      refine zo_getr 59 19 rfl fl_X9_80 zt_39 rfl dX9_game_25 ?_
      refine zg_iload_n 2 dX9_game_28 rfl rfl ?_
      refine zg_iconst dX9_game_29 zki_0 ?_
      obtain ⟨M1, hM1, h⟩ := z_bind h
      refine zo_zast zt_59 hM1 dX9_game_30 ?_
      refine zg_iconst dX9_game_31 zki_0 ?_
      refine zg_istore_n (ls' := [(0, .ref 39), (1, .int v1), (2, .int v2), (3, .int (0 : Int32))]) dX9_game_32 rfl (Nat.le_of_ble_eq_true rfl) rfl ?_
      exact g9_game_33 (fun u0 u1 u2 h => g9_game_102 (fun u0 u1 u2 h => ih u0 u1 u2 h) u0 u1 u2 h) zfuel _ _ _ _ h
set_option maxRecDepth 20000 in
set_option maxHeartbeats 4000000 in
theorem k_X9_game {M : zM} {r1 : Int32} {Mr : zM} (h : f9_game M = some (r1, Mr)) : zK ztops yX9_game cX9_game 5 (some .int) 5 [.ref 39] M (some (.int r1)) Mr := by
  refine zK_of pl_X9 (Nat.le_of_ble_eq_true rfl) ?_
  show zJ ztops RX9 cX9_game 5 _ 0 0 0 [(0, .ref 39)] [] M
  rw [f9_game] at h
  refine zg_aload_n 0 dX9_game_0 rfl rfl ?_
  refine zg_iconst dX9_game_1 zki_0 ?_
  refine zg_puti fp_X9_3 zt_39 rfl dX9_game_2 ?_
  refine zg_aload_n 0 dX9_game_5 rfl rfl ?_
  obtain ⟨M1, hM1, h⟩ := z_bind h
  refine zg_callV (st := []) (k_X9_laysHangs hM1) zY_X9_laysHangs lv_X9_394 rfl zt_39 rfl (zfit_m (by decide) (by decide)) (Nat.le_of_ble_eq_true rfl) dX9_game_6 rfl ?_
  refine zg_aload_n 0 dX9_game_9 rfl rfl ?_
  refine zo_getr 41 1 rfl fl_X9_24 zt_39 rfl dX9_game_10 ?_
  obtain ⟨x2, hx2, h⟩ := z_bind h
  refine zg_callS (st := []) (k_X9_allOf zt_41 hx2) zY_X9_allOf ls_X9_356 rfl (zfit_m (by decide) (by decide)) (Nat.le_of_ble_eq_true rfl) dX9_game_13 rfl ?_
  refine zg_istore_n (ls' := [(0, .ref 39), (1, .int x2)]) dX9_game_16 rfl (Nat.le_of_ble_eq_true rfl) rfl ?_
  refine zg_iconst dX9_game_17 zki_0 ?_
  refine zg_istore_n (ls' := [(0, .ref 39), (1, .int x2), (2, .int (0 : Int32))]) dX9_game_18 rfl (Nat.le_of_ble_eq_true rfl) rfl ?_
  exact g9_game_19 zfuel _ _ _ h
set_option maxRecDepth 20000 in
set_option maxHeartbeats 4000000 in
theorem k_X9_highest {T : List zN} {v0 : Int32} {r1 : Int32} {M : zM} (h : f9_highest v0 = some r1) : zK T yX9_highest cX9_highest 1 (some .int) 0 [.int v0] M (some (.int r1)) M := by
  refine zK_of pl_X9 (Nat.le_of_ble_eq_true rfl) ?_
  show zJ T RX9 cX9_highest 1 _ 0 0 0 [(0, .int v0)] [] M
  rw [f9_highest] at h
  refine zg_iload_n 0 dX9_highest_0 rfl rfl ?_
  suffices hj : zJ T RX9 cX9_highest 1 (zBm T 0 (some .int) (some (.int r1)) M) 0 0 24 [(0, .int v0)] [.int (if v0 = 0 then (1 : Int32) else (if v0 = (3 : Int32) then (1 : Int32) else (if v0 = (1 : Int32) then (6 : Int32) else (5 : Int32))))] M by
    refine zg_if_eq (tgt := 9) dX9_highest_1 (by decide) (fun hc => ?_) (fun hc => ?_)
    · rw [show (if v0 = 0 then (1 : Int32) else (if v0 = (3 : Int32) then (1 : Int32) else (if v0 = (1 : Int32) then (6 : Int32) else (5 : Int32)))) = (1 : Int32) from if_pos hc] at hj
      refine zg_iconst dX9_highest_9 zki_1 ?_
      refine zg_goto (tgt := 24) dX9_highest_10 (by decide) ?_
      exact hj
    · rw [show (if v0 = 0 then (1 : Int32) else (if v0 = (3 : Int32) then (1 : Int32) else (if v0 = (1 : Int32) then (6 : Int32) else (5 : Int32)))) = (if v0 = (3 : Int32) then (1 : Int32) else (if v0 = (1 : Int32) then (6 : Int32) else (5 : Int32))) from if_neg hc] at hj
      refine zg_iload_n 0 dX9_highest_4 rfl rfl ?_
      refine zg_iconst dX9_highest_5 zki_3 ?_
      refine zg_icmp_ne (tgt := 13) dX9_highest_6 (by decide) (fun hc => ?_) (fun hc => ?_)
      · rw [show (if v0 = (3 : Int32) then (1 : Int32) else (if v0 = (1 : Int32) then (6 : Int32) else (5 : Int32))) = (if v0 = (1 : Int32) then (6 : Int32) else (5 : Int32)) from if_neg hc] at hj
        refine zg_iload_n 0 dX9_highest_13 rfl rfl ?_
        refine zg_iconst dX9_highest_14 zki_1 ?_
        refine zg_icmp_ne (tgt := 23) dX9_highest_15 (by decide) (fun hc => ?_) (fun hc => ?_)
        · rw [show (if v0 = (1 : Int32) then (6 : Int32) else (5 : Int32)) = (5 : Int32) from if_neg hc] at hj
          refine zg_iconst dX9_highest_23 zki_5 ?_
          exact hj
        · rw [show (if v0 = (1 : Int32) then (6 : Int32) else (5 : Int32)) = (6 : Int32) from if_pos hc] at hj
          refine zg_bipush dX9_highest_18 zkb_6 ?_
          refine zg_goto (tgt := 24) dX9_highest_20 (by decide) ?_
          exact hj
      · rw [show (if v0 = (3 : Int32) then (1 : Int32) else (if v0 = (1 : Int32) then (6 : Int32) else (5 : Int32))) = (1 : Int32) from if_pos hc] at hj
        refine zg_iconst dX9_highest_9 zki_1 ?_
        refine zg_goto (tgt := 24) dX9_highest_10 (by decide) ?_
        exact hj
  obtain rfl := z_ret1 h
  exact zg_iret dX9_highest_24
set_option maxRecDepth 20000 in
set_option maxHeartbeats 4000000 in
theorem k_X9_told {v1 : Int32} {v2 : Int32} {M : zM} {r1 : Int32} {Mr : zM} (h : f9_told v1 v2 M = some (r1, Mr)) : zK ztops yX9_told cX9_told 3 (some .int) 2 [.ref 39, .int v1, .int v2] M (some (.int r1)) Mr := by
  refine zK_of pl_X9 (Nat.le_of_ble_eq_true rfl) ?_
  show zJ ztops RX9 cX9_told 3 _ 0 0 0 [(0, .ref 39), (1, .int v1), (2, .int v2)] [] M
  rw [f9_told] at h
  refine zg_aload_n 0 dX9_told_0 rfl rfl ?_
  refine zg_iconst dX9_told_1 zki_0 ?_
  refine zg_puti fp_X9_3 zt_39 rfl dX9_told_2 ?_
  refine zg_iload_n 1 dX9_told_5 rfl rfl ?_
  refine zg_i2l dX9_told_6 ?_
  refine zg_lconst dX9_told_7 (v := 0) rfl ?_
  refine zg_ldc2 kc_X9_276 dX9_told_8 ?_
  obtain ⟨x1, hx1, h⟩ := z_bind h
  refine zg_callS (st := []) (k_X9_in hx1) zY_X9_in ls_X9_104 rfl (zfit_m (by decide) (by decide)) (Nat.le_of_ble_eq_true rfl) dX9_told_11 rfl ?_
  refine zg_if_eq (tgt := 40) dX9_told_14 (by decide) (fun hc => ?_) (fun hc => ?_)
  · replace h := (if_pos hc).symm.trans h
    refine zg_iconst dX9_told_40 zki_m1 ?_
    obtain ⟨rfl, rfl⟩ := z_ret2 h
    exact zg_iret dX9_told_41
  · replace h := (if_neg hc).symm.trans h
    refine zg_iload_n 2 dX9_told_17 rfl rfl ?_
    refine zg_i2l dX9_told_18 ?_
    refine zg_lconst dX9_told_19 (v := 0) rfl ?_
    refine zg_iload_n 1 dX9_told_20 rfl rfl ?_
    obtain ⟨x2, hx2, h⟩ := z_bind h
    refine zg_callS (st := [.long (0 : Int64), .long (Int32.toInt64 v2)]) (k_X9_highest hx2) zY_X9_highest ls_X9_410 rfl (zfit_m (by decide) (by decide)) (Nat.le_of_ble_eq_true rfl) dX9_told_21 rfl ?_
    refine zg_i2l dX9_told_24 ?_
    obtain ⟨x3, hx3, h⟩ := z_bind h
    refine zg_callS (st := []) (k_X9_in hx3) zY_X9_in ls_X9_104 rfl (zfit_m (by decide) (by decide)) (Nat.le_of_ble_eq_true rfl) dX9_told_25 rfl ?_
    refine zg_if_eq (tgt := 40) dX9_told_28 (by decide) (fun hc => ?_) (fun hc => ?_)
    · replace h := (if_pos hc).symm.trans h
      refine zg_iconst dX9_told_40 zki_m1 ?_
      obtain ⟨rfl, rfl⟩ := z_ret2 h
      exact zg_iret dX9_told_41
    · replace h := (if_neg hc).symm.trans h
      refine zg_aload_n 0 dX9_told_31 rfl rfl ?_
      refine zg_geti fl_X9_413 zt_39 rfl dX9_told_32 ?_
      refine zg_bipush dX9_told_35 zkb_12 ?_
      refine zg_icmp_ne (tgt := 42) dX9_told_37 (by decide) (fun hc => ?_) (fun hc => ?_)
      · replace h := (if_neg hc).symm.trans h
        refine zg_aload_n 0 dX9_told_42 rfl rfl ?_
        refine zo_getr 60 20 rfl fl_X9_83 zt_39 rfl dX9_told_43 ?_
        refine zg_aload_n 0 dX9_told_46 rfl rfl ?_
        refine zg_geti fl_X9_413 zt_39 rfl dX9_told_47 ?_
        refine zg_iload_n 1 dX9_told_50 rfl rfl ?_
        obtain ⟨M4, hM4, h⟩ := z_bind h
        refine zo_iast zt_60 hM4 dX9_told_51 ?_
        refine zg_aload_n 0 dX9_told_52 rfl rfl ?_
        refine zo_getr 61 21 rfl fl_X9_86 zt_39 rfl dX9_told_53 ?_
        refine zg_aload_n 0 dX9_told_56 rfl rfl ?_
        refine zg_geti fl_X9_413 zt_39 rfl dX9_told_57 ?_
        refine zg_iload_n 2 dX9_told_60 rfl rfl ?_
        obtain ⟨M5, hM5, h⟩ := z_bind h
        refine zo_iast zt_61 hM5 dX9_told_61 ?_
        refine zg_aload_n 0 dX9_told_62 rfl rfl ?_
        refine zg_dup dX9_told_63 rfl ?_
        refine zg_geti fl_X9_413 zt_39 rfl dX9_told_64 ?_
        refine zg_iconst dX9_told_67 zki_1 ?_
        refine zg_iadd dX9_told_68 ?_
        refine zg_puti fp_X9_413 zt_39 rfl dX9_told_69 ?_
        refine zg_aload_n 0 dX9_told_72 rfl rfl ?_
        refine zg_geti fl_X9_413 zt_39 rfl dX9_told_73 ?_
        obtain ⟨rfl, rfl⟩ := z_ret2 h
        exact zg_iret dX9_told_76
      · replace h := (if_pos hc).symm.trans h
        refine zg_iconst dX9_told_40 zki_m1 ?_
        obtain ⟨rfl, rfl⟩ := z_ret2 h
        exact zg_iret dX9_told_41
set_option maxRecDepth 20000 in
set_option maxHeartbeats 4000000 in
theorem k_X9_forget {M : zM} {r1 : Int32} {Mr : zM} (h : f9_forget M = some (r1, Mr)) : zK ztops yX9_forget cX9_forget 2 (some .int) 0 [.ref 39] M (some (.int r1)) Mr := by
  refine zK_of pl_X9 (Nat.le_of_ble_eq_true rfl) ?_
  show zJ ztops RX9 cX9_forget 2 _ 0 0 0 [(0, .ref 39)] [] M
  rw [f9_forget] at h
  refine zg_aload_n 0 dX9_forget_0 rfl rfl ?_
  refine zg_iconst dX9_forget_1 zki_0 ?_
  refine zg_puti fp_X9_3 zt_39 rfl dX9_forget_2 ?_
  refine zg_aload_n 0 dX9_forget_5 rfl rfl ?_
  refine zg_geti fl_X9_413 zt_39 rfl dX9_forget_6 ?_
  refine zg_istore_n (ls' := [(0, .ref 39), (1, .int ((zsi M 39 0 (0 : Int32)).1 39 32))]) dX9_forget_9 rfl (Nat.le_of_ble_eq_true rfl) rfl ?_
  refine zg_aload_n 0 dX9_forget_10 rfl rfl ?_
  refine zg_iconst dX9_forget_11 zki_0 ?_
  refine zg_puti fp_X9_413 zt_39 rfl dX9_forget_12 ?_
  refine zg_iload_n 1 dX9_forget_15 rfl rfl ?_
  obtain ⟨rfl, rfl⟩ := z_ret2 h
  exact zg_iret dX9_forget_16
set_option maxRecDepth 20000 in
set_option maxHeartbeats 4000000 in
theorem k_X9_isSo {v1 : Int32} {v2 : Int32} {v3 : Int32} {r1 : Int32} {M : zM} (h : f9_isSo v1 v2 v3 M = some r1) : zK ztops yX9_isSo cX9_isSo 6 (some .boolean) 4 [.ref 39, .int v1, .int v2, .int v3] M (some (.int r1)) M := by
  refine zK_of pl_X9 (Nat.le_of_ble_eq_true rfl) ?_
  show zJ ztops RX9 cX9_isSo 6 _ 0 0 0 [(0, .ref 39), (1, .int v1), (2, .int v2), (3, .int v3)] [] M
  rw [f9_isSo] at h
  refine zg_iload_n 1 dX9_isSo_0 rfl rfl ?_
  refine zg_bipush dX9_isSo_1 zkb_6 ?_
  refine zg_idiv (by decide) dX9_isSo_3 ?_
  refine zg_istore (ls' := [(0, .ref 39), (1, .int v1), (2, .int v2), (3, .int v3), (4, .int (v1 / (6 : Int32)))]) dX9_isSo_4 (Nat.le_of_ble_eq_true rfl) rfl ?_
  refine zg_aload_n 0 dX9_isSo_6 rfl rfl ?_
  refine zo_getr 41 1 rfl fl_X9_24 zt_39 rfl dX9_isSo_7 ?_
  refine zg_iload 4 dX9_isSo_10 rfl ?_
  refine zg_iload_n 1 dX9_isSo_12 rfl rfl ?_
  refine zg_bipush dX9_isSo_13 zkb_6 ?_
  refine zg_irem (by decide) dX9_isSo_15 ?_
  obtain ⟨x1, hx1, h⟩ := z_bind h
  refine zg_callS (st := []) (k_X9_bitsOf zt_41 hx1) zY_X9_bitsOf ls_X9_120 rfl (zfit_m (by decide) (by decide)) (Nat.le_of_ble_eq_true rfl) dX9_isSo_16 rfl ?_
  refine zg_istore (ls' := [(0, .ref 39), (1, .int v1), (2, .int v2), (3, .int v3), (4, .int (v1 / (6 : Int32))), (5, .int x1)]) dX9_isSo_19 (Nat.le_of_ble_eq_true rfl) rfl ?_
  refine zg_iload_n 2 dX9_isSo_21 rfl rfl ?_
  by_cases hc1 : v2 = (0 : Int32)
  · replace h := (if_pos hc1).symm.trans h
    refine zg_tableEq (k := 0) (off := 30) (tgt := 52) dX9_isSo_22 hc1 (by decide) (by decide) (by decide) (by decide) ?_
    refine zg_iload 4 dX9_isSo_52 rfl ?_
    refine zg_iload_n 3 dX9_isSo_54 rfl rfl ?_
    suffices hj : zJ ztops RX9 cX9_isSo 6 (zBm ztops 4 (some .boolean) (some (.int r1)) M) 0 0 63 [(0, .ref 39), (1, .int v1), (2, .int v2), (3, .int v3), (4, .int (v1 / (6 : Int32))), (5, .int x1)] [.int (if (v1 / (6 : Int32)) = v3 then (1 : Int32) else (0 : Int32))] M by
      refine zg_icmp_ne (tgt := 62) dX9_isSo_55 (by decide) (fun hc => ?_) (fun hc => ?_)
      · rw [show (if (v1 / (6 : Int32)) = v3 then (1 : Int32) else (0 : Int32)) = (0 : Int32) from if_neg hc] at hj
        refine zg_iconst dX9_isSo_62 zki_0 ?_
        exact hj
      · rw [show (if (v1 / (6 : Int32)) = v3 then (1 : Int32) else (0 : Int32)) = (1 : Int32) from if_pos hc] at hj
        refine zg_iconst dX9_isSo_58 zki_1 ?_
        refine zg_goto (tgt := 63) dX9_isSo_59 (by decide) ?_
        exact hj
    obtain rfl := z_ret1 h
    exact zg_zret (zn_ite rfl rfl) dX9_isSo_63
  replace h := (if_neg hc1).symm.trans h
  by_cases hc2 : v2 = (1 : Int32)
  · replace h := (if_pos hc2).symm.trans h
    refine zg_tableEq (k := 1) (off := 42) (tgt := 64) dX9_isSo_22 hc2 (by decide) (by decide) (by decide) (by decide) ?_
    refine zg_iload 5 dX9_isSo_64 rfl ?_
    obtain ⟨x2, hx2, h⟩ := z_bind h
    refine zg_callS (st := []) (k_J6_bitCount_0f7a4 hx2) zY_J6_bitCount_0f7a4 ls_X9_131 rfl (zfit_m (by decide) (by decide)) (Nat.le_of_ble_eq_true rfl) dX9_isSo_66 rfl ?_
    refine zg_iload_n 3 dX9_isSo_69 rfl rfl ?_
    suffices hj : zJ ztops RX9 cX9_isSo 6 (zBm ztops 4 (some .boolean) (some (.int r1)) M) 0 0 78 [(0, .ref 39), (1, .int v1), (2, .int v2), (3, .int v3), (4, .int (v1 / (6 : Int32))), (5, .int x1)] [.int (if x2 < v3 then (0 : Int32) else (1 : Int32))] M by
      refine zg_icmp_lt (tgt := 77) dX9_isSo_70 (by decide) (fun hc => ?_) (fun hc => ?_)
      · rw [show (if x2 < v3 then (0 : Int32) else (1 : Int32)) = (0 : Int32) from if_pos hc] at hj
        refine zg_iconst dX9_isSo_77 zki_0 ?_
        exact hj
      · rw [show (if x2 < v3 then (0 : Int32) else (1 : Int32)) = (1 : Int32) from if_neg hc] at hj
        refine zg_iconst dX9_isSo_73 zki_1 ?_
        refine zg_goto (tgt := 78) dX9_isSo_74 (by decide) ?_
        exact hj
    obtain rfl := z_ret1 h
    exact zg_zret (zn_ite rfl rfl) dX9_isSo_78
  replace h := (if_neg hc2).symm.trans h
  by_cases hc3 : v2 = (2 : Int32)
  · replace h := (if_pos hc3).symm.trans h
    refine zg_tableEq (k := 2) (off := 57) (tgt := 79) dX9_isSo_22 hc3 (by decide) (by decide) (by decide) (by decide) ?_
    refine zg_iload 5 dX9_isSo_79 rfl ?_
    refine zg_aload_n 0 dX9_isSo_81 rfl rfl ?_
    refine zo_getr 41 1 rfl fl_X9_24 zt_39 rfl dX9_isSo_82 ?_
    refine zg_iload 4 dX9_isSo_85 rfl ?_
    obtain ⟨x2, hx2, h⟩ := z_bind h
    refine zg_callS (st := [.int x1]) (k_X9_cellsOf zt_41 hx2) zY_X9_cellsOf ls_X9_124 rfl (zfit_m (by decide) (by decide)) (Nat.le_of_ble_eq_true rfl) dX9_isSo_87 rfl ?_
    obtain ⟨x3, hx3, h⟩ := z_bind h
    refine zg_callS (st := []) (k_X9_changesOf hx3) zY_X9_changesOf ls_X9_249 rfl (zfit_m (by decide) (by decide)) (Nat.le_of_ble_eq_true rfl) dX9_isSo_90 rfl ?_
    refine zg_iload_n 3 dX9_isSo_93 rfl rfl ?_
    suffices hj : zJ ztops RX9 cX9_isSo 6 (zBm ztops 4 (some .boolean) (some (.int r1)) M) 0 0 102 [(0, .ref 39), (1, .int v1), (2, .int v2), (3, .int v3), (4, .int (v1 / (6 : Int32))), (5, .int x1)] [.int (if x3 < v3 then (0 : Int32) else (1 : Int32))] M by
      refine zg_icmp_lt (tgt := 101) dX9_isSo_94 (by decide) (fun hc => ?_) (fun hc => ?_)
      · rw [show (if x3 < v3 then (0 : Int32) else (1 : Int32)) = (0 : Int32) from if_pos hc] at hj
        refine zg_iconst dX9_isSo_101 zki_0 ?_
        exact hj
      · rw [show (if x3 < v3 then (0 : Int32) else (1 : Int32)) = (1 : Int32) from if_neg hc] at hj
        refine zg_iconst dX9_isSo_97 zki_1 ?_
        refine zg_goto (tgt := 102) dX9_isSo_98 (by decide) ?_
        exact hj
    obtain rfl := z_ret1 h
    exact zg_zret (zn_ite rfl rfl) dX9_isSo_102
  replace h := (if_neg hc3).symm.trans h
  by_cases hc4 : v2 = (3 : Int32)
  · replace h := (if_pos hc4).symm.trans h
    refine zg_tableEq (k := 3) (off := 81) (tgt := 103) dX9_isSo_22 hc4 (by decide) (by decide) (by decide) (by decide) ?_
    refine zg_aload_n 0 dX9_isSo_103 rfl rfl ?_
    refine zo_getr 41 1 rfl fl_X9_24 zt_39 rfl dX9_isSo_104 ?_
    refine zg_iload 4 dX9_isSo_107 rfl ?_
    refine zg_iload_n 1 dX9_isSo_109 rfl rfl ?_
    refine zg_bipush dX9_isSo_110 zkb_6 ?_
    refine zg_irem (by decide) dX9_isSo_112 ?_
    obtain ⟨x2, hx2, h⟩ := z_bind h
    refine zg_callS (st := []) (k_X9_isLoose zt_41 hx2) zY_X9_isLoose ls_X9_278 rfl (zfit_m (by decide) (by decide)) (Nat.le_of_ble_eq_true rfl) dX9_isSo_113 rfl ?_
    obtain ⟨x3, hx3, h⟩ := z_bind h
    refine zg_callS (st := []) (k_X9_flag hx3) zY_X9_flag ls_X9_116 rfl (zfit_m (by decide) (by decide)) (Nat.le_of_ble_eq_true rfl) dX9_isSo_116 rfl ?_
    refine zg_iload_n 3 dX9_isSo_119 rfl rfl ?_
    suffices hj : zJ ztops RX9 cX9_isSo 6 (zBm ztops 4 (some .boolean) (some (.int r1)) M) 0 0 128 [(0, .ref 39), (1, .int v1), (2, .int v2), (3, .int v3), (4, .int (v1 / (6 : Int32))), (5, .int x1)] [.int (if x3 = v3 then (1 : Int32) else (0 : Int32))] M by
      refine zg_icmp_ne (tgt := 127) dX9_isSo_120 (by decide) (fun hc => ?_) (fun hc => ?_)
      · rw [show (if x3 = v3 then (1 : Int32) else (0 : Int32)) = (0 : Int32) from if_neg hc] at hj
        refine zg_iconst dX9_isSo_127 zki_0 ?_
        exact hj
      · rw [show (if x3 = v3 then (1 : Int32) else (0 : Int32)) = (1 : Int32) from if_pos hc] at hj
        refine zg_iconst dX9_isSo_123 zki_1 ?_
        refine zg_goto (tgt := 128) dX9_isSo_124 (by decide) ?_
        exact hj
    obtain rfl := z_ret1 h
    exact zg_zret (zn_ite rfl rfl) dX9_isSo_128
  replace h := (if_neg hc4).symm.trans h
  refine zg_tableOut (tgt := 129) dX9_isSo_22 (z_tout 4 (fun j hj => by match j, hj with | 0, _ => exact hc1 | 1, _ => exact hc2 | 2, _ => exact hc3 | 3, _ => exact hc4 | j + 4, hj => exact absurd hj (by omega)) (by decide)) (by decide) ?_
  refine zg_iload_n 1 dX9_isSo_129 rfl rfl ?_
  refine zg_bipush dX9_isSo_130 zkb_6 ?_
  refine zg_irem (by decide) dX9_isSo_132 ?_
  refine zg_iload_n 3 dX9_isSo_133 rfl rfl ?_
  suffices hj : zJ ztops RX9 cX9_isSo 6 (zBm ztops 4 (some .boolean) (some (.int r1)) M) 0 0 142 [(0, .ref 39), (1, .int v1), (2, .int v2), (3, .int v3), (4, .int (v1 / (6 : Int32))), (5, .int x1)] [.int (if v3 < (zrem v1 (6 : Int32)) then (0 : Int32) else (1 : Int32))] M by
    refine zg_icmp_gt (tgt := 141) dX9_isSo_134 (by decide) (fun hc => ?_) (fun hc => ?_)
    · rw [show (if v3 < (zrem v1 (6 : Int32)) then (0 : Int32) else (1 : Int32)) = (0 : Int32) from if_pos hc] at hj
      refine zg_iconst dX9_isSo_141 zki_0 ?_
      exact hj
    · rw [show (if v3 < (zrem v1 (6 : Int32)) then (0 : Int32) else (1 : Int32)) = (1 : Int32) from if_neg hc] at hj
      refine zg_iconst dX9_isSo_137 zki_1 ?_
      refine zg_goto (tgt := 142) dX9_isSo_138 (by decide) ?_
      exact hj
  obtain rfl := z_ret1 h
  exact zg_zret (zn_ite rfl rfl) dX9_isSo_142
set_option maxRecDepth 20000 in
set_option maxHeartbeats 4000000 in
theorem g9_fitting_18 {r1 : Int32} {M : zM} {k72 : Int32 → Int32 → zM → Option Int32} (hk72 : ∀ (v1 : Int32) (v2 : Int32), k72 v1 v2 M = some r1 → zJ ztops RX9 cX9_fitting 4 (zBm ztops 5 (some .int) (some (.int r1)) M) 0 0 72 [(0, .ref 39), (1, .int v1), (2, .int v2)] [] M) : ∀ (n : Nat) (v1 : Int32) (v2 : Int32) (v3 : Int32), f9_fitting_18 k72 n v1 v2 v3 M = some r1 → zJ ztops RX9 cX9_fitting 4 (zBm ztops 5 (some .int) (some (.int r1)) M) 0 0 18 [(0, .ref 39), (1, .int v1), (2, .int v2), (3, .int v3)] [] M := by
  intro n
  induction n with
  | zero => intro v1 v2 v3 h; cases h
  | succ n ih =>
    intro v1 v2 v3 h
    rw [f9_fitting_18] at h
    refine zg_iload_n 3 dX9_fitting_18 rfl rfl ?_
    refine zg_aload_n 0 dX9_fitting_19 rfl rfl ?_
    refine zg_geti fl_X9_413 zt_39 rfl dX9_fitting_20 ?_
    refine zg_icmp_ge (tgt := 72) dX9_fitting_23 (by decide) (fun hc => ?_) (fun hc => ?_)
    · replace h := (if_pos hc).symm.trans h
      refine zo_sub (ls' := [(0, .ref 39), (1, .int v1), (2, .int v2)]) [0, 1, 2] rfl ?_
      exact hk72 _ _ h
    · replace h := (if_neg hc).symm.trans h
      refine zg_iload_n 1 dX9_fitting_26 rfl rfl ?_
      refine zg_iload_n 2 dX9_fitting_27 rfl rfl ?_
      obtain ⟨x1, hx1, h⟩ := z_bind h
      refine zg_callS (st := []) (k_X9_has hx1) zY_X9_has ls_X9_112 rfl (zfit_m (by decide) (by decide)) (Nat.le_of_ble_eq_true rfl) dX9_fitting_28 rfl ?_
      refine zg_if_eq (tgt := 72) dX9_fitting_31 (by decide) (fun hc => ?_) (fun hc => ?_)
      · replace h := (if_pos hc).symm.trans h
        refine zo_sub (ls' := [(0, .ref 39), (1, .int v1), (2, .int v2)]) [0, 1, 2] rfl ?_
        exact hk72 _ _ h
      · replace h := (if_neg hc).symm.trans h
        refine zg_iload_n 1 dX9_fitting_34 rfl rfl ?_
        refine zg_aload_n 0 dX9_fitting_35 rfl rfl ?_
        refine zg_iload_n 2 dX9_fitting_36 rfl rfl ?_
        refine zg_aload_n 0 dX9_fitting_37 rfl rfl ?_
        refine zo_getr 60 20 rfl fl_X9_83 zt_39 rfl dX9_fitting_38 ?_
        refine zg_iload_n 3 dX9_fitting_41 rfl rfl ?_
        obtain ⟨x2, hx2, h⟩ := z_bind h
        refine zo_iald zt_60 hx2 dX9_fitting_42 ?_
        refine zg_aload_n 0 dX9_fitting_43 rfl rfl ?_
        refine zo_getr 61 21 rfl fl_X9_86 zt_39 rfl dX9_fitting_44 ?_
        refine zg_iload_n 3 dX9_fitting_47 rfl rfl ?_
        obtain ⟨x3, hx3, h⟩ := z_bind h
        refine zo_iald zt_61 hx3 dX9_fitting_48 ?_
        obtain ⟨x4, hx4, h⟩ := z_bind h
        refine zg_callV (st := [.int v1]) (k_X9_isSo hx4) zY_X9_isSo lv_X9_416 rfl zt_39 rfl (zfit_m (by decide) (by decide)) (Nat.le_of_ble_eq_true rfl) dX9_fitting_49 rfl ?_
        suffices hj : zJ ztops RX9 cX9_fitting 4 (zBm ztops 5 (some .int) (some (.int r1)) M) 0 0 64 [(0, .ref 39), (1, .int v1), (2, .int v2), (3, .int v3)] [.int (if x4 = 0 then ((zshl (1 : Int32) v2) ^^^ (-1 : Int32)) else (-1 : Int32)), .int v1] M by
          refine zg_if_eq (tgt := 59) dX9_fitting_52 (by decide) (fun hc => ?_) (fun hc => ?_)
          · rw [show (if x4 = 0 then ((zshl (1 : Int32) v2) ^^^ (-1 : Int32)) else (-1 : Int32)) = ((zshl (1 : Int32) v2) ^^^ (-1 : Int32)) from if_pos hc] at hj
            refine zg_iconst dX9_fitting_59 zki_1 ?_
            refine zg_iload_n 2 dX9_fitting_60 rfl rfl ?_
            refine zg_ishl dX9_fitting_61 ?_
            refine zg_iconst dX9_fitting_62 zki_m1 ?_
            refine zg_ixor dX9_fitting_63 ?_
            exact hj
          · rw [show (if x4 = 0 then ((zshl (1 : Int32) v2) ^^^ (-1 : Int32)) else (-1 : Int32)) = (-1 : Int32) from if_neg hc] at hj
            refine zg_iconst dX9_fitting_55 zki_m1 ?_
            refine zg_goto (tgt := 64) dX9_fitting_56 (by decide) ?_
            exact hj
        refine zg_iand dX9_fitting_64 ?_
        refine zg_istore_n (ls' := [(0, .ref 39), (1, .int (v1 &&& (if x4 = 0 then ((zshl (1 : Int32) v2) ^^^ (-1 : Int32)) else (-1 : Int32)))), (2, .int v2), (3, .int v3)]) dX9_fitting_65 rfl (Nat.le_of_ble_eq_true rfl) rfl ?_
        refine zg_iinc (ls' := [(0, .ref 39), (1, .int (v1 &&& (if x4 = 0 then ((zshl (1 : Int32) v2) ^^^ (-1 : Int32)) else (-1 : Int32)))), (2, .int v2), (3, .int (v3 + (1 : Int32)))]) 3 dX9_fitting_66 rfl zki_1 (Nat.le_of_ble_eq_true rfl) rfl ?_
        refine zg_goto (tgt := 18) dX9_fitting_69 (by decide) ?_
        exact ih _ _ _ h
set_option maxRecDepth 20000 in
set_option maxHeartbeats 4000000 in
theorem g9_fitting_72 {r1 : Int32} {M : zM} {k10 : Int32 → Int32 → zM → Option Int32} (hk10 : ∀ (v1 : Int32) (v2 : Int32), k10 v1 v2 M = some r1 → zJ ztops RX9 cX9_fitting 4 (zBm ztops 5 (some .int) (some (.int r1)) M) 0 0 10 [(0, .ref 39), (1, .int v1), (2, .int v2)] [] M) : ∀ (v1 : Int32) (v2 : Int32), f9_fitting_72 k10 v1 v2 M = some r1 → zJ ztops RX9 cX9_fitting 4 (zBm ztops 5 (some .int) (some (.int r1)) M) 0 0 72 [(0, .ref 39), (1, .int v1), (2, .int v2)] [] M := by
  intro v1 v2 h
  rw [f9_fitting_72] at h
  refine zg_iinc (ls' := [(0, .ref 39), (1, .int v1), (2, .int (v2 + (1 : Int32)))]) 2 dX9_fitting_72 rfl zki_1 (Nat.le_of_ble_eq_true rfl) rfl ?_
  refine zg_goto (tgt := 10) dX9_fitting_75 (by decide) ?_
  exact hk10 _ _ h
set_option maxRecDepth 20000 in
set_option maxHeartbeats 4000000 in
theorem g9_fitting_10 {r1 : Int32} {M : zM} : ∀ (n : Nat) (v1 : Int32) (v2 : Int32), f9_fitting_10 n v1 v2 M = some r1 → zJ ztops RX9 cX9_fitting 4 (zBm ztops 5 (some .int) (some (.int r1)) M) 0 0 10 [(0, .ref 39), (1, .int v1), (2, .int v2)] [] M := by
  intro n
  induction n with
  | zero => intro v1 v2 h; cases h
  | succ n ih =>
    intro v1 v2 h
    rw [f9_fitting_10] at h
    refine zg_iload_n 2 dX9_fitting_10 rfl rfl ?_
    refine zg_bipush dX9_fitting_11 zkb_12 ?_
    refine zg_icmp_ge (tgt := 78) dX9_fitting_13 (by decide) (fun hc => ?_) (fun hc => ?_)
    · replace h := (if_pos hc).symm.trans h
      refine zg_iload_n 1 dX9_fitting_78 rfl rfl ?_
      obtain rfl := z_ret1 h
      exact zg_iret dX9_fitting_79
    · replace h := (if_neg hc).symm.trans h
      refine zg_iconst dX9_fitting_16 zki_0 ?_
      refine zg_istore_n (ls' := [(0, .ref 39), (1, .int v1), (2, .int v2), (3, .int (0 : Int32))]) dX9_fitting_17 rfl (Nat.le_of_ble_eq_true rfl) rfl ?_
      exact g9_fitting_18 (fun u0 u1 h => g9_fitting_72 (fun u0 u1 h => ih u0 u1 h) u0 u1 h) zfuel _ _ _ h
set_option maxRecDepth 20000 in
set_option maxHeartbeats 4000000 in
theorem k_X9_fitting {r1 : Int32} {M : zM} (h : f9_fitting M = some r1) : zK ztops yX9_fitting cX9_fitting 4 (some .int) 5 [.ref 39] M (some (.int r1)) M := by
  refine zK_of pl_X9 (Nat.le_of_ble_eq_true rfl) ?_
  show zJ ztops RX9 cX9_fitting 4 _ 0 0 0 [(0, .ref 39)] [] M
  rw [f9_fitting] at h
  refine zg_aload_n 0 dX9_fitting_0 rfl rfl ?_
  refine zo_getr 41 1 rfl fl_X9_24 zt_39 rfl dX9_fitting_1 ?_
  obtain ⟨x1, hx1, h⟩ := z_bind h
  refine zg_callS (st := []) (k_X9_allOf zt_41 hx1) zY_X9_allOf ls_X9_356 rfl (zfit_m (by decide) (by decide)) (Nat.le_of_ble_eq_true rfl) dX9_fitting_4 rfl ?_
  refine zg_istore_n (ls' := [(0, .ref 39), (1, .int x1)]) dX9_fitting_7 rfl (Nat.le_of_ble_eq_true rfl) rfl ?_
  refine zg_iconst dX9_fitting_8 zki_0 ?_
  refine zg_istore_n (ls' := [(0, .ref 39), (1, .int x1), (2, .int (0 : Int32))]) dX9_fitting_9 rfl (Nat.le_of_ble_eq_true rfl) rfl ?_
  exact g9_fitting_10 zfuel _ _ h
set_option maxRecDepth 20000 in
set_option maxHeartbeats 4000000 in
theorem k_X9_fits {M : zM} {r1 : Int32} {Mr : zM} (h : f9_fits M = some (r1, Mr)) : zK ztops yX9_fits cX9_fits 2 (some .int) 6 [.ref 39] M (some (.int r1)) Mr := by
  refine zK_of pl_X9 (Nat.le_of_ble_eq_true rfl) ?_
  show zJ ztops RX9 cX9_fits 2 _ 0 0 0 [(0, .ref 39)] [] M
  rw [f9_fits] at h
  refine zg_aload_n 0 dX9_fits_0 rfl rfl ?_
  refine zg_iconst dX9_fits_1 zki_0 ?_
  refine zg_puti fp_X9_3 zt_39 rfl dX9_fits_2 ?_
  refine zg_aload_n 0 dX9_fits_5 rfl rfl ?_
  obtain ⟨x1, hx1, h⟩ := z_bind h
  refine zg_callV (st := []) (k_X9_fitting hx1) zY_X9_fitting lv_X9_419 rfl zt_39 rfl (zfit_m (by decide) (by decide)) (Nat.le_of_ble_eq_true rfl) dX9_fits_6 rfl ?_
  refine zg_istore_n (ls' := [(0, .ref 39), (1, .int x1)]) dX9_fits_9 rfl (Nat.le_of_ble_eq_true rfl) rfl ?_
  refine zg_aload_n 0 dX9_fits_10 rfl rfl ?_
  refine zg_iconst dX9_fits_11 zki_0 ?_
  refine zg_puti fp_X9_15 zt_39 rfl dX9_fits_12 ?_
  refine zg_aload_n 0 dX9_fits_15 rfl rfl ?_
  refine zg_iload_n 1 dX9_fits_16 rfl rfl ?_
  obtain ⟨x2, hx2, h⟩ := z_bind h
  refine zg_callS (st := [.ref 39]) (k_J6_bitCount_0f7a4 hx2) zY_J6_bitCount_0f7a4 ls_X9_131 rfl (zfit_m (by decide) (by decide)) (Nat.le_of_ble_eq_true rfl) dX9_fits_17 rfl ?_
  refine zg_i2l dX9_fits_20 ?_
  obtain ⟨M3, hM3, h⟩ := z_bind h
  refine zg_callV (st := []) (k_X9_enters hM3) zY_X9_enters lv_X9_311 rfl zt_39 rfl (zfit_m (by decide) (by decide)) (Nat.le_of_ble_eq_true rfl) dX9_fits_21 rfl ?_
  refine zg_iload_n 1 dX9_fits_24 rfl rfl ?_
  obtain ⟨rfl, rfl⟩ := z_ret2 h
  exact zg_iret dX9_fits_25
set_option maxRecDepth 20000 in
set_option maxHeartbeats 4000000 in
theorem g9_asks_87 {r1 : Int32} {Mr : zM} {k51 : Int32 → Int32 → Int32 → Int32 → Int32 → Int32 → Int32 → zM → Option (Int32 × zM)} (hk51 : ∀ (v1 : Int32) (v2 : Int32) (v3 : Int32) (v4 : Int32) (v5 : Int32) (v6 : Int32) (v7 : Int32) (M : zM), k51 v1 v2 v3 v4 v5 v6 v7 M = some (r1, Mr) → zJ ztops RX9 cX9_asks 8 (zBm ztops 6 (some .int) (some (.int r1)) Mr) 0 0 51 [(0, .ref 39), (1, .int v1), (2, .int v2), (3, .int v3), (4, .int v4), (5, .int v5), (6, .int v6), (7, .int v7)] [] M) : ∀ (v1 : Int32) (v2 : Int32) (v3 : Int32) (v4 : Int32) (v5 : Int32) (v7 : Int32) (s0 : Int32) (s1 : Int32) (M : zM), f9_asks_87 k51 v1 v2 v3 v4 v5 v7 s0 s1 M = some (r1, Mr) → zJ ztops RX9 cX9_asks 8 (zBm ztops 6 (some .int) (some (.int r1)) Mr) 0 0 87 [(0, .ref 39), (1, .int v1), (2, .int v2), (3, .int v3), (4, .int v4), (5, .int v5), (7, .int v7)] [.int s1, .int s0] M := by
  intro v1 v2 v3 v4 v5 v7 s0 s1 M h
  rw [f9_asks_87] at h
  obtain ⟨x1, hx1, h⟩ := z_bind h
  refine zg_callS (st := [.int s0]) (k_X9_flag hx1) zY_X9_flag ls_X9_116 rfl (zfit_m (by decide) (by decide)) (Nat.le_of_ble_eq_true rfl) dX9_asks_87 rfl ?_
  refine zg_iadd dX9_asks_90 ?_
  refine zg_istore (ls' := [(0, .ref 39), (1, .int v1), (2, .int v2), (3, .int v3), (4, .int v4), (5, .int v5), (6, .int (s0 + x1)), (7, .int v7)]) dX9_asks_91 (Nat.le_of_ble_eq_true rfl) rfl ?_
  refine zg_iinc (ls' := [(0, .ref 39), (1, .int v1), (2, .int v2), (3, .int v3), (4, .int v4), (5, .int v5), (6, .int (s0 + x1)), (7, .int (v7 + (1 : Int32)))]) 7 dX9_asks_93 rfl zki_1 (Nat.le_of_ble_eq_true rfl) rfl ?_
  refine zg_goto (tgt := 51) dX9_asks_96 (by decide) ?_
  exact hk51 _ _ _ _ _ _ _ _ h
set_option maxRecDepth 20000 in
set_option maxHeartbeats 4000000 in
theorem g9_asks_51 {r1 : Int32} {Mr : zM} {k99 : Int32 → Int32 → Int32 → Int32 → Int32 → Int32 → zM → Option (Int32 × zM)} (hk99 : ∀ (v1 : Int32) (v2 : Int32) (v3 : Int32) (v4 : Int32) (v5 : Int32) (v6 : Int32) (M : zM), k99 v1 v2 v3 v4 v5 v6 M = some (r1, Mr) → zJ ztops RX9 cX9_asks 8 (zBm ztops 6 (some .int) (some (.int r1)) Mr) 0 0 99 [(0, .ref 39), (1, .int v1), (2, .int v2), (3, .int v3), (4, .int v4), (5, .int v5), (6, .int v6)] [] M) : ∀ (n : Nat) (v1 : Int32) (v2 : Int32) (v3 : Int32) (v4 : Int32) (v5 : Int32) (v6 : Int32) (v7 : Int32) (M : zM), f9_asks_51 k99 n v1 v2 v3 v4 v5 v6 v7 M = some (r1, Mr) → zJ ztops RX9 cX9_asks 8 (zBm ztops 6 (some .int) (some (.int r1)) Mr) 0 0 51 [(0, .ref 39), (1, .int v1), (2, .int v2), (3, .int v3), (4, .int v4), (5, .int v5), (6, .int v6), (7, .int v7)] [] M := by
  intro n
  induction n with
  | zero => intro v1 v2 v3 v4 v5 v6 v7 M h; cases h
  | succ n ih =>
    intro v1 v2 v3 v4 v5 v6 v7 M h
    rw [f9_asks_51] at h
    refine zg_iload 7 dX9_asks_51 rfl ?_
    refine zg_bipush dX9_asks_53 zkb_12 ?_
    refine zg_icmp_ge (tgt := 99) dX9_asks_55 (by decide) (fun hc => ?_) (fun hc => ?_)
    · replace h := (if_pos hc).symm.trans h
      refine zo_sub (ls' := [(0, .ref 39), (1, .int v1), (2, .int v2), (3, .int v3), (4, .int v4), (5, .int v5), (6, .int v6)]) [0, 1, 2, 3, 4, 5, 6] rfl ?_
      exact hk99 _ _ _ _ _ _ _ h
    · replace h := (if_neg hc).symm.trans h
      refine zg_iload 6 dX9_asks_58 rfl ?_
      refine zg_iload_n 1 dX9_asks_60 rfl rfl ?_
      refine zg_iload 7 dX9_asks_61 rfl ?_
      obtain ⟨x1, hx1, h⟩ := z_bind h
      refine zg_callS (st := [.int v6]) (k_X9_has hx1) zY_X9_has ls_X9_112 rfl (zfit_m (by decide) (by decide)) (Nat.le_of_ble_eq_true rfl) dX9_asks_63 rfl ?_
      refine zg_if_eq (tgt := 86) dX9_asks_66 (by decide) (fun hc => ?_) (fun hc => ?_)
      · replace h := (if_pos hc).symm.trans h
        refine zg_iconst dX9_asks_86 zki_0 ?_
        refine zo_sub (ls' := [(0, .ref 39), (1, .int v1), (2, .int v2), (3, .int v3), (4, .int v4), (5, .int v5), (7, .int v7)]) [0, 1, 2, 3, 4, 5, 7] rfl ?_
        exact g9_asks_87 (fun u0 u1 u2 u3 u4 u5 u6 u7 h => ih u0 u1 u2 u3 u4 u5 u6 u7 h) _ _ _ _ _ _ _ _ _ h
      · replace h := (if_neg hc).symm.trans h
        refine zg_aload_n 0 dX9_asks_69 rfl rfl ?_
        refine zg_iload 7 dX9_asks_70 rfl ?_
        refine zg_iload 4 dX9_asks_72 rfl ?_
        refine zg_iload 5 dX9_asks_74 rfl ?_
        obtain ⟨x2, hx2, h⟩ := z_bind h
        refine zg_callV (st := [.int v6]) (k_X9_isSo hx2) zY_X9_isSo lv_X9_416 rfl zt_39 rfl (zfit_m (by decide) (by decide)) (Nat.le_of_ble_eq_true rfl) dX9_asks_76 rfl ?_
        suffices hj : zJ ztops RX9 cX9_asks 8 (zBm ztops 6 (some .int) (some (.int r1)) Mr) 0 0 87 [(0, .ref 39), (1, .int v1), (2, .int v2), (3, .int v3), (4, .int v4), (5, .int v5), (6, .int v6), (7, .int v7)] [.int (if x2 = 0 then (0 : Int32) else (1 : Int32)), .int v6] M by
          refine zg_if_eq (tgt := 86) dX9_asks_79 (by decide) (fun hc => ?_) (fun hc => ?_)
          · rw [show (if x2 = 0 then (0 : Int32) else (1 : Int32)) = (0 : Int32) from if_pos hc] at hj
            refine zg_iconst dX9_asks_86 zki_0 ?_
            exact hj
          · rw [show (if x2 = 0 then (0 : Int32) else (1 : Int32)) = (1 : Int32) from if_neg hc] at hj
            refine zg_iconst dX9_asks_82 zki_1 ?_
            refine zg_goto (tgt := 87) dX9_asks_83 (by decide) ?_
            exact hj
        refine zo_sub (ls' := [(0, .ref 39), (1, .int v1), (2, .int v2), (3, .int v3), (4, .int v4), (5, .int v5), (7, .int v7)]) [0, 1, 2, 3, 4, 5, 7] rfl ?_
        exact g9_asks_87 (fun u0 u1 u2 u3 u4 u5 u6 u7 h => ih u0 u1 u2 u3 u4 u5 u6 u7 h) _ _ _ _ _ _ _ _ _ h
set_option maxRecDepth 20000 in
set_option maxHeartbeats 4000000 in
theorem g9_asks_99 {r1 : Int32} {Mr : zM} {k35 : Int32 → Int32 → Int32 → Int32 → Int32 → zM → Option (Int32 × zM)} (hk35 : ∀ (v1 : Int32) (v2 : Int32) (v3 : Int32) (v4 : Int32) (v5 : Int32) (M : zM), k35 v1 v2 v3 v4 v5 M = some (r1, Mr) → zJ ztops RX9 cX9_asks 8 (zBm ztops 6 (some .int) (some (.int r1)) Mr) 0 0 35 [(0, .ref 39), (1, .int v1), (2, .int v2), (3, .int v3), (4, .int v4), (5, .int v5)] [] M) : ∀ (v1 : Int32) (v2 : Int32) (v3 : Int32) (v4 : Int32) (v5 : Int32) (v6 : Int32) (M : zM), f9_asks_99 k35 v1 v2 v3 v4 v5 v6 M = some (r1, Mr) → zJ ztops RX9 cX9_asks 8 (zBm ztops 6 (some .int) (some (.int r1)) Mr) 0 0 99 [(0, .ref 39), (1, .int v1), (2, .int v2), (3, .int v3), (4, .int v4), (5, .int v5), (6, .int v6)] [] M := by
  intro v1 v2 v3 v4 v5 v6 M h
  rw [f9_asks_99] at h
  refine zg_iload 6 dX9_asks_99 rfl ?_
  refine zg_iload_n 1 dX9_asks_101 rfl rfl ?_
  obtain ⟨x1, hx1, h⟩ := z_bind h
  refine zg_callS (st := [.int v6]) (k_J6_bitCount_0f7a4 hx1) zY_J6_bitCount_0f7a4 ls_X9_131 rfl (zfit_m (by decide) (by decide)) (Nat.le_of_ble_eq_true rfl) dX9_asks_102 rfl ?_
  refine zg_iload 6 dX9_asks_105 rfl ?_
  refine zg_isub dX9_asks_107 ?_
  refine zo_max ls_X9_258 ⟨Nat.le_of_ble_eq_true rfl, Nat.le_of_ble_eq_true rfl, Nat.le_refl _, Nat.le_refl _⟩ z_iM z_cmax dX9_asks_108 ?_
  refine zg_istore (ls' := [(0, .ref 39), (1, .int v1), (2, .int v2), (3, .int v3), (4, .int v4), (5, .int v5), (6, .int v6), (7, .int (zmax v6 (x1 - v6)))]) dX9_asks_111 (Nat.le_of_ble_eq_true rfl) rfl ?_
  refine zg_iload 7 dX9_asks_113 rfl ?_
  refine zg_iload_n 3 dX9_asks_115 rfl rfl ?_
  suffices hj : zJ ztops RX9 cX9_asks 8 (zBm ztops 6 (some .int) (some (.int r1)) Mr) 0 0 131 [(0, .ref 39), (1, .int v1), (2, .int v2), (3, .int v3), (4, .int v4), (5, .int v5), (6, .int v6), (7, .int (zmax v6 (x1 - v6)))] [.int (if v3 ≤ (zmax v6 (x1 - v6)) then v2 else (((10 : Int32) * v4) + v5))] M by
    refine zg_icmp_ge (tgt := 130) dX9_asks_116 (by decide) (fun hc => ?_) (fun hc => ?_)
    · rw [show (if v3 ≤ (zmax v6 (x1 - v6)) then v2 else (((10 : Int32) * v4) + v5)) = v2 from if_pos hc] at hj
      refine zg_iload_n 2 dX9_asks_130 rfl rfl ?_
      exact hj
    · rw [show (if v3 ≤ (zmax v6 (x1 - v6)) then v2 else (((10 : Int32) * v4) + v5)) = (((10 : Int32) * v4) + v5) from if_neg hc] at hj
      refine zg_bipush dX9_asks_119 zkb_10 ?_
      refine zg_iload 4 dX9_asks_121 rfl ?_
      refine zg_imul dX9_asks_123 ?_
      refine zg_iload 5 dX9_asks_124 rfl ?_
      refine zg_iadd dX9_asks_126 ?_
      refine zg_goto (tgt := 131) dX9_asks_127 (by decide) ?_
      exact hj
  refine zg_istore_n (ls' := [(0, .ref 39), (1, .int v1), (2, .int (if v3 ≤ (zmax v6 (x1 - v6)) then v2 else (((10 : Int32) * v4) + v5))), (3, .int v3), (4, .int v4), (5, .int v5), (6, .int v6), (7, .int (zmax v6 (x1 - v6)))]) dX9_asks_131 rfl (Nat.le_of_ble_eq_true rfl) rfl ?_
  refine zg_iload_n 3 dX9_asks_132 rfl rfl ?_
  refine zg_iload 7 dX9_asks_133 rfl ?_
  refine zo_min ls_X9_153 ⟨Nat.le_of_ble_eq_true rfl, Nat.le_of_ble_eq_true rfl, Nat.le_refl _, Nat.le_refl _⟩ z_iM z_cmin dX9_asks_135 ?_
  refine zg_istore_n (ls' := [(0, .ref 39), (1, .int v1), (2, .int (if v3 ≤ (zmax v6 (x1 - v6)) then v2 else (((10 : Int32) * v4) + v5))), (3, .int (zmin v3 (zmax v6 (x1 - v6)))), (4, .int v4), (5, .int v5), (6, .int v6), (7, .int (zmax v6 (x1 - v6)))]) dX9_asks_138 rfl (Nat.le_of_ble_eq_true rfl) rfl ?_
  refine zg_iinc (ls' := [(0, .ref 39), (1, .int v1), (2, .int (if v3 ≤ (zmax v6 (x1 - v6)) then v2 else (((10 : Int32) * v4) + v5))), (3, .int (zmin v3 (zmax v6 (x1 - v6)))), (4, .int v4), (5, .int (v5 + (1 : Int32))), (6, .int v6), (7, .int (zmax v6 (x1 - v6)))]) 5 dX9_asks_139 rfl zki_1 (Nat.le_of_ble_eq_true rfl) rfl ?_
  refine zg_goto (tgt := 35) dX9_asks_142 (by decide) ?_
  refine zo_sub (ls' := [(0, .ref 39), (1, .int v1), (2, .int (if v3 ≤ (zmax v6 (x1 - v6)) then v2 else (((10 : Int32) * v4) + v5))), (3, .int (zmin v3 (zmax v6 (x1 - v6)))), (4, .int v4), (5, .int (v5 + (1 : Int32)))]) [0, 1, 2, 3, 4, 5] rfl ?_
  exact hk35 _ _ _ _ _ _ h
set_option maxRecDepth 20000 in
set_option maxHeartbeats 4000000 in
theorem g9_asks_35 {r1 : Int32} {Mr : zM} {k145 : Int32 → Int32 → Int32 → Int32 → zM → Option (Int32 × zM)} (hk145 : ∀ (v1 : Int32) (v2 : Int32) (v3 : Int32) (v4 : Int32) (M : zM), k145 v1 v2 v3 v4 M = some (r1, Mr) → zJ ztops RX9 cX9_asks 8 (zBm ztops 6 (some .int) (some (.int r1)) Mr) 0 0 145 [(0, .ref 39), (1, .int v1), (2, .int v2), (3, .int v3), (4, .int v4)] [] M) : ∀ (n : Nat) (v1 : Int32) (v2 : Int32) (v3 : Int32) (v4 : Int32) (v5 : Int32) (M : zM), f9_asks_35 k145 n v1 v2 v3 v4 v5 M = some (r1, Mr) → zJ ztops RX9 cX9_asks 8 (zBm ztops 6 (some .int) (some (.int r1)) Mr) 0 0 35 [(0, .ref 39), (1, .int v1), (2, .int v2), (3, .int v3), (4, .int v4), (5, .int v5)] [] M := by
  intro n
  induction n with
  | zero => intro v1 v2 v3 v4 v5 M h; cases h
  | succ n ih =>
    intro v1 v2 v3 v4 v5 M h
    rw [f9_asks_35] at h
    refine zg_iload 5 dX9_asks_35 rfl ?_
    refine zg_iload 4 dX9_asks_37 rfl ?_
    obtain ⟨x1, hx1, h⟩ := z_bind h
    refine zg_callS (st := [.int v5]) (k_X9_highest hx1) zY_X9_highest ls_X9_410 rfl (zfit_m (by decide) (by decide)) (Nat.le_of_ble_eq_true rfl) dX9_asks_39 rfl ?_
    refine zg_icmp_gt (tgt := 145) dX9_asks_42 (by decide) (fun hc => ?_) (fun hc => ?_)
    · replace h := (if_pos hc).symm.trans h
      refine zo_sub (ls' := [(0, .ref 39), (1, .int v1), (2, .int v2), (3, .int v3), (4, .int v4)]) [0, 1, 2, 3, 4] rfl ?_
      exact hk145 _ _ _ _ _ h
    · replace h := (if_neg hc).symm.trans h
      refine zg_iconst dX9_asks_45 zki_0 ?_
      refine zg_istore (ls' := [(0, .ref 39), (1, .int v1), (2, .int v2), (3, .int v3), (4, .int v4), (5, .int v5), (6, .int (0 : Int32))]) dX9_asks_46 (Nat.le_of_ble_eq_true rfl) rfl ?_
      refine zg_iconst dX9_asks_48 zki_0 ?_
      refine zg_istore (ls' := [(0, .ref 39), (1, .int v1), (2, .int v2), (3, .int v3), (4, .int v4), (5, .int v5), (6, .int (0 : Int32)), (7, .int (0 : Int32))]) dX9_asks_49 (Nat.le_of_ble_eq_true rfl) rfl ?_
      exact g9_asks_51 (fun u0 u1 u2 u3 u4 u5 u6 h => g9_asks_99 (fun u0 u1 u2 u3 u4 u5 h => ih u0 u1 u2 u3 u4 u5 h) u0 u1 u2 u3 u4 u5 u6 h) zfuel _ _ _ _ _ _ _ _ h
set_option maxRecDepth 20000 in
set_option maxHeartbeats 4000000 in
theorem g9_asks_145 {r1 : Int32} {Mr : zM} {k26 : Int32 → Int32 → Int32 → Int32 → zM → Option (Int32 × zM)} (hk26 : ∀ (v1 : Int32) (v2 : Int32) (v3 : Int32) (v4 : Int32) (M : zM), k26 v1 v2 v3 v4 M = some (r1, Mr) → zJ ztops RX9 cX9_asks 8 (zBm ztops 6 (some .int) (some (.int r1)) Mr) 0 0 26 [(0, .ref 39), (1, .int v1), (2, .int v2), (3, .int v3), (4, .int v4)] [] M) : ∀ (v1 : Int32) (v2 : Int32) (v3 : Int32) (v4 : Int32) (M : zM), f9_asks_145 k26 v1 v2 v3 v4 M = some (r1, Mr) → zJ ztops RX9 cX9_asks 8 (zBm ztops 6 (some .int) (some (.int r1)) Mr) 0 0 145 [(0, .ref 39), (1, .int v1), (2, .int v2), (3, .int v3), (4, .int v4)] [] M := by
  intro v1 v2 v3 v4 M h
  rw [f9_asks_145] at h
  refine zg_iinc (ls' := [(0, .ref 39), (1, .int v1), (2, .int v2), (3, .int v3), (4, .int (v4 + (1 : Int32)))]) 4 dX9_asks_145 rfl zki_1 (Nat.le_of_ble_eq_true rfl) rfl ?_
  refine zg_goto (tgt := 26) dX9_asks_148 (by decide) ?_
  exact hk26 _ _ _ _ _ h
set_option maxRecDepth 20000 in
set_option maxHeartbeats 4000000 in
theorem g9_asks_26 {r1 : Int32} {Mr : zM} : ∀ (n : Nat) (v1 : Int32) (v2 : Int32) (v3 : Int32) (v4 : Int32) (M : zM), f9_asks_26 n v1 v2 v3 v4 M = some (r1, Mr) → zJ ztops RX9 cX9_asks 8 (zBm ztops 6 (some .int) (some (.int r1)) Mr) 0 0 26 [(0, .ref 39), (1, .int v1), (2, .int v2), (3, .int v3), (4, .int v4)] [] M := by
  intro n
  induction n with
  | zero => intro v1 v2 v3 v4 M h; cases h
  | succ n ih =>
    intro v1 v2 v3 v4 M h
    rw [f9_asks_26] at h
    refine zg_iload 4 dX9_asks_26 rfl ?_
    refine zg_iconst dX9_asks_28 zki_5 ?_
    refine zg_icmp_ge (tgt := 151) dX9_asks_29 (by decide) (fun hc => ?_) (fun hc => ?_)
    · replace h := (if_pos hc).symm.trans h
      refine zg_aload_n 0 dX9_asks_151 rfl rfl ?_
      refine zg_iconst dX9_asks_152 zki_0 ?_
      refine zg_puti fp_X9_15 zt_39 rfl dX9_asks_153 ?_
      refine zg_aload_n 0 dX9_asks_156 rfl rfl ?_
      refine zg_iload_n 3 dX9_asks_157 rfl rfl ?_
      refine zg_i2l dX9_asks_158 ?_
      obtain ⟨M1, hM1, h⟩ := z_bind h
      refine zg_callV (st := []) (k_X9_enters hM1) zY_X9_enters lv_X9_311 rfl zt_39 rfl (zfit_m (by decide) (by decide)) (Nat.le_of_ble_eq_true rfl) dX9_asks_159 rfl ?_
      refine zg_iload_n 2 dX9_asks_162 rfl rfl ?_
      obtain ⟨rfl, rfl⟩ := z_ret2 h
      exact zg_iret dX9_asks_163
    · replace h := (if_neg hc).symm.trans h
      refine zg_iconst dX9_asks_32 zki_0 ?_
      refine zg_istore (ls' := [(0, .ref 39), (1, .int v1), (2, .int v2), (3, .int v3), (4, .int v4), (5, .int (0 : Int32))]) dX9_asks_33 (Nat.le_of_ble_eq_true rfl) rfl ?_
      exact g9_asks_35 (fun u0 u1 u2 u3 u4 h => g9_asks_145 (fun u0 u1 u2 u3 u4 h => ih u0 u1 u2 u3 u4 h) u0 u1 u2 u3 u4 h) zfuel _ _ _ _ _ _ h
set_option maxRecDepth 20000 in
set_option maxHeartbeats 4000000 in
theorem k_X9_asks {M : zM} {r1 : Int32} {Mr : zM} (h : f9_asks M = some (r1, Mr)) : zK ztops yX9_asks cX9_asks 8 (some .int) 6 [.ref 39] M (some (.int r1)) Mr := by
  refine zK_of pl_X9 (Nat.le_of_ble_eq_true rfl) ?_
  show zJ ztops RX9 cX9_asks 8 _ 0 0 0 [(0, .ref 39)] [] M
  rw [f9_asks] at h
  refine zg_aload_n 0 dX9_asks_0 rfl rfl ?_
  refine zg_iconst dX9_asks_1 zki_0 ?_
  refine zg_puti fp_X9_3 zt_39 rfl dX9_asks_2 ?_
  refine zg_aload_n 0 dX9_asks_5 rfl rfl ?_
  obtain ⟨x1, hx1, h⟩ := z_bind h
  refine zg_callV (st := []) (k_X9_fitting hx1) zY_X9_fitting lv_X9_419 rfl zt_39 rfl (zfit_m (by decide) (by decide)) (Nat.le_of_ble_eq_true rfl) dX9_asks_6 rfl ?_
  refine zg_istore_n (ls' := [(0, .ref 39), (1, .int x1)]) dX9_asks_9 rfl (Nat.le_of_ble_eq_true rfl) rfl ?_
  refine zg_iload_n 1 dX9_asks_10 rfl rfl ?_
  refine zg_if_ne (tgt := 17) dX9_asks_11 (by decide) (fun hc => ?_) (fun hc => ?_)
  · replace h := (if_neg hc).symm.trans h
    refine zg_iconst dX9_asks_17 zki_m1 ?_
    refine zg_istore_n (ls' := [(0, .ref 39), (1, .int x1), (2, .int (-1 : Int32))]) dX9_asks_18 rfl (Nat.le_of_ble_eq_true rfl) rfl ?_
    refine zg_ldcw kc_X9_397 dX9_asks_19 ?_
    refine zg_istore_n (ls' := [(0, .ref 39), (1, .int x1), (2, .int (-1 : Int32)), (3, .int (1000000 : Int32))]) dX9_asks_22 rfl (Nat.le_of_ble_eq_true rfl) rfl ?_
    refine zg_iconst dX9_asks_23 zki_0 ?_
    refine zg_istore (ls' := [(0, .ref 39), (1, .int x1), (2, .int (-1 : Int32)), (3, .int (1000000 : Int32)), (4, .int (0 : Int32))]) dX9_asks_24 (Nat.le_of_ble_eq_true rfl) rfl ?_
    exact g9_asks_26 zfuel _ _ _ _ _ h
  · replace h := (if_pos hc).symm.trans h
    refine zg_bipush dX9_asks_14 zkb_m2 ?_
    obtain ⟨rfl, rfl⟩ := z_ret2 h
    exact zg_iret dX9_asks_16
set_option maxRecDepth 20000 in
set_option maxHeartbeats 4000000 in
theorem g9_odds_139 {r1 : Int32} {Mr : zM} {k90 : Int32 → Int32 → Int64 → Int64 → Int32 → Int64 → Int32 → zM → Option (Int32 × zM)} (hk90 : ∀ (v1 : Int32) (v2 : Int32) (v3 : Int64) (v5 : Int64) (v7 : Int32) (v8 : Int64) (v10 : Int32) (M : zM), k90 v1 v2 v3 v5 v7 v8 v10 M = some (r1, Mr) → zJ ztops RX9 cX9_odds 11 (zBm ztops 201 (some .int) (some (.int r1)) Mr) 0 0 90 [(0, .ref 39), (1, .int v1), (2, .int v2), (3, .long v3), (5, .long v5), (7, .int v7), (8, .long v8), (10, .int v10)] [] M) : ∀ (v1 : Int32) (v2 : Int32) (v3 : Int64) (v5 : Int64) (v7 : Int32) (v10 : Int32) (s0 : Int64) (s1 : Int64) (M : zM), f9_odds_139 k90 v1 v2 v3 v5 v7 v10 s0 s1 M = some (r1, Mr) → zJ ztops RX9 cX9_odds 11 (zBm ztops 201 (some .int) (some (.int r1)) Mr) 0 0 139 [(0, .ref 39), (1, .int v1), (2, .int v2), (3, .long v3), (5, .long v5), (7, .int v7), (10, .int v10)] [.long s1, .long s0] M := by
  intro v1 v2 v3 v5 v7 v10 s0 s1 M h
  rw [f9_odds_139] at h
  refine zg_lmul dX9_odds_139 ?_
  refine zg_lstore (ls' := [(0, .ref 39), (1, .int v1), (2, .int v2), (3, .long v3), (5, .long v5), (7, .int v7), (8, .long (s0 * s1)), (10, .int v10)]) dX9_odds_140 (Nat.le_of_ble_eq_true rfl) rfl ?_
  refine zg_iinc (ls' := [(0, .ref 39), (1, .int v1), (2, .int v2), (3, .long v3), (5, .long v5), (7, .int v7), (8, .long (s0 * s1)), (10, .int (v10 + (1 : Int32)))]) 7 dX9_odds_142 rfl zki_1 (Nat.le_of_ble_eq_true rfl) rfl ?_
  refine zg_goto (tgt := 90) dX9_odds_145 (by decide) ?_
  exact hk90 _ _ _ _ _ _ _ _ h
set_option maxRecDepth 20000 in
set_option maxHeartbeats 4000000 in
theorem g9_odds_90 {r1 : Int32} {Mr : zM} {k148 : Int32 → Int32 → Int64 → Int64 → Int32 → Int64 → zM → Option (Int32 × zM)} (hk148 : ∀ (v1 : Int32) (v2 : Int32) (v3 : Int64) (v5 : Int64) (v7 : Int32) (v8 : Int64) (M : zM), k148 v1 v2 v3 v5 v7 v8 M = some (r1, Mr) → zJ ztops RX9 cX9_odds 11 (zBm ztops 201 (some .int) (some (.int r1)) Mr) 0 0 148 [(0, .ref 39), (1, .int v1), (2, .int v2), (3, .long v3), (5, .long v5), (7, .int v7), (8, .long v8)] [] M) : ∀ (n : Nat) (v1 : Int32) (v2 : Int32) (v3 : Int64) (v5 : Int64) (v7 : Int32) (v8 : Int64) (v10 : Int32) (M : zM), f9_odds_90 k148 n v1 v2 v3 v5 v7 v8 v10 M = some (r1, Mr) → zJ ztops RX9 cX9_odds 11 (zBm ztops 201 (some .int) (some (.int r1)) Mr) 0 0 90 [(0, .ref 39), (1, .int v1), (2, .int v2), (3, .long v3), (5, .long v5), (7, .int v7), (8, .long v8), (10, .int v10)] [] M := by
  intro n
  induction n with
  | zero => intro v1 v2 v3 v5 v7 v8 v10 M h; cases h
  | succ n ih =>
    intro v1 v2 v3 v5 v7 v8 v10 M h
    rw [f9_odds_90] at h
    refine zg_iload 7 dX9_odds_90 rfl ?_
    refine zg_bipush dX9_odds_92 zkb_12 ?_
    refine zg_icmp_ge (tgt := 148) dX9_odds_94 (by decide) (fun hc => ?_) (fun hc => ?_)
    · replace h := (if_pos hc).symm.trans h
      refine zo_sub (ls' := [(0, .ref 39), (1, .int v1), (2, .int v2), (3, .long v3), (5, .long v5), (7, .int v7), (8, .long v8)]) [0, 1, 2, 3, 4, 5, 6] rfl ?_
      exact hk148 _ _ _ _ _ _ _ h
    · replace h := (if_neg hc).symm.trans h
      refine zg_lload 6 dX9_odds_97 rfl ?_
      refine zg_lconst dX9_odds_99 (v := 0) rfl ?_
      refine zg_lcmp dX9_odds_100 ?_
      refine zg_if_le (tgt := 148) dX9_odds_101 (by decide) (fun hc => ?_) (fun hc => ?_)
      · replace h := (if_pos hc).symm.trans h
        refine zo_sub (ls' := [(0, .ref 39), (1, .int v1), (2, .int v2), (3, .long v3), (5, .long v5), (7, .int v7), (8, .long v8)]) [0, 1, 2, 3, 4, 5, 6] rfl ?_
        exact hk148 _ _ _ _ _ _ _ h
      · replace h := (if_neg hc).symm.trans h
        refine zg_lload 6 dX9_odds_104 rfl ?_
        refine zg_iload_n 2 dX9_odds_106 rfl rfl ?_
        refine zg_iload 7 dX9_odds_107 rfl ?_
        obtain ⟨x1, hx1, h⟩ := z_bind h
        refine zg_callS (st := [.long v8]) (k_X9_has hx1) zY_X9_has ls_X9_112 rfl (zfit_m (by decide) (by decide)) (Nat.le_of_ble_eq_true rfl) dX9_odds_109 rfl ?_
        refine zg_if_ne (tgt := 119) dX9_odds_112 (by decide) (fun hc => ?_) (fun hc => ?_)
        · replace h := (if_neg hc).symm.trans h
          refine zg_iload 5 dX9_odds_119 rfl ?_
          refine zg_iload 7 dX9_odds_121 rfl ?_
          obtain ⟨x2, hx2, h⟩ := z_bind h
          refine zg_callS (st := [.long v8]) (k_X9_has hx2) zY_X9_has ls_X9_112 rfl (zfit_m (by decide) (by decide)) (Nat.le_of_ble_eq_true rfl) dX9_odds_123 rfl ?_
          suffices hj : zJ ztops RX9 cX9_odds 11 (zBm ztops 201 (some .int) (some (.int r1)) Mr) 0 0 139 [(0, .ref 39), (1, .int v1), (2, .int v2), (3, .long v3), (5, .long v5), (7, .int v7), (8, .long v8), (10, .int v10)] [.long (if x2 = 0 then (Int32.toInt64 v1) else (Int32.toInt64 ((10 : Int32) - v1))), .long v8] M by
            refine zg_if_eq (tgt := 137) dX9_odds_126 (by decide) (fun hc => ?_) (fun hc => ?_)
            · rw [show (if x2 = 0 then (Int32.toInt64 v1) else (Int32.toInt64 ((10 : Int32) - v1))) = (Int32.toInt64 v1) from if_pos hc] at hj
              refine zg_iload_n 1 dX9_odds_137 rfl rfl ?_
              refine zg_i2l dX9_odds_138 ?_
              exact hj
            · rw [show (if x2 = 0 then (Int32.toInt64 v1) else (Int32.toInt64 ((10 : Int32) - v1))) = (Int32.toInt64 ((10 : Int32) - v1)) from if_neg hc] at hj
              refine zg_bipush dX9_odds_129 zkb_10 ?_
              refine zg_iload_n 1 dX9_odds_131 rfl rfl ?_
              refine zg_isub dX9_odds_132 ?_
              refine zg_i2l dX9_odds_133 ?_
              refine zg_goto (tgt := 139) dX9_odds_134 (by decide) ?_
              exact hj
          refine zo_sub (ls' := [(0, .ref 39), (1, .int v1), (2, .int v2), (3, .long v3), (5, .long v5), (7, .int v7), (10, .int v10)]) [0, 1, 2, 3, 4, 5, 7] rfl ?_
          exact g9_odds_139 (fun u0 u1 u2 u3 u4 u5 u6 u7 h => ih u0 u1 u2 u3 u4 u5 u6 u7 h) _ _ _ _ _ _ _ _ _ h
        · replace h := (if_pos hc).symm.trans h
          refine zg_lconst dX9_odds_115 (v := 1) rfl ?_
          refine zg_goto (tgt := 139) dX9_odds_116 (by decide) ?_
          refine zo_sub (ls' := [(0, .ref 39), (1, .int v1), (2, .int v2), (3, .long v3), (5, .long v5), (7, .int v7), (10, .int v10)]) [0, 1, 2, 3, 4, 5, 7] rfl ?_
          exact g9_odds_139 (fun u0 u1 u2 u3 u4 u5 u6 u7 h => ih u0 u1 u2 u3 u4 u5 u6 u7 h) _ _ _ _ _ _ _ _ _ h
set_option maxRecDepth 20000 in
set_option maxHeartbeats 4000000 in
theorem g9_odds_148 {r1 : Int32} {Mr : zM} {k68 : Int32 → Int32 → Int64 → Int64 → Int32 → zM → Option (Int32 × zM)} (hk68 : ∀ (v1 : Int32) (v2 : Int32) (v3 : Int64) (v5 : Int64) (v7 : Int32) (M : zM), k68 v1 v2 v3 v5 v7 M = some (r1, Mr) → zJ ztops RX9 cX9_odds 11 (zBm ztops 201 (some .int) (some (.int r1)) Mr) 0 0 68 [(0, .ref 39), (1, .int v1), (2, .int v2), (3, .long v3), (5, .long v5), (7, .int v7)] [] M) : ∀ (v1 : Int32) (v2 : Int32) (v3 : Int64) (v5 : Int64) (v7 : Int32) (v8 : Int64) (M : zM), f9_odds_148 k68 v1 v2 v3 v5 v7 v8 M = some (r1, Mr) → zJ ztops RX9 cX9_odds 11 (zBm ztops 201 (some .int) (some (.int r1)) Mr) 0 0 148 [(0, .ref 39), (1, .int v1), (2, .int v2), (3, .long v3), (5, .long v5), (7, .int v7), (8, .long v8)] [] M := by
  intro v1 v2 v3 v5 v7 v8 M h
  rw [f9_odds_148] at h
  refine zg_lload_n 3 dX9_odds_148 rfl rfl ?_
  refine zg_lload 6 dX9_odds_149 rfl ?_
  refine zg_ladd dX9_odds_151 ?_
  refine zg_lstore_n (ls' := [(0, .ref 39), (1, .int v1), (2, .int v2), (3, .long (v3 + v8)), (5, .long v5), (7, .int v7), (8, .long v8)]) dX9_odds_152 rfl (Nat.le_of_ble_eq_true rfl) rfl ?_
  refine zg_iinc (ls' := [(0, .ref 39), (1, .int v1), (2, .int v2), (3, .long (v3 + v8)), (5, .long v5), (7, .int (v7 + (1 : Int32))), (8, .long v8)]) 5 dX9_odds_153 rfl zki_1 (Nat.le_of_ble_eq_true rfl) rfl ?_
  refine zg_goto (tgt := 68) dX9_odds_156 (by decide) ?_
  refine zo_sub (ls' := [(0, .ref 39), (1, .int v1), (2, .int v2), (3, .long (v3 + v8)), (5, .long v5), (7, .int (v7 + (1 : Int32)))]) [0, 1, 2, 3, 4, 5] rfl ?_
  exact hk68 _ _ _ _ _ _ h
set_option maxRecDepth 20000 in
set_option maxHeartbeats 4000000 in
theorem g9_odds_68 {r1 : Int32} {Mr : zM} : ∀ (n : Nat) (v1 : Int32) (v2 : Int32) (v3 : Int64) (v5 : Int64) (v7 : Int32) (M : zM), f9_odds_68 n v1 v2 v3 v5 v7 M = some (r1, Mr) → zJ ztops RX9 cX9_odds 11 (zBm ztops 201 (some .int) (some (.int r1)) Mr) 0 0 68 [(0, .ref 39), (1, .int v1), (2, .int v2), (3, .long v3), (5, .long v5), (7, .int v7)] [] M := by
  intro n
  induction n with
  | zero => intro v1 v2 v3 v5 v7 M h; cases h
  | succ n ih =>
    intro v1 v2 v3 v5 v7 M h
    rw [f9_odds_68] at h
    refine zg_iload 5 dX9_odds_68 rfl ?_
    refine zg_iload_n 2 dX9_odds_70 rfl rfl ?_
    refine zg_icmp_gt (tgt := 159) dX9_odds_71 (by decide) (fun hc => ?_) (fun hc => ?_)
    · replace h := (if_pos hc).symm.trans h
      refine zg_lload_n 3 dX9_odds_159 rfl rfl ?_
      refine zg_lload 4 dX9_odds_160 rfl ?_
      obtain ⟨x1, hx1, h⟩ := z_bind h
      refine zg_callS (st := []) (k_X9_common 200 hx1) zY_X9_common ls_X9_7 rfl (zfit_m (by decide) (by decide)) (Nat.le_of_ble_eq_true rfl) dX9_odds_162 rfl ?_
      refine zg_lstore (ls' := [(0, .ref 39), (1, .int v1), (2, .int v2), (3, .long v3), (5, .long v5), (7, .long x1)]) dX9_odds_165 (Nat.le_of_ble_eq_true rfl) rfl ?_
      refine zg_aload_n 0 dX9_odds_167 rfl rfl ?_
      refine zg_iconst dX9_odds_168 zki_0 ?_
      refine zg_puti fp_X9_15 zt_39 rfl dX9_odds_169 ?_
      refine zg_aload_n 0 dX9_odds_172 rfl rfl ?_
      refine zg_lload_n 3 dX9_odds_173 rfl rfl ?_
      refine zg_lload 5 dX9_odds_174 rfl ?_
      obtain ⟨x2, hx2, h⟩ := z_bind h
      refine zo_ldiv hx2 dX9_odds_176 ?_
      obtain ⟨M3, hM3, h⟩ := z_bind h
      refine zg_callV (st := []) (k_X9_enters hM3) zY_X9_enters lv_X9_311 rfl zt_39 rfl (zfit_m (by decide) (by decide)) (Nat.le_of_ble_eq_true rfl) dX9_odds_177 rfl ?_
      refine zg_aload_n 0 dX9_odds_180 rfl rfl ?_
      refine zg_lload 4 dX9_odds_181 rfl ?_
      refine zg_lload 5 dX9_odds_183 rfl ?_
      obtain ⟨x4, hx4, h⟩ := z_bind h
      refine zo_ldiv hx4 dX9_odds_185 ?_
      obtain ⟨M5, hM5, h⟩ := z_bind h
      refine zg_callV (st := []) (k_X9_enters hM5) zY_X9_enters lv_X9_311 rfl zt_39 rfl (zfit_m (by decide) (by decide)) (Nat.le_of_ble_eq_true rfl) dX9_odds_186 rfl ?_
      refine zg_iconst dX9_odds_189 zki_0 ?_
      obtain ⟨rfl, rfl⟩ := z_ret2 h
      exact zg_iret dX9_odds_190
    · replace h := (if_neg hc).symm.trans h
      refine zg_aload_n 0 dX9_odds_74 rfl rfl ?_
      refine zo_getr 56 16 rfl fl_X9_70 zt_39 rfl dX9_odds_75 ?_
      refine zg_iload 5 dX9_odds_78 rfl ?_
      obtain ⟨x1, hx1, h⟩ := z_bind h
      refine zo_zald zt_56 hx1 dX9_odds_80 ?_
      obtain ⟨x2, hx2, h⟩ := z_bind h
      refine zg_callS (st := []) (k_X9_flag hx2) zY_X9_flag ls_X9_116 rfl (zfit_m (by decide) (by decide)) (Nat.le_of_ble_eq_true rfl) dX9_odds_81 rfl ?_
      refine zg_i2l dX9_odds_84 ?_
      refine zg_lstore (ls' := [(0, .ref 39), (1, .int v1), (2, .int v2), (3, .long v3), (5, .long v5), (7, .int v7), (8, .long (Int32.toInt64 x2))]) dX9_odds_85 (Nat.le_of_ble_eq_true rfl) rfl ?_
      refine zg_iconst dX9_odds_87 zki_0 ?_
      refine zg_istore (ls' := [(0, .ref 39), (1, .int v1), (2, .int v2), (3, .long v3), (5, .long v5), (7, .int v7), (8, .long (Int32.toInt64 x2)), (10, .int (0 : Int32))]) dX9_odds_88 (Nat.le_of_ble_eq_true rfl) rfl ?_
      exact g9_odds_90 (fun u0 u1 u2 u3 u4 u5 u6 h => g9_odds_148 (fun u0 u1 u2 u3 u4 u5 h => ih u0 u1 u2 u3 u4 u5 h) u0 u1 u2 u3 u4 u5 u6 h) zfuel _ _ _ _ _ _ _ _ h
set_option maxRecDepth 20000 in
set_option maxHeartbeats 4000000 in
theorem g9_odds_39 {r1 : Int32} {Mr : zM} : ∀ (n : Nat) (v1 : Int32) (v2 : Int32) (v3 : Int64) (v5 : Int64) (v7 : Int32) (M : zM), f9_odds_39 n v1 v2 v3 v5 v7 M = some (r1, Mr) → zJ ztops RX9 cX9_odds 11 (zBm ztops 201 (some .int) (some (.int r1)) Mr) 0 0 39 [(0, .ref 39), (1, .int v1), (2, .int v2), (3, .long v3), (5, .long v5), (7, .int v7)] [] M := by
  intro n
  induction n with
  | zero => intro v1 v2 v3 v5 v7 M h; cases h
  | succ n ih =>
    intro v1 v2 v3 v5 v7 M h
    rw [f9_odds_39] at h
    refine zg_iload 5 dX9_odds_39 rfl ?_
    refine zg_aload_n 0 dX9_odds_41 rfl rfl ?_
    refine zo_getr 41 1 rfl fl_X9_24 zt_39 rfl dX9_odds_42 ?_
    obtain ⟨x1, hx1, h⟩ := z_bind h
    refine zg_callS (st := [.int v7]) (k_X9_threadsOf zt_41 hx1) zY_X9_threadsOf ls_X9_315 rfl (zfit_m (by decide) (by decide)) (Nat.le_of_ble_eq_true rfl) dX9_odds_45 rfl ?_
    refine zg_icmp_ge (tgt := 65) dX9_odds_48 (by decide) (fun hc => ?_) (fun hc => ?_)
    · replace h := (if_pos hc).symm.trans h
      refine zg_iconst dX9_odds_65 zki_1 ?_
      refine zg_istore (ls' := [(0, .ref 39), (1, .int v1), (2, .int v2), (3, .long v3), (5, .long v5), (7, .int (1 : Int32))]) dX9_odds_66 (Nat.le_of_ble_eq_true rfl) rfl ?_
      exact g9_odds_68 zfuel _ _ _ _ _ _ h
    · replace h := (if_neg hc).symm.trans h
      refine zg_lload 4 dX9_odds_51 rfl ?_
      refine zg_ldc2 kc_X9_374 dX9_odds_53 ?_
      refine zg_lmul dX9_odds_56 ?_
      refine zg_lstore (ls' := [(0, .ref 39), (1, .int v1), (2, .int v2), (3, .long v3), (5, .long (v5 * (10 : Int64))), (7, .int v7)]) dX9_odds_57 (Nat.le_of_ble_eq_true rfl) rfl ?_
      refine zg_iinc (ls' := [(0, .ref 39), (1, .int v1), (2, .int v2), (3, .long v3), (5, .long (v5 * (10 : Int64))), (7, .int (v7 + (1 : Int32)))]) 5 dX9_odds_59 rfl zki_1 (Nat.le_of_ble_eq_true rfl) rfl ?_
      refine zg_goto (tgt := 39) dX9_odds_62 (by decide) ?_
      exact ih _ _ _ _ _ _ h
set_option maxRecDepth 20000 in
set_option maxHeartbeats 4000000 in
theorem k_X9_odds {v1 : Int32} {M : zM} {r1 : Int32} {Mr : zM} (h : f9_odds v1 M = some (r1, Mr)) : zK ztops yX9_odds cX9_odds 11 (some .int) 201 [.ref 39, .int v1] M (some (.int r1)) Mr := by
  refine zK_of pl_X9 (Nat.le_of_ble_eq_true rfl) ?_
  show zJ ztops RX9 cX9_odds 11 _ 0 0 0 [(0, .ref 39), (1, .int v1)] [] M
  rw [f9_odds] at h
  refine zg_aload_n 0 dX9_odds_0 rfl rfl ?_
  refine zg_iconst dX9_odds_1 zki_0 ?_
  refine zg_puti fp_X9_3 zt_39 rfl dX9_odds_2 ?_
  refine zg_iload_n 1 dX9_odds_5 rfl rfl ?_
  refine zg_i2l dX9_odds_6 ?_
  refine zg_lconst dX9_odds_7 (v := 0) rfl ?_
  refine zg_ldc2 kc_X9_374 dX9_odds_8 ?_
  obtain ⟨x1, hx1, h⟩ := z_bind h
  refine zg_callS (st := []) (k_X9_in hx1) zY_X9_in ls_X9_104 rfl (zfit_m (by decide) (by decide)) (Nat.le_of_ble_eq_true rfl) dX9_odds_11 rfl ?_
  refine zg_if_ne (tgt := 19) dX9_odds_14 (by decide) (fun hc => ?_) (fun hc => ?_)
  · replace h := (if_neg hc).symm.trans h
    refine zg_aload_n 0 dX9_odds_19 rfl rfl ?_
    obtain ⟨M2, hM2, h⟩ := z_bind h
    refine zg_callV (st := []) (k_X9_laysHangs hM2) zY_X9_laysHangs lv_X9_394 rfl zt_39 rfl (zfit_m (by decide) (by decide)) (Nat.le_of_ble_eq_true rfl) dX9_odds_20 rfl ?_
    refine zg_aload_n 0 dX9_odds_23 rfl rfl ?_
    refine zo_getr 41 1 rfl fl_X9_24 zt_39 rfl dX9_odds_24 ?_
    obtain ⟨x3, hx3, h⟩ := z_bind h
    refine zg_callS (st := []) (k_X9_allOf zt_41 hx3) zY_X9_allOf ls_X9_356 rfl (zfit_m (by decide) (by decide)) (Nat.le_of_ble_eq_true rfl) dX9_odds_27 rfl ?_
    refine zg_istore_n (ls' := [(0, .ref 39), (1, .int v1), (2, .int x3)]) dX9_odds_30 rfl (Nat.le_of_ble_eq_true rfl) rfl ?_
    refine zg_lconst dX9_odds_31 (v := 0) rfl ?_
    refine zg_lstore_n (ls' := [(0, .ref 39), (1, .int v1), (2, .int x3), (3, .long (0 : Int64))]) dX9_odds_32 rfl (Nat.le_of_ble_eq_true rfl) rfl ?_
    refine zg_lconst dX9_odds_33 (v := 1) rfl ?_
    refine zg_lstore (ls' := [(0, .ref 39), (1, .int v1), (2, .int x3), (3, .long (0 : Int64)), (5, .long (1 : Int64))]) dX9_odds_34 (Nat.le_of_ble_eq_true rfl) rfl ?_
    refine zg_iconst dX9_odds_36 zki_0 ?_
    refine zg_istore (ls' := [(0, .ref 39), (1, .int v1), (2, .int x3), (3, .long (0 : Int64)), (5, .long (1 : Int64)), (7, .int (0 : Int32))]) dX9_odds_37 (Nat.le_of_ble_eq_true rfl) rfl ?_
    exact g9_odds_39 zfuel _ _ _ _ _ _ h
  · replace h := (if_pos hc).symm.trans h
    refine zg_iconst dX9_odds_17 zki_m1 ?_
    obtain ⟨rfl, rfl⟩ := z_ret2 h
    exact zg_iret dX9_odds_18
set_option maxRecDepth 20000 in
set_option maxHeartbeats 4000000 in
theorem g9_law_135 {r1 : Int32} {Mr : zM} : ∀ (n : Nat) (v2 : Int32) (v3 : Int32) (v4 : Int32) (v5 : Int32) (M : zM), f9_law_135 n v2 v3 v4 v5 M = some (r1, Mr) → zJ ztops RX9 cX9_law 6 (zBm ztops 222 (some .int) (some (.int r1)) Mr) 0 0 135 [(0, .ref 39), (2, .int v2), (3, .int v3), (4, .int v4), (5, .int v5)] [] M := by
  intro n
  induction n with
  | zero => intro v2 v3 v4 v5 M h; cases h
  | succ n ih =>
    intro v2 v3 v4 v5 M h
    rw [f9_law_135] at h
    refine zg_iload 4 dX9_law_135 rfl ?_
    refine zg_bipush dX9_law_137 zkb_10 ?_
    refine zg_icmp_ge (tgt := 179) dX9_law_139 (by decide) (fun hc => ?_) (fun hc => ?_)
    · replace h := (if_pos hc).symm.trans h
      refine zg_aload_n 0 dX9_law_179 rfl rfl ?_
      refine zg_aload_n 0 dX9_law_180 rfl rfl ?_
      refine zo_getr 62 22 rfl fl_X9_89 zt_39 rfl dX9_law_181 ?_
      refine zg_iload_n 2 dX9_law_184 rfl rfl ?_
      obtain ⟨M1, hM1, h⟩ := z_bind h
      refine zg_callV (st := []) (k_X9_laysCode zt_62 hM1) zY_X9_laysCode lv_X9_242 rfl zt_39 rfl (zfit_m (by decide) (by decide)) (Nat.le_of_ble_eq_true rfl) dX9_law_185 rfl ?_
      refine zg_aload_n 0 dX9_law_188 rfl rfl ?_
      refine zg_iconst dX9_law_189 zki_0 ?_
      refine zg_puti fp_X9_15 zt_39 rfl dX9_law_190 ?_
      refine zg_aload_n 0 dX9_law_193 rfl rfl ?_
      refine zg_aload_n 0 dX9_law_194 rfl rfl ?_
      refine zo_getr 42 2 rfl fl_X9_28 zt_39 rfl dX9_law_195 ?_
      obtain ⟨x2, hx2, h⟩ := z_bind h
      refine zg_callS (st := [.ref 39]) (k_X9_threadsOf zt_42 hx2) zY_X9_threadsOf ls_X9_315 rfl (zfit_m (by decide) (by decide)) (Nat.le_of_ble_eq_true rfl) dX9_law_198 rfl ?_
      refine zg_i2l dX9_law_201 ?_
      obtain ⟨M3, hM3, h⟩ := z_bind h
      refine zg_callV (st := []) (k_X9_enters hM3) zY_X9_enters lv_X9_311 rfl zt_39 rfl (zfit_m (by decide) (by decide)) (Nat.le_of_ble_eq_true rfl) dX9_law_202 rfl ?_
      refine zg_aload_n 0 dX9_law_205 rfl rfl ?_
      refine zg_iload_n 1 dX9_law_206 rfl rfl ?_
      refine zg_i2l dX9_law_207 ?_
      obtain ⟨M4, hM4, h⟩ := z_bind h
      refine zg_callV (st := []) (k_X9_enters hM4) zY_X9_enters lv_X9_311 rfl zt_39 rfl (zfit_m (by decide) (by decide)) (Nat.le_of_ble_eq_true rfl) dX9_law_208 rfl ?_
      refine zg_iload 3 dX9_law_211 rfl ?_
      obtain ⟨rfl, rfl⟩ := z_ret2 h
      exact zg_iret dX9_law_213
    · replace h := (if_neg hc).symm.trans h
      refine zg_iload 3 dX9_law_142 rfl ?_
      refine zg_aload_n 0 dX9_law_144 rfl rfl ?_
      refine zg_aload_n 0 dX9_law_145 rfl rfl ?_
      refine zo_getr 42 2 rfl fl_X9_28 zt_39 rfl dX9_law_146 ?_
      obtain ⟨p1, hp1, h⟩ := z_bind h
      refine zg_callV (st := [.int v4]) (k_X9_nightGoes zt_42 hp1) zY_X9_nightGoes lv_X9_293 rfl zt_39 rfl (zfit_m (by decide) (by decide)) (Nat.le_of_ble_eq_true rfl) dX9_law_149 rfl ?_
      refine zg_aload_n 0 dX9_law_152 rfl rfl ?_
      refine zo_getr 63 23 rfl fl_X9_92 zt_39 rfl dX9_law_153 ?_
      refine zg_iload 4 dX9_law_156 rfl ?_
      obtain ⟨x2, hx2, h⟩ := z_bind h
      refine zo_iald zt_63 hx2 dX9_law_158 ?_
      suffices hj : zJ ztops RX9 cX9_law 6 (zBm ztops 222 (some .int) (some (.int r1)) Mr) 0 0 167 [(0, .ref 39), (2, .int v2), (3, .int v3), (4, .int v4), (5, .int v5)] [.int (if p1.1 = x2 then (0 : Int32) else (1 : Int32)), .int v4] p1.2 by
        refine zg_icmp_eq (tgt := 166) dX9_law_159 (by decide) (fun hc => ?_) (fun hc => ?_)
        · rw [show (if p1.1 = x2 then (0 : Int32) else (1 : Int32)) = (0 : Int32) from if_pos hc] at hj
          refine zg_iconst dX9_law_166 zki_0 ?_
          exact hj
        · rw [show (if p1.1 = x2 then (0 : Int32) else (1 : Int32)) = (1 : Int32) from if_neg hc] at hj
          refine zg_iconst dX9_law_162 zki_1 ?_
          refine zg_goto (tgt := 167) dX9_law_163 (by decide) ?_
          exact hj
      obtain ⟨x3, hx3, h⟩ := z_bind h
      refine zg_callS (st := [.int v4]) (k_X9_flag hx3) zY_X9_flag ls_X9_116 rfl (zfit_m (by decide) (by decide)) (Nat.le_of_ble_eq_true rfl) dX9_law_167 rfl ?_
      refine zg_iadd dX9_law_170 ?_
      refine zg_istore (ls' := [(0, .ref 39), (2, .int v2), (3, .int v3), (4, .int (v4 + x3)), (5, .int v5)]) dX9_law_171 (Nat.le_of_ble_eq_true rfl) rfl ?_
      refine zg_iinc (ls' := [(0, .ref 39), (2, .int v2), (3, .int v3), (4, .int (v4 + x3)), (5, .int (v5 + (1 : Int32)))]) 4 dX9_law_173 rfl zki_1 (Nat.le_of_ble_eq_true rfl) rfl ?_
      refine zg_goto (tgt := 135) dX9_law_176 (by decide) ?_
      exact ih _ _ _ _ _ h
set_option maxRecDepth 20000 in
set_option maxHeartbeats 4000000 in
theorem g9_law_77 {r1 : Int32} {Mr : zM} : ∀ (n : Nat) (v2 : Int32) (v3 : Int32) (v4 : Int32) (M : zM), f9_law_77 n v2 v3 v4 M = some (r1, Mr) → zJ ztops RX9 cX9_law 6 (zBm ztops 222 (some .int) (some (.int r1)) Mr) 0 0 77 [(0, .ref 39), (2, .int v2), (3, .int v3), (4, .int v4)] [] M := by
  intro n
  induction n with
  | zero => intro v2 v3 v4 M h; cases h
  | succ n ih =>
    intro v2 v3 v4 M h
    rw [f9_law_77] at h
    refine zg_iload 3 dX9_law_77 rfl ?_
    refine zg_aload_n 0 dX9_law_79 rfl rfl ?_
    refine zg_geti fl_X9_236 zt_39 rfl dX9_law_80 ?_
    refine zg_icmp_ge (tgt := 106) dX9_law_83 (by decide) (fun hc => ?_) (fun hc => ?_)
    · replace h := (if_pos hc).symm.trans h
      refine zg_aload_n 0 dX9_law_106 rfl rfl ?_
      refine zg_aload_n 0 dX9_law_107 rfl rfl ?_
      refine zo_getr 46 6 rfl fl_X9_40 zt_39 rfl dX9_law_108 ?_
      refine zg_aload_n 0 dX9_law_111 rfl rfl ?_
      refine zg_geti fl_X9_204 zt_39 rfl dX9_law_112 ?_
      obtain ⟨M1, hM1, h⟩ := z_bind h
      refine zg_callV (st := []) (k_X9_laysCode zt_46 hM1) zY_X9_laysCode lv_X9_242 rfl zt_39 rfl (zfit_m (by decide) (by decide)) (Nat.le_of_ble_eq_true rfl) dX9_law_115 rfl ?_
      refine zg_aload_n 0 dX9_law_118 rfl rfl ?_
      refine zo_getr 42 2 rfl fl_X9_28 zt_39 rfl dX9_law_119 ?_
      refine zg_aload_n 0 dX9_law_122 rfl rfl ?_
      refine zo_getr 41 1 rfl fl_X9_24 zt_39 rfl dX9_law_123 ?_
      obtain ⟨M2, hM2, h⟩ := z_bind h
      refine zg_callS (st := []) (k_X9_copies zt_42 zt_41 hM2) zY_X9_copies ls_X9_194 rfl (zfit_m (by decide) (by decide)) (Nat.le_of_ble_eq_true rfl) dX9_law_126 rfl ?_
      refine zg_iconst dX9_law_129 zki_0 ?_
      refine zg_istore (ls' := [(0, .ref 39), (2, .int v2), (3, .int v3), (4, .int (0 : Int32))]) dX9_law_130 (Nat.le_of_ble_eq_true rfl) rfl ?_
      refine zg_iconst dX9_law_132 zki_0 ?_
      refine zg_istore (ls' := [(0, .ref 39), (2, .int v2), (3, .int v3), (4, .int (0 : Int32)), (5, .int (0 : Int32))]) dX9_law_133 (Nat.le_of_ble_eq_true rfl) rfl ?_
      exact g9_law_135 zfuel _ _ _ _ _ h
    · replace h := (if_neg hc).symm.trans h
      refine zg_aload_n 0 dX9_law_86 rfl rfl ?_
      refine zo_getr 62 22 rfl fl_X9_89 zt_39 rfl dX9_law_87 ?_
      refine zg_iload 3 dX9_law_90 rfl ?_
      refine zg_aload_n 0 dX9_law_92 rfl rfl ?_
      refine zo_getr 45 5 rfl fl_X9_37 zt_39 rfl dX9_law_93 ?_
      refine zg_iload 3 dX9_law_96 rfl ?_
      obtain ⟨x1, hx1, h⟩ := z_bind h
      refine zo_iald zt_45 hx1 dX9_law_98 ?_
      obtain ⟨M2, hM2, h⟩ := z_bind h
      refine zo_iast zt_62 hM2 dX9_law_99 ?_
      refine zg_iinc (ls' := [(0, .ref 39), (2, .int v2), (3, .int v3), (4, .int (v4 + (1 : Int32)))]) 3 dX9_law_100 rfl zki_1 (Nat.le_of_ble_eq_true rfl) rfl ?_
      refine zg_goto (tgt := 77) dX9_law_103 (by decide) ?_
      exact ih _ _ _ _ h
set_option maxRecDepth 20000 in
set_option maxHeartbeats 4000000 in
theorem g9_law_35 {r1 : Int32} {Mr : zM} : ∀ (n : Nat) (v2 : Int32) (M : zM), f9_law_35 n v2 M = some (r1, Mr) → zJ ztops RX9 cX9_law 6 (zBm ztops 222 (some .int) (some (.int r1)) Mr) 0 0 35 [(0, .ref 39), (2, .int v2)] [] M := by
  intro n
  induction n with
  | zero => intro v2 M h; cases h
  | succ n ih =>
    intro v2 M h
    rw [f9_law_35] at h
    refine zg_iload_n 1 dX9_law_35 rfl rfl ?_
    refine zg_bipush dX9_law_36 zkb_10 ?_
    refine zg_icmp_ge (tgt := 61) dX9_law_38 (by decide) (fun hc => ?_) (fun hc => ?_)
    · replace h := (if_pos hc).symm.trans h
      refine zg_aload_n 0 dX9_law_61 rfl rfl ?_
      refine zo_getr 42 2 rfl fl_X9_28 zt_39 rfl dX9_law_62 ?_
      obtain ⟨x1, hx1, h⟩ := z_bind h
      refine zg_callS (st := []) (k_X9_threadsOf zt_42 hx1) zY_X9_threadsOf ls_X9_315 rfl (zfit_m (by decide) (by decide)) (Nat.le_of_ble_eq_true rfl) dX9_law_65 rfl ?_
      refine zg_istore_n (ls' := [(0, .ref 39), (2, .int x1)]) dX9_law_68 rfl (Nat.le_of_ble_eq_true rfl) rfl ?_
      refine zg_aload_n 0 dX9_law_69 rfl rfl ?_
      refine zg_geti fl_X9_236 zt_39 rfl dX9_law_70 ?_
      refine zg_istore_n (ls' := [(0, .ref 39), (2, .int x1), (3, .int (M.1 39 14))]) dX9_law_73 rfl (Nat.le_of_ble_eq_true rfl) rfl ?_
      refine zg_iconst dX9_law_74 zki_0 ?_
      refine zg_istore (ls' := [(0, .ref 39), (2, .int x1), (3, .int (M.1 39 14)), (4, .int (0 : Int32))]) dX9_law_75 (Nat.le_of_ble_eq_true rfl) rfl ?_
      exact g9_law_77 zfuel _ _ _ _ h
    · replace h := (if_neg hc).symm.trans h
      refine zg_aload_n 0 dX9_law_41 rfl rfl ?_
      refine zo_getr 63 23 rfl fl_X9_92 zt_39 rfl dX9_law_42 ?_
      refine zg_iload_n 1 dX9_law_45 rfl rfl ?_
      refine zg_aload_n 0 dX9_law_46 rfl rfl ?_
      refine zg_aload_n 0 dX9_law_47 rfl rfl ?_
      refine zo_getr 42 2 rfl fl_X9_28 zt_39 rfl dX9_law_48 ?_
      obtain ⟨p1, hp1, h⟩ := z_bind h
      refine zg_callV (st := [.int v2, .ref 63]) (k_X9_nightGoes zt_42 hp1) zY_X9_nightGoes lv_X9_293 rfl zt_39 rfl (zfit_m (by decide) (by decide)) (Nat.le_of_ble_eq_true rfl) dX9_law_51 rfl ?_
      obtain ⟨M2, hM2, h⟩ := z_bind h
      refine zo_iast zt_63 hM2 dX9_law_54 ?_
      refine zg_iinc (ls' := [(0, .ref 39), (2, .int (v2 + (1 : Int32)))]) 1 dX9_law_55 rfl zki_1 (Nat.le_of_ble_eq_true rfl) rfl ?_
      refine zg_goto (tgt := 35) dX9_law_58 (by decide) ?_
      exact ih _ _ h
set_option maxRecDepth 20000 in
set_option maxHeartbeats 4000000 in
theorem k_X9_law {M : zM} {r1 : Int32} {Mr : zM} (h : f9_law M = some (r1, Mr)) : zK ztops yX9_law cX9_law 6 (some .int) 222 [.ref 39] M (some (.int r1)) Mr := by
  refine zK_of pl_X9 (Nat.le_of_ble_eq_true rfl) ?_
  show zJ ztops RX9 cX9_law 6 _ 0 0 0 [(0, .ref 39)] [] M
  rw [f9_law] at h
  refine zg_aload_n 0 dX9_law_0 rfl rfl ?_
  refine zg_iconst dX9_law_1 zki_0 ?_
  refine zg_puti fp_X9_3 zt_39 rfl dX9_law_2 ?_
  refine zg_aload_n 0 dX9_law_5 rfl rfl ?_
  obtain ⟨p1, hp1, h⟩ := z_bind h
  refine zg_callV (st := []) (k_X9_readsRule hp1) zY_X9_readsRule lv_X9_239 rfl zt_39 rfl (zfit_m (by decide) (by decide)) (Nat.le_of_ble_eq_true rfl) dX9_law_6 rfl ?_
  refine zg_istore_n (ls' := [(0, .ref 39), (1, .int p1.1)]) dX9_law_9 rfl (Nat.le_of_ble_eq_true rfl) rfl ?_
  refine zg_iload_n 1 dX9_law_10 rfl rfl ?_
  refine zg_if_ge (tgt := 22) dX9_law_11 (by decide) (fun hc => ?_) (fun hc => ?_)
  · replace h := (if_pos hc).symm.trans h
    refine zg_aload_n 0 dX9_law_22 rfl rfl ?_
    refine zo_getr 42 2 rfl fl_X9_28 zt_39 rfl dX9_law_23 ?_
    refine zg_aload_n 0 dX9_law_26 rfl rfl ?_
    refine zo_getr 41 1 rfl fl_X9_24 zt_39 rfl dX9_law_27 ?_
    obtain ⟨M2, hM2, h⟩ := z_bind h
    refine zg_callS (st := []) (k_X9_copies zt_42 zt_41 hM2) zY_X9_copies ls_X9_194 rfl (zfit_m (by decide) (by decide)) (Nat.le_of_ble_eq_true rfl) dX9_law_30 rfl ?_
    refine zg_iconst dX9_law_33 zki_0 ?_
    refine zg_istore_n (ls' := [(0, .ref 39), (1, .int p1.1), (2, .int (0 : Int32))]) dX9_law_34 rfl (Nat.le_of_ble_eq_true rfl) rfl ?_
    refine zo_sub (ls' := [(0, .ref 39), (2, .int (0 : Int32))]) [0, 2] rfl ?_
    exact g9_law_35 zfuel _ _ h
  · replace h := (if_neg hc).symm.trans h
    refine zg_iload_n 1 dX9_law_14 rfl rfl ?_
    refine zg_iconst dX9_law_15 zki_1 ?_
    refine zg_iadd dX9_law_16 ?_
    refine zg_sipush dX9_law_17 zks_10000 ?_
    refine zg_isub dX9_law_20 ?_
    obtain ⟨rfl, rfl⟩ := z_ret2 h
    exact zg_iret dX9_law_21
set_option maxRecDepth 20000 in
set_option maxHeartbeats 4000000 in
theorem k_X9_gets {T : List zN} {v0 : Int32} {v1 : Int32} {v2 : Int32} {r1 : Int32} {M : zM} (h : f9_gets v0 v1 v2 = some r1) : zK T yX9_gets cX9_gets 3 (some .int) 2 [.int v0, .int v1, .int v2] M (some (.int r1)) M := by
  refine zK_of pl_X9 (Nat.le_of_ble_eq_true rfl) ?_
  show zJ T RX9 cX9_gets 3 _ 0 0 0 [(0, .int v0), (1, .int v1), (2, .int v2)] [] M
  rw [f9_gets] at h
  refine zg_iload_n 0 dX9_gets_0 rfl rfl ?_
  refine zg_iload_n 1 dX9_gets_1 rfl rfl ?_
  refine zg_iadd dX9_gets_2 ?_
  refine zg_iload_n 2 dX9_gets_3 rfl rfl ?_
  refine zg_icmp_gt (tgt := 9) dX9_gets_4 (by decide) (fun hc => ?_) (fun hc => ?_)
  · replace h := (if_pos hc).symm.trans h
    refine zg_iload_n 0 dX9_gets_9 rfl rfl ?_
    refine zg_iload_n 1 dX9_gets_10 rfl rfl ?_
    suffices hj : zJ T RX9 cX9_gets 3 (zBm T 2 (some .int) (some (.int r1)) M) 0 0 40 [(0, .int v0), (1, .int v1), (2, .int v2)] [.int (if v1 ≤ v0 then (if v0 ≤ v1 then (v2 / (2 : Int32)) else (v2 - (zmin v1 v2))) else (zmin v0 v2))] M by
      refine zg_icmp_ge (tgt := 22) dX9_gets_11 (by decide) (fun hc => ?_) (fun hc => ?_)
      · rw [show (if v1 ≤ v0 then (if v0 ≤ v1 then (v2 / (2 : Int32)) else (v2 - (zmin v1 v2))) else (zmin v0 v2)) = (if v0 ≤ v1 then (v2 / (2 : Int32)) else (v2 - (zmin v1 v2))) from if_pos hc] at hj
        refine zg_iload_n 0 dX9_gets_22 rfl rfl ?_
        refine zg_iload_n 1 dX9_gets_23 rfl rfl ?_
        refine zg_icmp_le (tgt := 37) dX9_gets_24 (by decide) (fun hc => ?_) (fun hc => ?_)
        · rw [show (if v0 ≤ v1 then (v2 / (2 : Int32)) else (v2 - (zmin v1 v2))) = (v2 / (2 : Int32)) from if_pos hc] at hj
          refine zg_iload_n 2 dX9_gets_37 rfl rfl ?_
          refine zg_iconst dX9_gets_38 zki_2 ?_
          refine zg_idiv (by decide) dX9_gets_39 ?_
          exact hj
        · rw [show (if v0 ≤ v1 then (v2 / (2 : Int32)) else (v2 - (zmin v1 v2))) = (v2 - (zmin v1 v2)) from if_neg hc] at hj
          refine zg_iload_n 2 dX9_gets_27 rfl rfl ?_
          refine zg_iload_n 1 dX9_gets_28 rfl rfl ?_
          refine zg_iload_n 2 dX9_gets_29 rfl rfl ?_
          refine zo_min ls_X9_153 ⟨Nat.le_of_ble_eq_true rfl, Nat.le_of_ble_eq_true rfl, Nat.le_refl _, Nat.le_refl _⟩ z_iM z_cmin dX9_gets_30 ?_
          refine zg_isub dX9_gets_33 ?_
          refine zg_goto (tgt := 40) dX9_gets_34 (by decide) ?_
          exact hj
      · rw [show (if v1 ≤ v0 then (if v0 ≤ v1 then (v2 / (2 : Int32)) else (v2 - (zmin v1 v2))) else (zmin v0 v2)) = (zmin v0 v2) from if_neg hc] at hj
        refine zg_iload_n 0 dX9_gets_14 rfl rfl ?_
        refine zg_iload_n 2 dX9_gets_15 rfl rfl ?_
        refine zo_min ls_X9_153 ⟨Nat.le_of_ble_eq_true rfl, Nat.le_of_ble_eq_true rfl, Nat.le_refl _, Nat.le_refl _⟩ z_iM z_cmin dX9_gets_16 ?_
        refine zg_goto (tgt := 40) dX9_gets_19 (by decide) ?_
        exact hj
    refine zg_iconst dX9_gets_40 zki_1 ?_
    refine zg_isub dX9_gets_41 ?_
    obtain rfl := z_ret1 h
    exact zg_iret dX9_gets_42
  · replace h := (if_neg hc).symm.trans h
    refine zg_iload_n 0 dX9_gets_7 rfl rfl ?_
    obtain rfl := z_ret1 h
    exact zg_iret dX9_gets_8
set_option maxRecDepth 20000 in
set_option maxHeartbeats 4000000 in
theorem g9_isRest_37 {T : List zN} {r1 : Int32} {M : zM} {k5 : Int32 → Int32 → Int32 → Int32 → Int32 → Option Int32} (hk5 : ∀ (v0 : Int32) (v1 : Int32) (v2 : Int32) (v3 : Int32) (v4 : Int32), k5 v0 v1 v2 v3 v4 = some r1 → zJ T RX9 cX9_isRest 5 (zBm T 3 (some .boolean) (some (.int r1)) M) 0 0 5 [(0, .int v0), (1, .int v1), (2, .int v2), (3, .int v3), (4, .int v4)] [] M) : ∀ (v0 : Int32) (v1 : Int32) (v2 : Int32) (v4 : Int32) (s0 : Int32), f9_isRest_37 k5 v0 v1 v2 v4 s0 = some r1 → zJ T RX9 cX9_isRest 5 (zBm T 3 (some .boolean) (some (.int r1)) M) 0 0 37 [(0, .int v0), (1, .int v1), (2, .int v2), (4, .int v4)] [.int s0] M := by
  intro v0 v1 v2 v4 s0 h
  rw [f9_isRest_37] at h
  refine zg_istore_n (ls' := [(0, .int v0), (1, .int v1), (2, .int v2), (3, .int s0), (4, .int v4)]) dX9_isRest_37 rfl (Nat.le_of_ble_eq_true rfl) rfl ?_
  refine zg_iinc (ls' := [(0, .int v0), (1, .int v1), (2, .int v2), (3, .int s0), (4, .int (v4 + (1 : Int32)))]) 4 dX9_isRest_38 rfl zki_1 (Nat.le_of_ble_eq_true rfl) rfl ?_
  refine zg_goto (tgt := 5) dX9_isRest_41 (by decide) ?_
  exact hk5 _ _ _ _ _ h
set_option maxRecDepth 20000 in
set_option maxHeartbeats 4000000 in
theorem g9_isRest_5 {T : List zN} {r1 : Int32} {M : zM} : ∀ (n : Nat) (v0 : Int32) (v1 : Int32) (v2 : Int32) (v3 : Int32) (v4 : Int32), f9_isRest_5 n v0 v1 v2 v3 v4 = some r1 → zJ T RX9 cX9_isRest 5 (zBm T 3 (some .boolean) (some (.int r1)) M) 0 0 5 [(0, .int v0), (1, .int v1), (2, .int v2), (3, .int v3), (4, .int v4)] [] M := by
  intro n
  induction n with
  | zero => intro v0 v1 v2 v3 v4 h; cases h
  | succ n ih =>
    intro v0 v1 v2 v3 v4 h
    rw [f9_isRest_5] at h
    refine zg_iload 4 dX9_isRest_5 rfl ?_
    refine zg_bipush dX9_isRest_7 zkb_9 ?_
    refine zg_icmp_gt (tgt := 44) dX9_isRest_9 (by decide) (fun hc => ?_) (fun hc => ?_)
    · replace h := (if_pos hc).symm.trans h
      refine zg_iload_n 3 dX9_isRest_44 rfl rfl ?_
      obtain ⟨x1, hx1, h⟩ := z_bind h
      obtain ⟨rfl, hzx1⟩ := zbl_ok hx1
      obtain rfl := z_ret1 h
      exact zg_zret hzx1 dX9_isRest_45
    · replace h := (if_neg hc).symm.trans h
      refine zg_iload_n 3 dX9_isRest_12 rfl rfl ?_
      refine zg_if_eq (tgt := 36) dX9_isRest_13 (by decide) (fun hc => ?_) (fun hc => ?_)
      · replace h := (if_pos hc).symm.trans h
        refine zg_iconst dX9_isRest_36 zki_0 ?_
        refine zo_sub (ls' := [(0, .int v0), (1, .int v1), (2, .int v2), (4, .int v4)]) [0, 1, 2, 4] rfl ?_
        exact g9_isRest_37 (fun u0 u1 u2 u3 u4 h => ih u0 u1 u2 u3 u4 h) _ _ _ _ _ h
      · replace h := (if_neg hc).symm.trans h
        refine zg_iload 4 dX9_isRest_16 rfl ?_
        refine zg_iload_n 1 dX9_isRest_18 rfl rfl ?_
        refine zg_iload_n 2 dX9_isRest_19 rfl rfl ?_
        obtain ⟨x1, hx1, h⟩ := z_bind h
        refine zg_callS (st := []) (k_X9_gets hx1) zY_X9_gets ls_X9_422 rfl (zfit_m (by decide) (by decide)) (Nat.le_of_ble_eq_true rfl) dX9_isRest_20 rfl ?_
        refine zg_iload_n 0 dX9_isRest_23 rfl rfl ?_
        refine zg_iload_n 1 dX9_isRest_24 rfl rfl ?_
        refine zg_iload_n 2 dX9_isRest_25 rfl rfl ?_
        obtain ⟨x2, hx2, h⟩ := z_bind h
        refine zg_callS (st := [.int x1]) (k_X9_gets hx2) zY_X9_gets ls_X9_422 rfl (zfit_m (by decide) (by decide)) (Nat.le_of_ble_eq_true rfl) dX9_isRest_26 rfl ?_
        suffices hj : zJ T RX9 cX9_isRest 5 (zBm T 3 (some .boolean) (some (.int r1)) M) 0 0 37 [(0, .int v0), (1, .int v1), (2, .int v2), (3, .int v3), (4, .int v4)] [.int (if x2 < x1 then (0 : Int32) else (1 : Int32))] M by
          refine zg_icmp_gt (tgt := 36) dX9_isRest_29 (by decide) (fun hc => ?_) (fun hc => ?_)
          · rw [show (if x2 < x1 then (0 : Int32) else (1 : Int32)) = (0 : Int32) from if_pos hc] at hj
            refine zg_iconst dX9_isRest_36 zki_0 ?_
            exact hj
          · rw [show (if x2 < x1 then (0 : Int32) else (1 : Int32)) = (1 : Int32) from if_neg hc] at hj
            refine zg_iconst dX9_isRest_32 zki_1 ?_
            refine zg_goto (tgt := 37) dX9_isRest_33 (by decide) ?_
            exact hj
        refine zo_sub (ls' := [(0, .int v0), (1, .int v1), (2, .int v2), (4, .int v4)]) [0, 1, 2, 4] rfl ?_
        exact g9_isRest_37 (fun u0 u1 u2 u3 u4 h => ih u0 u1 u2 u3 u4 h) _ _ _ _ _ h
set_option maxRecDepth 20000 in
set_option maxHeartbeats 4000000 in
theorem k_X9_isRest {T : List zN} {v0 : Int32} {v1 : Int32} {v2 : Int32} {r1 : Int32} {M : zM} (h : f9_isRest v0 v1 v2 = some r1) : zK T yX9_isRest cX9_isRest 5 (some .boolean) 3 [.int v0, .int v1, .int v2] M (some (.int r1)) M := by
  refine zK_of pl_X9 (Nat.le_of_ble_eq_true rfl) ?_
  show zJ T RX9 cX9_isRest 5 _ 0 0 0 [(0, .int v0), (1, .int v1), (2, .int v2)] [] M
  rw [f9_isRest] at h
  refine zg_iconst dX9_isRest_0 zki_1 ?_
  refine zg_istore_n (ls' := [(0, .int v0), (1, .int v1), (2, .int v2), (3, .int (1 : Int32))]) dX9_isRest_1 rfl (Nat.le_of_ble_eq_true rfl) rfl ?_
  refine zg_iconst dX9_isRest_2 zki_0 ?_
  refine zg_istore (ls' := [(0, .int v0), (1, .int v1), (2, .int v2), (3, .int (1 : Int32)), (4, .int (0 : Int32))]) dX9_isRest_3 (Nat.le_of_ble_eq_true rfl) rfl ?_
  exact g9_isRest_5 zfuel _ _ _ _ _ h
