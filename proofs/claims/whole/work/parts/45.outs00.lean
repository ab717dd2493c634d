set_option maxRecDepth 20000 in
set_option maxHeartbeats 4000000 in
theorem oJ7_fillJ_6 {a0 : Nat} {n0 : Nat} {Mr : zM} {M0 : zM} : ∀ (n : Nat) (v1 : Int64) (v3 : Int32) (v4 : Int32) (M : zM), zOut [a0] [] M0 M → fJ7_fillJ_6 a0 n0 n v1 v3 v4 M = some Mr → zOut [a0] [] M0 Mr := by
  intro n
  induction n with
  | zero => intro v1 v3 v4 M ho h; cases h
  | succ n ih =>
    intro v1 v3 v4 M ho h
    rw [fJ7_fillJ_6] at h
    by_cases hc : v4 ≤ v3
    · replace h := (if_pos hc).symm.trans h
      obtain rfl := z_ret1 h
      exact ho
    · replace h := (if_neg hc).symm.trans h
      obtain ⟨M1, hM1, h⟩ := z_bind h
      replace ho := ho.pJ hM1 (by simp)
      exact ih _ _ _ _ ho h
set_option maxRecDepth 20000 in
set_option maxHeartbeats 4000000 in
theorem o_J7_fill_d0a16 {a0 : Nat} {n0 : Nat} {v1 : Int64} {M : zM} {Mr : zM} (h : fJ7_fillJ a0 n0 v1 M = some Mr) : zOut [a0] [] M Mr := by
  have ho : zOut [a0] [] M M := zOut.rf
  rw [fJ7_fillJ] at h
  exact oJ7_fillJ_6 zfuel _ _ _ _ ho h
set_option maxRecDepth 20000 in
set_option maxHeartbeats 4000000 in
theorem oJ7_fillI_5 {a0 : Nat} {n0 : Nat} {Mr : zM} {M0 : zM} : ∀ (n : Nat) (v1 : Int32) (v2 : Int32) (v3 : Int32) (M : zM), zOut [a0] [] M0 M → fJ7_fillI_5 a0 n0 n v1 v2 v3 M = some Mr → zOut [a0] [] M0 Mr := by
  intro n
  induction n with
  | zero => intro v1 v2 v3 M ho h; cases h
  | succ n ih =>
    intro v1 v2 v3 M ho h
    rw [fJ7_fillI_5] at h
    by_cases hc : v3 ≤ v2
    · replace h := (if_pos hc).symm.trans h
      obtain rfl := z_ret1 h
      exact ho
    · replace h := (if_neg hc).symm.trans h
      obtain ⟨M1, hM1, h⟩ := z_bind h
      replace ho := ho.pI hM1 (by simp)
      exact ih _ _ _ _ ho h
set_option maxRecDepth 20000 in
set_option maxHeartbeats 4000000 in
theorem o_J7_fill_53178 {a0 : Nat} {n0 : Nat} {v1 : Int32} {M : zM} {Mr : zM} (h : fJ7_fillI a0 n0 v1 M = some Mr) : zOut [a0] [] M Mr := by
  have ho : zOut [a0] [] M M := zOut.rf
  rw [fJ7_fillI] at h
  exact oJ7_fillI_5 zfuel _ _ _ _ ho h
set_option maxRecDepth 20000 in
set_option maxHeartbeats 4000000 in
theorem o_X0_mark {a0 : Nat} {v1 : Int32} {M : zM} {Mr : zM} (h : f0_mark a0 v1 M = some Mr) : zOut [a0] [] M Mr := by
  have ho : zOut [a0] [] M M := zOut.rf
  rw [f0_mark] at h
  by_cases hc : (64 : Int32) ≤ (zushr v1 (6 : Int32))
  · replace h := (if_pos hc).symm.trans h
    obtain rfl := z_ret1 h
    exact ho
  · replace h := (if_neg hc).symm.trans h
    obtain ⟨x1, hx1, h⟩ := z_bind h
    obtain ⟨M2, hM2, h⟩ := z_bind h
    replace ho := ho.pJ hM2 (by simp)
    obtain rfl := z_ret1 h
    exact ho
set_option maxRecDepth 20000 in
set_option maxHeartbeats 4000000 in
theorem o_X0_turn {v1 : Int32} {v2 : Int32} {M : zM} {Mr : zM} (h : f0_turn v1 v2 M = some Mr) : zOut [22, 23] [] M Mr := by
  have ho : zOut [22, 23] [] M M := zOut.rf
  rw [f0_turn] at h
  obtain ⟨x1, hx1, h⟩ := z_bind h
  obtain ⟨M2, hM2, h⟩ := z_bind h
  replace ho := ho.pI hM2 (by simp)
  obtain ⟨x3, hx3, h⟩ := z_bind h
  obtain ⟨M4, hM4, h⟩ := z_bind h
  replace ho := ho.pI hM4 (by simp)
  obtain ⟨x5, hx5, h⟩ := z_bind h
  obtain ⟨M6, hM6, h⟩ := z_bind h
  replace ho := ho.pI hM6 (by simp)
  obtain ⟨x7, hx7, h⟩ := z_bind h
  obtain ⟨M8, hM8, h⟩ := z_bind h
  replace ho := ho.pI hM8 (by simp)
  obtain rfl := z_ret1 h
  exact ho
set_option maxRecDepth 20000 in
set_option maxHeartbeats 4000000 in
theorem o0_markTakings_40 {Mr : zM} {M0 : zM} {k2 : Int32 → Int32 → zM → Option zM} (hk2 : ∀ (v1 : Int32) (v2 : Int32) (M : zM), zOut [25] [] M0 M → k2 v1 v2 M = some Mr → zOut [25] [] M0 Mr) : ∀ (v1 : Int32) (v2 : Int32) (M : zM), zOut [25] [] M0 M → f0_markTakings_40 k2 v1 v2 M = some Mr → zOut [25] [] M0 Mr := by
  intro v1 v2 M ho h
  rw [f0_markTakings_40] at h
  exact hk2 _ _ _ ho h
set_option maxRecDepth 20000 in
set_option maxHeartbeats 4000000 in
theorem o0_markTakings_2 {Mr : zM} {M0 : zM} : ∀ (n : Nat) (v1 : Int32) (v2 : Int32) (M : zM), zOut [25] [] M0 M → f0_markTakings_2 n v1 v2 M = some Mr → zOut [25] [] M0 Mr := by
  intro n
  induction n with
  | zero => intro v1 v2 M ho h; cases h
  | succ n ih =>
    intro v1 v2 M ho h
    rw [f0_markTakings_2] at h
    by_cases hc : (12 : Int32) ≤ v2
    · replace h := (if_pos hc).symm.trans h
      obtain rfl := z_ret1 h
      exact ho
    · replace h := (if_neg hc).symm.trans h
      by_cases hc : (v1 &&& ((zshl (1 : Int32) v2) ^^^ (-1 : Int32))) = v1
      · replace h := (if_pos hc).symm.trans h
        exact o0_markTakings_40 (fun u0 u1 u2 ho h => ih u0 u1 u2 ho h) _ _ _ ho h
      · replace h := (if_neg hc).symm.trans h
        obtain ⟨x1, hx1, h⟩ := z_bind h
        by_cases hc : x1 = 0
        · replace h := (if_pos hc).symm.trans h
          exact o0_markTakings_40 (fun u0 u1 u2 ho h => ih u0 u1 u2 ho h) _ _ _ ho h
        · replace h := (if_neg hc).symm.trans h
          obtain ⟨M2, hM2, h⟩ := z_bind h
          replace ho := ho.call (o_X0_mark hM2) (by simp) (by simp)
          exact o0_markTakings_40 (fun u0 u1 u2 ho h => ih u0 u1 u2 ho h) _ _ _ ho h
set_option maxRecDepth 20000 in
set_option maxHeartbeats 4000000 in
theorem o_X0_markTakings {v1 : Int32} {M : zM} {Mr : zM} (h : f0_markTakings v1 M = some Mr) : zOut [25] [] M Mr := by
  have ho : zOut [25] [] M M := zOut.rf
  rw [f0_markTakings] at h
  exact o0_markTakings_2 zfuel _ _ _ ho h
set_option maxRecDepth 20000 in
set_option maxHeartbeats 4000000 in
theorem o_X1_forgetShapes {M : zM} {Mr : zM} (h : f1_forgetShapes M = some Mr) : zOut [29] [] M Mr := by
  have ho : zOut [29] [] M M := zOut.rf
  rw [f1_forgetShapes] at h
  obtain ⟨M1, hM1, h⟩ := z_bind h
  replace ho := ho.call (o_J7_fill_d0a16 hM1) (by simp) (by simp)
  obtain rfl := z_ret1 h
  exact ho
set_option maxRecDepth 20000 in
set_option maxHeartbeats 4000000 in
theorem o1_isNew_28 {r1 : Int32} {Mr : zM} {M0 : zM} : ∀ (n : Nat) (v1 : Int64) (v5 : Int32) (v6 : Int32) (M : zM), zOut [29] [] M0 M → f1_isNew_28 n v1 v5 v6 M = some (r1, Mr) → zOut [29] [] M0 Mr := by
  intro n
  induction n with
  | zero => intro v1 v5 v6 M ho h; cases h
  | succ n ih =>
    intro v1 v5 v6 M ho h
    rw [f1_isNew_28] at h
    by_cases hc : (1024 : Int32) ≤ v6
    · replace h := (if_pos hc).symm.trans h
      obtain ⟨rfl, rfl⟩ := z_ret2 h
      exact ho
    · replace h := (if_neg hc).symm.trans h
      obtain ⟨x1, hx1, h⟩ := z_bind h
      by_cases hc : (lg_cmp x1 v1) = 0
      · replace h := (if_pos hc).symm.trans h
        obtain ⟨rfl, rfl⟩ := z_ret2 h
        exact ho
      · replace h := (if_neg hc).symm.trans h
        obtain ⟨x2, hx2, h⟩ := z_bind h
        by_cases hc : (lg_cmp x2 (0 : Int64)) = 0
        · replace h := (if_pos hc).symm.trans h
          obtain ⟨M3, hM3, h⟩ := z_bind h
          replace ho := ho.pJ hM3 (by simp)
          obtain ⟨rfl, rfl⟩ := z_ret2 h
          exact ho
        · replace h := (if_neg hc).symm.trans h
          exact ih _ _ _ _ ho h
set_option maxRecDepth 20000 in
set_option maxHeartbeats 4000000 in
theorem o_X1_isNew {v1 : Int64} {M : zM} {r1 : Int32} {Mr : zM} (h : f1_isNew v1 M = some (r1, Mr)) : zOut [29] [] M Mr := by
  have ho : zOut [29] [] M M := zOut.rf
  rw [f1_isNew] at h
  exact o1_isNew_28 zfuel _ _ _ _ ho h
set_option maxRecDepth 20000 in
set_option maxHeartbeats 4000000 in
theorem o_X2_empty {a0 : Nat} {n0 : Nat} {M : zM} {Mr : zM} (h : f2_empty a0 n0 M = some Mr) : zOut [a0, a0 + 1] [] M Mr := by
  have ho : zOut [a0, a0 + 1] [] M M := zOut.rf
  rw [f2_empty] at h
  replace ho := ho.si a0 2 (0 : Int32) (by simp)
  obtain ⟨M1, hM1, h⟩ := z_bind h
  replace ho := ho.call (o_J7_fill_d0a16 hM1) (by simp) (by simp)
  obtain rfl := z_ret1 h
  exact ho
set_option maxRecDepth 20000 in
set_option maxHeartbeats 4000000 in
theorem o_X2_put {a0 : Nat} {n0 : Nat} {v1 : Int32} {v2 : Int64} {v4 : Int32} {M : zM} {Mr : zM} (h : f2_put a0 n0 v1 v2 v4 M = some Mr) : zOut [a0 + 1, a0 + 2] [] M Mr := by
  have ho : zOut [a0 + 1, a0 + 2] [] M M := zOut.rf
  rw [f2_put] at h
  by_cases hc : v1 < 0
  · replace h := (if_pos hc).symm.trans h
    obtain rfl := z_ret1 h
    exact ho
  · replace h := (if_neg hc).symm.trans h
    by_cases hc : (Int32.ofNat n0) ≤ v1
    · replace h := (if_pos hc).symm.trans h
      obtain rfl := z_ret1 h
      exact ho
    · replace h := (if_neg hc).symm.trans h
      obtain ⟨M1, hM1, h⟩ := z_bind h
      replace ho := ho.pJ hM1 (by simp)
      obtain ⟨M2, hM2, h⟩ := z_bind h
      replace ho := ho.pI hM2 (by simp)
      obtain rfl := z_ret1 h
      exact ho
set_option maxRecDepth 20000 in
set_option maxHeartbeats 4000000 in
theorem o_X3_clear {M : zM} {Mr : zM} (h : f3_clear M = some Mr) : zOut [9] [] M Mr := by
  have ho : zOut [9] [] M M := zOut.rf
  rw [f3_clear] at h
  replace ho := ho.si 9 1 (0 : Int32) (by simp)
  obtain rfl := z_ret1 h
  exact ho
set_option maxRecDepth 20000 in
set_option maxHeartbeats 4000000 in
theorem o_X3_add {v1 : Int64} {M : zM} {Mr : zM} (h : f3_add v1 M = some Mr) : zOut [10, 9] [] M Mr := by
  have ho : zOut [10, 9] [] M M := zOut.rf
  rw [f3_add] at h
  by_cases hc : (8 : Int32) ≤ (M.1 9 1)
  · replace h := (if_pos hc).symm.trans h
    obtain rfl := z_ret1 h
    exact ho
  · replace h := (if_neg hc).symm.trans h
    obtain ⟨M1, hM1, h⟩ := z_bind h
    replace ho := ho.pJ hM1 (by simp)
    replace ho := ho.si 9 1 ((M1.1 9 1) + (1 : Int32)) (by simp)
    obtain rfl := z_ret1 h
    exact ho
set_option maxRecDepth 20000 in
set_option maxHeartbeats 4000000 in
theorem o_X3_tell {v1 : Int64} {M : zM} {Mr : zM} (h : f3_tell v1 M = some Mr) : zOut [10, 9] [] M Mr := by
  have ho : zOut [10, 9] [] M M := zOut.rf
  rw [f3_tell] at h
  replace ho := ho.si 9 1 (0 : Int32) (by simp)
  obtain ⟨M1, hM1, h⟩ := z_bind h
  replace ho := ho.call (o_X3_add hM1) (by simp) (by simp)
  obtain rfl := z_ret1 h
  exact ho
set_option maxRecDepth 20000 in
set_option maxHeartbeats 4000000 in
theorem o_X3_tell_ {v1 : Int64} {v3 : Int64} {M : zM} {Mr : zM} (h : f3_tell_ v1 v3 M = some Mr) : zOut [10, 9] [] M Mr := by
  have ho : zOut [10, 9] [] M M := zOut.rf
  rw [f3_tell_] at h
  replace ho := ho.si 9 1 (0 : Int32) (by simp)
  obtain ⟨M1, hM1, h⟩ := z_bind h
  replace ho := ho.call (o_X3_add hM1) (by simp) (by simp)
  obtain ⟨M2, hM2, h⟩ := z_bind h
  replace ho := ho.call (o_X3_add hM2) (by simp) (by simp)
  obtain rfl := z_ret1 h
  exact ho
set_option maxRecDepth 20000 in
set_option maxHeartbeats 4000000 in
theorem o_X4_become {a0 : Nat} {a1 : Nat} {M : zM} {Mr : zM} (h : f4_become a0 a1 M = some Mr) : zOut [a0, a0 + 1] [] M Mr := by
  have ho : zOut [a0, a0 + 1] [] M M := zOut.rf
  rw [f4_become] at h
  replace ho := ho.si a0 1 (M.1 a1 1) (by simp)
  replace ho := ho.cp (a1 + 1) (a0 + 1) 40 (by simp)
  obtain rfl := z_ret1 h
  exact ho
set_option maxRecDepth 20000 in
set_option maxHeartbeats 4000000 in
theorem o_X4_emit {a0 : Nat} {v1 : Int32} {M : zM} {Mr : zM} (h : f4_emit a0 v1 M = some Mr) : zOut [a0, a0 + 1] [] M Mr := by
  have ho : zOut [a0, a0 + 1] [] M M := zOut.rf
  rw [f4_emit] at h
  by_cases hc : (40 : Int32) ≤ (M.1 a0 1)
  · replace h := (if_pos hc).symm.trans h
    obtain rfl := z_ret1 h
    exact ho
  · replace h := (if_neg hc).symm.trans h
    obtain ⟨M1, hM1, h⟩ := z_bind h
    replace ho := ho.pI hM1 (by simp)
    replace ho := ho.si a0 1 ((M1.1 a0 1) + (1 : Int32)) (by simp)
    obtain rfl := z_ret1 h
    exact ho
set_option maxRecDepth 20000 in
set_option maxHeartbeats 4000000 in
theorem o_X4_hold {a0 : Nat} {v1 : Int32} {M : zM} {Mr : zM} (h : f4_hold a0 v1 M = some Mr) : zOut [a0, a0 + 2] [] M Mr := by
  have ho : zOut [a0, a0 + 2] [] M M := zOut.rf
  rw [f4_hold] at h
  by_cases hc : (40 : Int32) ≤ (M.1 a0 3)
  · replace h := (if_pos hc).symm.trans h
    obtain rfl := z_ret1 h
    exact ho
  · replace h := (if_neg hc).symm.trans h
    obtain ⟨M1, hM1, h⟩ := z_bind h
    replace ho := ho.pI hM1 (by simp)
    replace ho := ho.si a0 3 ((M1.1 a0 3) + (1 : Int32)) (by simp)
    obtain rfl := z_ret1 h
    exact ho
set_option maxRecDepth 20000 in
set_option maxHeartbeats 4000000 in
theorem o4_release_0 {a0 : Nat} {Mr : zM} {M0 : zM} : ∀ (n : Nat) (v1 : Int32) (M : zM), zOut [a0, a0 + 1] [] M0 M → f4_release_0 a0 n v1 M = some Mr → zOut [a0, a0 + 1] [] M0 Mr := by
  intro n
  induction n with
  | zero => intro v1 M ho h; cases h
  | succ n ih =>
    intro v1 M ho h
    rw [f4_release_0] at h
    by_cases hc : (M.1 a0 3) ≤ 0
    · replace h := (if_pos hc).symm.trans h
      obtain rfl := z_ret1 h
      exact ho
    · replace h := (if_neg hc).symm.trans h
      obtain ⟨x1, hx1, h⟩ := z_bind h
      obtain ⟨x2, hx2, h⟩ := z_bind h
      by_cases hc : x2 < v1
      · replace h := (if_pos hc).symm.trans h
        obtain rfl := z_ret1 h
        exact ho
      · replace h := (if_neg hc).symm.trans h
        replace ho := ho.si a0 3 ((M.1 a0 3) - (1 : Int32)) (by simp)
        obtain ⟨x3, hx3, h⟩ := z_bind h
        obtain ⟨M4, hM4, h⟩ := z_bind h
        replace ho := ho.call (o_X4_emit hM4) (by simp) (by simp)
        exact ih _ _ ho h
set_option maxRecDepth 20000 in
set_option maxHeartbeats 4000000 in
theorem o_X4_release {a0 : Nat} {v1 : Int32} {M : zM} {Mr : zM} (h : f4_release a0 v1 M = some Mr) : zOut [a0, a0 + 1] [] M Mr := by
  have ho : zOut [a0, a0 + 1] [] M M := zOut.rf
  rw [f4_release] at h
  exact o4_release_0 zfuel _ _ ho h
set_option maxRecDepth 20000 in
set_option maxHeartbeats 4000000 in
theorem o_X5_add {v1 : Int32} {v2 : Int32} {M : zM} {Mr : zM} (h : f5_add v1 v2 M = some Mr) : zOut [30, 31, 32] [] M Mr := by
  have ho : zOut [30, 31, 32] [] M M := zOut.rf
  rw [f5_add] at h
  by_cases hc : (12 : Int32) ≤ (M.1 30 2)
  · replace h := (if_pos hc).symm.trans h
    obtain rfl := z_ret1 h
    exact ho
  · replace h := (if_neg hc).symm.trans h
    obtain ⟨M1, hM1, h⟩ := z_bind h
    replace ho := ho.pI hM1 (by simp)
    obtain ⟨M2, hM2, h⟩ := z_bind h
    replace ho := ho.pI hM2 (by simp)
    replace ho := ho.si 30 2 ((M2.1 30 2) + (1 : Int32)) (by simp)
    obtain rfl := z_ret1 h
    exact ho
set_option maxRecDepth 20000 in
set_option maxHeartbeats 4000000 in
theorem o_X6_add {v1 : Int32} {M : zM} {Mr : zM} (h : f6_add v1 M = some Mr) : zOut [7, 8] [] M Mr := by
  have ho : zOut [7, 8] [] M M := zOut.rf
  rw [f6_add] at h
  by_cases hc : (80 : Int32) ≤ (M.1 7 1)
  · replace h := (if_pos hc).symm.trans h
    obtain rfl := z_ret1 h
    exact ho
  · replace h := (if_neg hc).symm.trans h
    obtain ⟨M1, hM1, h⟩ := z_bind h
    replace ho := ho.pI hM1 (by simp)
    replace ho := ho.si 7 1 ((M1.1 7 1) + (1 : Int32)) (by simp)
    obtain rfl := z_ret1 h
    exact ho
set_option maxRecDepth 20000 in
set_option maxHeartbeats 4000000 in
theorem o7_settle_12 {a0 : Nat} {Mr : zM} {M0 : zM} {k51 : Int32 → Int32 → zM → Option zM} (hk51 : ∀ (v1 : Int32) (v2 : Int32) (M : zM), zOut [a0 + 1] [] M0 M → k51 v1 v2 M = some Mr → zOut [a0 + 1] [] M0 Mr) : ∀ (n : Nat) (v1 : Int32) (v2 : Int32) (v3 : Int32) (M : zM), zOut [a0 + 1] [] M0 M → f7_settle_12 a0 k51 n v1 v2 v3 M = some Mr → zOut [a0 + 1] [] M0 Mr := by
  intro n
  induction n with
  | zero => intro v1 v2 v3 M ho h; cases h
  | succ n ih =>
    intro v1 v2 v3 M ho h
    rw [f7_settle_12] at h
    by_cases hc : (M.1 a0 0) ≤ v3
    · replace h := (if_pos hc).symm.trans h
      exact hk51 _ _ _ ho h
    · replace h := (if_neg hc).symm.trans h
      by_cases hc : (M.1 a0 1) ≤ v1
      · replace h := (if_pos hc).symm.trans h
        exact hk51 _ _ _ ho h
      · replace h := (if_neg hc).symm.trans h
        obtain ⟨x1, hx1, h⟩ := z_bind h
        exact ih _ _ _ _ ho h
set_option maxRecDepth 20000 in
set_option maxHeartbeats 4000000 in
theorem o7_settle_51 {a0 : Nat} {Mr : zM} {M0 : zM} {k2 : Int32 → zM → Option zM} (hk2 : ∀ (v1 : Int32) (M : zM), zOut [a0 + 1] [] M0 M → k2 v1 M = some Mr → zOut [a0 + 1] [] M0 Mr) : ∀ (v1 : Int32) (v2 : Int32) (M : zM), zOut [a0 + 1] [] M0 M → f7_settle_51 a0 k2 v1 v2 M = some Mr → zOut [a0 + 1] [] M0 Mr := by
  intro v1 v2 M ho h
  rw [f7_settle_51] at h
  obtain ⟨M1, hM1, h⟩ := z_bind h
  replace ho := ho.pI hM1 (by simp)
  exact hk2 _ _ ho h
set_option maxRecDepth 20000 in
set_option maxHeartbeats 4000000 in
theorem o7_settle_2 {a0 : Nat} {Mr : zM} {M0 : zM} : ∀ (n : Nat) (v1 : Int32) (M : zM), zOut [a0 + 1] [] M0 M → f7_settle_2 a0 n v1 M = some Mr → zOut [a0 + 1] [] M0 Mr := by
  intro n
  induction n with
  | zero => intro v1 M ho h; cases h
  | succ n ih =>
    intro v1 M ho h
    rw [f7_settle_2] at h
    by_cases hc : (6 : Int32) ≤ v1
    · replace h := (if_pos hc).symm.trans h
      obtain rfl := z_ret1 h
      exact ho
    · replace h := (if_neg hc).symm.trans h
      exact o7_settle_12 (fun u0 u1 u2 ho h => o7_settle_51 (fun u0 u1 ho h => ih u0 u1 ho h) u0 u1 u2 ho h) zfuel _ _ _ _ ho h
set_option maxRecDepth 20000 in
set_option maxHeartbeats 4000000 in
theorem o_X7_settle {a0 : Nat} {M : zM} {Mr : zM} (h : f7_settle a0 M = some Mr) : zOut [a0 + 1] [] M Mr := by
  have ho : zOut [a0 + 1] [] M M := zOut.rf
  rw [f7_settle] at h
  exact o7_settle_2 zfuel _ _ ho h
set_option maxRecDepth 20000 in
set_option maxHeartbeats 4000000 in
theorem o_X7_become {a0 : Nat} {a1 : Nat} {M : zM} {Mr : zM} (h : f7_become a0 a1 M = some Mr) : zOut [a0, a0 + 1] [] M Mr := by
  have ho : zOut [a0, a0 + 1] [] M M := zOut.rf
  rw [f7_become] at h
  replace ho := ho.si a0 0 (M.1 a1 0) (by simp)
  replace ho := ho.si a0 1 ((zsi M a0 0 (M.1 a1 0)).1 a1 1) (by simp)
  replace ho := ho.si a0 2 ((zsi (zsi M a0 0 (M.1 a1 0)) a0 1 ((zsi M a0 0 (M.1 a1 0)).1 a1 1)).1 a1 2) (by simp)
  replace ho := ho.cp (a1 + 1) (a0 + 1) 12 (by simp)
  obtain rfl := z_ret1 h
  exact ho
set_option maxRecDepth 20000 in
set_option maxHeartbeats 4000000 in
theorem o7_takeShape_24 {a0 : Nat} {Mr : zM} {M0 : zM} : ∀ (n : Nat) (v1 : Int64) (v3 : Int32) (M : zM), zOut [a0, a0 + 1] [] M0 M → f7_takeShape_24 a0 n v1 v3 M = some Mr → zOut [a0, a0 + 1] [] M0 Mr := by
  intro n
  induction n with
  | zero => intro v1 v3 M ho h; cases h
  | succ n ih =>
    intro v1 v3 M ho h
    rw [f7_takeShape_24] at h
    by_cases hc : (6 : Int32) ≤ v3
    · replace h := (if_pos hc).symm.trans h
      obtain ⟨M1, hM1, h⟩ := z_bind h
      replace ho := ho.call (o_X7_settle hM1) (by simp) (by simp)
      obtain rfl := z_ret1 h
      exact ho
    · replace h := (if_neg hc).symm.trans h
      obtain ⟨M1, hM1, h⟩ := z_bind h
      replace ho := ho.pI hM1 (by simp)
      exact ih _ _ _ ho h
set_option maxRecDepth 20000 in
set_option maxHeartbeats 4000000 in
theorem o_X7_takeShape {a0 : Nat} {v1 : Int64} {M : zM} {Mr : zM} (h : f7_takeShape a0 v1 M = some Mr) : zOut [a0, a0 + 1] [] M Mr := by
  have ho : zOut [a0, a0 + 1] [] M M := zOut.rf
  rw [f7_takeShape] at h
  replace ho := ho.si a0 0 (Int64.toInt32 (v1 &&& (7 : Int64))) (by simp)
  replace ho := ho.si a0 1 (Int64.toInt32 ((zlushr v1 (3 : Int32)) &&& (7 : Int64))) (by simp)
  exact o7_takeShape_24 zfuel _ _ _ ho h
set_option maxRecDepth 20000 in
set_option maxHeartbeats 4000000 in
theorem o7_readFrom_97 {a0 : Nat} {r1 : Int32} {Mr : zM} {M0 : zM} {k29 : Int32 → Int32 → zM → Option (Int32 × zM)} (hk29 : ∀ (v2 : Int32) (v3 : Int32) (M : zM), zOut [a0, a0 + 1] [] M0 M → k29 v2 v3 M = some (r1, Mr) → zOut [a0, a0 + 1] [] M0 Mr) : ∀ (v2 : Int32) (v3 : Int32) (s1 : Int32) (s2 : Int32) (s3 : Int32) (M : zM), zOut [a0, a0 + 1] [] M0 M → f7_readFrom_97 a0 k29 v2 v3 s1 s2 s3 M = some (r1, Mr) → zOut [a0, a0 + 1] [] M0 Mr := by
  intro v2 v3 s1 s2 s3 M ho h
  rw [f7_readFrom_97] at h
  obtain ⟨M1, hM1, h⟩ := z_bind h
  replace ho := ho.pI hM1 (by simp)
  exact hk29 _ _ _ ho h
set_option maxRecDepth 20000 in
set_option maxHeartbeats 4000000 in
theorem o7_readFrom_68 {a0 : Nat} {r1 : Int32} {Mr : zM} {M0 : zM} {k29 : Int32 → Int32 → zM → Option (Int32 × zM)} (hk29 : ∀ (v2 : Int32) (v3 : Int32) (M : zM), zOut [a0, a0 + 1] [] M0 M → k29 v2 v3 M = some (r1, Mr) → zOut [a0, a0 + 1] [] M0 Mr) : ∀ (v2 : Int32) (v3 : Int32) (v4 : Int32) (M : zM), zOut [a0, a0 + 1] [] M0 M → f7_readFrom_68 a0 k29 v2 v3 v4 M = some (r1, Mr) → zOut [a0, a0 + 1] [] M0 Mr := by
  intro v2 v3 v4 M ho h
  rw [f7_readFrom_68] at h
  obtain ⟨x1, hx1, h⟩ := z_bind h
  obtain ⟨x2, hx2, h⟩ := z_bind h
  by_cases hc : v4 = (35 : Int32)
  · replace h := (if_pos hc).symm.trans h
    obtain ⟨x3, hx3, h⟩ := z_bind h
    exact o7_readFrom_97 hk29 _ _ _ _ _ _ ho h
  · replace h := (if_neg hc).symm.trans h
    exact o7_readFrom_97 hk29 _ _ _ _ _ _ ho h
set_option maxRecDepth 20000 in
set_option maxHeartbeats 4000000 in
theorem o7_readFrom_29 {a0 : Nat} {r1 : Int32} {Mr : zM} {M0 : zM} : ∀ (n : Nat) (v2 : Int32) (v3 : Int32) (M : zM), zOut [a0, a0 + 1] [] M0 M → f7_readFrom_29 a0 n v2 v3 M = some (r1, Mr) → zOut [a0, a0 + 1] [] M0 Mr := by
  intro n
  induction n with
  | zero => intro v2 v3 M ho h; cases h
  | succ n ih =>
    intro v2 v3 M ho h
    rw [f7_readFrom_29] at h
    by_cases hc : (M.1 7 1) ≤ v3
    · replace h := (if_pos hc).symm.trans h
      by_cases hc : ((M.1 7 1) - (1 : Int32)) < v2
      · replace h := (if_pos hc).symm.trans h
        obtain ⟨rfl, rfl⟩ := z_ret2 h
        exact ho
      · replace h := (if_neg hc).symm.trans h
        obtain ⟨x1, hx1, h⟩ := z_bind h
        by_cases hc : x1 = 0
        · replace h := (if_pos hc).symm.trans h
          obtain ⟨x2, hx2, h⟩ := z_bind h
          replace ho := ho.si a0 0 x2 (by simp)
          replace ho := ho.si a0 1 v2 (by simp)
          replace ho := ho.si a0 2 (0 : Int32) (by simp)
          obtain ⟨M3, hM3, h⟩ := z_bind h
          replace ho := ho.call (o_X7_settle hM3) (by simp) (by simp)
          obtain ⟨rfl, rfl⟩ := z_ret2 h
          exact ho
        · replace h := (if_neg hc).symm.trans h
          obtain ⟨rfl, rfl⟩ := z_ret2 h
          exact ho
    · replace h := (if_neg hc).symm.trans h
      obtain ⟨x1, hx1, h⟩ := z_bind h
      by_cases hc : ((6 : Int32) * v2) < v3
      · replace h := (if_pos hc).symm.trans h
        obtain ⟨rfl, rfl⟩ := z_ret2 h
        exact ho
      · replace h := (if_neg hc).symm.trans h
        by_cases hc : x1 = (35 : Int32)
        · replace h := (if_pos hc).symm.trans h
          exact o7_readFrom_68 (fun u0 u1 u2 ho h => ih u0 u1 u2 ho h) _ _ _ _ ho h
        · replace h := (if_neg hc).symm.trans h
          by_cases hc : x1 = (46 : Int32)
          · replace h := (if_pos hc).symm.trans h
            exact o7_readFrom_68 (fun u0 u1 u2 ho h => ih u0 u1 u2 ho h) _ _ _ _ ho h
          · replace h := (if_neg hc).symm.trans h
            obtain ⟨rfl, rfl⟩ := z_ret2 h
            exact ho
set_option maxRecDepth 20000 in
set_option maxHeartbeats 4000000 in
theorem o_X7_readFrom {a0 : Nat} {M : zM} {r1 : Int32} {Mr : zM} (h : f7_readFrom a0 M = some (r1, Mr)) : zOut [a0, a0 + 1] [] M Mr := by
  have ho : zOut [a0, a0 + 1] [] M M := zOut.rf
  rw [f7_readFrom] at h
  obtain ⟨x1, hx1, h⟩ := z_bind h
  by_cases hc : x1 < (1 : Int32)
  · replace h := (if_pos hc).symm.trans h
    obtain ⟨rfl, rfl⟩ := z_ret2 h
    exact ho
  · replace h := (if_neg hc).symm.trans h
    by_cases hc : x1 ≤ (6 : Int32)
    · replace h := (if_pos hc).symm.trans h
      obtain ⟨M2, hM2, h⟩ := z_bind h
      replace ho := ho.call (o_J7_fill_53178 hM2) (by simp) (by simp)
      exact o7_readFrom_29 zfuel _ _ _ ho h
    · replace h := (if_neg hc).symm.trans h
      obtain ⟨rfl, rfl⟩ := z_ret2 h
      exact ho
set_option maxRecDepth 20000 in
set_option maxHeartbeats 4000000 in
theorem o7_fillPicks_43 {a0 : Nat} {r1 : Int32} {Mr : zM} {M0 : zM} {k6 : Int32 → Int32 → Int32 → Int32 → Int32 → zM → Option (Int32 × zM)} (hk6 : ∀ (v1 : Int32) (v2 : Int32) (v3 : Int32) (v4 : Int32) (v5 : Int32) (M : zM), zOut [a0 + 1] [] M0 M → k6 v1 v2 v3 v4 v5 M = some (r1, Mr) → zOut [a0 + 1] [] M0 Mr) : ∀ (v1 : Int32) (v2 : Int32) (v3 : Int32) (v4 : Int32) (v5 : Int32) (s1 : Int32) (s2 : Int32) (M : zM), zOut [a0 + 1] [] M0 M → f7_fillPicks_43 a0 k6 v1 v2 v3 v4 v5 s1 s2 M = some (r1, Mr) → zOut [a0 + 1] [] M0 Mr := by
  intro v1 v2 v3 v4 v5 s1 s2 M ho h
  rw [f7_fillPicks_43] at h
  obtain ⟨M1, hM1, h⟩ := z_bind h
  replace ho := ho.pI hM1 (by simp)
  obtain ⟨x2, hx2, h⟩ := z_bind h
  exact hk6 _ _ _ _ _ _ ho h
set_option maxRecDepth 20000 in
set_option maxHeartbeats 4000000 in
theorem o7_fillPicks_6 {a0 : Nat} {r1 : Int32} {Mr : zM} {M0 : zM} : ∀ (n : Nat) (v1 : Int32) (v2 : Int32) (v3 : Int32) (v4 : Int32) (v5 : Int32) (M : zM), zOut [a0 + 1] [] M0 M → f7_fillPicks_6 a0 n v1 v2 v3 v4 v5 M = some (r1, Mr) → zOut [a0 + 1] [] M0 Mr := by
  intro n
  induction n with
  | zero => intro v1 v2 v3 v4 v5 M ho h; cases h
  | succ n ih =>
    intro v1 v2 v3 v4 v5 M ho h
    rw [f7_fillPicks_6] at h
    by_cases hc : (M.1 a0 0) ≤ v5
    · replace h := (if_pos hc).symm.trans h
      obtain ⟨M1, hM1, h⟩ := z_bind h
      replace ho := ho.call (o_X7_settle hM1) (by simp) (by simp)
      obtain ⟨rfl, rfl⟩ := z_ret2 h
      exact ho
    · replace h := (if_neg hc).symm.trans h
      by_cases hc : v1 ≤ v5
      · replace h := (if_pos hc).symm.trans h
        exact o7_fillPicks_43 (fun u0 u1 u2 u3 u4 u5 ho h => ih u0 u1 u2 u3 u4 u5 ho h) _ _ _ _ _ _ _ _ ho h
      · replace h := (if_neg hc).symm.trans h
        obtain ⟨x1, hx1, h⟩ := z_bind h
        exact o7_fillPicks_43 (fun u0 u1 u2 u3 u4 u5 ho h => ih u0 u1 u2 u3 u4 u5 ho h) _ _ _ _ _ _ _ _ ho h
set_option maxRecDepth 20000 in
set_option maxHeartbeats 4000000 in
theorem o_X7_fillPicks {a0 : Nat} {v1 : Int32} {v2 : Int32} {v3 : Int32} {M : zM} {r1 : Int32} {Mr : zM} (h : f7_fillPicks a0 v1 v2 v3 M = some (r1, Mr)) : zOut [a0 + 1] [] M Mr := by
  have ho : zOut [a0 + 1] [] M M := zOut.rf
  rw [f7_fillPicks] at h
  exact o7_fillPicks_6 zfuel _ _ _ _ _ _ ho h
set_option maxRecDepth 20000 in
set_option maxHeartbeats 4000000 in
theorem o_X7_turnCell {a0 : Nat} {v1 : Int32} {v2 : Int32} {M : zM} {r1 : Int32} {Mr : zM} (h : f7_turnCell a0 v1 v2 M = some (r1, Mr)) : zOut [a0 + 1] [] M Mr := by
  have ho : zOut [a0 + 1] [] M M := zOut.rf
  rw [f7_turnCell] at h
  obtain ⟨x1, hx1, h⟩ := z_bind h
  by_cases hc : x1 = 0
  · replace h := (if_pos hc).symm.trans h
    obtain ⟨rfl, rfl⟩ := z_ret2 h
    exact ho
  · replace h := (if_neg hc).symm.trans h
    obtain ⟨x2, hx2, h⟩ := z_bind h
    obtain ⟨M3, hM3, h⟩ := z_bind h
    replace ho := ho.pI hM3 (by simp)
    obtain ⟨M4, hM4, h⟩ := z_bind h
    replace ho := ho.call (o_X7_settle hM4) (by simp) (by simp)
    obtain ⟨x5, hx5, h⟩ := z_bind h
    obtain ⟨rfl, rfl⟩ := z_ret2 h
    exact ho
set_option maxRecDepth 20000 in
set_option maxHeartbeats 4000000 in
theorem o_X8_sign {v1 : Int32} {M : zM} {r1 : Int32} {Mr : zM} (h : f8_sign v1 M = some (r1, Mr)) : zOut [7, 8] [] M Mr := by
  have ho : zOut [7, 8] [] M M := zOut.rf
  rw [f8_sign] at h
  by_cases hc : ((M.1 7 1) + (4 : Int32)) ≤ (80 : Int32)
  · replace h := (if_pos hc).symm.trans h
    obtain ⟨M1, hM1, h⟩ := z_bind h
    replace ho := ho.call (o_X6_add hM1) (by simp) (by simp)
    obtain ⟨M2, hM2, h⟩ := z_bind h
    replace ho := ho.call (o_X6_add hM2) (by simp) (by simp)
    obtain ⟨M3, hM3, h⟩ := z_bind h
    replace ho := ho.call (o_X6_add hM3) (by simp) (by simp)
    obtain ⟨M4, hM4, h⟩ := z_bind h
    replace ho := ho.call (o_X6_add hM4) (by simp) (by simp)
    obtain ⟨rfl, rfl⟩ := z_ret2 h
    exact ho
  · replace h := (if_neg hc).symm.trans h
    obtain ⟨rfl, rfl⟩ := z_ret2 h
    exact ho
set_option maxRecDepth 20000 in
set_option maxHeartbeats 4000000 in
theorem o_X8_end {v1 : Int32} {M : zM} {r1 : Int32} {Mr : zM} (h : f8_end v1 M = some (r1, Mr)) : zOut [7] [] M Mr := by
  have ho : zOut [7] [] M M := zOut.rf
  rw [f8_end] at h
  by_cases hc : v1 < 0
  · replace h := (if_pos hc).symm.trans h
    obtain ⟨rfl, rfl⟩ := z_ret2 h
    exact ho
  · replace h := (if_neg hc).symm.trans h
    by_cases hc : v1 ≤ (M.1 7 1)
    · replace h := (if_pos hc).symm.trans h
      replace ho := ho.si 7 1 v1 (by simp)
      obtain ⟨rfl, rfl⟩ := z_ret2 h
      exact ho
    · replace h := (if_neg hc).symm.trans h
      obtain ⟨rfl, rfl⟩ := z_ret2 h
      exact ho
set_option maxRecDepth 20000 in
set_option maxHeartbeats 4000000 in
theorem o_X8_cloth {M : zM} {r1 : Int32} {Mr : zM} (h : f8_cloth M = some (r1, Mr)) : zOut [1, 2, 3, 33, 34, 36, 37, 4, 7] [] M Mr := by
  have ho : zOut [1, 2, 3, 33, 34, 36, 37, 4, 7] [] M M := zOut.rf
  rw [f8_cloth] at h
  obtain ⟨p1, hp1, h⟩ := z_bind h
  replace ho := ho.call (o_X7_readFrom hp1) (by simp) (by simp)
  replace ho := ho.si 7 1 (0 : Int32) (by simp)
  by_cases hc : p1.1 = (-1 : Int32)
  · replace h := (if_pos hc).symm.trans h
    obtain ⟨M2, hM2, h⟩ := z_bind h
    replace ho := ho.call (o_X7_become hM2) (by simp) (by simp)
    obtain ⟨M3, hM3, h⟩ := z_bind h
    replace ho := ho.call (o_X2_empty hM3) (by simp) (by simp)
    obtain ⟨M4, hM4, h⟩ := z_bind h
    replace ho := ho.call (o_X2_empty hM4) (by simp) (by simp)
    obtain ⟨rfl, rfl⟩ := z_ret2 h
    exact ho
  · replace h := (if_neg hc).symm.trans h
    obtain ⟨rfl, rfl⟩ := z_ret2 h
    exact ho
set_option maxRecDepth 20000 in
set_option maxHeartbeats 4000000 in
theorem o8_sheet_29 {r1 : Int32} {Mr : zM} {M0 : zM} : ∀ (v1 : Int32) (v2 : Int32) (v3 : Int32) (v4 : Int32) (M : zM), zOut [2] [] M0 M → f8_sheet_29 v1 v2 v3 v4 M = some (r1, Mr) → zOut [2] [] M0 Mr := by
  intro v1 v2 v3 v4 M ho h
  rw [f8_sheet_29] at h
  obtain ⟨p1, hp1, h⟩ := z_bind h
  replace ho := ho.call (o_X7_fillPicks hp1) (by simp) (by simp)
  obtain ⟨rfl, rfl⟩ := z_ret2 h
  exact ho
set_option maxRecDepth 20000 in
set_option maxHeartbeats 4000000 in
theorem o_X8_sheet {v1 : Int32} {v2 : Int32} {v3 : Int32} {v4 : Int32} {M : zM} {r1 : Int32} {Mr : zM} (h : f8_sheet v1 v2 v3 v4 M = some (r1, Mr)) : zOut [2] [] M Mr := by
  have ho : zOut [2] [] M M := zOut.rf
  rw [f8_sheet] at h
  by_cases hc : v1 < 0
  · replace h := (if_pos hc).symm.trans h
    obtain ⟨rfl, rfl⟩ := z_ret2 h
    exact ho
  · replace h := (if_neg hc).symm.trans h
    by_cases hc : (3 : Int32) < v1
    · replace h := (if_pos hc).symm.trans h
      obtain ⟨rfl, rfl⟩ := z_ret2 h
      exact ho
    · replace h := (if_neg hc).symm.trans h
      by_cases hc : v2 ≤ (6 : Int32)
      · replace h := (if_pos hc).symm.trans h
        by_cases hc : (3 : Int32) ≤ v1
        · replace h := (if_pos hc).symm.trans h
          exact o8_sheet_29 _ _ _ _ _ ho h
        · replace h := (if_neg hc).symm.trans h
          by_cases hc : 0 ≤ v2
          · replace h := (if_pos hc).symm.trans h
            exact o8_sheet_29 _ _ _ _ _ ho h
          · replace h := (if_neg hc).symm.trans h
            obtain ⟨rfl, rfl⟩ := z_ret2 h
            exact ho
      · replace h := (if_neg hc).symm.trans h
        obtain ⟨rfl, rfl⟩ := z_ret2 h
        exact ho
set_option maxRecDepth 20000 in
set_option maxHeartbeats 4000000 in
theorem o_X8_loose {M : zM} {r1 : Int32} {Mr : zM} (h : f8_loose M = some (r1, Mr)) : zOut [10, 9] [] M Mr := by
  have ho : zOut [10, 9] [] M M := zOut.rf
  rw [f8_loose] at h
  obtain ⟨x1, hx1, h⟩ := z_bind h
  obtain ⟨x2, hx2, h⟩ := z_bind h
  obtain ⟨x3, hx3, h⟩ := z_bind h
  obtain ⟨x4, hx4, h⟩ := z_bind h
  obtain ⟨M5, hM5, h⟩ := z_bind h
  replace ho := ho.call (o_X3_tell_ hM5) (by simp) (by simp)
  obtain ⟨rfl, rfl⟩ := z_ret2 h
  exact ho
set_option maxRecDepth 20000 in
set_option maxHeartbeats 4000000 in
theorem o8_sheds_50 {r1 : Int32} {Mr : zM} {M0 : zM} : ∀ (v1 : Int32) (v2 : Int32) (M : zM), zOut [10, 9] [] M0 M → f8_sheds_50 v1 v2 M = some (r1, Mr) → zOut [10, 9] [] M0 Mr := by
  intro v1 v2 M ho h
  rw [f8_sheds_50] at h
  obtain ⟨M1, hM1, h⟩ := z_bind h
  replace ho := ho.call (o_X3_tell_ hM1) (by simp) (by simp)
  obtain ⟨x2, hx2, h⟩ := z_bind h
  obtain ⟨rfl, rfl⟩ := z_ret2 h
  exact ho
set_option maxRecDepth 20000 in
set_option maxHeartbeats 4000000 in
theorem o8_sheds_19 {r1 : Int32} {Mr : zM} {M0 : zM} : ∀ (n : Nat) (v1 : Int32) (v2 : Int32) (v3 : Int32) (M : zM), zOut [10, 9] [] M0 M → f8_sheds_19 n v1 v2 v3 M = some (r1, Mr) → zOut [10, 9] [] M0 Mr := by
  intro n
  induction n with
  | zero => intro v1 v2 v3 M ho h; cases h
  | succ n ih =>
    intro v1 v2 v3 M ho h
    rw [f8_sheds_19] at h
    by_cases hc : v3 = 0
    · replace h := (if_pos hc).symm.trans h
      exact o8_sheds_50 _ _ _ ho h
    · replace h := (if_neg hc).symm.trans h
      by_cases hc : (12 : Int32) < v2
      · replace h := (if_pos hc).symm.trans h
        exact o8_sheds_50 _ _ _ ho h
      · replace h := (if_neg hc).symm.trans h
        obtain ⟨x1, hx1, h⟩ := z_bind h
        exact ih _ _ _ _ ho h
set_option maxRecDepth 20000 in
set_option maxHeartbeats 4000000 in
theorem o_X8_sheds {M : zM} {r1 : Int32} {Mr : zM} (h : f8_sheds M = some (r1, Mr)) : zOut [10, 9] [] M Mr := by
  have ho : zOut [10, 9] [] M M := zOut.rf
  rw [f8_sheds] at h
  obtain ⟨x1, hx1, h⟩ := z_bind h
  obtain ⟨x2, hx2, h⟩ := z_bind h
  exact o8_sheds_19 zfuel _ _ _ _ ho h
set_option maxRecDepth 20000 in
set_option maxHeartbeats 4000000 in
theorem o_X8_repeats {M : zM} {r1 : Int32} {Mr : zM} (h : f8_repeats M = some (r1, Mr)) : zOut [10, 9] [] M Mr := by
  have ho : zOut [10, 9] [] M M := zOut.rf
  rw [f8_repeats] at h
  obtain ⟨x1, hx1, h⟩ := z_bind h
  obtain ⟨M2, hM2, h⟩ := z_bind h
  replace ho := ho.call (o_X3_tell hM2) (by simp) (by simp)
  obtain ⟨x3, hx3, h⟩ := z_bind h
  obtain ⟨rfl, rfl⟩ := z_ret2 h
  exact ho
set_option maxRecDepth 20000 in
set_option maxHeartbeats 4000000 in
theorem o_X8_runs {M : zM} {r1 : Int32} {Mr : zM} (h : f8_runs M = some (r1, Mr)) : zOut [10, 9] [] M Mr := by
  have ho : zOut [10, 9] [] M M := zOut.rf
  rw [f8_runs] at h
  obtain ⟨x1, hx1, h⟩ := z_bind h
  obtain ⟨x2, hx2, h⟩ := z_bind h
  obtain ⟨M3, hM3, h⟩ := z_bind h
  replace ho := ho.call (o_X3_tell_ hM3) (by simp) (by simp)
  obtain ⟨x4, hx4, h⟩ := z_bind h
  obtain ⟨M5, hM5, h⟩ := z_bind h
  replace ho := ho.call (o_X3_add hM5) (by simp) (by simp)
  obtain ⟨x6, hx6, h⟩ := z_bind h
  obtain ⟨rfl, rfl⟩ := z_ret2 h
  exact ho
set_option maxRecDepth 20000 in
set_option maxHeartbeats 4000000 in
theorem o8_twins_57 {r1 : Int32} {Mr : zM} {M0 : zM} {k21 : Int32 → Int32 → Int32 → zM → Option (Int32 × zM)} (hk21 : ∀ (v1 : Int32) (v2 : Int32) (v3 : Int32) (M : zM), zOut [10, 9] [] M0 M → k21 v1 v2 v3 M = some (r1, Mr) → zOut [10, 9] [] M0 Mr) : ∀ (v1 : Int32) (v2 : Int32) (v3 : Int32) (M : zM), zOut [10, 9] [] M0 M → f8_twins_57 k21 v1 v2 v3 M = some (r1, Mr) → zOut [10, 9] [] M0 Mr := by
  intro v1 v2 v3 M ho h
  rw [f8_twins_57] at h
  exact hk21 _ _ _ _ ho h
set_option maxRecDepth 20000 in
set_option maxHeartbeats 4000000 in
theorem o8_twins_54 {r1 : Int32} {Mr : zM} {M0 : zM} {k21 : Int32 → Int32 → Int32 → zM → Option (Int32 × zM)} (hk21 : ∀ (v1 : Int32) (v2 : Int32) (v3 : Int32) (M : zM), zOut [10, 9] [] M0 M → k21 v1 v2 v3 M = some (r1, Mr) → zOut [10, 9] [] M0 Mr) : ∀ (v1 : Int32) (v2 : Int32) (v3 : Int32) (M : zM), zOut [10, 9] [] M0 M → f8_twins_54 k21 v1 v2 v3 M = some (r1, Mr) → zOut [10, 9] [] M0 Mr := by
  intro v1 v2 v3 M ho h
  rw [f8_twins_54] at h
  exact o8_twins_57 hk21 _ _ _ _ ho h
set_option maxRecDepth 20000 in
set_option maxHeartbeats 4000000 in
theorem o8_twins_21 {r1 : Int32} {Mr : zM} {M0 : zM} {k63 : Int32 → Int32 → zM → Option (Int32 × zM)} (hk63 : ∀ (v1 : Int32) (v2 : Int32) (M : zM), zOut [10, 9] [] M0 M → k63 v1 v2 M = some (r1, Mr) → zOut [10, 9] [] M0 Mr) : ∀ (n : Nat) (v1 : Int32) (v2 : Int32) (v3 : Int32) (M : zM), zOut [10, 9] [] M0 M → f8_twins_21 k63 n v1 v2 v3 M = some (r1, Mr) → zOut [10, 9] [] M0 Mr := by
  intro n
  induction n with
  | zero => intro v1 v2 v3 M ho h; cases h
  | succ n ih =>
    intro v1 v2 v3 M ho h
    rw [f8_twins_21] at h
    by_cases hc : (12 : Int32) ≤ v3
    · replace h := (if_pos hc).symm.trans h
      exact hk63 _ _ _ ho h
    · replace h := (if_neg hc).symm.trans h
      obtain ⟨x1, hx1, h⟩ := z_bind h
      by_cases hc : x1 = 0
      · replace h := (if_pos hc).symm.trans h
        exact o8_twins_57 (fun u0 u1 u2 u3 ho h => ih u0 u1 u2 u3 ho h) _ _ _ _ ho h
      · replace h := (if_neg hc).symm.trans h
        by_cases hc : v1 = 0
        · replace h := (if_pos hc).symm.trans h
          obtain ⟨M2, hM2, h⟩ := z_bind h
          replace ho := ho.call (o_X3_tell_ hM2) (by simp) (by simp)
          exact o8_twins_54 (fun u0 u1 u2 u3 ho h => ih u0 u1 u2 u3 ho h) _ _ _ _ ho h
        · replace h := (if_neg hc).symm.trans h
          exact o8_twins_54 (fun u0 u1 u2 u3 ho h => ih u0 u1 u2 u3 ho h) _ _ _ _ ho h
set_option maxRecDepth 20000 in
set_option maxHeartbeats 4000000 in
theorem o8_twins_63 {r1 : Int32} {Mr : zM} {M0 : zM} {k11 : Int32 → Int32 → zM → Option (Int32 × zM)} (hk11 : ∀ (v1 : Int32) (v2 : Int32) (M : zM), zOut [10, 9] [] M0 M → k11 v1 v2 M = some (r1, Mr) → zOut [10, 9] [] M0 Mr) : ∀ (v1 : Int32) (v2 : Int32) (M : zM), zOut [10, 9] [] M0 M → f8_twins_63 k11 v1 v2 M = some (r1, Mr) → zOut [10, 9] [] M0 Mr := by
  intro v1 v2 M ho h
  rw [f8_twins_63] at h
  exact hk11 _ _ _ ho h
set_option maxRecDepth 20000 in
set_option maxHeartbeats 4000000 in
theorem o8_twins_11 {r1 : Int32} {Mr : zM} {M0 : zM} : ∀ (n : Nat) (v1 : Int32) (v2 : Int32) (M : zM), zOut [10, 9] [] M0 M → f8_twins_11 n v1 v2 M = some (r1, Mr) → zOut [10, 9] [] M0 Mr := by
  intro n
  induction n with
  | zero => intro v1 v2 M ho h; cases h
  | succ n ih =>
    intro v1 v2 M ho h
    rw [f8_twins_11] at h
    by_cases hc : (12 : Int32) ≤ v2
    · replace h := (if_pos hc).symm.trans h
      obtain ⟨rfl, rfl⟩ := z_ret2 h
      exact ho
    · replace h := (if_neg hc).symm.trans h
      exact o8_twins_21 (fun u0 u1 u2 ho h => o8_twins_63 (fun u0 u1 u2 ho h => ih u0 u1 u2 ho h) u0 u1 u2 ho h) zfuel _ _ _ _ ho h
set_option maxRecDepth 20000 in
set_option maxHeartbeats 4000000 in
theorem o_X8_twins {M : zM} {r1 : Int32} {Mr : zM} (h : f8_twins M = some (r1, Mr)) : zOut [10, 9] [] M Mr := by
  have ho : zOut [10, 9] [] M M := zOut.rf
  rw [f8_twins] at h
  obtain ⟨M1, hM1, h⟩ := z_bind h
  replace ho := ho.call (o_X3_clear hM1) (by simp) (by simp)
  exact o8_twins_11 zfuel _ _ _ ho h
set_option maxRecDepth 20000 in
set_option maxHeartbeats 4000000 in
theorem o_X8_told {v1 : Int32} {v2 : Int32} {M : zM} {r1 : Int32} {Mr : zM} (h : f8_told v1 v2 M = some (r1, Mr)) : zOut [30, 31, 32] [] M Mr := by
  have ho : zOut [30, 31, 32] [] M M := zOut.rf
  rw [f8_told] at h
  by_cases hc : (12 : Int32) ≤ (M.1 30 2)
  · replace h := (if_pos hc).symm.trans h
    obtain ⟨rfl, rfl⟩ := z_ret2 h
    exact ho
  · replace h := (if_neg hc).symm.trans h
    by_cases hc : v2 < 0
    · replace h := (if_pos hc).symm.trans h
      obtain ⟨rfl, rfl⟩ := z_ret2 h
      exact ho
    · replace h := (if_neg hc).symm.trans h
      obtain ⟨x1, hx1, h⟩ := z_bind h
      by_cases hc : v2 ≤ x1
      · replace h := (if_pos hc).symm.trans h
        obtain ⟨M2, hM2, h⟩ := z_bind h
        replace ho := ho.call (o_X5_add hM2) (by simp) (by simp)
        obtain ⟨rfl, rfl⟩ := z_ret2 h
        exact ho
      · replace h := (if_neg hc).symm.trans h
        obtain ⟨rfl, rfl⟩ := z_ret2 h
        exact ho
set_option maxRecDepth 20000 in
set_option maxHeartbeats 4000000 in
theorem o_X8_forget {M : zM} {r1 : Int32} {Mr : zM} (h : f8_forget M = some (r1, Mr)) : zOut [30] [] M Mr := by
  have ho : zOut [30] [] M M := zOut.rf
  rw [f8_forget] at h
  replace ho := ho.si 30 2 (0 : Int32) (by simp)
  obtain ⟨rfl, rfl⟩ := z_ret2 h
  exact ho
set_option maxRecDepth 20000 in
set_option maxHeartbeats 4000000 in
theorem o_X8_keep {v1 : Int32} {M : zM} {r1 : Int32} {Mr : zM} (h : f8_keep v1 M = some (r1, Mr)) : zOut [37, 38] [] M Mr := by
  have ho : zOut [37, 38] [] M M := zOut.rf
  rw [f8_keep] at h
  by_cases hc : v1 < 0
  · replace h := (if_pos hc).symm.trans h
    obtain ⟨rfl, rfl⟩ := z_ret2 h
    exact ho
  · replace h := (if_neg hc).symm.trans h
    by_cases hc : v1 < (3 : Int32)
    · replace h := (if_pos hc).symm.trans h
      obtain ⟨x1, hx1, h⟩ := z_bind h
      obtain ⟨M2, hM2, h⟩ := z_bind h
      replace ho := ho.call (o_X2_put hM2) (by simp) (by simp)
      obtain ⟨rfl, rfl⟩ := z_ret2 h
      exact ho
    · replace h := (if_neg hc).symm.trans h
      obtain ⟨rfl, rfl⟩ := z_ret2 h
      exact ho
set_option maxRecDepth 20000 in
set_option maxHeartbeats 4000000 in
theorem o8_mendingCell_81 {r1 : Int32} {Mr : zM} {M0 : zM} {k2 : Int32 → Int32 → zM → Option (Int32 × zM)} (hk2 : ∀ (v2 : Int32) (v3 : Int32) (M : zM), zOut [22, 23] [] M0 M → k2 v2 v3 M = some (r1, Mr) → zOut [22, 23] [] M0 Mr) : ∀ (v2 : Int32) (v3 : Int32) (M : zM), zOut [22, 23] [] M0 M → f8_mendingCell_81 k2 v2 v3 M = some (r1, Mr) → zOut [22, 23] [] M0 Mr := by
  intro v2 v3 M ho h
  rw [f8_mendingCell_81] at h
  exact hk2 _ _ _ ho h
set_option maxRecDepth 20000 in
set_option maxHeartbeats 4000000 in
theorem o8_mendingCell_2 {r1 : Int32} {Mr : zM} {M0 : zM} : ∀ (n : Nat) (v2 : Int32) (v3 : Int32) (M : zM), zOut [22, 23] [] M0 M → f8_mendingCell_2 n v2 v3 M = some (r1, Mr) → zOut [22, 23] [] M0 Mr := by
  intro n
  induction n with
  | zero => intro v2 v3 M ho h; cases h
  | succ n ih =>
    intro v2 v3 M ho h
    rw [f8_mendingCell_2] at h
    by_cases hc : ((6 : Int32) * (M.1 1 0)) ≤ v3
    · replace h := (if_pos hc).symm.trans h
      obtain ⟨rfl, rfl⟩ := z_ret2 h
      exact ho
    · replace h := (if_neg hc).symm.trans h
      obtain ⟨x1, hx1, h⟩ := z_bind h
      by_cases hc : x1 = 0
      · replace h := (if_pos hc).symm.trans h
        exact o8_mendingCell_81 (fun u0 u1 u2 ho h => ih u0 u1 u2 ho h) _ _ _ ho h
      · replace h := (if_neg hc).symm.trans h
        obtain ⟨M2, hM2, h⟩ := z_bind h
        replace ho := ho.call (o_X0_turn hM2) (by simp) (by simp)
        obtain ⟨x3, hx3, h⟩ := z_bind h
        obtain ⟨M4, hM4, h⟩ := z_bind h
        replace ho := ho.call (o_X0_turn hM4) (by simp) (by simp)
        by_cases hc : x3 = 0
        · replace h := (if_pos hc).symm.trans h
          exact o8_mendingCell_81 (fun u0 u1 u2 ho h => ih u0 u1 u2 ho h) _ _ _ ho h
        · replace h := (if_neg hc).symm.trans h
          obtain ⟨rfl, rfl⟩ := z_ret2 h
          exact ho
set_option maxRecDepth 20000 in
set_option maxHeartbeats 4000000 in
theorem o_X8_mendingCell {v1 : Int32} {v2 : Int32} {M : zM} {r1 : Int32} {Mr : zM} (h : f8_mendingCell v1 v2 M = some (r1, Mr)) : zOut [22, 23] [] M Mr := by
  have ho : zOut [22, 23] [] M M := zOut.rf
  rw [f8_mendingCell] at h
  exact o8_mendingCell_2 zfuel _ _ _ ho h
set_option maxRecDepth 20000 in
set_option maxHeartbeats 4000000 in
theorem o_X8_drawnBelow {v1 : Int32} {M : zM} {r1 : Int32} {Mr : zM} (h : f8_drawnBelow v1 M = some (r1, Mr)) : zOut [0] [] M Mr := by
  have ho : zOut [0] [] M M := zOut.rf
  rw [f8_drawnBelow] at h
  replace ho := ho.si 0 12 (((M.1 0 12) * (1103515245 : Int32)) + (12345 : Int32)) (by simp)
  by_cases hc : v1 ≤ 0
  · replace h := (if_pos hc).symm.trans h
    obtain ⟨rfl, rfl⟩ := z_ret2 h
    exact ho
  · replace h := (if_neg hc).symm.trans h
    obtain ⟨x1, hx1, h⟩ := z_bind h
    obtain ⟨rfl, rfl⟩ := z_ret2 h
    exact ho
set_option maxRecDepth 20000 in
set_option maxHeartbeats 4000000 in
theorem o_X9_refuse {M : zM} {r1 : Int32} {Mr : zM} (h : f9_refuse M = some (r1, Mr)) : zOut [] [0] M Mr := by
  have ho : zOut [] [0] M M := zOut.rf
  rw [f9_refuse] at h
  replace ho := ho.si 39 0 (1 : Int32) (by simp)
  obtain ⟨rfl, rfl⟩ := z_ret2 h
  exact ho
set_option maxRecDepth 20000 in
set_option maxHeartbeats 4000000 in
theorem o_X9_enters {v1 : Int64} {M : zM} {Mr : zM} (h : f9_enters v1 M = some Mr) : zOut [40] [1] M Mr := by
  have ho : zOut [40] [1] M M := zOut.rf
  rw [f9_enters] at h
  obtain ⟨M1, hM1, h⟩ := z_bind h
  replace ho := ho.pJ hM1 (by simp)
  replace ho := ho.si 39 1 ((M1.1 39 1) + (1 : Int32)) (by simp)
  obtain rfl := z_ret1 h
  exact ho
set_option maxRecDepth 20000 in
set_option maxHeartbeats 4000000 in
theorem o9_copies_2 {a0 : Nat} {a1 : Nat} {Mr : zM} {M0 : zM} : ∀ (n : Nat) (v2 : Int32) (M : zM), zOut [a0] [] M0 M → f9_copies_2 a0 a1 n v2 M = some Mr → zOut [a0] [] M0 Mr := by
  intro n
  induction n with
  | zero => intro v2 M ho h; cases h
  | succ n ih =>
    intro v2 M ho h
    rw [f9_copies_2] at h
    by_cases hc : (9 : Int32) ≤ v2
    · replace h := (if_pos hc).symm.trans h
      obtain rfl := z_ret1 h
      exact ho
    · replace h := (if_neg hc).symm.trans h
      obtain ⟨x1, hx1, h⟩ := z_bind h
      obtain ⟨M2, hM2, h⟩ := z_bind h
      replace ho := ho.pI hM2 (by simp)
      exact ih _ _ ho h
set_option maxRecDepth 20000 in
set_option maxHeartbeats 4000000 in
theorem o_X9_copies {a0 : Nat} {a1 : Nat} {M : zM} {Mr : zM} (h : f9_copies a0 a1 M = some Mr) : zOut [a0] [] M Mr := by
  have ho : zOut [a0] [] M M := zOut.rf
  rw [f9_copies] at h
  exact o9_copies_2 zfuel _ _ ho h
set_option maxRecDepth 20000 in
set_option maxHeartbeats 4000000 in
theorem o9_goes_59 {a0 : Nat} {Mr : zM} {M0 : zM} : ∀ (v1 : Int32) (M : zM), zOut [a0] [] M0 M → f9_goes_59 a0 v1 M = some Mr → zOut [a0] [] M0 Mr := by
  intro v1 M ho h
  rw [f9_goes_59] at h
  obtain ⟨x1, hx1, h⟩ := z_bind h
  obtain ⟨M2, hM2, h⟩ := z_bind h
  replace ho := ho.pI hM2 (by simp)
  obtain rfl := z_ret1 h
  exact ho
set_option maxRecDepth 20000 in
set_option maxHeartbeats 4000000 in
theorem o9_goes_8 {a0 : Nat} {Mr : zM} {M0 : zM} : ∀ (n : Nat) (v1 : Int32) (v3 : Int32) (M : zM), zOut [a0] [] M0 M → f9_goes_8 a0 n v1 v3 M = some Mr → zOut [a0] [] M0 Mr := by
  intro n
  induction n with
  | zero => intro v1 v3 M ho h; cases h
  | succ n ih =>
    intro v1 v3 M ho h
    rw [f9_goes_8] at h
    by_cases hc : (M.1 a0 6) ≤ v3
    · replace h := (if_pos hc).symm.trans h
      exact o9_goes_59 _ _ ho h
    · replace h := (if_neg hc).symm.trans h
      obtain ⟨x1, hx1, h⟩ := z_bind h
      obtain ⟨M2, hM2, h⟩ := z_bind h
      replace ho := ho.pI hM2 (by simp)
      exact ih _ _ _ ho h
set_option maxRecDepth 20000 in
set_option maxHeartbeats 4000000 in
theorem o9_goes_35 {a0 : Nat} {Mr : zM} {M0 : zM} : ∀ (n : Nat) (v1 : Int32) (v2 : Int32) (v3 : Int32) (M : zM), zOut [a0] [] M0 M → f9_goes_35 a0 n v1 v2 v3 M = some Mr → zOut [a0] [] M0 Mr := by
  intro n
  induction n with
  | zero => intro v1 v2 v3 M ho h; cases h
  | succ n ih =>
    intro v1 v2 v3 M ho h
    rw [f9_goes_35] at h
    by_cases hc : (M.1 a0 6) ≤ v3
    · replace h := (if_pos hc).symm.trans h
      exact o9_goes_59 _ _ ho h
    · replace h := (if_neg hc).symm.trans h
      obtain ⟨x1, hx1, h⟩ := z_bind h
      obtain ⟨x2, hx2, h⟩ := z_bind h
      obtain ⟨M3, hM3, h⟩ := z_bind h
      replace ho := ho.pI hM3 (by simp)
      exact ih _ _ _ _ ho h
set_option maxRecDepth 20000 in
set_option maxHeartbeats 4000000 in
theorem o_X9_goes {a0 : Nat} {v1 : Int32} {v2 : Int32} {M : zM} {Mr : zM} (h : f9_goes a0 v1 v2 M = some Mr) : zOut [a0] [] M Mr := by
  have ho : zOut [a0] [] M M := zOut.rf
  rw [f9_goes] at h
  by_cases hc : v1 = 0
  · replace h := (if_pos hc).symm.trans h
    exact o9_goes_8 zfuel _ _ _ ho h
  · replace h := (if_neg hc).symm.trans h
    exact o9_goes_35 zfuel _ _ _ _ ho h
set_option maxRecDepth 20000 in
set_option maxHeartbeats 4000000 in
theorem o9_comes_86 {a0 : Nat} {Mr : zM} {M0 : zM} : ∀ (v1 : Int32) (M : zM), zOut [a0] [] M0 M → f9_comes_86 a0 v1 M = some Mr → zOut [a0] [] M0 Mr := by
  intro v1 M ho h
  rw [f9_comes_86] at h
  obtain ⟨x1, hx1, h⟩ := z_bind h
  obtain ⟨M2, hM2, h⟩ := z_bind h
  replace ho := ho.pI hM2 (by simp)
  obtain rfl := z_ret1 h
  exact ho
set_option maxRecDepth 20000 in
set_option maxHeartbeats 4000000 in
theorem o9_comes_10 {a0 : Nat} {Mr : zM} {M0 : zM} : ∀ (n : Nat) (v1 : Int32) (v2 : Int32) (v3 : Int32) (v4 : Int32) (M : zM), zOut [a0] [] M0 M → f9_comes_10 a0 n v1 v2 v3 v4 M = some Mr → zOut [a0] [] M0 Mr := by
  intro n
  induction n with
  | zero => intro v1 v2 v3 v4 M ho h; cases h
  | succ n ih =>
    intro v1 v2 v3 v4 M ho h
    rw [f9_comes_10] at h
    by_cases hc : v4 ≤ v2
    · replace h := (if_pos hc).symm.trans h
      obtain ⟨M1, hM1, h⟩ := z_bind h
      replace ho := ho.pI hM1 (by simp)
      exact o9_comes_86 _ _ ho h
    · replace h := (if_neg hc).symm.trans h
      obtain ⟨x1, hx1, h⟩ := z_bind h
      obtain ⟨M2, hM2, h⟩ := z_bind h
      replace ho := ho.pI hM2 (by simp)
      exact ih _ _ _ _ _ ho h
set_option maxRecDepth 20000 in
set_option maxHeartbeats 4000000 in
theorem o9_comes_42 {a0 : Nat} {Mr : zM} {M0 : zM} : ∀ (n : Nat) (v1 : Int32) (v2 : Int32) (v3 : Int32) (v4 : Int32) (M : zM), zOut [a0] [] M0 M → f9_comes_42 a0 n v1 v2 v3 v4 M = some Mr → zOut [a0] [] M0 Mr := by
  intro n
  induction n with
  | zero => intro v1 v2 v3 v4 M ho h; cases h
  | succ n ih =>
    intro v1 v2 v3 v4 M ho h
    rw [f9_comes_42] at h
    by_cases hc : (M.1 a0 6) ≤ v4
    · replace h := (if_pos hc).symm.trans h
      exact o9_comes_86 _ _ ho h
    · replace h := (if_neg hc).symm.trans h
      obtain ⟨x1, hx1, h⟩ := z_bind h
      obtain ⟨x2, hx2, h⟩ := z_bind h
      obtain ⟨x3, hx3, h⟩ := z_bind h
      obtain ⟨x4, hx4, h⟩ := z_bind h
      obtain ⟨M5, hM5, h⟩ := z_bind h
      replace ho := ho.pI hM5 (by simp)
      exact ih _ _ _ _ _ ho h
set_option maxRecDepth 20000 in
set_option maxHeartbeats 4000000 in
theorem o_X9_comes {a0 : Nat} {v1 : Int32} {v2 : Int32} {v3 : Int32} {M : zM} {Mr : zM} (h : f9_comes a0 v1 v2 v3 M = some Mr) : zOut [a0] [] M Mr := by
  have ho : zOut [a0] [] M M := zOut.rf
  rw [f9_comes] at h
  by_cases hc : v1 = 0
  · replace h := (if_pos hc).symm.trans h
    exact o9_comes_10 zfuel _ _ _ _ _ ho h
  · replace h := (if_neg hc).symm.trans h
    exact o9_comes_42 zfuel _ _ _ _ _ ho h
set_option maxRecDepth 20000 in
set_option maxHeartbeats 4000000 in
theorem o9_sign_18 {r1 : Int32} {Mr : zM} {M0 : zM} : ∀ (n : Nat) (v1 : Int32) (v2 : Int32) (M : zM), zOut [43] [0, 7] M0 M → f9_sign_18 n v1 v2 M = some (r1, Mr) → zOut [43] [0, 7] M0 Mr := by
  intro n
  induction n with
  | zero => intro v1 v2 M ho h; cases h
  | succ n ih =>
    intro v1 v2 M ho h
    rw [f9_sign_18] at h
    by_cases hc : (4 : Int32) ≤ v2
    · replace h := (if_pos hc).symm.trans h
      replace ho := ho.si 39 7 ((M.1 39 7) + (4 : Int32)) (by simp)
      obtain ⟨rfl, rfl⟩ := z_ret2 h
      exact ho
    · replace h := (if_neg hc).symm.trans h
      obtain ⟨M1, hM1, h⟩ := z_bind h
      replace ho := ho.pI hM1 (by simp)
      exact ih _ _ _ ho h
set_option maxRecDepth 20000 in
set_option maxHeartbeats 4000000 in
theorem o_X9_sign {v1 : Int32} {M : zM} {r1 : Int32} {Mr : zM} (h : f9_sign v1 M = some (r1, Mr)) : zOut [43] [0, 7] M Mr := by
  have ho : zOut [43] [0, 7] M M := zOut.rf
  rw [f9_sign] at h
  replace ho := ho.si 39 0 (0 : Int32) (by simp)
  by_cases hc : ((zsi M 39 0 (0 : Int32)).1 39 7) ≤ (76 : Int32)
  · replace h := (if_pos hc).symm.trans h
    exact o9_sign_18 zfuel _ _ _ ho h
  · replace h := (if_neg hc).symm.trans h
    obtain ⟨rfl, rfl⟩ := z_ret2 h
    exact ho
set_option maxRecDepth 20000 in
set_option maxHeartbeats 4000000 in
theorem o_X9_end {v1 : Int32} {M : zM} {r1 : Int32} {Mr : zM} (h : f9_end v1 M = some (r1, Mr)) : zOut [] [0, 7] M Mr := by
  have ho : zOut [] [0, 7] M M := zOut.rf
  rw [f9_end] at h
  replace ho := ho.si 39 0 (0 : Int32) (by simp)
  obtain ⟨x1, hx1, h⟩ := z_bind h
  by_cases hc : x1 = 0
  · replace h := (if_pos hc).symm.trans h
    obtain ⟨rfl, rfl⟩ := z_ret2 h
    exact ho
  · replace h := (if_neg hc).symm.trans h
    replace ho := ho.si 39 7 v1 (by simp)
    obtain ⟨rfl, rfl⟩ := z_ret2 h
    exact ho
set_option maxRecDepth 20000 in
set_option maxHeartbeats 4000000 in
theorem o_X9_begins {v1 : Int32} {M : zM} {r1 : Int32} {Mr : zM} (h : f9_begins v1 M = some (r1, Mr)) : zOut [] [7, 8, 9, 10] M Mr := by
  have ho : zOut [] [7, 8, 9, 10] M M := zOut.rf
  rw [f9_begins] at h
  replace ho := ho.si 39 7 (0 : Int32) (by simp)
  replace ho := ho.si 39 8 (0 : Int32) (by simp)
  replace ho := ho.si 39 10 (0 : Int32) (by simp)
  replace ho := ho.si 39 9 (zmin (M.1 39 7) v1) (by simp)
  obtain ⟨rfl, rfl⟩ := z_ret2 h
  exact ho
set_option maxRecDepth 20000 in
set_option maxHeartbeats 4000000 in
theorem o9_takes_29 {r1 : Int32} {Mr : zM} {M0 : zM} : ∀ (s0 : Int32) (M : zM), zOut [] [8] M0 M → f9_takes_29 s0 M = some (r1, Mr) → zOut [] [8] M0 Mr := by
  intro s0 M ho h
  rw [f9_takes_29] at h
  obtain ⟨x1, hx1, h⟩ := z_bind h
  replace ho := ho.si 39 8 ((M.1 39 8) + x1) (by simp)
  obtain ⟨x2, hx2, h⟩ := z_bind h
  obtain ⟨rfl, rfl⟩ := z_ret2 h
  exact ho
set_option maxRecDepth 20000 in
set_option maxHeartbeats 4000000 in
theorem o_X9_takes {v1 : Int32} {M : zM} {r1 : Int32} {Mr : zM} (h : f9_takes v1 M = some (r1, Mr)) : zOut [] [8] M Mr := by
  have ho : zOut [] [8] M M := zOut.rf
  rw [f9_takes] at h
  by_cases hc : (M.1 39 9) ≤ (M.1 39 8)
  · replace h := (if_pos hc).symm.trans h
    exact o9_takes_29 _ _ ho h
  · replace h := (if_neg hc).symm.trans h
    obtain ⟨x1, hx1, h⟩ := z_bind h
    exact o9_takes_29 _ _ ho h
set_option maxRecDepth 20000 in
set_option maxHeartbeats 4000000 in
theorem o9_takesOf_2 {r1 : Int32} {Mr : zM} {M0 : zM} : ∀ (n : Nat) (v1 : Nat) (v2 : Int32) (M : zM), zOut [] [8] M0 M → f9_takesOf_2 n v1 v2 M = some (r1, Mr) → zOut [] [8] M0 Mr := by
  intro n
  induction n with
  | zero => intro v1 v2 M ho h; cases h
  | succ n ih =>
    intro v1 v2 M ho h
    rw [f9_takesOf_2] at h
    obtain ⟨x1, hx1, h⟩ := z_bind h
    by_cases hc : x1 ≤ v2
    · replace h := (if_pos hc).symm.trans h
      obtain ⟨rfl, rfl⟩ := z_ret2 h
      exact ho
    · replace h := (if_neg hc).symm.trans h
      by_cases hc : (M.1 39 9) ≤ (M.1 39 8)
      · replace h := (if_pos hc).symm.trans h
        obtain ⟨rfl, rfl⟩ := z_ret2 h
        exact ho
      · replace h := (if_neg hc).symm.trans h
        obtain ⟨x2, hx2, h⟩ := z_bind h
        obtain ⟨x3, hx3, h⟩ := z_bind h
        by_cases hc : x2 = x3
        · replace h := (if_pos hc).symm.trans h
          replace ho := ho.si 39 8 ((M.1 39 8) + (1 : Int32)) (by simp)
          obtain ⟨rfl, rfl⟩ := z_ret2 h
          exact ho
        · replace h := (if_neg hc).symm.trans h
          exact ih _ _ _ ho h
set_option maxRecDepth 20000 in
set_option maxHeartbeats 4000000 in
theorem o_X9_takesOf {v1 : Nat} {M : zM} {r1 : Int32} {Mr : zM} (h : f9_takesOf v1 M = some (r1, Mr)) : zOut [] [8] M Mr := by
  have ho : zOut [] [8] M M := zOut.rf
  rw [f9_takesOf] at h
  exact o9_takesOf_2 zfuel _ _ _ ho h
set_option maxRecDepth 20000 in
set_option maxHeartbeats 4000000 in
theorem o9_number_13 {r1 : Int32} {Mr : zM} {M0 : zM} : ∀ (n : Nat) (v1 : Int32) (v2 : Int32) (v3 : Int32) (M : zM), zOut [] [8] M0 M → f9_number_13 n v1 v2 v3 M = some (r1, Mr) → zOut [] [8] M0 Mr := by
  intro n
  induction n with
  | zero => intro v1 v2 v3 M ho h; cases h
  | succ n ih =>
    intro v1 v2 v3 M ho h
    rw [f9_number_13] at h
    by_cases hc : v1 ≤ v3
    · replace h := (if_pos hc).symm.trans h
      obtain ⟨rfl, rfl⟩ := z_ret2 h
      exact ho
    · replace h := (if_neg hc).symm.trans h
      obtain ⟨x1, hx1, h⟩ := z_bind h
      by_cases hc : x1 = 0
      · replace h := (if_pos hc).symm.trans h
        obtain ⟨rfl, rfl⟩ := z_ret2 h
        exact ho
      · replace h := (if_neg hc).symm.trans h
        obtain ⟨x2, hx2, h⟩ := z_bind h
        replace ho := ho.si 39 8 ((M.1 39 8) + (1 : Int32)) (by simp)
        exact ih _ _ _ _ ho h
set_option maxRecDepth 20000 in
set_option maxHeartbeats 4000000 in
theorem o_X9_number {v1 : Int32} {M : zM} {r1 : Int32} {Mr : zM} (h : f9_number v1 M = some (r1, Mr)) : zOut [] [8] M Mr := by
  have ho : zOut [] [8] M M := zOut.rf
  rw [f9_number] at h
  obtain ⟨x1, hx1, h⟩ := z_bind h
  by_cases hc : x1 = 0
  · replace h := (if_pos hc).symm.trans h
    obtain ⟨rfl, rfl⟩ := z_ret2 h
    exact ho
  · replace h := (if_neg hc).symm.trans h
    exact o9_number_13 zfuel _ _ _ _ ho h
set_option maxRecDepth 20000 in
set_option maxHeartbeats 4000000 in
theorem o_X9_digitIn {v1 : Int32} {v2 : Int32} {M : zM} {r1 : Int32} {Mr : zM} (h : f9_digitIn v1 v2 M = some (r1, Mr)) : zOut [] [8] M Mr := by
  have ho : zOut [] [8] M M := zOut.rf
  rw [f9_digitIn] at h
  by_cases hc : (M.1 39 9) ≤ (M.1 39 8)
  · replace h := (if_pos hc).symm.trans h
    obtain ⟨rfl, rfl⟩ := z_ret2 h
    exact ho
  · replace h := (if_neg hc).symm.trans h
    obtain ⟨x1, hx1, h⟩ := z_bind h
    obtain ⟨x2, hx2, h⟩ := z_bind h
    by_cases hc : x2 = 0
    · replace h := (if_pos hc).symm.trans h
      obtain ⟨rfl, rfl⟩ := z_ret2 h
      exact ho
    · replace h := (if_neg hc).symm.trans h
      replace ho := ho.si 39 8 ((M.1 39 8) + (1 : Int32)) (by simp)
      obtain ⟨x3, hx3, h⟩ := z_bind h
      obtain ⟨rfl, rfl⟩ := z_ret2 h
      exact ho
set_option maxRecDepth 20000 in
set_option maxHeartbeats 4000000 in
theorem o9_readsCloth_92 {r1 : Int32} {Mr : zM} {M0 : zM} {k147 : Int32 → Int32 → zM → Option (Int32 × zM)} (hk147 : ∀ (v1 : Int32) (v2 : Int32) (M : zM), zOut [44] [7, 8, 9, 10] M0 M → k147 v1 v2 M = some (r1, Mr) → zOut [44] [7, 8, 9, 10] M0 Mr) : ∀ (n : Nat) (v1 : Int32) (v2 : Int32) (v3 : Int32) (M : zM), zOut [44] [7, 8, 9, 10] M0 M → f9_readsCloth_92 k147 n v1 v2 v3 M = some (r1, Mr) → zOut [44] [7, 8, 9, 10] M0 Mr := by
  intro n
  induction n with
  | zero => intro v1 v2 v3 M ho h; cases h
  | succ n ih =>
    intro v1 v2 v3 M ho h
    rw [f9_readsCloth_92] at h
    by_cases hc : (M.1 44 7) ≤ v3
    · replace h := (if_pos hc).symm.trans h
      exact hk147 _ _ _ ho h
    · replace h := (if_neg hc).symm.trans h
      by_cases hc : v1 = 0
      · replace h := (if_pos hc).symm.trans h
        exact hk147 _ _ _ ho h
      · replace h := (if_neg hc).symm.trans h
        obtain ⟨p1, hp1, h⟩ := z_bind h
        replace ho := ho.call (o_X9_takesOf hp1) (by simp) (by simp)
        exact ih _ _ _ _ ho h
set_option maxRecDepth 20000 in
set_option maxHeartbeats 4000000 in
theorem o9_readsCloth_175 {r1 : Int32} {Mr : zM} {M0 : zM} {k45 : Int32 → zM → Option (Int32 × zM)} (hk45 : ∀ (v1 : Int32) (M : zM), zOut [44] [7, 8, 9, 10] M0 M → k45 v1 M = some (r1, Mr) → zOut [44] [7, 8, 9, 10] M0 Mr) : ∀ (v1 : Int32) (M : zM), zOut [44] [7, 8, 9, 10] M0 M → f9_readsCloth_175 k45 v1 M = some (r1, Mr) → zOut [44] [7, 8, 9, 10] M0 Mr := by
  intro v1 M ho h
  rw [f9_readsCloth_175] at h
  exact hk45 _ _ ho h
set_option maxRecDepth 20000 in
set_option maxHeartbeats 4000000 in
theorem o9_readsCloth_147 {r1 : Int32} {Mr : zM} {M0 : zM} {k45 : Int32 → zM → Option (Int32 × zM)} (hk45 : ∀ (v1 : Int32) (M : zM), zOut [44] [7, 8, 9, 10] M0 M → k45 v1 M = some (r1, Mr) → zOut [44] [7, 8, 9, 10] M0 Mr) : ∀ (v1 : Int32) (v2 : Int32) (M : zM), zOut [44] [7, 8, 9, 10] M0 M → f9_readsCloth_147 k45 v1 v2 M = some (r1, Mr) → zOut [44] [7, 8, 9, 10] M0 Mr := by
  intro v1 v2 M ho h
  rw [f9_readsCloth_147] at h
  by_cases hc : v1 = 0
  · replace h := (if_pos hc).symm.trans h
    exact o9_readsCloth_175 hk45 _ _ ho h
  · replace h := (if_neg hc).symm.trans h
    obtain ⟨M1, hM1, h⟩ := z_bind h
    replace ho := ho.pI hM1 (by simp)
    replace ho := ho.si 44 6 ((M1.1 44 6) + (1 : Int32)) (by simp)
    exact o9_readsCloth_175 hk45 _ _ ho h
set_option maxRecDepth 20000 in
set_option maxHeartbeats 4000000 in
theorem o9_readsCloth_70 {r1 : Int32} {Mr : zM} {M0 : zM} {k45 : Int32 → zM → Option (Int32 × zM)} (hk45 : ∀ (v1 : Int32) (M : zM), zOut [44] [7, 8, 9, 10] M0 M → k45 v1 M = some (r1, Mr) → zOut [44] [7, 8, 9, 10] M0 Mr) : ∀ (M : zM), zOut [44] [7, 8, 9, 10] M0 M → f9_readsCloth_70 k45 M = some (r1, Mr) → zOut [44] [7, 8, 9, 10] M0 Mr := by
  intro M ho h
  rw [f9_readsCloth_70] at h
  exact o9_readsCloth_92 (fun u0 u1 u2 ho h => o9_readsCloth_147 hk45 u0 u1 u2 ho h) zfuel _ _ _ _ ho h
set_option maxRecDepth 20000 in
set_option maxHeartbeats 4000000 in
theorem o9_readsCloth_178 {r1 : Int32} {Mr : zM} {M0 : zM} : ∀ (v1 : Int32) (M : zM), zOut [44] [7, 8, 9, 10] M0 M → f9_readsCloth_178 v1 M = some (r1, Mr) → zOut [44] [7, 8, 9, 10] M0 Mr := by
  intro v1 M ho h
  rw [f9_readsCloth_178] at h
  obtain ⟨rfl, rfl⟩ := z_ret2 h
  exact ho
set_option maxRecDepth 20000 in
set_option maxHeartbeats 4000000 in
theorem o9_readsCloth_45 {r1 : Int32} {Mr : zM} {M0 : zM} : ∀ (n : Nat) (v1 : Int32) (M : zM), zOut [44] [7, 8, 9, 10] M0 M → f9_readsCloth_45 n v1 M = some (r1, Mr) → zOut [44] [7, 8, 9, 10] M0 Mr := by
  intro n
  induction n with
  | zero => intro v1 M ho h; cases h
  | succ n ih =>
    intro v1 M ho h
    rw [f9_readsCloth_45] at h
    by_cases hc : v1 = 0
    · replace h := (if_pos hc).symm.trans h
      exact o9_readsCloth_178 _ _ ho h
    · replace h := (if_neg hc).symm.trans h
      by_cases hc : (M.1 44 6) = 0
      · replace h := (if_pos hc).symm.trans h
        exact o9_readsCloth_70 (fun u0 u1 ho h => ih u0 u1 ho h) _ ho h
      · replace h := (if_neg hc).symm.trans h
        by_cases hc : (M.1 39 9) ≤ (M.1 39 8)
        · replace h := (if_pos hc).symm.trans h
          exact o9_readsCloth_178 _ _ ho h
        · replace h := (if_neg hc).symm.trans h
          exact o9_readsCloth_70 (fun u0 u1 ho h => ih u0 u1 ho h) _ ho h
set_option maxRecDepth 20000 in
set_option maxHeartbeats 4000000 in
theorem o_X9_readsCloth {M : zM} {r1 : Int32} {Mr : zM} (h : f9_readsCloth M = some (r1, Mr)) : zOut [44] [7, 8, 9, 10] M Mr := by
  have ho : zOut [44] [7, 8, 9, 10] M M := zOut.rf
  rw [f9_readsCloth] at h
  obtain ⟨p1, hp1, h⟩ := z_bind h
  replace ho := ho.call (o_X9_begins hp1) (by simp) (by simp)
  replace ho := ho.si 44 6 (0 : Int32) (by simp)
  obtain ⟨p2, hp2, h⟩ := z_bind h
  replace ho := ho.call (o_X9_digitIn hp2) (by simp) (by simp)
  replace ho := ho.si 44 7 p2.1 (by simp)
  exact o9_readsCloth_45 zfuel _ _ ho h
set_option maxRecDepth 20000 in
set_option maxHeartbeats 4000000 in
theorem o_X9_cloth {M : zM} {r1 : Int32} {Mr : zM} (h : f9_cloth M = some (r1, Mr)) : zOut [41, 44] [0, 5, 7, 8, 9, 10, 18] M Mr := by
  have ho : zOut [41, 44] [0, 5, 7, 8, 9, 10, 18] M M := zOut.rf
  rw [f9_cloth] at h
  replace ho := ho.si 39 0 (0 : Int32) (by simp)
  obtain ⟨p1, hp1, h⟩ := z_bind h
  replace ho := ho.call (o_X9_readsCloth hp1) (by simp) (by simp)
  by_cases hc : 0 ≤ p1.1
  · replace h := (if_pos hc).symm.trans h
    obtain ⟨M2, hM2, h⟩ := z_bind h
    replace ho := ho.call (o_X9_copies hM2) (by simp) (by simp)
    replace ho := ho.si 41 8 (0 : Int32) (by simp)
    replace ho := ho.si 39 18 (0 : Int32) (by simp)
    replace ho := ho.si 39 5 (((zsi (zsi M2 41 8 (0 : Int32)) 39 18 (0 : Int32)).1 39 5) + (1 : Int32)) (by simp)
    obtain ⟨rfl, rfl⟩ := z_ret2 h
    exact ho
  · replace h := (if_neg hc).symm.trans h
    obtain ⟨rfl, rfl⟩ := z_ret2 h
    exact ho
set_option maxRecDepth 20000 in
set_option maxHeartbeats 4000000 in
theorem o_X9_codes {v1 : Int32} {M : zM} {Mr : zM} (h : f9_codes v1 M = some Mr) : zOut [46] [15] M Mr := by
  have ho : zOut [46] [15] M M := zOut.rf
  rw [f9_codes] at h
  obtain ⟨M1, hM1, h⟩ := z_bind h
  replace ho := ho.pI hM1 (by simp)
  replace ho := ho.si 39 15 ((M1.1 39 15) + (1 : Int32)) (by simp)
  obtain rfl := z_ret1 h
  exact ho
set_option maxRecDepth 20000 in
set_option maxHeartbeats 4000000 in
theorem o_X9_readsThing {rec : Nat → Int32 → zM → Option (Int32 × zM)} (hrec : ∀ {q : Nat} {v : Int32} {M : zM} {p : Int32 × zM}, rec q v M = some p → zOut [46] [8, 10, 15] M p.2) {M : zM} {r1 : Int32} {Mr : zM} (h : f9_readsThing rec M = some (r1, Mr)) : zOut [46] [8, 10, 15] M Mr := by
  have ho : zOut [46] [8, 10, 15] M M := zOut.rf
  rw [f9_readsThing] at h
  obtain ⟨p1, hp1, h⟩ := z_bind h
  replace ho := ho.call (o_X9_takes hp1) (by simp) (by simp)
  by_cases hc : p1.1 = 0
  · replace h := (if_pos hc).symm.trans h
    obtain ⟨x2, hx2, h⟩ := z_bind h
    by_cases hc : x2 = 0
    · replace h := (if_pos hc).symm.trans h
      obtain ⟨p3, hp3, h⟩ := z_bind h
      replace ho := ho.call (o_X9_takesOf hp3) (by simp) (by simp)
      by_cases hc : p3.1 < 0
      · replace h := (if_pos hc).symm.trans h
        by_cases hc : (p3.2.1 39 10) = (4 : Int32)
        · replace h := (if_pos hc).symm.trans h
          obtain ⟨rfl, rfl⟩ := z_ret2 h
          exact ho
        · replace h := (if_neg hc).symm.trans h
          obtain ⟨p4, hp4, h⟩ := z_bind h
          replace ho := ho.call (o_X9_takes hp4) (by simp) (by simp)
          by_cases hc : p4.1 = 0
          · replace h := (if_pos hc).symm.trans h
            obtain ⟨rfl, rfl⟩ := z_ret2 h
            exact ho
          · replace h := (if_neg hc).symm.trans h
            replace ho := ho.si 39 10 ((p4.2.1 39 10) + (1 : Int32)) (by simp)
            obtain ⟨p5, hp5, h⟩ := z_bind h
            replace ho := ho.call (hrec hp5) (by simp) (by simp)
            by_cases hc : p5.1 = 0
            · replace h := (if_pos hc).symm.trans h
              obtain ⟨rfl, rfl⟩ := z_ret2 h
              exact ho
            · replace h := (if_neg hc).symm.trans h
              obtain ⟨p6, hp6, h⟩ := z_bind h
              replace ho := ho.call (o_X9_takes hp6) (by simp) (by simp)
              by_cases hc : p6.1 = 0
              · replace h := (if_pos hc).symm.trans h
                obtain ⟨rfl, rfl⟩ := z_ret2 h
                exact ho
              · replace h := (if_neg hc).symm.trans h
                replace ho := ho.si 39 10 ((p6.2.1 39 10) - (1 : Int32)) (by simp)
                obtain ⟨rfl, rfl⟩ := z_ret2 h
                exact ho
      · replace h := (if_neg hc).symm.trans h
        obtain ⟨M4, hM4, h⟩ := z_bind h
        replace ho := ho.call (o_X9_codes hM4) (by simp) (by simp)
        obtain ⟨rfl, rfl⟩ := z_ret2 h
        exact ho
    · replace h := (if_neg hc).symm.trans h
      obtain ⟨p3, hp3, h⟩ := z_bind h
      replace ho := ho.call (o_X9_number hp3) (by simp) (by simp)
      obtain ⟨M4, hM4, h⟩ := z_bind h
      replace ho := ho.call (o_X9_codes hM4) (by simp) (by simp)
      obtain ⟨rfl, rfl⟩ := z_ret2 h
      exact ho
  · replace h := (if_neg hc).symm.trans h
    obtain ⟨p2, hp2, h⟩ := z_bind h
    replace ho := ho.call (hrec hp2) (by simp) (by simp)
    obtain ⟨M3, hM3, h⟩ := z_bind h
    replace ho := ho.call (o_X9_codes hM3) (by simp) (by simp)
    obtain ⟨x4, hx4, h⟩ := z_bind h
    obtain ⟨rfl, rfl⟩ := z_ret2 h
    exact ho
set_option maxRecDepth 20000 in
set_option maxHeartbeats 4000000 in
theorem o9_readsRank_50 {r1 : Int32} {Mr : zM} {M0 : zM} {rec : Nat → Int32 → zM → Option (Int32 × zM)} (hrec : ∀ {q : Nat} {v : Int32} {M : zM} {p : Int32 × zM}, rec q v M = some p → zOut [46] [8, 10, 15] M p.2) {k24 : Int32 → Int32 → zM → Option (Int32 × zM)} (hk24 : ∀ (v1 : Int32) (v2 : Int32) (M : zM), zOut [46] [8, 10, 15] M0 M → k24 v1 v2 M = some (r1, Mr) → zOut [46] [8, 10, 15] M0 Mr) : ∀ (v1 : Int32) (s1 : Nat) (M : zM), zOut [46] [8, 10, 15] M0 M → f9_readsRank_50 rec k24 v1 s1 M = some (r1, Mr) → zOut [46] [8, 10, 15] M0 Mr := by
  intro v1 s1 M ho h
  rw [f9_readsRank_50] at h
  obtain ⟨p1, hp1, h⟩ := z_bind h
  replace ho := ho.call (o_X9_takesOf hp1) (by simp) (by simp)
  by_cases hc : 0 ≤ p1.1
  · replace h := (if_pos hc).symm.trans h
    obtain ⟨p2, hp2, h⟩ := z_bind h
    replace ho := ho.call (hrec hp2) (by simp) (by simp)
    by_cases hc : p2.1 = 0
    · replace h := (if_pos hc).symm.trans h
      obtain ⟨rfl, rfl⟩ := z_ret2 h
      exact ho
    · replace h := (if_neg hc).symm.trans h
      obtain ⟨M3, hM3, h⟩ := z_bind h
      replace ho := ho.call (o_X9_codes hM3) (by simp) (by simp)
      exact hk24 _ _ _ ho h
  · replace h := (if_neg hc).symm.trans h
    obtain ⟨rfl, rfl⟩ := z_ret2 h
    exact ho
set_option maxRecDepth 20000 in
set_option maxHeartbeats 4000000 in
theorem o9_readsRank_24 {r1 : Int32} {Mr : zM} {M0 : zM} {rec : Nat → Int32 → zM → Option (Int32 × zM)} (hrec : ∀ {q : Nat} {v : Int32} {M : zM} {p : Int32 × zM}, rec q v M = some p → zOut [46] [8, 10, 15] M p.2) : ∀ (n : Nat) (v1 : Int32) (v2 : Int32) (M : zM), zOut [46] [8, 10, 15] M0 M → f9_readsRank_24 rec n v1 v2 M = some (r1, Mr) → zOut [46] [8, 10, 15] M0 Mr := by
  intro n
  induction n with
  | zero => intro v1 v2 M ho h; cases h
  | succ n ih =>
    intro v1 v2 M ho h
    rw [f9_readsRank_24] at h
    by_cases hc : v2 = 0
    · replace h := (if_pos hc).symm.trans h
      obtain ⟨rfl, rfl⟩ := z_ret2 h
      exact ho
    · replace h := (if_neg hc).symm.trans h
      by_cases hc : v1 = 0
      · replace h := (if_pos hc).symm.trans h
        exact o9_readsRank_50 hrec (fun u0 u1 u2 ho h => ih u0 u1 u2 ho h) _ _ _ ho h
      · replace h := (if_neg hc).symm.trans h
        by_cases hc : v1 = (1 : Int32)
        · replace h := (if_pos hc).symm.trans h
          exact o9_readsRank_50 hrec (fun u0 u1 u2 ho h => ih u0 u1 u2 ho h) _ _ _ ho h
        · replace h := (if_neg hc).symm.trans h
          exact o9_readsRank_50 hrec (fun u0 u1 u2 ho h => ih u0 u1 u2 ho h) _ _ _ ho h
set_option maxRecDepth 20000 in
set_option maxHeartbeats 4000000 in
theorem o_X9_readsRank {v1 : Int32} {rec : Nat → Int32 → zM → Option (Int32 × zM)} (hrec : ∀ {q : Nat} {v : Int32} {M : zM} {p : Int32 × zM}, rec q v M = some p → zOut [46] [8, 10, 15] M p.2) {M : zM} {r1 : Int32} {Mr : zM} (h : f9_readsRank rec v1 M = some (r1, Mr)) : zOut [46] [8, 10, 15] M Mr := by
  have ho : zOut [46] [8, 10, 15] M M := zOut.rf
  rw [f9_readsRank] at h
  by_cases hc : v1 = (3 : Int32)
  · replace h := (if_pos hc).symm.trans h
    obtain ⟨p1, hp1, h⟩ := z_bind h
    replace ho := ho.call (hrec hp1) (by simp) (by simp)
    obtain ⟨x2, hx2, h⟩ := z_bind h
    obtain ⟨rfl, rfl⟩ := z_ret2 h
    exact ho
  · replace h := (if_neg hc).symm.trans h
    obtain ⟨p1, hp1, h⟩ := z_bind h
    replace ho := ho.call (hrec hp1) (by simp) (by simp)
    by_cases hc : p1.1 = 0
    · replace h := (if_pos hc).symm.trans h
      obtain ⟨rfl, rfl⟩ := z_ret2 h
      exact ho
    · replace h := (if_neg hc).symm.trans h
      exact o9_readsRank_24 hrec zfuel _ _ _ ho h
theorem o_reads : ∀ (n : Nat) {q : Nat} {v : Int32} {M : zM} {p : Int32 × zM}, f9_reads n q v M = some p → zOut [46] [8, 10, 15] M p.2 := by
  intro n
  induction n with
  | zero => intro q v M p h; cases h
  | succ n ih =>
    intro q v M p h
    rw [f9_reads] at h
    by_cases hc : q = 0
    · replace h := (if_pos hc).symm.trans h
      exact o_X9_readsThing (fun h => ih h) h
    · replace h := (if_neg hc).symm.trans h
      exact o_X9_readsRank (fun h => ih h) h
set_option maxRecDepth 20000 in
set_option maxHeartbeats 4000000 in
theorem o9_readsRule_29 {r1 : Int32} {Mr : zM} {M0 : zM} : ∀ (v1 : Int32) (s0 : Int32) (M : zM), zOut [46] [7, 8, 9, 10, 15] M0 M → f9_readsRule_29 v1 s0 M = some (r1, Mr) → zOut [46] [7, 8, 9, 10, 15] M0 Mr := by
  intro v1 s0 M ho h
  rw [f9_readsRule_29] at h
  obtain ⟨x1, hx1, h⟩ := z_bind h
  obtain ⟨rfl, rfl⟩ := z_ret2 h
  exact ho
set_option maxRecDepth 20000 in
set_option maxHeartbeats 4000000 in
theorem o_X9_readsRule {M : zM} {r1 : Int32} {Mr : zM} (h : f9_readsRule M = some (r1, Mr)) : zOut [46] [7, 8, 9, 10, 15] M Mr := by
  have ho : zOut [46] [7, 8, 9, 10, 15] M M := zOut.rf
  rw [f9_readsRule] at h
  obtain ⟨p1, hp1, h⟩ := z_bind h
  replace ho := ho.call (o_X9_begins hp1) (by simp) (by simp)
  replace ho := ho.si 39 15 (0 : Int32) (by simp)
  by_cases hc : p1.1 = 0
  · replace h := (if_pos hc).symm.trans h
    exact o9_readsRule_29 _ _ _ ho h
  · replace h := (if_neg hc).symm.trans h
    obtain ⟨p2, hp2, h⟩ := z_bind h
    replace ho := ho.call (o_reads 200 hp2) (by simp) (by simp)
    exact o9_readsRule_29 _ _ _ ho h
set_option maxRecDepth 20000 in
set_option maxHeartbeats 4000000 in
theorem o9_laysCode_7 {a1 : Nat} {Mr : zM} {M0 : zM} : ∀ (n : Nat) (v2 : Int32) (v3 : Int32) (M : zM), zOut [45] [14] M0 M → f9_laysCode_7 a1 n v2 v3 M = some Mr → zOut [45] [14] M0 Mr := by
  intro n
  induction n with
  | zero => intro v2 v3 M ho h; cases h
  | succ n ih =>
    intro v2 v3 M ho h
    rw [f9_laysCode_7] at h
    by_cases hc : v2 ≤ v3
    · replace h := (if_pos hc).symm.trans h
      obtain rfl := z_ret1 h
      exact ho
    · replace h := (if_neg hc).symm.trans h
      obtain ⟨x1, hx1, h⟩ := z_bind h
      obtain ⟨M2, hM2, h⟩ := z_bind h
      replace ho := ho.pI hM2 (by simp)
      exact ih _ _ _ ho h
set_option maxRecDepth 20000 in
set_option maxHeartbeats 4000000 in
theorem o_X9_laysCode {a1 : Nat} {v2 : Int32} {M : zM} {Mr : zM} (h : f9_laysCode a1 v2 M = some Mr) : zOut [45] [14] M Mr := by
  have ho : zOut [45] [14] M M := zOut.rf
  rw [f9_laysCode] at h
  replace ho := ho.si 39 14 v2 (by simp)
  exact o9_laysCode_7 zfuel _ _ _ ho h
set_option maxRecDepth 20000 in
set_option maxHeartbeats 4000000 in
theorem o_X9_rule {M : zM} {r1 : Int32} {Mr : zM} (h : f9_rule M = some (r1, Mr)) : zOut [45, 46] [0, 7, 8, 9, 10, 14, 15] M Mr := by
  have ho : zOut [45, 46] [0, 7, 8, 9, 10, 14, 15] M M := zOut.rf
  rw [f9_rule] at h
  replace ho := ho.si 39 0 (0 : Int32) (by simp)
  obtain ⟨p1, hp1, h⟩ := z_bind h
  replace ho := ho.call (o_X9_readsRule hp1) (by simp) (by simp)
  by_cases hc : p1.1 = 0
  · replace h := (if_pos hc).symm.trans h
    obtain ⟨M2, hM2, h⟩ := z_bind h
    replace ho := ho.call (o_X9_laysCode hM2) (by simp) (by simp)
    obtain ⟨rfl, rfl⟩ := z_ret2 h
    exact ho
  · replace h := (if_neg hc).symm.trans h
    obtain ⟨rfl, rfl⟩ := z_ret2 h
    exact ho
set_option maxRecDepth 20000 in
set_option maxHeartbeats 4000000 in
theorem o9_ruled_119 {r1 : Int32} {Mr : zM} {M0 : zM} {k4 : Int32 → Int32 → zM → Option (Int32 × zM)} (hk4 : ∀ (v1 : Int32) (v2 : Int32) (M : zM), zOut [47] [] M0 M → k4 v1 v2 M = some (r1, Mr) → zOut [47] [] M0 Mr) : ∀ (v1 : Int32) (v2 : Int32) (M : zM), zOut [47] [] M0 M → f9_ruled_119 k4 v1 v2 M = some (r1, Mr) → zOut [47] [] M0 Mr := by
  intro v1 v2 M ho h
  rw [f9_ruled_119] at h
  exact hk4 _ _ _ ho h
set_option maxRecDepth 20000 in
set_option maxHeartbeats 4000000 in
theorem o9_ruled_115 {r1 : Int32} {Mr : zM} {M0 : zM} {k4 : Int32 → Int32 → zM → Option (Int32 × zM)} (hk4 : ∀ (v1 : Int32) (v2 : Int32) (M : zM), zOut [47] [] M0 M → k4 v1 v2 M = some (r1, Mr) → zOut [47] [] M0 Mr) : ∀ (v1 : Int32) (v2 : Int32) (s1 : Int32) (s2 : Int32) (M : zM), zOut [47] [] M0 M → f9_ruled_115 k4 v1 v2 s1 s2 M = some (r1, Mr) → zOut [47] [] M0 Mr := by
  intro v1 v2 s1 s2 M ho h
  rw [f9_ruled_115] at h
  obtain ⟨M1, hM1, h⟩ := z_bind h
  replace ho := ho.pI hM1 (by simp)
  exact o9_ruled_119 hk4 _ _ _ ho h
set_option maxRecDepth 20000 in
set_option maxHeartbeats 4000000 in
theorem o9_ruled_4 {r1 : Int32} {Mr : zM} {M0 : zM} : ∀ (n : Nat) (v1 : Int32) (v2 : Int32) (M : zM), zOut [47] [] M0 M → f9_ruled_4 n v1 v2 M = some (r1, Mr) → zOut [47] [] M0 Mr := by
  intro n
  induction n with
  | zero => intro v1 v2 M ho h; cases h
  | succ n ih =>
    intro v1 v2 M ho h
    rw [f9_ruled_4] at h
    by_cases hc : (M.1 39 14) ≤ v2
    · replace h := (if_pos hc).symm.trans h
      obtain ⟨rfl, rfl⟩ := z_ret2 h
      exact ho
    · replace h := (if_neg hc).symm.trans h
      obtain ⟨x1, hx1, h⟩ := z_bind h
      by_cases hc : x1 = (3000 : Int32)
      · replace h := (if_pos hc).symm.trans h
        obtain ⟨x2, hx2, h⟩ := z_bind h
        obtain ⟨M3, hM3, h⟩ := z_bind h
        replace ho := ho.pI hM3 (by simp)
        exact o9_ruled_119 (fun u0 u1 u2 ho h => ih u0 u1 u2 ho h) _ _ _ ho h
      · replace h := (if_neg hc).symm.trans h
        by_cases hc : x1 < (2000 : Int32)
        · replace h := (if_pos hc).symm.trans h
          by_cases hc : x1 < (1000 : Int32)
          · replace h := (if_pos hc).symm.trans h
            exact o9_ruled_115 (fun u0 u1 u2 ho h => ih u0 u1 u2 ho h) _ _ _ _ _ ho h
          · replace h := (if_neg hc).symm.trans h
            obtain ⟨x2, hx2, h⟩ := z_bind h
            exact o9_ruled_115 (fun u0 u1 u2 ho h => ih u0 u1 u2 ho h) _ _ _ _ _ ho h
        · replace h := (if_neg hc).symm.trans h
          obtain ⟨x2, hx2, h⟩ := z_bind h
          obtain ⟨x3, hx3, h⟩ := z_bind h
          obtain ⟨x4, hx4, h⟩ := z_bind h
          obtain ⟨M5, hM5, h⟩ := z_bind h
          replace ho := ho.pI hM5 (by simp)
          exact o9_ruled_119 (fun u0 u1 u2 ho h => ih u0 u1 u2 ho h) _ _ _ ho h
set_option maxRecDepth 20000 in
set_option maxHeartbeats 4000000 in
theorem o_X9_ruled {M : zM} {r1 : Int32} {Mr : zM} (h : f9_ruled M = some (r1, Mr)) : zOut [47] [] M Mr := by
  have ho : zOut [47] [] M M := zOut.rf
  rw [f9_ruled] at h
  exact o9_ruled_4 zfuel _ _ _ ho h
set_option maxRecDepth 20000 in
set_option maxHeartbeats 4000000 in
theorem o9_pull_85 {a1 : Nat} {r1 : Int32} {Mr : zM} {M0 : zM} : ∀ (v2 : Int32) (v3 : Int32) (s1 : Int32) (s2 : Int32) (M : zM), zOut [47, 48] [] M0 M → f9_pull_85 a1 v2 v3 s1 s2 M = some (r1, Mr) → zOut [47, 48] [] M0 Mr := by
  intro v2 v3 s1 s2 M ho h
  rw [f9_pull_85] at h
  obtain ⟨x1, hx1, h⟩ := z_bind h
  obtain ⟨M2, hM2, h⟩ := z_bind h
  replace ho := ho.pI hM2 (by simp)
  obtain ⟨x3, hx3, h⟩ := z_bind h
  replace ho := ho.si 48 6 x3 (by simp)
  replace ho := ho.si 48 7 (zrem ((zsi M2 48 6 x3).1 a1 8) (7 : Int32)) (by simp)
  obtain ⟨p4, hp4, h⟩ := z_bind h
  replace ho := ho.call (o_X9_ruled hp4) (by simp) (by simp)
  obtain ⟨rfl, rfl⟩ := z_ret2 h
  exact ho
set_option maxRecDepth 20000 in
set_option maxHeartbeats 4000000 in
theorem o_X9_pull {a1 : Nat} {v2 : Int32} {v3 : Int32} {M : zM} {r1 : Int32} {Mr : zM} (h : f9_pull a1 v2 v3 M = some (r1, Mr)) : zOut [47, 48] [] M Mr := by
  have ho : zOut [47, 48] [] M M := zOut.rf
  rw [f9_pull] at h
  obtain ⟨x1, hx1, h⟩ := z_bind h
  replace ho := ho.si 48 0 v2 (by simp)
  replace ho := ho.si 48 1 v3 (by simp)
  obtain ⟨x2, hx2, h⟩ := z_bind h
  replace ho := ho.si 48 2 x2 (by simp)
  obtain ⟨x3, hx3, h⟩ := z_bind h
  obtain ⟨x4, hx4, h⟩ := z_bind h
  replace ho := ho.si 48 3 x4 (by simp)
  obtain ⟨x5, hx5, h⟩ := z_bind h
  replace ho := ho.si 48 4 x5 (by simp)
  by_cases hc : v3 = 0
  · replace h := (if_pos hc).symm.trans h
    exact o9_pull_85 _ _ _ _ _ ho h
  · replace h := (if_neg hc).symm.trans h
    obtain ⟨x6, hx6, h⟩ := z_bind h
    exact o9_pull_85 _ _ _ _ _ ho h
set_option maxRecDepth 20000 in
set_option maxHeartbeats 4000000 in
theorem o9_strongest_54 {a1 : Nat} {r1 : Int32} {Mr : zM} {M0 : zM} {k9 : Int32 → Int32 → Int32 → zM → Option (Int32 × zM)} (hk9 : ∀ (v2 : Int32) (v3 : Int32) (v4 : Int32) (M : zM), zOut [47, 48] [] M0 M → k9 v2 v3 v4 M = some (r1, Mr) → zOut [47, 48] [] M0 Mr) : ∀ (v2 : Int32) (v3 : Int32) (v4 : Int32) (s0 : Int32) (M : zM), zOut [47, 48] [] M0 M → f9_strongest_54 a1 k9 v2 v3 v4 s0 M = some (r1, Mr) → zOut [47, 48] [] M0 Mr := by
  intro v2 v3 v4 s0 M ho h
  rw [f9_strongest_54] at h
  exact hk9 _ _ _ _ ho h
set_option maxRecDepth 20000 in
set_option maxHeartbeats 4000000 in
theorem o9_strongest_9 {a1 : Nat} {r1 : Int32} {Mr : zM} {M0 : zM} : ∀ (n : Nat) (v2 : Int32) (v3 : Int32) (v4 : Int32) (M : zM), zOut [47, 48] [] M0 M → f9_strongest_9 a1 n v2 v3 v4 M = some (r1, Mr) → zOut [47, 48] [] M0 Mr := by
  intro n
  induction n with
  | zero => intro v2 v3 v4 M ho h; cases h
  | succ n ih =>
    intro v2 v3 v4 M ho h
    rw [f9_strongest_9] at h
    by_cases hc : (12 : Int32) ≤ v4
    · replace h := (if_pos hc).symm.trans h
      obtain ⟨rfl, rfl⟩ := z_ret2 h
      exact ho
    · replace h := (if_neg hc).symm.trans h
      obtain ⟨x1, hx1, h⟩ := z_bind h
      by_cases hc : x1 = 0
      · replace h := (if_pos hc).symm.trans h
        exact o9_strongest_54 (fun u0 u1 u2 u3 ho h => ih u0 u1 u2 u3 ho h) _ _ _ _ _ ho h
      · replace h := (if_neg hc).symm.trans h
        obtain ⟨p2, hp2, h⟩ := z_bind h
        replace ho := ho.call (o_X9_pull hp2) (by simp) (by simp)
        exact o9_strongest_54 (fun u0 u1 u2 u3 ho h => ih u0 u1 u2 u3 ho h) _ _ _ _ _ ho h
set_option maxRecDepth 20000 in
set_option maxHeartbeats 4000000 in
theorem o_X9_strongest {a1 : Nat} {M : zM} {r1 : Int32} {Mr : zM} (h : f9_strongest a1 M = some (r1, Mr)) : zOut [47, 48] [] M Mr := by
  have ho : zOut [47, 48] [] M M := zOut.rf
  rw [f9_strongest] at h
  exact o9_strongest_9 zfuel _ _ _ _ ho h
set_option maxRecDepth 20000 in
set_option maxHeartbeats 4000000 in
theorem o_X9_nextOf {a1 : Nat} {M : zM} {r1 : Int32} {Mr : zM} (h : f9_nextOf a1 M = some (r1, Mr)) : zOut [47, 48] [] M Mr := by
  have ho : zOut [47, 48] [] M M := zOut.rf
  rw [f9_nextOf] at h
  obtain ⟨p1, hp1, h⟩ := z_bind h
  replace ho := ho.call (o_X9_strongest hp1) (by simp) (by simp)
  obtain ⟨x2, hx2, h⟩ := z_bind h
  obtain ⟨rfl, rfl⟩ := z_ret2 h
  exact ho
set_option maxRecDepth 20000 in
set_option maxHeartbeats 4000000 in
theorem o9_cell_29 {r1 : Int32} {Mr : zM} {M0 : zM} : ∀ (M : zM), zOut [] [0] M0 M → f9_cell_29 M = some (r1, Mr) → zOut [] [0] M0 Mr := by
  intro M ho h
  rw [f9_cell_29] at h
  obtain ⟨p1, hp1, h⟩ := z_bind h
  replace ho := ho.call (o_X9_refuse hp1) (by simp) (by simp)
  obtain ⟨rfl, rfl⟩ := z_ret2 h
  exact ho
set_option maxRecDepth 20000 in
set_option maxHeartbeats 4000000 in
theorem o_X9_cell {v1 : Int32} {v2 : Int32} {M : zM} {r1 : Int32} {Mr : zM} (h : f9_cell v1 v2 M = some (r1, Mr)) : zOut [] [0] M Mr := by
  have ho : zOut [] [0] M M := zOut.rf
  rw [f9_cell] at h
  replace ho := ho.si 39 0 (0 : Int32) (by simp)
  obtain ⟨x1, hx1, h⟩ := z_bind h
  by_cases hc : x1 = 0
  · replace h := (if_pos hc).symm.trans h
    exact o9_cell_29 _ ho h
  · replace h := (if_neg hc).symm.trans h
    obtain ⟨x2, hx2, h⟩ := z_bind h
    by_cases hc : x2 = 0
    · replace h := (if_pos hc).symm.trans h
      exact o9_cell_29 _ ho h
    · replace h := (if_neg hc).symm.trans h
      obtain ⟨x3, hx3, h⟩ := z_bind h
      obtain ⟨x4, hx4, h⟩ := z_bind h
      obtain ⟨x5, hx5, h⟩ := z_bind h
      obtain ⟨rfl, rfl⟩ := z_ret2 h
      exact ho
set_option maxRecDepth 20000 in
set_option maxHeartbeats 4000000 in
theorem o9_thread_29 {r1 : Int32} {Mr : zM} {M0 : zM} : ∀ (M : zM), zOut [47, 48] [0] M0 M → f9_thread_29 M = some (r1, Mr) → zOut [47, 48] [0] M0 Mr := by
  intro M ho h
  rw [f9_thread_29] at h
  obtain ⟨p1, hp1, h⟩ := z_bind h
  replace ho := ho.call (o_X9_refuse hp1) (by simp) (by simp)
  obtain ⟨rfl, rfl⟩ := z_ret2 h
  exact ho
set_option maxRecDepth 20000 in
set_option maxHeartbeats 4000000 in
theorem o_X9_thread {v1 : Int32} {v2 : Int32} {v3 : Int32} {M : zM} {r1 : Int32} {Mr : zM} (h : f9_thread v1 v2 v3 M = some (r1, Mr)) : zOut [47, 48] [0] M Mr := by
  have ho : zOut [47, 48] [0] M M := zOut.rf
  rw [f9_thread] at h
  replace ho := ho.si 39 0 (0 : Int32) (by simp)
  obtain ⟨x1, hx1, h⟩ := z_bind h
  by_cases hc : x1 = 0
  · replace h := (if_pos hc).symm.trans h
    exact o9_thread_29 _ ho h
  · replace h := (if_neg hc).symm.trans h
    obtain ⟨x2, hx2, h⟩ := z_bind h
    by_cases hc : x2 = 0
    · replace h := (if_pos hc).symm.trans h
      exact o9_thread_29 _ ho h
    · replace h := (if_neg hc).symm.trans h
      obtain ⟨x3, hx3, h⟩ := z_bind h
      by_cases hc1 : v3 = (0 : Int32)
      · replace h := (if_pos hc1).symm.trans h
        obtain ⟨rfl, rfl⟩ := z_ret2 h
        exact ho
      replace h := (if_neg hc1).symm.trans h
      by_cases hc2 : v3 = (1 : Int32)
      · replace h := (if_pos hc2).symm.trans h
        obtain ⟨x4, hx4, h⟩ := z_bind h
        obtain ⟨x5, hx5, h⟩ := z_bind h
        obtain ⟨rfl, rfl⟩ := z_ret2 h
        exact ho
      replace h := (if_neg hc2).symm.trans h
      by_cases hc3 : v3 = (2 : Int32)
      · replace h := (if_pos hc3).symm.trans h
        obtain ⟨x4, hx4, h⟩ := z_bind h
        obtain ⟨rfl, rfl⟩ := z_ret2 h
        exact ho
      replace h := (if_neg hc3).symm.trans h
      by_cases hc4 : v3 = (3 : Int32)
      · replace h := (if_pos hc4).symm.trans h
        obtain ⟨x4, hx4, h⟩ := z_bind h
        obtain ⟨x5, hx5, h⟩ := z_bind h
        obtain ⟨rfl, rfl⟩ := z_ret2 h
        exact ho
      replace h := (if_neg hc4).symm.trans h
      obtain ⟨p4, hp4, h⟩ := z_bind h
      replace ho := ho.call (o_X9_pull hp4) (by simp) (by simp)
      obtain ⟨rfl, rfl⟩ := z_ret2 h
      exact ho
set_option maxRecDepth 20000 in
set_option maxHeartbeats 4000000 in
theorem o9_sheet_117 {r1 : Int32} {Mr : zM} {M0 : zM} {k46 : Int32 → Int32 → Int32 → Int32 → Int32 → Int32 → zM → Option (Int32 × zM)} (hk46 : ∀ (v1 : Int32) (v2 : Int32) (v4 : Int32) (v5 : Int32) (v6 : Int32) (v7 : Int32) (M : zM), zOut [41] [0] M0 M → k46 v1 v2 v4 v5 v6 v7 M = some (r1, Mr) → zOut [41] [0] M0 Mr) : ∀ (v1 : Int32) (v2 : Int32) (v4 : Int32) (v5 : Int32) (v6 : Int32) (v7 : Int32) (s1 : Int32) (s2 : Int32) (M : zM), zOut [41] [0] M0 M → f9_sheet_117 k46 v1 v2 v4 v5 v6 v7 s1 s2 M = some (r1, Mr) → zOut [41] [0] M0 Mr := by
  intro v1 v2 v4 v5 v6 v7 s1 s2 M ho h
  rw [f9_sheet_117] at h
  obtain ⟨M1, hM1, h⟩ := z_bind h
  replace ho := ho.pI hM1 (by simp)
  obtain ⟨x2, hx2, h⟩ := z_bind h
  exact hk46 _ _ _ _ _ _ _ ho h
set_option maxRecDepth 20000 in
set_option maxHeartbeats 4000000 in
theorem o9_sheet_46 {r1 : Int32} {Mr : zM} {M0 : zM} : ∀ (n : Nat) (v1 : Int32) (v2 : Int32) (v4 : Int32) (v5 : Int32) (v6 : Int32) (v7 : Int32) (M : zM), zOut [41] [0] M0 M → f9_sheet_46 n v1 v2 v4 v5 v6 v7 M = some (r1, Mr) → zOut [41] [0] M0 Mr := by
  intro n
  induction n with
  | zero => intro v1 v2 v4 v5 v6 v7 M ho h; cases h
  | succ n ih =>
    intro v1 v2 v4 v5 v6 v7 M ho h
    rw [f9_sheet_46] at h
    by_cases hc : (M.1 41 6) ≤ v7
    · replace h := (if_pos hc).symm.trans h
      obtain ⟨rfl, rfl⟩ := z_ret2 h
      exact ho
    · replace h := (if_neg hc).symm.trans h
      by_cases hc : v1 = (3 : Int32)
      · replace h := (if_pos hc).symm.trans h
        exact o9_sheet_117 (fun u0 u1 u2 u3 u4 u5 u6 ho h => ih u0 u1 u2 u3 u4 u5 u6 ho h) _ _ _ _ _ _ _ _ _ ho h
      · replace h := (if_neg hc).symm.trans h
        by_cases hc : v7 < v2
        · replace h := (if_pos hc).symm.trans h
          obtain ⟨x1, hx1, h⟩ := z_bind h
          exact o9_sheet_117 (fun u0 u1 u2 u3 u4 u5 u6 ho h => ih u0 u1 u2 u3 u4 u5 u6 ho h) _ _ _ _ _ _ _ _ _ ho h
        · replace h := (if_neg hc).symm.trans h
          exact o9_sheet_117 (fun u0 u1 u2 u3 u4 u5 u6 ho h => ih u0 u1 u2 u3 u4 u5 u6 ho h) _ _ _ _ _ _ _ _ _ ho h
set_option maxRecDepth 20000 in
set_option maxHeartbeats 4000000 in
theorem o9_sheet_37 {r1 : Int32} {Mr : zM} {M0 : zM} : ∀ (v1 : Int32) (v2 : Int32) (v3 : Int32) (v4 : Int32) (M : zM), zOut [41] [0] M0 M → f9_sheet_37 v1 v2 v3 v4 M = some (r1, Mr) → zOut [41] [0] M0 Mr := by
  intro v1 v2 v3 v4 M ho h
  rw [f9_sheet_37] at h
  exact o9_sheet_46 zfuel _ _ _ _ _ _ _ ho h
set_option maxRecDepth 20000 in
set_option maxHeartbeats 4000000 in
theorem o_X9_sheet {v1 : Int32} {v2 : Int32} {v3 : Int32} {v4 : Int32} {M : zM} {r1 : Int32} {Mr : zM} (h : f9_sheet v1 v2 v3 v4 M = some (r1, Mr)) : zOut [41] [0] M Mr := by
  have ho : zOut [41] [0] M M := zOut.rf
  rw [f9_sheet] at h
  replace ho := ho.si 39 0 (0 : Int32) (by simp)
  obtain ⟨x1, hx1, h⟩ := z_bind h
  by_cases hc : x1 = 0
  · replace h := (if_pos hc).symm.trans h
    obtain ⟨rfl, rfl⟩ := z_ret2 h
    exact ho
  · replace h := (if_neg hc).symm.trans h
    by_cases hc : v2 ≤ (6 : Int32)
    · replace h := (if_pos hc).symm.trans h
      by_cases hc : v1 = (3 : Int32)
      · replace h := (if_pos hc).symm.trans h
        exact o9_sheet_37 _ _ _ _ _ ho h
      · replace h := (if_neg hc).symm.trans h
        by_cases hc : 0 ≤ v2
        · replace h := (if_pos hc).symm.trans h
          exact o9_sheet_37 _ _ _ _ _ ho h
        · replace h := (if_neg hc).symm.trans h
          obtain ⟨rfl, rfl⟩ := z_ret2 h
          exact ho
    · replace h := (if_neg hc).symm.trans h
      obtain ⟨rfl, rfl⟩ := z_ret2 h
      exact ho
set_option maxRecDepth 20000 in
set_option maxHeartbeats 4000000 in
theorem o9_putsBy_2 {Mr : zM} {M0 : zM} : ∀ (n : Nat) (v1 : Int32) (M : zM), zOut [49] [] M0 M → f9_putsBy_2 n v1 M = some Mr → zOut [49] [] M0 Mr := by
  intro n
  induction n with
  | zero => intro v1 M ho h; cases h
  | succ n ih =>
    intro v1 M ho h
    rw [f9_putsBy_2] at h
    by_cases hc : (9 : Int32) ≤ v1
    · replace h := (if_pos hc).symm.trans h
      obtain rfl := z_ret1 h
      exact ho
    · replace h := (if_neg hc).symm.trans h
      obtain ⟨x1, hx1, h⟩ := z_bind h
      obtain ⟨M2, hM2, h⟩ := z_bind h
      replace ho := ho.pI hM2 (by simp)
      exact ih _ _ ho h
set_option maxRecDepth 20000 in
set_option maxHeartbeats 4000000 in
theorem o_X9_putsBy {M : zM} {Mr : zM} (h : f9_putsBy M = some Mr) : zOut [49] [] M Mr := by
  have ho : zOut [49] [] M M := zOut.rf
  rw [f9_putsBy] at h
  exact o9_putsBy_2 zfuel _ _ ho h
set_option maxRecDepth 20000 in
set_option maxHeartbeats 4000000 in
theorem o9_adds_21 {r1 : Int32} {Mr : zM} {M0 : zM} : ∀ (n : Nat) (v1 : Int32) (v2 : Int32) (M : zM), zOut [49] [18] M0 M → f9_adds_21 n v1 v2 M = some (r1, Mr) → zOut [49] [18] M0 Mr := by
  intro n
  induction n with
  | zero => intro v1 v2 M ho h; cases h
  | succ n ih =>
    intro v1 v2 M ho h
    rw [f9_adds_21] at h
    by_cases hc : (135 : Int32) ≤ v2
    · replace h := (if_pos hc).symm.trans h
      replace ho := ho.si 39 18 ((M.1 39 18) - (1 : Int32)) (by simp)
      obtain ⟨rfl, rfl⟩ := z_ret2 h
      exact ho
    · replace h := (if_neg hc).symm.trans h
      obtain ⟨x1, hx1, h⟩ := z_bind h
      obtain ⟨M2, hM2, h⟩ := z_bind h
      replace ho := ho.pI hM2 (by simp)
      exact ih _ _ _ ho h
set_option maxRecDepth 20000 in
set_option maxHeartbeats 4000000 in
theorem o_X9_adds {v1 : Int32} {M : zM} {r1 : Int32} {Mr : zM} (h : f9_adds v1 M = some (r1, Mr)) : zOut [49] [18] M Mr := by
  have ho : zOut [49] [18] M M := zOut.rf
  rw [f9_adds] at h
  replace ho := ho.si 39 18 ((M.1 39 18) + (1 : Int32)) (by simp)
  by_cases hc : ((zsi M 39 18 ((M.1 39 18) + (1 : Int32))).1 39 18) ≤ (15 : Int32)
  · replace h := (if_pos hc).symm.trans h
    obtain ⟨rfl, rfl⟩ := z_ret2 h
    exact ho
  · replace h := (if_neg hc).symm.trans h
    exact o9_adds_21 zfuel _ _ _ ho h
set_option maxRecDepth 20000 in
set_option maxHeartbeats 4000000 in
theorem o_X9_counted {v1 : Int32} {M : zM} {r1 : Int32} {Mr : zM} (h : f9_counted v1 M = some (r1, Mr)) : zOut [49] [18] M Mr := by
  have ho : zOut [49] [18] M M := zOut.rf
  rw [f9_counted] at h
  by_cases hc : 0 ≤ v1
  · replace h := (if_pos hc).symm.trans h
    obtain ⟨p1, hp1, h⟩ := z_bind h
    replace ho := ho.call (o_X9_adds hp1) (by simp) (by simp)
    obtain ⟨rfl, rfl⟩ := z_ret2 h
    exact ho
  · replace h := (if_neg hc).symm.trans h
    obtain ⟨rfl, rfl⟩ := z_ret2 h
    exact ho
set_option maxRecDepth 20000 in
set_option maxHeartbeats 4000000 in
theorem o9_undo_26 {r1 : Int32} {Mr : zM} {M0 : zM} : ∀ (n : Nat) (v1 : Int32) (M : zM), zOut [41] [0, 18] M0 M → f9_undo_26 n v1 M = some (r1, Mr) → zOut [41] [0, 18] M0 Mr := by
  intro n
  induction n with
  | zero => intro v1 M ho h; cases h
  | succ n ih =>
    intro v1 M ho h
    rw [f9_undo_26] at h
    by_cases hc : (9 : Int32) ≤ v1
    · replace h := (if_pos hc).symm.trans h
      obtain ⟨rfl, rfl⟩ := z_ret2 h
      exact ho
    · replace h := (if_neg hc).symm.trans h
      obtain ⟨x1, hx1, h⟩ := z_bind h
      obtain ⟨M2, hM2, h⟩ := z_bind h
      replace ho := ho.pI hM2 (by simp)
      exact ih _ _ ho h
set_option maxRecDepth 20000 in
set_option maxHeartbeats 4000000 in
theorem o_X9_undo {M : zM} {r1 : Int32} {Mr : zM} (h : f9_undo M = some (r1, Mr)) : zOut [41] [0, 18] M Mr := by
  have ho : zOut [41] [0, 18] M M := zOut.rf
  rw [f9_undo] at h
  replace ho := ho.si 39 0 (0 : Int32) (by simp)
  by_cases hc : ((zsi M 39 0 (0 : Int32)).1 39 18) = 0
  · replace h := (if_pos hc).symm.trans h
    obtain ⟨rfl, rfl⟩ := z_ret2 h
    exact ho
  · replace h := (if_neg hc).symm.trans h
    replace ho := ho.si 39 18 (((zsi M 39 0 (0 : Int32)).1 39 18) - (1 : Int32)) (by simp)
    exact o9_undo_26 zfuel _ _ ho h
