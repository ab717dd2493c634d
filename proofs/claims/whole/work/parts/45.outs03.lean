set_option maxRecDepth 20000 in
set_option maxHeartbeats 4000000 in
theorem o8_words_75 {r1 : Int32} {Mr : zM} {M0 : zM} {k33 : Int32 → Int32 → Int32 → Int32 → Int32 → Int32 → zM → Option (Int32 × zM)} (hk33 : ∀ (v1 : Int32) (v2 : Int32) (v3 : Int32) (v4 : Int32) (v5 : Int32) (v6 : Int32) (M : zM), zOut [10, 9] [] M0 M → k33 v1 v2 v3 v4 v5 v6 M = some (r1, Mr) → zOut [10, 9] [] M0 Mr) : ∀ (v1 : Int32) (v2 : Int32) (v3 : Int32) (v4 : Int32) (v5 : Int32) (v6 : Int32) (M : zM), zOut [10, 9] [] M0 M → f8_words_75 k33 v1 v2 v3 v4 v5 v6 M = some (r1, Mr) → zOut [10, 9] [] M0 Mr := by
  intro v1 v2 v3 v4 v5 v6 M ho h
  rw [f8_words_75] at h
  exact hk33 _ _ _ _ _ _ _ ho h
set_option maxRecDepth 20000 in
set_option maxHeartbeats 4000000 in
theorem o8_words_33 {r1 : Int32} {Mr : zM} {M0 : zM} : ∀ (n : Nat) (v1 : Int32) (v2 : Int32) (v3 : Int32) (v4 : Int32) (v5 : Int32) (v6 : Int32) (M : zM), zOut [10, 9] [] M0 M → f8_words_33 n v1 v2 v3 v4 v5 v6 M = some (r1, Mr) → zOut [10, 9] [] M0 Mr := by
  intro n
  induction n with
  | zero => intro v1 v2 v3 v4 v5 v6 M ho h; cases h
  | succ n ih =>
    intro v1 v2 v3 v4 v5 v6 M ho h
    rw [f8_words_33] at h
    by_cases hc : (zshl (1 : Int32) v1) ≤ v6
    · replace h := (if_pos hc).symm.trans h
      obtain ⟨M1, hM1, h⟩ := z_bind h
      replace ho := ho.call (o_X3_clear hM1) (by simp) (by simp)
      by_cases hc : v3 ≤ 0
      · replace h := (if_pos hc).symm.trans h
        obtain ⟨rfl, rfl⟩ := z_ret2 h
        exact ho
      · replace h := (if_neg hc).symm.trans h
        obtain ⟨M2, hM2, h⟩ := z_bind h
        replace ho := ho.call (o_X3_tell_ hM2) (by simp) (by simp)
        obtain ⟨rfl, rfl⟩ := z_ret2 h
        exact ho
    · replace h := (if_neg hc).symm.trans h
      obtain ⟨x1, hx1, h⟩ := z_bind h
      obtain ⟨x2, hx2, h⟩ := z_bind h
      by_cases hc : x2 = v2
      · replace h := (if_pos hc).symm.trans h
        exact o8_words_75 (fun u0 u1 u2 u3 u4 u5 u6 ho h => ih u0 u1 u2 u3 u4 u5 u6 ho h) _ _ _ _ _ _ _ ho h
      · replace h := (if_neg hc).symm.trans h
        exact o8_words_75 (fun u0 u1 u2 u3 u4 u5 u6 ho h => ih u0 u1 u2 u3 u4 u5 u6 ho h) _ _ _ _ _ _ _ ho h
set_option maxRecDepth 20000 in
set_option maxHeartbeats 4000000 in
theorem o_X8_words {v1 : Int32} {v2 : Int32} {M : zM} {r1 : Int32} {Mr : zM} (h : f8_words v1 v2 M = some (r1, Mr)) : zOut [10, 9] [] M Mr := by
  have ho : zOut [10, 9] [] M M := zOut.rf
  rw [f8_words] at h
  by_cases hc : v1 < (1 : Int32)
  · replace h := (if_pos hc).symm.trans h
    obtain ⟨rfl, rfl⟩ := z_ret2 h
    exact ho
  · replace h := (if_neg hc).symm.trans h
    by_cases hc : (6 : Int32) < v1
    · replace h := (if_pos hc).symm.trans h
      obtain ⟨rfl, rfl⟩ := z_ret2 h
      exact ho
    · replace h := (if_neg hc).symm.trans h
      by_cases hc : v2 < 0
      · replace h := (if_pos hc).symm.trans h
        obtain ⟨rfl, rfl⟩ := z_ret2 h
        exact ho
      · replace h := (if_neg hc).symm.trans h
        by_cases hc : v2 ≤ v1
        · replace h := (if_pos hc).symm.trans h
          exact o8_words_33 zfuel _ _ _ _ _ _ _ ho h
        · replace h := (if_neg hc).symm.trans h
          obtain ⟨rfl, rfl⟩ := z_ret2 h
          exact ho
set_option maxRecDepth 20000 in
set_option maxHeartbeats 4000000 in
theorem o8_hangs_110 {r1 : Int32} {Mr : zM} {M0 : zM} : ∀ (v3 : Int32) (v4 : Int32) (M : zM), zOut [10, 22, 23, 9] [] M0 M → f8_hangs_110 v3 v4 M = some (r1, Mr) → zOut [10, 22, 23, 9] [] M0 Mr := by
  intro v3 v4 M ho h
  rw [f8_hangs_110] at h
  obtain ⟨M1, hM1, h⟩ := z_bind h
  replace ho := ho.call (o_X3_tell_ hM1) (by simp) (by simp)
  obtain ⟨rfl, rfl⟩ := z_ret2 h
  exact ho
set_option maxRecDepth 20000 in
set_option maxHeartbeats 4000000 in
theorem o8_hangs_29 {r1 : Int32} {Mr : zM} {M0 : zM} : ∀ (n : Nat) (v1 : Int32) (v2 : Int32) (v3 : Int32) (v4 : Int32) (v5 : Int32) (M : zM), zOut [10, 22, 23, 9] [] M0 M → f8_hangs_29 n v1 v2 v3 v4 v5 M = some (r1, Mr) → zOut [10, 22, 23, 9] [] M0 Mr := by
  intro n
  induction n with
  | zero => intro v1 v2 v3 v4 v5 M ho h; cases h
  | succ n ih =>
    intro v1 v2 v3 v4 v5 M ho h
    rw [f8_hangs_29] at h
    by_cases hc : (12 : Int32) ≤ v5
    · replace h := (if_pos hc).symm.trans h
      exact o8_hangs_110 _ _ _ ho h
    · replace h := (if_neg hc).symm.trans h
      by_cases hc : v2 = 0
      · replace h := (if_pos hc).symm.trans h
        exact o8_hangs_110 _ _ _ ho h
      · replace h := (if_neg hc).symm.trans h
        obtain ⟨x1, hx1, h⟩ := z_bind h
        obtain ⟨x2, hx2, h⟩ := z_bind h
        exact ih _ _ _ _ _ _ ho h
set_option maxRecDepth 20000 in
set_option maxHeartbeats 4000000 in
theorem o_X8_hangs {M : zM} {r1 : Int32} {Mr : zM} (h : f8_hangs M = some (r1, Mr)) : zOut [10, 22, 23, 9] [] M Mr := by
  have ho : zOut [10, 22, 23, 9] [] M M := zOut.rf
  rw [f8_hangs] at h
  obtain ⟨x1, hx1, h⟩ := z_bind h
  obtain ⟨M2, hM2, h⟩ := z_bind h
  replace ho := ho.call (o_X0_tie hM2) (by simp) (by simp)
  exact o8_hangs_29 zfuel _ _ _ _ _ _ ho h
set_option maxRecDepth 20000 in
set_option maxHeartbeats 4000000 in
theorem o8_spares_60 {r1 : Int32} {Mr : zM} {M0 : zM} {k23 : Int32 → Int32 → Int32 → zM → Option (Int32 × zM)} (hk23 : ∀ (v1 : Int32) (v2 : Int32) (v3 : Int32) (M : zM), zOut [10, 22, 23, 9] [] M0 M → k23 v1 v2 v3 M = some (r1, Mr) → zOut [10, 22, 23, 9] [] M0 Mr) : ∀ (v1 : Int32) (v2 : Int32) (v3 : Int32) (M : zM), zOut [10, 22, 23, 9] [] M0 M → f8_spares_60 k23 v1 v2 v3 M = some (r1, Mr) → zOut [10, 22, 23, 9] [] M0 Mr := by
  intro v1 v2 v3 M ho h
  rw [f8_spares_60] at h
  exact hk23 _ _ _ _ ho h
set_option maxRecDepth 20000 in
set_option maxHeartbeats 4000000 in
theorem o8_spares_23 {r1 : Int32} {Mr : zM} {M0 : zM} : ∀ (n : Nat) (v1 : Int32) (v2 : Int32) (v3 : Int32) (M : zM), zOut [10, 22, 23, 9] [] M0 M → f8_spares_23 n v1 v2 v3 M = some (r1, Mr) → zOut [10, 22, 23, 9] [] M0 Mr := by
  intro n
  induction n with
  | zero => intro v1 v2 v3 M ho h; cases h
  | succ n ih =>
    intro v1 v2 v3 M ho h
    rw [f8_spares_23] at h
    by_cases hc : (12 : Int32) ≤ v3
    · replace h := (if_pos hc).symm.trans h
      obtain ⟨x1, hx1, h⟩ := z_bind h
      obtain ⟨M2, hM2, h⟩ := z_bind h
      replace ho := ho.call (o_X3_tell hM2) (by simp) (by simp)
      obtain ⟨rfl, rfl⟩ := z_ret2 h
      exact ho
    · replace h := (if_neg hc).symm.trans h
      by_cases hc : (v1 &&& (zshl (1 : Int32) v3)) = 0
      · replace h := (if_pos hc).symm.trans h
        exact o8_spares_60 (fun u0 u1 u2 u3 ho h => ih u0 u1 u2 u3 ho h) _ _ _ _ ho h
      · replace h := (if_neg hc).symm.trans h
        obtain ⟨x1, hx1, h⟩ := z_bind h
        by_cases hc : x1 = 0
        · replace h := (if_pos hc).symm.trans h
          exact o8_spares_60 (fun u0 u1 u2 u3 ho h => ih u0 u1 u2 u3 ho h) _ _ _ _ ho h
        · replace h := (if_neg hc).symm.trans h
          exact o8_spares_60 (fun u0 u1 u2 u3 ho h => ih u0 u1 u2 u3 ho h) _ _ _ _ ho h
set_option maxRecDepth 20000 in
set_option maxHeartbeats 4000000 in
theorem o_X8_spares {M : zM} {r1 : Int32} {Mr : zM} (h : f8_spares M = some (r1, Mr)) : zOut [10, 22, 23, 9] [] M Mr := by
  have ho : zOut [10, 22, 23, 9] [] M M := zOut.rf
  rw [f8_spares] at h
  obtain ⟨x1, hx1, h⟩ := z_bind h
  obtain ⟨M2, hM2, h⟩ := z_bind h
  replace ho := ho.call (o_X0_tie hM2) (by simp) (by simp)
  exact o8_spares_23 zfuel _ _ _ _ ho h
set_option maxRecDepth 20000 in
set_option maxHeartbeats 4000000 in
theorem o8_mends_156 {r1 : Int32} {Mr : zM} {M0 : zM} {k64 : Int32 → Int32 → zM → Option (Int32 × zM)} (hk64 : ∀ (v1 : Int32) (v3 : Int32) (M : zM), zOut [10, 22, 23, 9] [] M0 M → k64 v1 v3 M = some (r1, Mr) → zOut [10, 22, 23, 9] [] M0 Mr) : ∀ (v1 : Int32) (v3 : Int32) (M : zM), zOut [10, 22, 23, 9] [] M0 M → f8_mends_156 k64 v1 v3 M = some (r1, Mr) → zOut [10, 22, 23, 9] [] M0 Mr := by
  intro v1 v3 M ho h
  rw [f8_mends_156] at h
  exact hk64 _ _ _ ho h
set_option maxRecDepth 20000 in
set_option maxHeartbeats 4000000 in
theorem o8_mends_64 {r1 : Int32} {Mr : zM} {M0 : zM} : ∀ (n : Nat) (v1 : Int32) (v3 : Int32) (M : zM), zOut [10, 22, 23, 9] [] M0 M → f8_mends_64 n v1 v3 M = some (r1, Mr) → zOut [10, 22, 23, 9] [] M0 Mr := by
  intro n
  induction n with
  | zero => intro v1 v3 M ho h; cases h
  | succ n ih =>
    intro v1 v3 M ho h
    rw [f8_mends_64] at h
    by_cases hc : ((6 : Int32) * (M.1 1 0)) ≤ v3
    · replace h := (if_pos hc).symm.trans h
      obtain ⟨rfl, rfl⟩ := z_ret2 h
      exact ho
    · replace h := (if_neg hc).symm.trans h
      obtain ⟨x1, hx1, h⟩ := z_bind h
      by_cases hc : x1 = 0
      · replace h := (if_pos hc).symm.trans h
        exact o8_mends_156 (fun u0 u1 u2 ho h => ih u0 u1 u2 ho h) _ _ _ ho h
      · replace h := (if_neg hc).symm.trans h
        obtain ⟨M2, hM2, h⟩ := z_bind h
        replace ho := ho.call (o_X0_turn hM2) (by simp) (by simp)
        obtain ⟨p3, hp3, h⟩ := z_bind h
        replace ho := ho.call (o_X8_mendingCell hp3) (by simp) (by simp)
        obtain ⟨M4, hM4, h⟩ := z_bind h
        replace ho := ho.call (o_X0_turn hM4) (by simp) (by simp)
        by_cases hc : p3.1 = (-1 : Int32)
        · replace h := (if_pos hc).symm.trans h
          exact o8_mends_156 (fun u0 u1 u2 ho h => ih u0 u1 u2 ho h) _ _ _ ho h
        · replace h := (if_neg hc).symm.trans h
          obtain ⟨M5, hM5, h⟩ := z_bind h
          replace ho := ho.call (o_X3_tell_ hM5) (by simp) (by simp)
          obtain ⟨rfl, rfl⟩ := z_ret2 h
          exact ho
set_option maxRecDepth 20000 in
set_option maxHeartbeats 4000000 in
theorem o_X8_mends {M : zM} {r1 : Int32} {Mr : zM} (h : f8_mends M = some (r1, Mr)) : zOut [10, 22, 23, 9] [] M Mr := by
  have ho : zOut [10, 22, 23, 9] [] M M := zOut.rf
  rw [f8_mends] at h
  obtain ⟨x1, hx1, h⟩ := z_bind h
  obtain ⟨M2, hM2, h⟩ := z_bind h
  replace ho := ho.call (o_X0_tie hM2) (by simp) (by simp)
  obtain ⟨x3, hx3, h⟩ := z_bind h
  by_cases hc : x3 = 0
  · replace h := (if_pos hc).symm.trans h
    obtain ⟨p4, hp4, h⟩ := z_bind h
    replace ho := ho.call (o_X8_mendingCell hp4) (by simp) (by simp)
    by_cases hc : p4.1 = (-1 : Int32)
    · replace h := (if_pos hc).symm.trans h
      exact o8_mends_64 zfuel _ _ _ ho h
    · replace h := (if_neg hc).symm.trans h
      obtain ⟨M5, hM5, h⟩ := z_bind h
      replace ho := ho.call (o_X3_tell hM5) (by simp) (by simp)
      obtain ⟨rfl, rfl⟩ := z_ret2 h
      exact ho
  · replace h := (if_neg hc).symm.trans h
    obtain ⟨M4, hM4, h⟩ := z_bind h
    replace ho := ho.call (o_X3_clear hM4) (by simp) (by simp)
    obtain ⟨rfl, rfl⟩ := z_ret2 h
    exact ho
set_option maxRecDepth 20000 in
set_option maxHeartbeats 4000000 in
theorem o8_endures_96 {r1 : Int32} {Mr : zM} {M0 : zM} : ∀ (v1 : Int32) (v2 : Int32) (v3 : Int32) (M : zM), zOut [10, 21, 22, 23, 24, 25, 26, 9] [] M0 M → f8_endures_96 v1 v2 v3 M = some (r1, Mr) → zOut [10, 21, 22, 23, 24, 25, 26, 9] [] M0 Mr := by
  intro v1 v2 v3 M ho h
  rw [f8_endures_96] at h
  obtain ⟨p1, hp1, h⟩ := z_bind h
  replace ho := ho.call (o_X0_longestTaking hp1) (by simp) (by simp)
  obtain ⟨M2, hM2, h⟩ := z_bind h
  replace ho := ho.call (o_X3_tell_ hM2) (by simp) (by simp)
  obtain ⟨rfl, rfl⟩ := z_ret2 h
  exact ho
set_option maxRecDepth 20000 in
set_option maxHeartbeats 4000000 in
theorem o8_endures_74 {r1 : Int32} {Mr : zM} {M0 : zM} {k30 : Int32 → Int32 → Int32 → Int32 → Int32 → zM → Option (Int32 × zM)} (hk30 : ∀ (v1 : Int32) (v2 : Int32) (v3 : Int32) (v4 : Int32) (v5 : Int32) (M : zM), zOut [10, 21, 22, 23, 24, 25, 26, 9] [] M0 M → k30 v1 v2 v3 v4 v5 M = some (r1, Mr) → zOut [10, 21, 22, 23, 24, 25, 26, 9] [] M0 Mr) : ∀ (v1 : Int32) (v2 : Int32) (v3 : Int32) (v4 : Int32) (v5 : Int32) (M : zM), zOut [10, 21, 22, 23, 24, 25, 26, 9] [] M0 M → f8_endures_74 k30 v1 v2 v3 v4 v5 M = some (r1, Mr) → zOut [10, 21, 22, 23, 24, 25, 26, 9] [] M0 Mr := by
  intro v1 v2 v3 v4 v5 M ho h
  rw [f8_endures_74] at h
  by_cases hc : ((v4 - v1) &&& v1) = 0
  · replace h := (if_pos hc).symm.trans h
    exact o8_endures_96 _ _ _ _ ho h
  · replace h := (if_neg hc).symm.trans h
    exact hk30 _ _ _ _ _ _ ho h
set_option maxRecDepth 20000 in
set_option maxHeartbeats 4000000 in
theorem o8_endures_30 {r1 : Int32} {Mr : zM} {M0 : zM} : ∀ (n : Nat) (v1 : Int32) (v2 : Int32) (v3 : Int32) (v4 : Int32) (v5 : Int32) (M : zM), zOut [10, 21, 22, 23, 24, 25, 26, 9] [] M0 M → f8_endures_30 n v1 v2 v3 v4 v5 M = some (r1, Mr) → zOut [10, 21, 22, 23, 24, 25, 26, 9] [] M0 Mr := by
  intro n
  induction n with
  | zero => intro v1 v2 v3 v4 v5 M ho h; cases h
  | succ n ih =>
    intro v1 v2 v3 v4 v5 M ho h
    rw [f8_endures_30] at h
    by_cases hc : (4096 : Int32) ≤ v5
    · replace h := (if_pos hc).symm.trans h
      exact o8_endures_96 _ _ _ _ ho h
    · replace h := (if_neg hc).symm.trans h
      obtain ⟨x1, hx1, h⟩ := z_bind h
      by_cases hc : v2 ≤ x1
      · replace h := (if_pos hc).symm.trans h
        exact o8_endures_74 (fun u0 u1 u2 u3 u4 u5 ho h => ih u0 u1 u2 u3 u4 u5 ho h) _ _ _ _ _ _ ho h
      · replace h := (if_neg hc).symm.trans h
        obtain ⟨x2, hx2, h⟩ := z_bind h
        by_cases hc : x2 = 0
        · replace h := (if_pos hc).symm.trans h
          exact o8_endures_74 (fun u0 u1 u2 u3 u4 u5 ho h => ih u0 u1 u2 u3 u4 u5 ho h) _ _ _ _ _ _ ho h
        · replace h := (if_neg hc).symm.trans h
          exact o8_endures_74 (fun u0 u1 u2 u3 u4 u5 ho h => ih u0 u1 u2 u3 u4 u5 ho h) _ _ _ _ _ _ ho h
set_option maxRecDepth 20000 in
set_option maxHeartbeats 4000000 in
theorem o_X8_endures {M : zM} {r1 : Int32} {Mr : zM} (h : f8_endures M = some (r1, Mr)) : zOut [10, 21, 22, 23, 24, 25, 26, 9] [] M Mr := by
  have ho : zOut [10, 21, 22, 23, 24, 25, 26, 9] [] M M := zOut.rf
  rw [f8_endures] at h
  obtain ⟨M1, hM1, h⟩ := z_bind h
  replace ho := ho.call (o_X0_tabulate hM1) (by simp) (by simp)
  obtain ⟨x2, hx2, h⟩ := z_bind h
  exact o8_endures_30 zfuel _ _ _ _ _ _ ho h
set_option maxRecDepth 20000 in
set_option maxHeartbeats 4000000 in
theorem o8_differs_130 {r1 : Int32} {Mr : zM} {M0 : zM} {k92 : Int32 → Int32 → Int32 → Int32 → Int32 → zM → Option (Int32 × zM)} (hk92 : ∀ (v2 : Int32) (v3 : Int32) (v4 : Int32) (v5 : Int32) (v6 : Int32) (M : zM), zOut [10, 3, 4, 7, 9] [] M0 M → k92 v2 v3 v4 v5 v6 M = some (r1, Mr) → zOut [10, 3, 4, 7, 9] [] M0 Mr) : ∀ (v2 : Int32) (v3 : Int32) (v4 : Int32) (v5 : Int32) (v6 : Int32) (M : zM), zOut [10, 3, 4, 7, 9] [] M0 M → f8_differs_130 k92 v2 v3 v4 v5 v6 M = some (r1, Mr) → zOut [10, 3, 4, 7, 9] [] M0 Mr := by
  intro v2 v3 v4 v5 v6 M ho h
  rw [f8_differs_130] at h
  exact hk92 _ _ _ _ _ _ ho h
set_option maxRecDepth 20000 in
set_option maxHeartbeats 4000000 in
theorem o8_differs_92 {r1 : Int32} {Mr : zM} {M0 : zM} {k136 : Int32 → Int32 → Int32 → Int32 → zM → Option (Int32 × zM)} (hk136 : ∀ (v2 : Int32) (v3 : Int32) (v4 : Int32) (v5 : Int32) (M : zM), zOut [10, 3, 4, 7, 9] [] M0 M → k136 v2 v3 v4 v5 M = some (r1, Mr) → zOut [10, 3, 4, 7, 9] [] M0 Mr) : ∀ (n : Nat) (v2 : Int32) (v3 : Int32) (v4 : Int32) (v5 : Int32) (v6 : Int32) (M : zM), zOut [10, 3, 4, 7, 9] [] M0 M → f8_differs_92 k136 n v2 v3 v4 v5 v6 M = some (r1, Mr) → zOut [10, 3, 4, 7, 9] [] M0 Mr := by
  intro n
  induction n with
  | zero => intro v2 v3 v4 v5 v6 M ho h; cases h
  | succ n ih =>
    intro v2 v3 v4 v5 v6 M ho h
    rw [f8_differs_92] at h
    by_cases hc : (M.1 1 1) ≤ v6
    · replace h := (if_pos hc).symm.trans h
      exact hk136 _ _ _ _ _ ho h
    · replace h := (if_neg hc).symm.trans h
      obtain ⟨x1, hx1, h⟩ := z_bind h
      by_cases hc : v2 ≤ x1
      · replace h := (if_pos hc).symm.trans h
        exact o8_differs_130 (fun u0 u1 u2 u3 u4 u5 ho h => ih u0 u1 u2 u3 u4 u5 ho h) _ _ _ _ _ _ ho h
      · replace h := (if_neg hc).symm.trans h
        exact o8_differs_130 (fun u0 u1 u2 u3 u4 u5 ho h => ih u0 u1 u2 u3 u4 u5 ho h) _ _ _ _ _ _ ho h
set_option maxRecDepth 20000 in
set_option maxHeartbeats 4000000 in
theorem o8_differs_136 {r1 : Int32} {Mr : zM} {M0 : zM} {k77 : Int32 → Int32 → Int32 → Int32 → zM → Option (Int32 × zM)} (hk77 : ∀ (v2 : Int32) (v3 : Int32) (v4 : Int32) (v5 : Int32) (M : zM), zOut [10, 3, 4, 7, 9] [] M0 M → k77 v2 v3 v4 v5 M = some (r1, Mr) → zOut [10, 3, 4, 7, 9] [] M0 Mr) : ∀ (v2 : Int32) (v3 : Int32) (v4 : Int32) (v5 : Int32) (M : zM), zOut [10, 3, 4, 7, 9] [] M0 M → f8_differs_136 k77 v2 v3 v4 v5 M = some (r1, Mr) → zOut [10, 3, 4, 7, 9] [] M0 Mr := by
  intro v2 v3 v4 v5 M ho h
  rw [f8_differs_136] at h
  exact hk77 _ _ _ _ _ ho h
set_option maxRecDepth 20000 in
set_option maxHeartbeats 4000000 in
theorem o8_differs_77 {r1 : Int32} {Mr : zM} {M0 : zM} : ∀ (n : Nat) (v2 : Int32) (v3 : Int32) (v4 : Int32) (v5 : Int32) (M : zM), zOut [10, 3, 4, 7, 9] [] M0 M → f8_differs_77 n v2 v3 v4 v5 M = some (r1, Mr) → zOut [10, 3, 4, 7, 9] [] M0 Mr := by
  intro n
  induction n with
  | zero => intro v2 v3 v4 v5 M ho h; cases h
  | succ n ih =>
    intro v2 v3 v4 v5 M ho h
    rw [f8_differs_77] at h
    by_cases hc : (M.1 1 0) ≤ v5
    · replace h := (if_pos hc).symm.trans h
      obtain ⟨M1, hM1, h⟩ := z_bind h
      replace ho := ho.call (o_X3_tell_ hM1) (by simp) (by simp)
      obtain ⟨M2, hM2, h⟩ := z_bind h
      replace ho := ho.call (o_X3_add hM2) (by simp) (by simp)
      obtain ⟨x3, hx3, h⟩ := z_bind h
      obtain ⟨rfl, rfl⟩ := z_ret2 h
      exact ho
    · replace h := (if_neg hc).symm.trans h
      exact o8_differs_92 (fun u0 u1 u2 u3 u4 ho h => o8_differs_136 (fun u0 u1 u2 u3 u4 ho h => ih u0 u1 u2 u3 u4 ho h) u0 u1 u2 u3 u4 ho h) zfuel _ _ _ _ _ _ ho h
set_option maxRecDepth 20000 in
set_option maxHeartbeats 4000000 in
theorem o_X8_differs {M : zM} {r1 : Int32} {Mr : zM} (h : f8_differs M = some (r1, Mr)) : zOut [10, 3, 4, 7, 9] [] M Mr := by
  have ho : zOut [10, 3, 4, 7, 9] [] M M := zOut.rf
  rw [f8_differs] at h
  obtain ⟨p1, hp1, h⟩ := z_bind h
  replace ho := ho.call (o_X7_readFrom hp1) (by simp) (by simp)
  replace ho := ho.si 7 1 (0 : Int32) (by simp)
  by_cases hc : p1.1 = (-1 : Int32)
  · replace h := (if_pos hc).symm.trans h
    by_cases hc : ((zsi p1.2 7 1 (0 : Int32)).1 3 0) = ((zsi p1.2 7 1 (0 : Int32)).1 1 0)
    · replace h := (if_pos hc).symm.trans h
      by_cases hc : ((zsi p1.2 7 1 (0 : Int32)).1 3 1) = ((zsi p1.2 7 1 (0 : Int32)).1 1 1)
      · replace h := (if_pos hc).symm.trans h
        exact o8_differs_77 zfuel _ _ _ _ _ ho h
      · replace h := (if_neg hc).symm.trans h
        obtain ⟨rfl, rfl⟩ := z_ret2 h
        exact ho
    · replace h := (if_neg hc).symm.trans h
      obtain ⟨rfl, rfl⟩ := z_ret2 h
      exact ho
  · replace h := (if_neg hc).symm.trans h
    obtain ⟨rfl, rfl⟩ := z_ret2 h
    exact ho
set_option maxRecDepth 20000 in
set_option maxHeartbeats 4000000 in
theorem o8_looks_46 {r1 : Int32} {Mr : zM} {M0 : zM} : ∀ (v1 : Int32) (v2 : Int32) (v3 : Int32) (s0 : Int32) (M : zM), zOut [10, 9] [] M0 M → f8_looks_46 v1 v2 v3 s0 M = some (r1, Mr) → zOut [10, 9] [] M0 Mr := by
  intro v1 v2 v3 s0 M ho h
  rw [f8_looks_46] at h
  obtain ⟨M1, hM1, h⟩ := z_bind h
  replace ho := ho.call (o_X3_tell_ hM1) (by simp) (by simp)
  obtain ⟨M2, hM2, h⟩ := z_bind h
  replace ho := ho.call (o_X3_add hM2) (by simp) (by simp)
  obtain ⟨M3, hM3, h⟩ := z_bind h
  replace ho := ho.call (o_X3_add hM3) (by simp) (by simp)
  obtain ⟨rfl, rfl⟩ := z_ret2 h
  exact ho
set_option maxRecDepth 20000 in
set_option maxHeartbeats 4000000 in
theorem o_X8_looks {M : zM} {r1 : Int32} {Mr : zM} (h : f8_looks M = some (r1, Mr)) : zOut [10, 9] [] M Mr := by
  have ho : zOut [10, 9] [] M M := zOut.rf
  rw [f8_looks] at h
  obtain ⟨x1, hx1, h⟩ := z_bind h
  obtain ⟨x2, hx2, h⟩ := z_bind h
  obtain ⟨x3, hx3, h⟩ := z_bind h
  by_cases hc : (M.1 1 0) = (M.1 1 1)
  · replace h := (if_pos hc).symm.trans h
    obtain ⟨x4, hx4, h⟩ := z_bind h
    exact o8_looks_46 _ _ _ _ _ ho h
  · replace h := (if_neg hc).symm.trans h
    exact o8_looks_46 _ _ _ _ _ ho h
set_option maxRecDepth 20000 in
set_option maxHeartbeats 4000000 in
theorem o8_game_45 {r1 : Int32} {Mr : zM} {M0 : zM} : ∀ (s0 : Int32) (M : zM), zOut [10, 21, 22, 23, 24, 25, 26, 9] [] M0 M → f8_game_45 s0 M = some (r1, Mr) → zOut [10, 21, 22, 23, 24, 25, 26, 9] [] M0 Mr := by
  intro s0 M ho h
  rw [f8_game_45] at h
  obtain ⟨M1, hM1, h⟩ := z_bind h
  replace ho := ho.call (o_X3_clear hM1) (by simp) (by simp)
  by_cases hc : s0 = (-1 : Int32)
  · replace h := (if_pos hc).symm.trans h
    obtain ⟨rfl, rfl⟩ := z_ret2 h
    exact ho
  · replace h := (if_neg hc).symm.trans h
    obtain ⟨M2, hM2, h⟩ := z_bind h
    replace ho := ho.call (o_X3_tell hM2) (by simp) (by simp)
    obtain ⟨rfl, rfl⟩ := z_ret2 h
    exact ho
set_option maxRecDepth 20000 in
set_option maxHeartbeats 4000000 in
theorem o_X8_game {M : zM} {r1 : Int32} {Mr : zM} (h : f8_game M = some (r1, Mr)) : zOut [10, 21, 22, 23, 24, 25, 26, 9] [] M Mr := by
  have ho : zOut [10, 21, 22, 23, 24, 25, 26, 9] [] M M := zOut.rf
  rw [f8_game] at h
  obtain ⟨M1, hM1, h⟩ := z_bind h
  replace ho := ho.call (o_X0_tabulate hM1) (by simp) (by simp)
  obtain ⟨x2, hx2, h⟩ := z_bind h
  obtain ⟨x3, hx3, h⟩ := z_bind h
  by_cases hc : x3 = 0
  · replace h := (if_pos hc).symm.trans h
    exact o8_game_45 _ _ ho h
  · replace h := (if_neg hc).symm.trans h
    obtain ⟨p4, hp4, h⟩ := z_bind h
    replace ho := ho.call (o_X0_winningTake hp4) (by simp) (by simp)
    exact o8_game_45 _ _ ho h
set_option maxRecDepth 20000 in
set_option maxHeartbeats 4000000 in
theorem o8_odds_36 {r1 : Int32} {Mr : zM} {M0 : zM} : ∀ (n : Nat) (v1 : Int32) (v2 : Int32) (v3 : Int64) (v5 : Int32) (M : zM), zOut [10, 21, 22, 23, 24, 26, 9] [] M0 M → f8_odds_36 n v1 v2 v3 v5 M = some (r1, Mr) → zOut [10, 21, 22, 23, 24, 26, 9] [] M0 Mr := by
  intro n
  induction n with
  | zero => intro v1 v2 v3 v5 M ho h; cases h
  | succ n ih =>
    intro v1 v2 v3 v5 M ho h
    rw [f8_odds_36] at h
    by_cases hc : v2 < v5
    · replace h := (if_pos hc).symm.trans h
      obtain ⟨x1, hx1, h⟩ := z_bind h
      obtain ⟨x2, hx2, h⟩ := z_bind h
      by_cases hc : (lg_cmp x2 (0 : Int64)) ≤ 0
      · replace h := (if_pos hc).symm.trans h
        obtain ⟨rfl, rfl⟩ := z_ret2 h
        exact ho
      · replace h := (if_neg hc).symm.trans h
        obtain ⟨x3, hx3, h⟩ := z_bind h
        obtain ⟨x4, hx4, h⟩ := z_bind h
        obtain ⟨M5, hM5, h⟩ := z_bind h
        replace ho := ho.call (o_X3_tell_ hM5) (by simp) (by simp)
        obtain ⟨rfl, rfl⟩ := z_ret2 h
        exact ho
    · replace h := (if_neg hc).symm.trans h
      obtain ⟨x1, hx1, h⟩ := z_bind h
      obtain ⟨x2, hx2, h⟩ := z_bind h
      obtain ⟨x3, hx3, h⟩ := z_bind h
      exact ih _ _ _ _ _ ho h
set_option maxRecDepth 20000 in
set_option maxHeartbeats 4000000 in
theorem o_X8_odds {v1 : Int32} {M : zM} {r1 : Int32} {Mr : zM} (h : f8_odds v1 M = some (r1, Mr)) : zOut [10, 21, 22, 23, 24, 26, 9] [] M Mr := by
  have ho : zOut [10, 21, 22, 23, 24, 26, 9] [] M M := zOut.rf
  rw [f8_odds] at h
  by_cases hc : v1 < 0
  · replace h := (if_pos hc).symm.trans h
    obtain ⟨rfl, rfl⟩ := z_ret2 h
    exact ho
  · replace h := (if_neg hc).symm.trans h
    by_cases hc : v1 ≤ (10 : Int32)
    · replace h := (if_pos hc).symm.trans h
      obtain ⟨M1, hM1, h⟩ := z_bind h
      replace ho := ho.call (o_X0_tabulate hM1) (by simp) (by simp)
      obtain ⟨x2, hx2, h⟩ := z_bind h
      exact o8_odds_36 zfuel _ _ _ _ _ ho h
    · replace h := (if_neg hc).symm.trans h
      obtain ⟨rfl, rfl⟩ := z_ret2 h
      exact ho
set_option maxRecDepth 20000 in
set_option maxHeartbeats 4000000 in
theorem o8_rests_78 {r1 : Int32} {Mr : zM} {M0 : zM} {k32 : Int32 → Int32 → Int32 → Int32 → zM → Option (Int32 × zM)} (hk32 : ∀ (v1 : Int32) (v2 : Int32) (v3 : Int32) (v4 : Int32) (M : zM), zOut [10, 9] [] M0 M → k32 v1 v2 v3 v4 M = some (r1, Mr) → zOut [10, 9] [] M0 Mr) : ∀ (v1 : Int32) (v2 : Int32) (v3 : Int32) (v4 : Int32) (M : zM), zOut [10, 9] [] M0 M → f8_rests_78 k32 v1 v2 v3 v4 M = some (r1, Mr) → zOut [10, 9] [] M0 Mr := by
  intro v1 v2 v3 v4 M ho h
  rw [f8_rests_78] at h
  exact hk32 _ _ _ _ _ ho h
set_option maxRecDepth 20000 in
set_option maxHeartbeats 4000000 in
theorem o8_rests_75 {r1 : Int32} {Mr : zM} {M0 : zM} {k32 : Int32 → Int32 → Int32 → Int32 → zM → Option (Int32 × zM)} (hk32 : ∀ (v1 : Int32) (v2 : Int32) (v3 : Int32) (v4 : Int32) (M : zM), zOut [10, 9] [] M0 M → k32 v1 v2 v3 v4 M = some (r1, Mr) → zOut [10, 9] [] M0 Mr) : ∀ (v1 : Int32) (v2 : Int32) (v3 : Int32) (v4 : Int32) (M : zM), zOut [10, 9] [] M0 M → f8_rests_75 k32 v1 v2 v3 v4 M = some (r1, Mr) → zOut [10, 9] [] M0 Mr := by
  intro v1 v2 v3 v4 M ho h
  rw [f8_rests_75] at h
  exact o8_rests_78 hk32 _ _ _ _ _ ho h
set_option maxRecDepth 20000 in
set_option maxHeartbeats 4000000 in
theorem o8_rests_32 {r1 : Int32} {Mr : zM} {M0 : zM} {k84 : Int32 → Int32 → Int32 → zM → Option (Int32 × zM)} (hk84 : ∀ (v1 : Int32) (v2 : Int32) (v3 : Int32) (M : zM), zOut [10, 9] [] M0 M → k84 v1 v2 v3 M = some (r1, Mr) → zOut [10, 9] [] M0 Mr) : ∀ (n : Nat) (v1 : Int32) (v2 : Int32) (v3 : Int32) (v4 : Int32) (M : zM), zOut [10, 9] [] M0 M → f8_rests_32 k84 n v1 v2 v3 v4 M = some (r1, Mr) → zOut [10, 9] [] M0 Mr := by
  intro n
  induction n with
  | zero => intro v1 v2 v3 v4 M ho h; cases h
  | succ n ih =>
    intro v1 v2 v3 v4 M ho h
    rw [f8_rests_32] at h
    by_cases hc : (9 : Int32) < v4
    · replace h := (if_pos hc).symm.trans h
      exact hk84 _ _ _ _ ho h
    · replace h := (if_neg hc).symm.trans h
      obtain ⟨x1, hx1, h⟩ := z_bind h
      by_cases hc : x1 = 0
      · replace h := (if_pos hc).symm.trans h
        exact o8_rests_78 (fun u0 u1 u2 u3 u4 ho h => ih u0 u1 u2 u3 u4 ho h) _ _ _ _ _ ho h
      · replace h := (if_neg hc).symm.trans h
        obtain ⟨x2, hx2, h⟩ := z_bind h
        by_cases hc : x2 = 0
        · replace h := (if_pos hc).symm.trans h
          exact o8_rests_78 (fun u0 u1 u2 u3 u4 ho h => ih u0 u1 u2 u3 u4 ho h) _ _ _ _ _ ho h
        · replace h := (if_neg hc).symm.trans h
          by_cases hc : v2 = 0
          · replace h := (if_pos hc).symm.trans h
            obtain ⟨M3, hM3, h⟩ := z_bind h
            replace ho := ho.call (o_X3_tell_ hM3) (by simp) (by simp)
            exact o8_rests_75 (fun u0 u1 u2 u3 u4 ho h => ih u0 u1 u2 u3 u4 ho h) _ _ _ _ _ ho h
          · replace h := (if_neg hc).symm.trans h
            exact o8_rests_75 (fun u0 u1 u2 u3 u4 ho h => ih u0 u1 u2 u3 u4 ho h) _ _ _ _ _ ho h
set_option maxRecDepth 20000 in
set_option maxHeartbeats 4000000 in
theorem o8_rests_84 {r1 : Int32} {Mr : zM} {M0 : zM} {k23 : Int32 → Int32 → Int32 → zM → Option (Int32 × zM)} (hk23 : ∀ (v1 : Int32) (v2 : Int32) (v3 : Int32) (M : zM), zOut [10, 9] [] M0 M → k23 v1 v2 v3 M = some (r1, Mr) → zOut [10, 9] [] M0 Mr) : ∀ (v1 : Int32) (v2 : Int32) (v3 : Int32) (M : zM), zOut [10, 9] [] M0 M → f8_rests_84 k23 v1 v2 v3 M = some (r1, Mr) → zOut [10, 9] [] M0 Mr := by
  intro v1 v2 v3 M ho h
  rw [f8_rests_84] at h
  exact hk23 _ _ _ _ ho h
set_option maxRecDepth 20000 in
set_option maxHeartbeats 4000000 in
theorem o8_rests_23 {r1 : Int32} {Mr : zM} {M0 : zM} : ∀ (n : Nat) (v1 : Int32) (v2 : Int32) (v3 : Int32) (M : zM), zOut [10, 9] [] M0 M → f8_rests_23 n v1 v2 v3 M = some (r1, Mr) → zOut [10, 9] [] M0 Mr := by
  intro n
  induction n with
  | zero => intro v1 v2 v3 M ho h; cases h
  | succ n ih =>
    intro v1 v2 v3 M ho h
    rw [f8_rests_23] at h
    by_cases hc : (9 : Int32) < v3
    · replace h := (if_pos hc).symm.trans h
      obtain ⟨rfl, rfl⟩ := z_ret2 h
      exact ho
    · replace h := (if_neg hc).symm.trans h
      exact o8_rests_32 (fun u0 u1 u2 u3 ho h => o8_rests_84 (fun u0 u1 u2 u3 ho h => ih u0 u1 u2 u3 ho h) u0 u1 u2 u3 ho h) zfuel _ _ _ _ _ ho h
set_option maxRecDepth 20000 in
set_option maxHeartbeats 4000000 in
theorem o_X8_rests {v1 : Int32} {M : zM} {r1 : Int32} {Mr : zM} (h : f8_rests v1 M = some (r1, Mr)) : zOut [10, 9] [] M Mr := by
  have ho : zOut [10, 9] [] M M := zOut.rf
  rw [f8_rests] at h
  by_cases hc : v1 < 0
  · replace h := (if_pos hc).symm.trans h
    obtain ⟨rfl, rfl⟩ := z_ret2 h
    exact ho
  · replace h := (if_neg hc).symm.trans h
    by_cases hc : v1 ≤ (20 : Int32)
    · replace h := (if_pos hc).symm.trans h
      obtain ⟨M1, hM1, h⟩ := z_bind h
      replace ho := ho.call (o_X3_clear hM1) (by simp) (by simp)
      exact o8_rests_23 zfuel _ _ _ _ ho h
    · replace h := (if_neg hc).symm.trans h
      obtain ⟨rfl, rfl⟩ := z_ret2 h
      exact ho
set_option maxRecDepth 20000 in
set_option maxHeartbeats 4000000 in
theorem o_X8_again {v1 : Int32} {M : zM} {r1 : Int32} {Mr : zM} (h : f8_again v1 M = some (r1, Mr)) : zOut [1, 2, 33, 34] [] M Mr := by
  have ho : zOut [1, 2, 33, 34] [] M M := zOut.rf
  rw [f8_again] at h
  obtain ⟨x1, hx1, h⟩ := z_bind h
  by_cases hc : x1 = 0
  · replace h := (if_pos hc).symm.trans h
    obtain ⟨rfl, rfl⟩ := z_ret2 h
    exact ho
  · replace h := (if_neg hc).symm.trans h
    obtain ⟨M2, hM2, h⟩ := z_bind h
    replace ho := ho.call (o_X2_bringBack hM2) (by simp) (by simp)
    obtain ⟨M3, hM3, h⟩ := z_bind h
    replace ho := ho.call (o_X2_empty hM3) (by simp) (by simp)
    obtain ⟨rfl, rfl⟩ := z_ret2 h
    exact ho
set_option maxRecDepth 20000 in
set_option maxHeartbeats 4000000 in
theorem o_X8_noted {v1 : Int32} {v2 : Int64} {v4 : Int32} {M : zM} {r1 : Int32} {Mr : zM} (h : f8_noted v1 v2 v4 M = some (r1, Mr)) : zOut [33, 34, 35] [] M Mr := by
  have ho : zOut [33, 34, 35] [] M M := zOut.rf
  rw [f8_noted] at h
  by_cases hc : v1 < 0
  · replace h := (if_pos hc).symm.trans h
    obtain ⟨rfl, rfl⟩ := z_ret2 h
    exact ho
  · replace h := (if_neg hc).symm.trans h
    obtain ⟨M1, hM1, h⟩ := z_bind h
    replace ho := ho.call (o_X2_push hM1) (by simp) (by simp)
    obtain ⟨rfl, rfl⟩ := z_ret2 h
    exact ho
set_option maxRecDepth 20000 in
set_option maxHeartbeats 4000000 in
theorem o8_ragsWithout_85 {r1 : Int32} {Mr : zM} {M0 : zM} {k26 : Int32 → Int32 → Int64 → Int32 → Int32 → zM → Option (Int32 × zM)} (hk26 : ∀ (v1 : Int32) (v2 : Int32) (v3 : Int64) (v5 : Int32) (v6 : Int32) (M : zM), zOut [10, 27, 28, 9] [] M0 M → k26 v1 v2 v3 v5 v6 M = some (r1, Mr) → zOut [10, 27, 28, 9] [] M0 Mr) : ∀ (v1 : Int32) (v2 : Int32) (v3 : Int64) (v5 : Int32) (v6 : Int32) (M : zM), zOut [10, 27, 28, 9] [] M0 M → f8_ragsWithout_85 k26 v1 v2 v3 v5 v6 M = some (r1, Mr) → zOut [10, 27, 28, 9] [] M0 Mr := by
  intro v1 v2 v3 v5 v6 M ho h
  rw [f8_ragsWithout_85] at h
  exact hk26 _ _ _ _ _ _ ho h
set_option maxRecDepth 20000 in
set_option maxHeartbeats 4000000 in
theorem o8_ragsWithout_82 {r1 : Int32} {Mr : zM} {M0 : zM} {k26 : Int32 → Int32 → Int64 → Int32 → Int32 → zM → Option (Int32 × zM)} (hk26 : ∀ (v1 : Int32) (v2 : Int32) (v3 : Int64) (v5 : Int32) (v6 : Int32) (M : zM), zOut [10, 27, 28, 9] [] M0 M → k26 v1 v2 v3 v5 v6 M = some (r1, Mr) → zOut [10, 27, 28, 9] [] M0 Mr) : ∀ (v1 : Int32) (v2 : Int32) (v3 : Int64) (v5 : Int32) (v6 : Int32) (M : zM), zOut [10, 27, 28, 9] [] M0 M → f8_ragsWithout_82 k26 v1 v2 v3 v5 v6 M = some (r1, Mr) → zOut [10, 27, 28, 9] [] M0 Mr := by
  intro v1 v2 v3 v5 v6 M ho h
  rw [f8_ragsWithout_82] at h
  exact o8_ragsWithout_85 hk26 _ _ _ _ _ _ ho h
set_option maxRecDepth 20000 in
set_option maxHeartbeats 4000000 in
theorem o8_ragsWithout_26 {r1 : Int32} {Mr : zM} {M0 : zM} : ∀ (n : Nat) (v1 : Int32) (v2 : Int32) (v3 : Int64) (v5 : Int32) (v6 : Int32) (M : zM), zOut [10, 27, 28, 9] [] M0 M → f8_ragsWithout_26 n v1 v2 v3 v5 v6 M = some (r1, Mr) → zOut [10, 27, 28, 9] [] M0 Mr := by
  intro n
  induction n with
  | zero => intro v1 v2 v3 v5 v6 M ho h; cases h
  | succ n ih =>
    intro v1 v2 v3 v5 v6 M ho h
    rw [f8_ragsWithout_26] at h
    by_cases hc : (zshl (1 : Int32) (M.1 1 0)) ≤ v6
    · replace h := (if_pos hc).symm.trans h
      obtain ⟨rfl, rfl⟩ := z_ret2 h
      exact ho
    · replace h := (if_neg hc).symm.trans h
      obtain ⟨x1, hx1, h⟩ := z_bind h
      by_cases hc : (lg_cmp x1 v3) = 0
      · replace h := (if_pos hc).symm.trans h
        by_cases hc : v2 = 0
        · replace h := (if_pos hc).symm.trans h
          exact o8_ragsWithout_82 (fun u0 u1 u2 u3 u4 u5 ho h => ih u0 u1 u2 u3 u4 u5 ho h) _ _ _ _ _ _ ho h
        · replace h := (if_neg hc).symm.trans h
          by_cases hc : v5 = 0
          · replace h := (if_pos hc).symm.trans h
            obtain ⟨M2, hM2, h⟩ := z_bind h
            replace ho := ho.call (o_X3_tell hM2) (by simp) (by simp)
            exact o8_ragsWithout_82 (fun u0 u1 u2 u3 u4 u5 ho h => ih u0 u1 u2 u3 u4 u5 ho h) _ _ _ _ _ _ ho h
          · replace h := (if_neg hc).symm.trans h
            exact o8_ragsWithout_82 (fun u0 u1 u2 u3 u4 u5 ho h => ih u0 u1 u2 u3 u4 u5 ho h) _ _ _ _ _ _ ho h
      · replace h := (if_neg hc).symm.trans h
        exact o8_ragsWithout_85 (fun u0 u1 u2 u3 u4 u5 ho h => ih u0 u1 u2 u3 u4 u5 ho h) _ _ _ _ _ _ ho h
set_option maxRecDepth 20000 in
set_option maxHeartbeats 4000000 in
theorem o_X8_ragsWithout {v1 : Int32} {v2 : Int32} {M : zM} {r1 : Int32} {Mr : zM} (h : f8_ragsWithout v1 v2 M = some (r1, Mr)) : zOut [10, 27, 28, 9] [] M Mr := by
  have ho : zOut [10, 27, 28, 9] [] M M := zOut.rf
  rw [f8_ragsWithout] at h
  obtain ⟨M1, hM1, h⟩ := z_bind h
  replace ho := ho.call (o_X1_narrow hM1) (by simp) (by simp)
  obtain ⟨x2, hx2, h⟩ := z_bind h
  exact o8_ragsWithout_26 zfuel _ _ _ _ _ _ ho h
set_option maxRecDepth 20000 in
set_option maxHeartbeats 4000000 in
theorem o_X8_weaveDrawn {M : zM} {Mr : zM} (h : f8_weaveDrawn M = some Mr) : zOut [0, 3, 4] [] M Mr := by
  have ho : zOut [0, 3, 4] [] M M := zOut.rf
  rw [f8_weaveDrawn] at h
  obtain ⟨p1, hp1, h⟩ := z_bind h
  replace ho := ho.call (o_X8_drawnBelow hp1) (by simp) (by simp)
  obtain ⟨x2, hx2, h⟩ := z_bind h
  obtain ⟨p3, hp3, h⟩ := z_bind h
  replace ho := ho.call (o_X8_drawnBelow hp3) (by simp) (by simp)
  obtain ⟨p4, hp4, h⟩ := z_bind h
  replace ho := ho.call (o_X8_drawnBelow hp4) (by simp) (by simp)
  obtain ⟨x5, hx5, h⟩ := z_bind h
  obtain ⟨p6, hp6, h⟩ := z_bind h
  replace ho := ho.call (o_X7_weaveIn hp6) (by simp) (by simp)
  obtain rfl := z_ret1 h
  exact ho
set_option maxRecDepth 20000 in
set_option maxHeartbeats 4000000 in
theorem o4_readFrom_94 {a0 : Nat} {r1 : Int32} {Mr : zM} {M0 : zM} {k52 : Int32 → Int32 → zM → Option (Int32 × zM)} (hk52 : ∀ (v2 : Int32) (v3 : Int32) (M : zM), zOut [a0, a0 + 1, a0 + 2, a0 + 3] [] M0 M → k52 v2 v3 M = some (r1, Mr) → zOut [a0, a0 + 1, a0 + 2, a0 + 3] [] M0 Mr) : ∀ (v2 : Int32) (v3 : Int32) (M : zM), zOut [a0, a0 + 1, a0 + 2, a0 + 3] [] M0 M → f4_readFrom_94 a0 k52 v2 v3 M = some (r1, Mr) → zOut [a0, a0 + 1, a0 + 2, a0 + 3] [] M0 Mr := by
  intro v2 v3 M ho h
  rw [f4_readFrom_94] at h
  exact hk52 _ _ _ ho h
set_option maxRecDepth 20000 in
set_option maxHeartbeats 4000000 in
theorem o4_readFrom_52 {a0 : Nat} {r1 : Int32} {Mr : zM} {M0 : zM} : ∀ (n : Nat) (v2 : Int32) (v3 : Int32) (M : zM), zOut [a0, a0 + 1, a0 + 2, a0 + 3] [] M0 M → f4_readFrom_52 a0 n v2 v3 M = some (r1, Mr) → zOut [a0, a0 + 1, a0 + 2, a0 + 3] [] M0 Mr := by
  intro n
  induction n with
  | zero => intro v2 v3 M ho h; cases h
  | succ n ih =>
    intro v2 v3 M ho h
    rw [f4_readFrom_52] at h
    by_cases hc : v2 ≤ v3
    · replace h := (if_pos hc).symm.trans h
      by_cases hc : (M.1 7 1) ≤ (40 : Int32)
      · replace h := (if_pos hc).symm.trans h
        by_cases hc : (M.1 a0 7) = 0
        · replace h := (if_pos hc).symm.trans h
          by_cases hc : (M.1 a0 5) ≤ 0
          · replace h := (if_pos hc).symm.trans h
            obtain ⟨M1, hM1, h⟩ := z_bind h
            replace ho := ho.call (o_X4_release hM1) (by simp) (by simp)
            obtain ⟨rfl, rfl⟩ := z_ret2 h
            exact ho
          · replace h := (if_neg hc).symm.trans h
            obtain ⟨rfl, rfl⟩ := z_ret2 h
            exact ho
        · replace h := (if_neg hc).symm.trans h
          obtain ⟨rfl, rfl⟩ := z_ret2 h
          exact ho
      · replace h := (if_neg hc).symm.trans h
        obtain ⟨rfl, rfl⟩ := z_ret2 h
        exact ho
    · replace h := (if_neg hc).symm.trans h
      obtain ⟨x1, hx1, h⟩ := z_bind h
      by_cases hc : (M.1 a0 7) = 0
      · replace h := (if_pos hc).symm.trans h
        obtain ⟨p2, hp2, h⟩ := z_bind h
        replace ho := ho.call (o_X4_takesJoin hp2) (by simp) (by simp)
        by_cases hc : p2.1 = 0
        · replace h := (if_pos hc).symm.trans h
          obtain ⟨rfl, rfl⟩ := z_ret2 h
          exact ho
        · replace h := (if_neg hc).symm.trans h
          exact o4_readFrom_94 (fun u0 u1 u2 ho h => ih u0 u1 u2 ho h) _ _ _ ho h
      · replace h := (if_neg hc).symm.trans h
        obtain ⟨p2, hp2, h⟩ := z_bind h
        replace ho := ho.call (o_X4_takesThing hp2) (by simp) (by simp)
        by_cases hc : p2.1 = 0
        · replace h := (if_pos hc).symm.trans h
          obtain ⟨rfl, rfl⟩ := z_ret2 h
          exact ho
        · replace h := (if_neg hc).symm.trans h
          exact o4_readFrom_94 (fun u0 u1 u2 ho h => ih u0 u1 u2 ho h) _ _ _ ho h
set_option maxRecDepth 20000 in
set_option maxHeartbeats 4000000 in
theorem o_X4_readFrom {a0 : Nat} {M : zM} {r1 : Int32} {Mr : zM} (h : f4_readFrom a0 M = some (r1, Mr)) : zOut [a0, a0 + 1, a0 + 2, a0 + 3] [] M Mr := by
  have ho : zOut [a0, a0 + 1, a0 + 2, a0 + 3] [] M M := zOut.rf
  rw [f4_readFrom] at h
  replace ho := ho.si a0 1 (0 : Int32) (by simp)
  replace ho := ho.si a0 3 (0 : Int32) (by simp)
  replace ho := ho.si a0 5 (0 : Int32) (by simp)
  obtain ⟨M1, hM1, h⟩ := z_bind h
  replace ho := ho.pZ hM1 (by simp)
  replace ho := ho.si a0 7 (1 : Int32) (by simp)
  by_cases hc : ((zsi M1 a0 7 (1 : Int32)).1 7 1) = 0
  · replace h := (if_pos hc).symm.trans h
    obtain ⟨M2, hM2, h⟩ := z_bind h
    replace ho := ho.call (o_X4_putPlainRule hM2) (by simp) (by simp)
    obtain ⟨rfl, rfl⟩ := z_ret2 h
    exact ho
  · replace h := (if_neg hc).symm.trans h
    exact o4_readFrom_52 zfuel _ _ _ ho h
set_option maxRecDepth 20000 in
set_option maxHeartbeats 4000000 in
theorem o4_pullOf_163 {a0 : Nat} {a1 : Nat} {r1 : Int32} {Mr : zM} {M0 : zM} {k6 : Int32 → Int32 → Int32 → Int32 → zM → Option (Int32 × zM)} (hk6 : ∀ (v2 : Int32) (v3 : Int32) (v4 : Int32) (v5 : Int32) (M : zM), zOut [a0 + 4] [] M0 M → k6 v2 v3 v4 v5 M = some (r1, Mr) → zOut [a0 + 4] [] M0 Mr) : ∀ (v2 : Int32) (v3 : Int32) (v4 : Int32) (v5 : Int32) (M : zM), zOut [a0 + 4] [] M0 M → f4_pullOf_163 a0 a1 k6 v2 v3 v4 v5 M = some (r1, Mr) → zOut [a0 + 4] [] M0 Mr := by
  intro v2 v3 v4 v5 M ho h
  rw [f4_pullOf_163] at h
  exact hk6 _ _ _ _ _ ho h
set_option maxRecDepth 20000 in
set_option maxHeartbeats 4000000 in
theorem o4_pullOf_77 {a0 : Nat} {a1 : Nat} {r1 : Int32} {Mr : zM} {M0 : zM} {k6 : Int32 → Int32 → Int32 → Int32 → zM → Option (Int32 × zM)} (hk6 : ∀ (v2 : Int32) (v3 : Int32) (v4 : Int32) (v5 : Int32) (M : zM), zOut [a0 + 4] [] M0 M → k6 v2 v3 v4 v5 M = some (r1, Mr) → zOut [a0 + 4] [] M0 Mr) : ∀ (v2 : Int32) (v3 : Int32) (v4 : Int32) (v5 : Int32) (s1 : Int32) (s2 : Int32) (M : zM), zOut [a0 + 4] [] M0 M → f4_pullOf_77 a0 a1 k6 v2 v3 v4 v5 s1 s2 M = some (r1, Mr) → zOut [a0 + 4] [] M0 Mr := by
  intro v2 v3 v4 v5 s1 s2 M ho h
  rw [f4_pullOf_77] at h
  obtain ⟨M1, hM1, h⟩ := z_bind h
  replace ho := ho.pI hM1 (by simp)
  exact o4_pullOf_163 hk6 _ _ _ _ _ ho h
set_option maxRecDepth 20000 in
set_option maxHeartbeats 4000000 in
theorem o4_pullOf_120 {a0 : Nat} {a1 : Nat} {r1 : Int32} {Mr : zM} {M0 : zM} {k6 : Int32 → Int32 → Int32 → Int32 → zM → Option (Int32 × zM)} (hk6 : ∀ (v2 : Int32) (v3 : Int32) (v4 : Int32) (v5 : Int32) (M : zM), zOut [a0 + 4] [] M0 M → k6 v2 v3 v4 v5 M = some (r1, Mr) → zOut [a0 + 4] [] M0 Mr) : ∀ (v2 : Int32) (v3 : Int32) (v4 : Int32) (v5 : Int32) (v6 : Int32) (M : zM), zOut [a0 + 4] [] M0 M → f4_pullOf_120 a0 a1 k6 v2 v3 v4 v5 v6 M = some (r1, Mr) → zOut [a0 + 4] [] M0 Mr := by
  intro v2 v3 v4 v5 v6 M ho h
  rw [f4_pullOf_120] at h
  by_cases hc : v4 < (2 : Int32)
  · replace h := (if_pos hc).symm.trans h
    exact o4_pullOf_163 hk6 _ _ _ _ _ ho h
  · replace h := (if_neg hc).symm.trans h
    obtain ⟨x1, hx1, h⟩ := z_bind h
    obtain ⟨x2, hx2, h⟩ := z_bind h
    obtain ⟨x3, hx3, h⟩ := z_bind h
    obtain ⟨M4, hM4, h⟩ := z_bind h
    replace ho := ho.pI hM4 (by simp)
    exact o4_pullOf_163 hk6 _ _ _ _ _ ho h
set_option maxRecDepth 20000 in
set_option maxHeartbeats 4000000 in
theorem o4_pullOf_84 {a0 : Nat} {a1 : Nat} {r1 : Int32} {Mr : zM} {M0 : zM} {k6 : Int32 → Int32 → Int32 → Int32 → zM → Option (Int32 × zM)} (hk6 : ∀ (v2 : Int32) (v3 : Int32) (v4 : Int32) (v5 : Int32) (M : zM), zOut [a0 + 4] [] M0 M → k6 v2 v3 v4 v5 M = some (r1, Mr) → zOut [a0 + 4] [] M0 Mr) : ∀ (v2 : Int32) (v3 : Int32) (v4 : Int32) (v5 : Int32) (v6 : Int32) (M : zM), zOut [a0 + 4] [] M0 M → f4_pullOf_84 a0 a1 k6 v2 v3 v4 v5 v6 M = some (r1, Mr) → zOut [a0 + 4] [] M0 Mr := by
  intro v2 v3 v4 v5 v6 M ho h
  rw [f4_pullOf_84] at h
  by_cases hc : v6 = (1256 : Int32)
  · replace h := (if_pos hc).symm.trans h
    by_cases hc : v4 < (1 : Int32)
    · replace h := (if_pos hc).symm.trans h
      exact o4_pullOf_120 hk6 _ _ _ _ _ _ ho h
    · replace h := (if_neg hc).symm.trans h
      obtain ⟨x1, hx1, h⟩ := z_bind h
      obtain ⟨M2, hM2, h⟩ := z_bind h
      replace ho := ho.pI hM2 (by simp)
      exact o4_pullOf_163 hk6 _ _ _ _ _ ho h
  · replace h := (if_neg hc).symm.trans h
    exact o4_pullOf_120 hk6 _ _ _ _ _ _ ho h
set_option maxRecDepth 20000 in
set_option maxHeartbeats 4000000 in
theorem o4_pullOf_6 {a0 : Nat} {a1 : Nat} {r1 : Int32} {Mr : zM} {M0 : zM} : ∀ (n : Nat) (v2 : Int32) (v3 : Int32) (v4 : Int32) (v5 : Int32) (M : zM), zOut [a0 + 4] [] M0 M → f4_pullOf_6 a0 a1 n v2 v3 v4 v5 M = some (r1, Mr) → zOut [a0 + 4] [] M0 Mr := by
  intro n
  induction n with
  | zero => intro v2 v3 v4 v5 M ho h; cases h
  | succ n ih =>
    intro v2 v3 v4 v5 M ho h
    rw [f4_pullOf_6] at h
    by_cases hc : (M.1 a0 1) ≤ v5
    · replace h := (if_pos hc).symm.trans h
      obtain ⟨rfl, rfl⟩ := z_ret2 h
      exact ho
    · replace h := (if_neg hc).symm.trans h
      obtain ⟨x1, hx1, h⟩ := z_bind h
      obtain ⟨x2, hx2, h⟩ := z_bind h
      by_cases hc : x2 = 0
      · replace h := (if_pos hc).symm.trans h
        by_cases hc : (40 : Int32) ≤ v4
        · replace h := (if_pos hc).symm.trans h
          exact o4_pullOf_84 (fun u0 u1 u2 u3 u4 ho h => ih u0 u1 u2 u3 u4 ho h) _ _ _ _ _ _ ho h
        · replace h := (if_neg hc).symm.trans h
          by_cases hc : (1000 : Int32) ≤ x1
          · replace h := (if_pos hc).symm.trans h
            obtain ⟨x3, hx3, h⟩ := z_bind h
            exact o4_pullOf_77 (fun u0 u1 u2 u3 u4 ho h => ih u0 u1 u2 u3 u4 ho h) _ _ _ _ _ _ _ ho h
          · replace h := (if_neg hc).symm.trans h
            exact o4_pullOf_77 (fun u0 u1 u2 u3 u4 ho h => ih u0 u1 u2 u3 u4 ho h) _ _ _ _ _ _ _ ho h
      · replace h := (if_neg hc).symm.trans h
        exact o4_pullOf_84 (fun u0 u1 u2 u3 u4 ho h => ih u0 u1 u2 u3 u4 ho h) _ _ _ _ _ _ ho h
set_option maxRecDepth 20000 in
set_option maxHeartbeats 4000000 in
theorem o_X4_pullOf {a0 : Nat} {a1 : Nat} {v2 : Int32} {v3 : Int32} {M : zM} {r1 : Int32} {Mr : zM} (h : f4_pullOf a0 a1 v2 v3 M = some (r1, Mr)) : zOut [a0 + 4] [] M Mr := by
  have ho : zOut [a0 + 4] [] M M := zOut.rf
  rw [f4_pullOf] at h
  exact o4_pullOf_6 zfuel _ _ _ _ _ ho h
set_option maxRecDepth 20000 in
set_option maxHeartbeats 4000000 in
theorem o4_goesOf_57 {a0 : Nat} {a1 : Nat} {r1 : Int32} {Mr : zM} {M0 : zM} {k17 : Int32 → Int32 → Int32 → Int32 → zM → Option (Int32 × zM)} (hk17 : ∀ (v2 : Int32) (v3 : Int32) (v4 : Int32) (v5 : Int32) (M : zM), zOut [a0 + 4] [] M0 M → k17 v2 v3 v4 v5 M = some (r1, Mr) → zOut [a0 + 4] [] M0 Mr) : ∀ (v2 : Int32) (v3 : Int32) (v4 : Int32) (v5 : Int32) (M : zM), zOut [a0 + 4] [] M0 M → f4_goesOf_57 a0 a1 k17 v2 v3 v4 v5 M = some (r1, Mr) → zOut [a0 + 4] [] M0 Mr := by
  intro v2 v3 v4 v5 M ho h
  rw [f4_goesOf_57] at h
  exact hk17 _ _ _ _ _ ho h
set_option maxRecDepth 20000 in
set_option maxHeartbeats 4000000 in
theorem o4_goesOf_17 {a0 : Nat} {a1 : Nat} {r1 : Int32} {Mr : zM} {M0 : zM} {k63 : Int32 → Int32 → Int32 → zM → Option (Int32 × zM)} (hk63 : ∀ (v2 : Int32) (v3 : Int32) (v4 : Int32) (M : zM), zOut [a0 + 4] [] M0 M → k63 v2 v3 v4 M = some (r1, Mr) → zOut [a0 + 4] [] M0 Mr) : ∀ (n : Nat) (v2 : Int32) (v3 : Int32) (v4 : Int32) (v5 : Int32) (M : zM), zOut [a0 + 4] [] M0 M → f4_goesOf_17 a0 a1 k63 n v2 v3 v4 v5 M = some (r1, Mr) → zOut [a0 + 4] [] M0 Mr := by
  intro n
  induction n with
  | zero => intro v2 v3 v4 v5 M ho h; cases h
  | succ n ih =>
    intro v2 v3 v4 v5 M ho h
    rw [f4_goesOf_17] at h
    obtain ⟨x1, hx1, h⟩ := z_bind h
    by_cases hc : x1 ≤ v5
    · replace h := (if_pos hc).symm.trans h
      exact hk63 _ _ _ _ ho h
    · replace h := (if_neg hc).symm.trans h
      obtain ⟨p2, hp2, h⟩ := z_bind h
      replace ho := ho.call (o_X4_pullOf hp2) (by simp) (by simp)
      by_cases hc : p2.1 ≤ v2
      · replace h := (if_pos hc).symm.trans h
        exact o4_goesOf_57 (fun u0 u1 u2 u3 u4 ho h => ih u0 u1 u2 u3 u4 ho h) _ _ _ _ _ ho h
      · replace h := (if_neg hc).symm.trans h
        exact o4_goesOf_57 (fun u0 u1 u2 u3 u4 ho h => ih u0 u1 u2 u3 u4 ho h) _ _ _ _ _ ho h
set_option maxRecDepth 20000 in
set_option maxHeartbeats 4000000 in
theorem o4_goesOf_63 {a0 : Nat} {a1 : Nat} {r1 : Int32} {Mr : zM} {M0 : zM} {k8 : Int32 → Int32 → Int32 → zM → Option (Int32 × zM)} (hk8 : ∀ (v2 : Int32) (v3 : Int32) (v4 : Int32) (M : zM), zOut [a0 + 4] [] M0 M → k8 v2 v3 v4 M = some (r1, Mr) → zOut [a0 + 4] [] M0 Mr) : ∀ (v2 : Int32) (v3 : Int32) (v4 : Int32) (M : zM), zOut [a0 + 4] [] M0 M → f4_goesOf_63 a0 a1 k8 v2 v3 v4 M = some (r1, Mr) → zOut [a0 + 4] [] M0 Mr := by
  intro v2 v3 v4 M ho h
  rw [f4_goesOf_63] at h
  exact hk8 _ _ _ _ ho h
set_option maxRecDepth 20000 in
set_option maxHeartbeats 4000000 in
theorem o4_goesOf_8 {a0 : Nat} {a1 : Nat} {r1 : Int32} {Mr : zM} {M0 : zM} : ∀ (n : Nat) (v2 : Int32) (v3 : Int32) (v4 : Int32) (M : zM), zOut [a0 + 4] [] M0 M → f4_goesOf_8 a0 a1 n v2 v3 v4 M = some (r1, Mr) → zOut [a0 + 4] [] M0 Mr := by
  intro n
  induction n with
  | zero => intro v2 v3 v4 M ho h; cases h
  | succ n ih =>
    intro v2 v3 v4 M ho h
    rw [f4_goesOf_8] at h
    by_cases hc : (1 : Int32) < v4
    · replace h := (if_pos hc).symm.trans h
      obtain ⟨x1, hx1, h⟩ := z_bind h
      obtain ⟨rfl, rfl⟩ := z_ret2 h
      exact ho
    · replace h := (if_neg hc).symm.trans h
      exact o4_goesOf_17 (fun u0 u1 u2 u3 ho h => o4_goesOf_63 (fun u0 u1 u2 u3 ho h => ih u0 u1 u2 u3 ho h) u0 u1 u2 u3 ho h) zfuel _ _ _ _ _ ho h
set_option maxRecDepth 20000 in
set_option maxHeartbeats 4000000 in
theorem o_X4_goesOf {a0 : Nat} {a1 : Nat} {M : zM} {r1 : Int32} {Mr : zM} (h : f4_goesOf a0 a1 M = some (r1, Mr)) : zOut [a0 + 4] [] M Mr := by
  have ho : zOut [a0 + 4] [] M M := zOut.rf
  rw [f4_goesOf] at h
  exact o4_goesOf_8 zfuel _ _ _ _ ho h
set_option maxRecDepth 20000 in
set_option maxHeartbeats 4000000 in
theorem o_X8_rule {M : zM} {r1 : Int32} {Mr : zM} (h : f8_rule M = some (r1, Mr)) : zOut [11, 12, 16, 17, 18, 19, 7] [] M Mr := by
  have ho : zOut [11, 12, 16, 17, 18, 19, 7] [] M M := zOut.rf
  rw [f8_rule] at h
  obtain ⟨p1, hp1, h⟩ := z_bind h
  replace ho := ho.call (o_X4_readFrom hp1) (by simp) (by simp)
  replace ho := ho.si 7 1 (0 : Int32) (by simp)
  by_cases hc : p1.1 = (-1 : Int32)
  · replace h := (if_pos hc).symm.trans h
    obtain ⟨M2, hM2, h⟩ := z_bind h
    replace ho := ho.call (o_X4_become hM2) (by simp) (by simp)
    obtain ⟨rfl, rfl⟩ := z_ret2 h
    exact ho
  · replace h := (if_neg hc).symm.trans h
    obtain ⟨rfl, rfl⟩ := z_ret2 h
    exact ho
set_option maxRecDepth 20000 in
set_option maxHeartbeats 4000000 in
theorem o_X8_thread {v1 : Int32} {v2 : Int32} {v3 : Int32} {M : zM} {r1 : Int32} {Mr : zM} (h : f8_thread v1 v2 v3 M = some (r1, Mr)) : zOut [15] [] M Mr := by
  have ho : zOut [15] [] M M := zOut.rf
  rw [f8_thread] at h
  obtain ⟨x1, hx1, h⟩ := z_bind h
  by_cases hc : x1 = 0
  · replace h := (if_pos hc).symm.trans h
    cases h
  · replace h := (if_neg hc).symm.trans h
    by_cases hc : v3 < 0
    · replace h := (if_pos hc).symm.trans h
      cases h
    · replace h := (if_neg hc).symm.trans h
      by_cases hc : v3 ≤ (4 : Int32)
      · replace h := (if_pos hc).symm.trans h
        by_cases hc1 : v3 = (0 : Int32)
        · replace h := (if_pos hc1).symm.trans h
          obtain ⟨x2, hx2, h⟩ := z_bind h
          obtain ⟨rfl, rfl⟩ := z_ret2 h
          exact ho
        replace h := (if_neg hc1).symm.trans h
        by_cases hc2 : v3 = (1 : Int32)
        · replace h := (if_pos hc2).symm.trans h
          obtain ⟨x2, hx2, h⟩ := z_bind h
          obtain ⟨rfl, rfl⟩ := z_ret2 h
          exact ho
        replace h := (if_neg hc2).symm.trans h
        by_cases hc3 : v3 = (2 : Int32)
        · replace h := (if_pos hc3).symm.trans h
          obtain ⟨x2, hx2, h⟩ := z_bind h
          obtain ⟨rfl, rfl⟩ := z_ret2 h
          exact ho
        replace h := (if_neg hc3).symm.trans h
        by_cases hc4 : v3 = (3 : Int32)
        · replace h := (if_pos hc4).symm.trans h
          obtain ⟨x2, hx2, h⟩ := z_bind h
          obtain ⟨rfl, rfl⟩ := z_ret2 h
          exact ho
        replace h := (if_neg hc4).symm.trans h
        obtain ⟨p2, hp2, h⟩ := z_bind h
        replace ho := ho.call (o_X4_pullOf hp2) (by simp) (by simp)
        obtain ⟨rfl, rfl⟩ := z_ret2 h
        exact ho
      · replace h := (if_neg hc).symm.trans h
        cases h
set_option maxRecDepth 20000 in
set_option maxHeartbeats 4000000 in
theorem o_X8_weaves {v1 : Int32} {v2 : Int32} {v3 : Int32} {M : zM} {r1 : Int32} {Mr : zM} (h : f8_weaves v1 v2 v3 M = some (r1, Mr)) : zOut [1, 2, 33, 34, 35] [] M Mr := by
  have ho : zOut [1, 2, 33, 34, 35] [] M M := zOut.rf
  rw [f8_weaves] at h
  obtain ⟨x1, hx1, h⟩ := z_bind h
  obtain ⟨p2, hp2, h⟩ := z_bind h
  replace ho := ho.call (o_X7_weaveIn hp2) (by simp) (by simp)
  obtain ⟨p3, hp3, h⟩ := z_bind h
  replace ho := ho.call (o_X8_noted hp3) (by simp) (by simp)
  obtain ⟨rfl, rfl⟩ := z_ret2 h
  exact ho
set_option maxRecDepth 20000 in
set_option maxHeartbeats 4000000 in
theorem o_X8_draws {v1 : Int32} {v2 : Int32} {M : zM} {r1 : Int32} {Mr : zM} (h : f8_draws v1 v2 M = some (r1, Mr)) : zOut [1, 2, 33, 34, 35] [] M Mr := by
  have ho : zOut [1, 2, 33, 34, 35] [] M M := zOut.rf
  rw [f8_draws] at h
  obtain ⟨x1, hx1, h⟩ := z_bind h
  obtain ⟨p2, hp2, h⟩ := z_bind h
  replace ho := ho.call (o_X7_drawOut hp2) (by simp) (by simp)
  obtain ⟨p3, hp3, h⟩ := z_bind h
  replace ho := ho.call (o_X8_noted hp3) (by simp) (by simp)
  obtain ⟨rfl, rfl⟩ := z_ret2 h
  exact ho
set_option maxRecDepth 20000 in
set_option maxHeartbeats 4000000 in
theorem o_X8_flips {v1 : Int32} {v2 : Int32} {M : zM} {r1 : Int32} {Mr : zM} (h : f8_flips v1 v2 M = some (r1, Mr)) : zOut [2, 33, 34, 35] [] M Mr := by
  have ho : zOut [2, 33, 34, 35] [] M M := zOut.rf
  rw [f8_flips] at h
  obtain ⟨x1, hx1, h⟩ := z_bind h
  obtain ⟨p2, hp2, h⟩ := z_bind h
  replace ho := ho.call (o_X7_turnCell hp2) (by simp) (by simp)
  obtain ⟨p3, hp3, h⟩ := z_bind h
  replace ho := ho.call (o_X8_noted hp3) (by simp) (by simp)
  obtain ⟨rfl, rfl⟩ := z_ret2 h
  exact ho
set_option maxRecDepth 20000 in
set_option maxHeartbeats 4000000 in
theorem o_X8_mirrors {v1 : Int32} {M : zM} {r1 : Int32} {Mr : zM} (h : f8_mirrors v1 M = some (r1, Mr)) : zOut [2, 33, 34, 35] [] M Mr := by
  have ho : zOut [2, 33, 34, 35] [] M M := zOut.rf
  rw [f8_mirrors] at h
  obtain ⟨x1, hx1, h⟩ := z_bind h
  obtain ⟨p2, hp2, h⟩ := z_bind h
  replace ho := ho.call (o_X7_turnRound hp2) (by simp) (by simp)
  obtain ⟨p3, hp3, h⟩ := z_bind h
  replace ho := ho.call (o_X8_noted hp3) (by simp) (by simp)
  obtain ⟨rfl, rfl⟩ := z_ret2 h
  exact ho
set_option maxRecDepth 20000 in
set_option maxHeartbeats 4000000 in
theorem o_X8_next {M : zM} {r1 : Int32} {Mr : zM} (h : f8_next M = some (r1, Mr)) : zOut [10, 15, 9] [] M Mr := by
  have ho : zOut [10, 15, 9] [] M M := zOut.rf
  rw [f8_next] at h
  obtain ⟨p1, hp1, h⟩ := z_bind h
  replace ho := ho.call (o_X4_goesOf hp1) (by simp) (by simp)
  by_cases hc : 0 ≤ p1.1
  · replace h := (if_pos hc).symm.trans h
    obtain ⟨p2, hp2, h⟩ := z_bind h
    replace ho := ho.call (o_X4_pullOf hp2) (by simp) (by simp)
    obtain ⟨M3, hM3, h⟩ := z_bind h
    replace ho := ho.call (o_X3_tell hM3) (by simp) (by simp)
    obtain ⟨rfl, rfl⟩ := z_ret2 h
    exact ho
  · replace h := (if_neg hc).symm.trans h
    obtain ⟨rfl, rfl⟩ := z_ret2 h
    exact ho
set_option maxRecDepth 20000 in
set_option maxHeartbeats 4000000 in
theorem o8_later_79 {r1 : Int32} {Mr : zM} {M0 : zM} : ∀ (n : Nat) (v2 : Int32) (M : zM), zOut [10, 15, 3, 4, 9] [] M0 M → f8_later_79 n v2 M = some (r1, Mr) → zOut [10, 15, 3, 4, 9] [] M0 Mr := by
  intro n
  induction n with
  | zero => intro v2 M ho h; cases h
  | succ n ih =>
    intro v2 M ho h
    rw [f8_later_79] at h
    by_cases hc : (M.1 3 0) ≤ v2
    · replace h := (if_pos hc).symm.trans h
      obtain ⟨x1, hx1, h⟩ := z_bind h
      obtain ⟨rfl, rfl⟩ := z_ret2 h
      exact ho
    · replace h := (if_neg hc).symm.trans h
      obtain ⟨x1, hx1, h⟩ := z_bind h
      obtain ⟨M2, hM2, h⟩ := z_bind h
      replace ho := ho.call (o_X3_add hM2) (by simp) (by simp)
      exact ih _ _ ho h
set_option maxRecDepth 20000 in
set_option maxHeartbeats 4000000 in
theorem o8_later_25 {r1 : Int32} {Mr : zM} {M0 : zM} : ∀ (n : Nat) (v1 : Int32) (v2 : Int32) (M : zM), zOut [10, 15, 3, 4, 9] [] M0 M → f8_later_25 n v1 v2 M = some (r1, Mr) → zOut [10, 15, 3, 4, 9] [] M0 Mr := by
  intro n
  induction n with
  | zero => intro v1 v2 M ho h; cases h
  | succ n ih =>
    intro v1 v2 M ho h
    rw [f8_later_25] at h
    by_cases hc : v1 ≤ v2
    · replace h := (if_pos hc).symm.trans h
      obtain ⟨M1, hM1, h⟩ := z_bind h
      replace ho := ho.call (o_X3_tell_ hM1) (by simp) (by simp)
      exact o8_later_79 zfuel _ _ ho h
    · replace h := (if_neg hc).symm.trans h
      obtain ⟨p1, hp1, h⟩ := z_bind h
      replace ho := ho.call (o_X4_goesOf hp1) (by simp) (by simp)
      obtain ⟨M2, hM2, h⟩ := z_bind h
      replace ho := ho.call (o_X7_passNight hM2) (by simp) (by simp)
      exact ih _ _ _ ho h
set_option maxRecDepth 20000 in
set_option maxHeartbeats 4000000 in
theorem o_X8_later {v1 : Int32} {M : zM} {r1 : Int32} {Mr : zM} (h : f8_later v1 M = some (r1, Mr)) : zOut [10, 15, 3, 4, 9] [] M Mr := by
  have ho : zOut [10, 15, 3, 4, 9] [] M M := zOut.rf
  rw [f8_later] at h
  by_cases hc : v1 < 0
  · replace h := (if_pos hc).symm.trans h
    obtain ⟨rfl, rfl⟩ := z_ret2 h
    exact ho
  · replace h := (if_neg hc).symm.trans h
    by_cases hc : v1 ≤ (60 : Int32)
    · replace h := (if_pos hc).symm.trans h
      obtain ⟨M1, hM1, h⟩ := z_bind h
      replace ho := ho.call (o_X7_become hM1) (by simp) (by simp)
      exact o8_later_25 zfuel _ _ _ ho h
    · replace h := (if_neg hc).symm.trans h
      obtain ⟨rfl, rfl⟩ := z_ret2 h
      exact ho
set_option maxRecDepth 20000 in
set_option maxHeartbeats 4000000 in
theorem o8_falls_13 {r1 : Int32} {Mr : zM} {M0 : zM} : ∀ (n : Nat) (v1 : Int32) (M : zM), zOut [10, 15, 22, 23, 3, 4, 9] [] M0 M → f8_falls_13 n v1 M = some (r1, Mr) → zOut [10, 15, 22, 23, 3, 4, 9] [] M0 Mr := by
  intro n
  induction n with
  | zero => intro v1 M ho h; cases h
  | succ n ih =>
    intro v1 M ho h
    rw [f8_falls_13] at h
    by_cases hc : (60 : Int32) < v1
    · replace h := (if_pos hc).symm.trans h
      obtain ⟨rfl, rfl⟩ := z_ret2 h
      exact ho
    · replace h := (if_neg hc).symm.trans h
      obtain ⟨p1, hp1, h⟩ := z_bind h
      replace ho := ho.call (o_X0_isTogether hp1) (by simp) (by simp)
      by_cases hc : p1.1 = 0
      · replace h := (if_pos hc).symm.trans h
        obtain ⟨x2, hx2, h⟩ := z_bind h
        obtain ⟨M3, hM3, h⟩ := z_bind h
        replace ho := ho.call (o_X3_tell hM3) (by simp) (by simp)
        obtain ⟨rfl, rfl⟩ := z_ret2 h
        exact ho
      · replace h := (if_neg hc).symm.trans h
        obtain ⟨p2, hp2, h⟩ := z_bind h
        replace ho := ho.call (o_X4_goesOf hp2) (by simp) (by simp)
        obtain ⟨M3, hM3, h⟩ := z_bind h
        replace ho := ho.call (o_X7_passNight hM3) (by simp) (by simp)
        exact ih _ _ ho h
set_option maxRecDepth 20000 in
set_option maxHeartbeats 4000000 in
theorem o_X8_falls {M : zM} {r1 : Int32} {Mr : zM} (h : f8_falls M = some (r1, Mr)) : zOut [10, 15, 22, 23, 3, 4, 9] [] M Mr := by
  have ho : zOut [10, 15, 22, 23, 3, 4, 9] [] M M := zOut.rf
  rw [f8_falls] at h
  obtain ⟨M1, hM1, h⟩ := z_bind h
  replace ho := ho.call (o_X7_become hM1) (by simp) (by simp)
  exact o8_falls_13 zfuel _ _ ho h
set_option maxRecDepth 20000 in
set_option maxHeartbeats 4000000 in
theorem o8_rags_92 {r1 : Int32} {Mr : zM} {M0 : zM} {k40 : Int32 → Int32 → zM → Option (Int32 × zM)} (hk40 : ∀ (v2 : Int32) (v3 : Int32) (M : zM), zOut [10, 27, 28, 3, 4, 7, 9] [] M0 M → k40 v2 v3 M = some (r1, Mr) → zOut [10, 27, 28, 3, 4, 7, 9] [] M0 Mr) : ∀ (v2 : Int32) (v3 : Int32) (M : zM), zOut [10, 27, 28, 3, 4, 7, 9] [] M0 M → f8_rags_92 k40 v2 v3 M = some (r1, Mr) → zOut [10, 27, 28, 3, 4, 7, 9] [] M0 Mr := by
  intro v2 v3 M ho h
  rw [f8_rags_92] at h
  exact hk40 _ _ _ ho h
set_option maxRecDepth 20000 in
set_option maxHeartbeats 4000000 in
theorem o8_rags_40 {r1 : Int32} {Mr : zM} {M0 : zM} : ∀ (n : Nat) (v2 : Int32) (v3 : Int32) (M : zM), zOut [10, 27, 28, 3, 4, 7, 9] [] M0 M → f8_rags_40 n v2 v3 M = some (r1, Mr) → zOut [10, 27, 28, 3, 4, 7, 9] [] M0 Mr := by
  intro n
  induction n with
  | zero => intro v2 v3 M ho h; cases h
  | succ n ih =>
    intro v2 v3 M ho h
    rw [f8_rags_40] at h
    by_cases hc : (zshl (1 : Int32) (M.1 1 1)) ≤ v3
    · replace h := (if_pos hc).symm.trans h
      obtain ⟨rfl, rfl⟩ := z_ret2 h
      exact ho
    · replace h := (if_neg hc).symm.trans h
      obtain ⟨x1, hx1, h⟩ := z_bind h
      by_cases hc : ((M.1 1 1) - x1) = (M.1 3 1)
      · replace h := (if_pos hc).symm.trans h
        obtain ⟨p2, hp2, h⟩ := z_bind h
        replace ho := ho.call (o_X8_ragsWithout hp2) (by simp) (by simp)
        exact o8_rags_92 (fun u0 u1 u2 ho h => ih u0 u1 u2 ho h) _ _ _ ho h
      · replace h := (if_neg hc).symm.trans h
        exact o8_rags_92 (fun u0 u1 u2 ho h => ih u0 u1 u2 ho h) _ _ _ ho h
set_option maxRecDepth 20000 in
set_option maxHeartbeats 4000000 in
theorem o_X8_rags {M : zM} {r1 : Int32} {Mr : zM} (h : f8_rags M = some (r1, Mr)) : zOut [10, 27, 28, 3, 4, 7, 9] [] M Mr := by
  have ho : zOut [10, 27, 28, 3, 4, 7, 9] [] M M := zOut.rf
  rw [f8_rags] at h
  obtain ⟨p1, hp1, h⟩ := z_bind h
  replace ho := ho.call (o_X7_readFrom hp1) (by simp) (by simp)
  replace ho := ho.si 7 1 (0 : Int32) (by simp)
  by_cases hc : p1.1 = (-1 : Int32)
  · replace h := (if_pos hc).symm.trans h
    obtain ⟨M2, hM2, h⟩ := z_bind h
    replace ho := ho.call (o_X3_clear hM2) (by simp) (by simp)
    exact o8_rags_40 zfuel _ _ _ ho h
  · replace h := (if_neg hc).symm.trans h
    obtain ⟨rfl, rfl⟩ := z_ret2 h
    exact ho
set_option maxRecDepth 20000 in
set_option maxHeartbeats 4000000 in
theorem o_X8_fits {M : zM} {r1 : Int32} {Mr : zM} (h : f8_fits M = some (r1, Mr)) : zOut [10, 9] [] M Mr := by
  have ho : zOut [10, 9] [] M M := zOut.rf
  rw [f8_fits] at h
  obtain ⟨x1, hx1, h⟩ := z_bind h
  obtain ⟨x2, hx2, h⟩ := z_bind h
  obtain ⟨M3, hM3, h⟩ := z_bind h
  replace ho := ho.call (o_X3_tell hM3) (by simp) (by simp)
  obtain ⟨rfl, rfl⟩ := z_ret2 h
  exact ho
set_option maxRecDepth 20000 in
set_option maxHeartbeats 4000000 in
theorem o8_asks_95 {r1 : Int32} {Mr : zM} {M0 : zM} {k36 : Int32 → Int32 → Int32 → Int32 → Int32 → zM → Option (Int32 × zM)} (hk36 : ∀ (v1 : Int32) (v2 : Int32) (v3 : Int32) (v4 : Int32) (v5 : Int32) (M : zM), zOut [10, 9] [] M0 M → k36 v1 v2 v3 v4 v5 M = some (r1, Mr) → zOut [10, 9] [] M0 Mr) : ∀ (v1 : Int32) (v2 : Int32) (v3 : Int32) (v4 : Int32) (v5 : Int32) (M : zM), zOut [10, 9] [] M0 M → f8_asks_95 k36 v1 v2 v3 v4 v5 M = some (r1, Mr) → zOut [10, 9] [] M0 Mr := by
  intro v1 v2 v3 v4 v5 M ho h
  rw [f8_asks_95] at h
  exact hk36 _ _ _ _ _ _ ho h
set_option maxRecDepth 20000 in
set_option maxHeartbeats 4000000 in
theorem o8_asks_36 {r1 : Int32} {Mr : zM} {M0 : zM} {k101 : Int32 → Int32 → Int32 → Int32 → zM → Option (Int32 × zM)} (hk101 : ∀ (v1 : Int32) (v2 : Int32) (v3 : Int32) (v4 : Int32) (M : zM), zOut [10, 9] [] M0 M → k101 v1 v2 v3 v4 M = some (r1, Mr) → zOut [10, 9] [] M0 Mr) : ∀ (n : Nat) (v1 : Int32) (v2 : Int32) (v3 : Int32) (v4 : Int32) (v5 : Int32) (M : zM), zOut [10, 9] [] M0 M → f8_asks_36 k101 n v1 v2 v3 v4 v5 M = some (r1, Mr) → zOut [10, 9] [] M0 Mr := by
  intro n
  induction n with
  | zero => intro v1 v2 v3 v4 v5 M ho h; cases h
  | succ n ih =>
    intro v1 v2 v3 v4 v5 M ho h
    rw [f8_asks_36] at h
    obtain ⟨x1, hx1, h⟩ := z_bind h
    by_cases hc : x1 < v5
    · replace h := (if_pos hc).symm.trans h
      exact hk101 _ _ _ _ _ ho h
    · replace h := (if_neg hc).symm.trans h
      obtain ⟨x2, hx2, h⟩ := z_bind h
      obtain ⟨x3, hx3, h⟩ := z_bind h
      obtain ⟨x4, hx4, h⟩ := z_bind h
      by_cases hc : v2 ≤ (zmax x3 (x4 - x3))
      · replace h := (if_pos hc).symm.trans h
        exact o8_asks_95 (fun u0 u1 u2 u3 u4 u5 ho h => ih u0 u1 u2 u3 u4 u5 ho h) _ _ _ _ _ _ ho h
      · replace h := (if_neg hc).symm.trans h
        exact o8_asks_95 (fun u0 u1 u2 u3 u4 u5 ho h => ih u0 u1 u2 u3 u4 u5 ho h) _ _ _ _ _ _ ho h
set_option maxRecDepth 20000 in
set_option maxHeartbeats 4000000 in
theorem o8_asks_101 {r1 : Int32} {Mr : zM} {M0 : zM} {k27 : Int32 → Int32 → Int32 → Int32 → zM → Option (Int32 × zM)} (hk27 : ∀ (v1 : Int32) (v2 : Int32) (v3 : Int32) (v4 : Int32) (M : zM), zOut [10, 9] [] M0 M → k27 v1 v2 v3 v4 M = some (r1, Mr) → zOut [10, 9] [] M0 Mr) : ∀ (v1 : Int32) (v2 : Int32) (v3 : Int32) (v4 : Int32) (M : zM), zOut [10, 9] [] M0 M → f8_asks_101 k27 v1 v2 v3 v4 M = some (r1, Mr) → zOut [10, 9] [] M0 Mr := by
  intro v1 v2 v3 v4 M ho h
  rw [f8_asks_101] at h
  exact hk27 _ _ _ _ _ ho h
set_option maxRecDepth 20000 in
set_option maxHeartbeats 4000000 in
theorem o8_asks_27 {r1 : Int32} {Mr : zM} {M0 : zM} : ∀ (n : Nat) (v1 : Int32) (v2 : Int32) (v3 : Int32) (v4 : Int32) (M : zM), zOut [10, 9] [] M0 M → f8_asks_27 n v1 v2 v3 v4 M = some (r1, Mr) → zOut [10, 9] [] M0 Mr := by
  intro n
  induction n with
  | zero => intro v1 v2 v3 v4 M ho h; cases h
  | succ n ih =>
    intro v1 v2 v3 v4 M ho h
    rw [f8_asks_27] at h
    by_cases hc : (5 : Int32) ≤ v4
    · replace h := (if_pos hc).symm.trans h
      obtain ⟨M1, hM1, h⟩ := z_bind h
      replace ho := ho.call (o_X3_tell hM1) (by simp) (by simp)
      obtain ⟨rfl, rfl⟩ := z_ret2 h
      exact ho
    · replace h := (if_neg hc).symm.trans h
      exact o8_asks_36 (fun u0 u1 u2 u3 u4 ho h => o8_asks_101 (fun u0 u1 u2 u3 u4 ho h => ih u0 u1 u2 u3 u4 ho h) u0 u1 u2 u3 u4 ho h) zfuel _ _ _ _ _ _ ho h
set_option maxRecDepth 20000 in
set_option maxHeartbeats 4000000 in
theorem o_X8_asks {M : zM} {r1 : Int32} {Mr : zM} (h : f8_asks M = some (r1, Mr)) : zOut [10, 9] [] M Mr := by
  have ho : zOut [10, 9] [] M M := zOut.rf
  rw [f8_asks] at h
  obtain ⟨x1, hx1, h⟩ := z_bind h
  by_cases hc : x1 = 0
  · replace h := (if_pos hc).symm.trans h
    obtain ⟨rfl, rfl⟩ := z_ret2 h
    exact ho
  · replace h := (if_neg hc).symm.trans h
    exact o8_asks_27 zfuel _ _ _ _ _ ho h
set_option maxRecDepth 20000 in
set_option maxHeartbeats 4000000 in
theorem o8_law_57 {r1 : Int32} {Mr : zM} {M0 : zM} : ∀ (n : Nat) (v2 : Int32) (v3 : Int32) (M : zM), zOut [10, 15, 16, 17, 18, 19, 20, 3, 4, 5, 6, 7, 9] [] M0 M → f8_law_57 n v2 v3 M = some (r1, Mr) → zOut [10, 15, 16, 17, 18, 19, 20, 3, 4, 5, 6, 7, 9] [] M0 Mr := by
  intro n
  induction n with
  | zero => intro v2 v3 M ho h; cases h
  | succ n ih =>
    intro v2 v3 M ho h
    rw [f8_law_57] at h
    by_cases hc : (10 : Int32) ≤ v3
    · replace h := (if_pos hc).symm.trans h
      obtain ⟨x1, hx1, h⟩ := z_bind h
      obtain ⟨x2, hx2, h⟩ := z_bind h
      obtain ⟨M3, hM3, h⟩ := z_bind h
      replace ho := ho.call (o_X3_tell_ hM3) (by simp) (by simp)
      obtain ⟨rfl, rfl⟩ := z_ret2 h
      exact ho
    · replace h := (if_neg hc).symm.trans h
      obtain ⟨p1, hp1, h⟩ := z_bind h
      replace ho := ho.call (o_X4_goesOf hp1) (by simp) (by simp)
      obtain ⟨p2, hp2, h⟩ := z_bind h
      replace ho := ho.call (o_X4_goesOf hp2) (by simp) (by simp)
      obtain ⟨M3, hM3, h⟩ := z_bind h
      replace ho := ho.call (o_X7_passNight hM3) (by simp) (by simp)
      obtain ⟨M4, hM4, h⟩ := z_bind h
      replace ho := ho.call (o_X7_passNight hM4) (by simp) (by simp)
      exact ih _ _ _ ho h
set_option maxRecDepth 20000 in
set_option maxHeartbeats 4000000 in
theorem o_X8_law {M : zM} {r1 : Int32} {Mr : zM} (h : f8_law M = some (r1, Mr)) : zOut [10, 15, 16, 17, 18, 19, 20, 3, 4, 5, 6, 7, 9] [] M Mr := by
  have ho : zOut [10, 15, 16, 17, 18, 19, 20, 3, 4, 5, 6, 7, 9] [] M M := zOut.rf
  rw [f8_law] at h
  obtain ⟨p1, hp1, h⟩ := z_bind h
  replace ho := ho.call (o_X4_readFrom hp1) (by simp) (by simp)
  replace ho := ho.si 7 1 (0 : Int32) (by simp)
  by_cases hc : p1.1 = (-1 : Int32)
  · replace h := (if_pos hc).symm.trans h
    obtain ⟨M2, hM2, h⟩ := z_bind h
    replace ho := ho.call (o_X7_become hM2) (by simp) (by simp)
    obtain ⟨M3, hM3, h⟩ := z_bind h
    replace ho := ho.call (o_X7_become hM3) (by simp) (by simp)
    exact o8_law_57 zfuel _ _ _ ho h
  · replace h := (if_neg hc).symm.trans h
    obtain ⟨rfl, rfl⟩ := z_ret2 h
    exact ho
set_option maxRecDepth 20000 in
set_option maxHeartbeats 4000000 in
theorem o8_years_121 {r1 : Int32} {Mr : zM} {M0 : zM} {k31 : Int32 → Int32 → zM → Option (Int32 × zM)} (hk31 : ∀ (v2 : Int32) (v3 : Int32) (M : zM), zOut [0, 10, 15, 22, 23, 3, 4, 9] [] M0 M → k31 v2 v3 M = some (r1, Mr) → zOut [0, 10, 15, 22, 23, 3, 4, 9] [] M0 Mr) : ∀ (v2 : Int32) (v3 : Int32) (M : zM), zOut [0, 10, 15, 22, 23, 3, 4, 9] [] M0 M → f8_years_121 k31 v2 v3 M = some (r1, Mr) → zOut [0, 10, 15, 22, 23, 3, 4, 9] [] M0 Mr := by
  intro v2 v3 M ho h
  rw [f8_years_121] at h
  exact hk31 _ _ _ ho h
set_option maxRecDepth 20000 in
set_option maxHeartbeats 4000000 in
theorem o8_years_31 {r1 : Int32} {Mr : zM} {M0 : zM} : ∀ (n : Nat) (v2 : Int32) (v3 : Int32) (M : zM), zOut [0, 10, 15, 22, 23, 3, 4, 9] [] M0 M → f8_years_31 n v2 v3 M = some (r1, Mr) → zOut [0, 10, 15, 22, 23, 3, 4, 9] [] M0 Mr := by
  intro n
  induction n with
  | zero => intro v2 v3 M ho h; cases h
  | succ n ih =>
    intro v2 v3 M ho h
    rw [f8_years_31] at h
    by_cases hc : v2 ≤ v3
    · replace h := (if_pos hc).symm.trans h
      obtain ⟨x1, hx1, h⟩ := z_bind h
      obtain ⟨p2, hp2, h⟩ := z_bind h
      replace ho := ho.call (o_X0_isTogether hp2) (by simp) (by simp)
      obtain ⟨M3, hM3, h⟩ := z_bind h
      replace ho := ho.call (o_X3_tell_ hM3) (by simp) (by simp)
      obtain ⟨x4, hx4, h⟩ := z_bind h
      obtain ⟨rfl, rfl⟩ := z_ret2 h
      exact ho
    · replace h := (if_neg hc).symm.trans h
      obtain ⟨p1, hp1, h⟩ := z_bind h
      replace ho := ho.call (o_X8_drawnBelow hp1) (by simp) (by simp)
      by_cases hc : (2 : Int32) ≤ p1.1
      · replace h := (if_pos hc).symm.trans h
        by_cases hc : p1.1 = (2 : Int32)
        · replace h := (if_pos hc).symm.trans h
          obtain ⟨p2, hp2, h⟩ := z_bind h
          replace ho := ho.call (o_X8_drawnBelow hp2) (by simp) (by simp)
          obtain ⟨p3, hp3, h⟩ := z_bind h
          replace ho := ho.call (o_X8_drawnBelow hp3) (by simp) (by simp)
          obtain ⟨p4, hp4, h⟩ := z_bind h
          replace ho := ho.call (o_X7_turnCell hp4) (by simp) (by simp)
          exact o8_years_121 (fun u0 u1 u2 ho h => ih u0 u1 u2 ho h) _ _ _ ho h
        · replace h := (if_neg hc).symm.trans h
          obtain ⟨M2, hM2, h⟩ := z_bind h
          replace ho := ho.call (o_X8_weaveDrawn hM2) (by simp) (by simp)
          exact o8_years_121 (fun u0 u1 u2 ho h => ih u0 u1 u2 ho h) _ _ _ ho h
      · replace h := (if_neg hc).symm.trans h
        obtain ⟨p2, hp2, h⟩ := z_bind h
        replace ho := ho.call (o_X4_goesOf hp2) (by simp) (by simp)
        obtain ⟨M3, hM3, h⟩ := z_bind h
        replace ho := ho.call (o_X7_passNight hM3) (by simp) (by simp)
        exact o8_years_121 (fun u0 u1 u2 ho h => ih u0 u1 u2 ho h) _ _ _ ho h
set_option maxRecDepth 20000 in
set_option maxHeartbeats 4000000 in
theorem o_X8_years {v1 : Int32} {v2 : Int32} {M : zM} {r1 : Int32} {Mr : zM} (h : f8_years v1 v2 M = some (r1, Mr)) : zOut [0, 10, 15, 22, 23, 3, 4, 9] [] M Mr := by
  have ho : zOut [0, 10, 15, 22, 23, 3, 4, 9] [] M M := zOut.rf
  rw [f8_years] at h
  by_cases hc : v2 < (1 : Int32)
  · replace h := (if_pos hc).symm.trans h
    obtain ⟨rfl, rfl⟩ := z_ret2 h
    exact ho
  · replace h := (if_neg hc).symm.trans h
    by_cases hc : v2 ≤ (60 : Int32)
    · replace h := (if_pos hc).symm.trans h
      replace ho := ho.si 0 12 v1 (by simp)
      obtain ⟨M1, hM1, h⟩ := z_bind h
      replace ho := ho.call (o_X7_become hM1) (by simp) (by simp)
      exact o8_years_31 zfuel _ _ _ ho h
    · replace h := (if_neg hc).symm.trans h
      obtain ⟨rfl, rfl⟩ := z_ret2 h
      exact ho
set_option maxRecDepth 20000 in
set_option maxHeartbeats 4000000 in
theorem o8_passNights_19 {r1 : Int32} {Mr : zM} {M0 : zM} : ∀ (n : Nat) (v1 : Int32) (v2 : Int32) (v3 : Int32) (v4 : Int32) (M : zM), zOut [1, 10, 15, 2, 9] [] M0 M → f8_passNights_19 n v1 v2 v3 v4 M = some (r1, Mr) → zOut [1, 10, 15, 2, 9] [] M0 Mr := by
  intro n
  induction n with
  | zero => intro v1 v2 v3 v4 M ho h; cases h
  | succ n ih =>
    intro v1 v2 v3 v4 M ho h
    rw [f8_passNights_19] at h
    by_cases hc : v1 ≤ v4
    · replace h := (if_pos hc).symm.trans h
      obtain ⟨M1, hM1, h⟩ := z_bind h
      replace ho := ho.call (o_X3_tell_ hM1) (by simp) (by simp)
      obtain ⟨x2, hx2, h⟩ := z_bind h
      obtain ⟨rfl, rfl⟩ := z_ret2 h
      exact ho
    · replace h := (if_neg hc).symm.trans h
      obtain ⟨p1, hp1, h⟩ := z_bind h
      replace ho := ho.call (o_X4_goesOf hp1) (by simp) (by simp)
      obtain ⟨M2, hM2, h⟩ := z_bind h
      replace ho := ho.call (o_X7_passNight hM2) (by simp) (by simp)
      exact ih _ _ _ _ _ ho h
set_option maxRecDepth 20000 in
set_option maxHeartbeats 4000000 in
theorem o_X8_passNights {v1 : Int32} {M : zM} {r1 : Int32} {Mr : zM} (h : f8_passNights v1 M = some (r1, Mr)) : zOut [1, 10, 15, 2, 9] [] M Mr := by
  have ho : zOut [1, 10, 15, 2, 9] [] M M := zOut.rf
  rw [f8_passNights] at h
  exact o8_passNights_19 zfuel _ _ _ _ _ ho h
set_option maxRecDepth 20000 in
set_option maxHeartbeats 4000000 in
theorem o_X8_actAt {v1 : Int32} {M : zM} {r1 : Int32} {Mr : zM} (h : f8_actAt v1 M = some (r1, Mr)) : zOut [1, 10, 15, 2, 9] [] M Mr := by
  have ho : zOut [1, 10, 15, 2, 9] [] M M := zOut.rf
  rw [f8_actAt] at h
  obtain ⟨x1, hx1, h⟩ := z_bind h
  obtain ⟨x2, hx2, h⟩ := z_bind h
  obtain ⟨x3, hx3, h⟩ := z_bind h
  by_cases hc1 : x3 = (100 : Int32)
  · replace h := (if_pos hc1).symm.trans h
    obtain ⟨p4, hp4, h⟩ := z_bind h
    replace ho := ho.call (o_X7_drawOut hp4) (by simp) (by simp)
    obtain ⟨rfl, rfl⟩ := z_ret2 h
    exact ho
  replace h := (if_neg hc1).symm.trans h
  by_cases hc2 : x3 = (110 : Int32)
  · replace h := (if_pos hc2).symm.trans h
    obtain ⟨p4, hp4, h⟩ := z_bind h
    replace ho := ho.call (o_X8_passNights hp4) (by simp) (by simp)
    obtain ⟨rfl, rfl⟩ := z_ret2 h
    exact ho
  replace h := (if_neg hc2).symm.trans h
  by_cases hc3 : x3 = (116 : Int32)
  · replace h := (if_pos hc3).symm.trans h
    obtain ⟨p4, hp4, h⟩ := z_bind h
    replace ho := ho.call (o_X7_turnCell hp4) (by simp) (by simp)
    obtain ⟨rfl, rfl⟩ := z_ret2 h
    exact ho
  replace h := (if_neg hc3).symm.trans h
  by_cases hc4 : x3 = (119 : Int32)
  · replace h := (if_pos hc4).symm.trans h
    obtain ⟨x4, hx4, h⟩ := z_bind h
    obtain ⟨x5, hx5, h⟩ := z_bind h
    obtain ⟨p6, hp6, h⟩ := z_bind h
    replace ho := ho.call (o_X7_weaveIn hp6) (by simp) (by simp)
    obtain ⟨rfl, rfl⟩ := z_ret2 h
    exact ho
  replace h := (if_neg hc4).symm.trans h
  obtain ⟨p4, hp4, h⟩ := z_bind h
  replace ho := ho.call (o_X7_turnRound hp4) (by simp) (by simp)
  obtain ⟨rfl, rfl⟩ := z_ret2 h
  exact ho
set_option maxRecDepth 20000 in
set_option maxHeartbeats 4000000 in
theorem o_X8_nights {v1 : Int32} {M : zM} {r1 : Int32} {Mr : zM} (h : f8_nights v1 M = some (r1, Mr)) : zOut [1, 10, 15, 2, 33, 34, 35, 9] [] M Mr := by
  have ho : zOut [1, 10, 15, 2, 33, 34, 35, 9] [] M M := zOut.rf
  rw [f8_nights] at h
  by_cases hc : v1 < 0
  · replace h := (if_pos hc).symm.trans h
    obtain ⟨rfl, rfl⟩ := z_ret2 h
    exact ho
  · replace h := (if_neg hc).symm.trans h
    by_cases hc : v1 ≤ (60 : Int32)
    · replace h := (if_pos hc).symm.trans h
      obtain ⟨x1, hx1, h⟩ := z_bind h
      obtain ⟨M2, hM2, h⟩ := z_bind h
      replace ho := ho.call (o_X2_push hM2) (by simp) (by simp)
      obtain ⟨p3, hp3, h⟩ := z_bind h
      replace ho := ho.call (o_X8_passNights hp3) (by simp) (by simp)
      obtain ⟨rfl, rfl⟩ := z_ret2 h
      exact ho
    · replace h := (if_neg hc).symm.trans h
      obtain ⟨rfl, rfl⟩ := z_ret2 h
      exact ho
set_option maxRecDepth 20000 in
set_option maxHeartbeats 4000000 in
theorem o8_work_131 {r1 : Int32} {Mr : zM} {M0 : zM} : ∀ (v5 : Int32) (v6 : Int32) (M : zM), zOut [1, 10, 15, 2, 33, 34, 35, 7, 9] [] M0 M → f8_work_131 v5 v6 M = some (r1, Mr) → zOut [1, 10, 15, 2, 33, 34, 35, 7, 9] [] M0 Mr := by
  intro v5 v6 M ho h
  rw [f8_work_131] at h
  obtain ⟨x1, hx1, h⟩ := z_bind h
  obtain ⟨M2, hM2, h⟩ := z_bind h
  replace ho := ho.call (o_X3_tell_ hM2) (by simp) (by simp)
  obtain ⟨rfl, rfl⟩ := z_ret2 h
  exact ho
set_option maxRecDepth 20000 in
set_option maxHeartbeats 4000000 in
theorem o8_work_108 {r1 : Int32} {Mr : zM} {M0 : zM} : ∀ (v2 : Int64) (v4 : Int32) (v5 : Int32) (v6 : Int32) (M : zM), zOut [1, 10, 15, 2, 33, 34, 35, 7, 9] [] M0 M → f8_work_108 v2 v4 v5 v6 M = some (r1, Mr) → zOut [1, 10, 15, 2, 33, 34, 35, 7, 9] [] M0 Mr := by
  intro v2 v4 v5 v6 M ho h
  rw [f8_work_108] at h
  replace ho := ho.si 7 1 (0 : Int32) (by simp)
  by_cases hc : v5 ≤ 0
  · replace h := (if_pos hc).symm.trans h
    exact o8_work_131 _ _ _ ho h
  · replace h := (if_neg hc).symm.trans h
    obtain ⟨M1, hM1, h⟩ := z_bind h
    replace ho := ho.call (o_X2_push hM1) (by simp) (by simp)
    exact o8_work_131 _ _ _ ho h
set_option maxRecDepth 20000 in
set_option maxHeartbeats 4000000 in
theorem o8_work_83 {r1 : Int32} {Mr : zM} {M0 : zM} {k48 : Int64 → Int32 → Int32 → Int32 → Int32 → zM → Option (Int32 × zM)} (hk48 : ∀ (v2 : Int64) (v4 : Int32) (v5 : Int32) (v6 : Int32) (v7 : Int32) (M : zM), zOut [1, 10, 15, 2, 33, 34, 35, 7, 9] [] M0 M → k48 v2 v4 v5 v6 v7 M = some (r1, Mr) → zOut [1, 10, 15, 2, 33, 34, 35, 7, 9] [] M0 Mr) : ∀ (v2 : Int64) (v4 : Int32) (v5 : Int32) (v6 : Int32) (v7 : Int32) (M : zM), zOut [1, 10, 15, 2, 33, 34, 35, 7, 9] [] M0 M → f8_work_83 k48 v2 v4 v5 v6 v7 M = some (r1, Mr) → zOut [1, 10, 15, 2, 33, 34, 35, 7, 9] [] M0 Mr := by
  intro v2 v4 v5 v6 v7 M ho h
  rw [f8_work_83] at h
  obtain ⟨x1, hx1, h⟩ := z_bind h
  obtain ⟨x2, hx2, h⟩ := z_bind h
  obtain ⟨x3, hx3, h⟩ := z_bind h
  exact hk48 _ _ _ _ _ _ ho h
set_option maxRecDepth 20000 in
set_option maxHeartbeats 4000000 in
theorem o8_work_48 {r1 : Int32} {Mr : zM} {M0 : zM} : ∀ (n : Nat) (v2 : Int64) (v4 : Int32) (v5 : Int32) (v6 : Int32) (v7 : Int32) (M : zM), zOut [1, 10, 15, 2, 33, 34, 35, 7, 9] [] M0 M → f8_work_48 n v2 v4 v5 v6 v7 M = some (r1, Mr) → zOut [1, 10, 15, 2, 33, 34, 35, 7, 9] [] M0 Mr := by
  intro n
  induction n with
  | zero => intro v2 v4 v5 v6 v7 M ho h; cases h
  | succ n ih =>
    intro v2 v4 v5 v6 v7 M ho h
    rw [f8_work_48] at h
    by_cases hc : (M.1 7 1) ≤ v7
    · replace h := (if_pos hc).symm.trans h
      exact o8_work_108 _ _ _ _ _ ho h
    · replace h := (if_neg hc).symm.trans h
      by_cases hc : v6 = 0
      · replace h := (if_pos hc).symm.trans h
        obtain ⟨p1, hp1, h⟩ := z_bind h
        replace ho := ho.call (o_X8_actAt hp1) (by simp) (by simp)
        by_cases hc : 0 ≤ p1.1
        · replace h := (if_pos hc).symm.trans h
          exact o8_work_83 (fun u0 u1 u2 u3 u4 u5 ho h => ih u0 u1 u2 u3 u4 u5 ho h) _ _ _ _ _ _ ho h
        · replace h := (if_neg hc).symm.trans h
          exact o8_work_83 (fun u0 u1 u2 u3 u4 u5 ho h => ih u0 u1 u2 u3 u4 u5 ho h) _ _ _ _ _ _ ho h
      · replace h := (if_neg hc).symm.trans h
        exact o8_work_108 _ _ _ _ _ ho h
set_option maxRecDepth 20000 in
set_option maxHeartbeats 4000000 in
theorem o_X8_work {M : zM} {r1 : Int32} {Mr : zM} (h : f8_work M = some (r1, Mr)) : zOut [1, 10, 15, 2, 33, 34, 35, 7, 9] [] M Mr := by
  have ho : zOut [1, 10, 15, 2, 33, 34, 35, 7, 9] [] M M := zOut.rf
  rw [f8_work] at h
  obtain ⟨x1, hx1, h⟩ := z_bind h
  by_cases hc : x1 = (-1 : Int32)
  · replace h := (if_pos hc).symm.trans h
    obtain ⟨x2, hx2, h⟩ := z_bind h
    exact o8_work_48 zfuel _ _ _ _ _ _ ho h
  · replace h := (if_neg hc).symm.trans h
    replace ho := ho.si 7 1 (0 : Int32) (by simp)
    obtain ⟨rfl, rfl⟩ := z_ret2 h
    exact ho
set_option maxRecDepth 20000 in
set_option maxHeartbeats 4000000 in
theorem o8_outlasts_44 {r1 : Int32} {Mr : zM} {M0 : zM} {k6 : Int32 → Int32 → Int32 → zM → Option (Int32 × zM)} (hk6 : ∀ (v1 : Int32) (v2 : Int32) (v3 : Int32) (M : zM), zOut [10, 9] [] M0 M → k6 v1 v2 v3 M = some (r1, Mr) → zOut [10, 9] [] M0 Mr) : ∀ (v1 : Int32) (v2 : Int32) (v3 : Int32) (M : zM), zOut [10, 9] [] M0 M → f8_outlasts_44 k6 v1 v2 v3 M = some (r1, Mr) → zOut [10, 9] [] M0 Mr := by
  intro v1 v2 v3 M ho h
  rw [f8_outlasts_44] at h
  exact hk6 _ _ _ _ ho h
set_option maxRecDepth 20000 in
set_option maxHeartbeats 4000000 in
theorem o8_outlasts_6 {r1 : Int32} {Mr : zM} {M0 : zM} : ∀ (n : Nat) (v1 : Int32) (v2 : Int32) (v3 : Int32) (M : zM), zOut [10, 9] [] M0 M → f8_outlasts_6 n v1 v2 v3 M = some (r1, Mr) → zOut [10, 9] [] M0 Mr := by
  intro n
  induction n with
  | zero => intro v1 v2 v3 M ho h; cases h
  | succ n ih =>
    intro v1 v2 v3 M ho h
    rw [f8_outlasts_6] at h
    by_cases hc : (zshl (1 : Int32) (M.1 1 0)) ≤ v3
    · replace h := (if_pos hc).symm.trans h
      obtain ⟨M1, hM1, h⟩ := z_bind h
      replace ho := ho.call (o_X3_tell hM1) (by simp) (by simp)
      obtain ⟨rfl, rfl⟩ := z_ret2 h
      exact ho
    · replace h := (if_neg hc).symm.trans h
      obtain ⟨x1, hx1, h⟩ := z_bind h
      by_cases hc : x1 ≤ v1
      · replace h := (if_pos hc).symm.trans h
        exact o8_outlasts_44 (fun u0 u1 u2 u3 ho h => ih u0 u1 u2 u3 ho h) _ _ _ _ ho h
      · replace h := (if_neg hc).symm.trans h
        obtain ⟨x2, hx2, h⟩ := z_bind h
        by_cases hc : x2 = 0
        · replace h := (if_pos hc).symm.trans h
          exact o8_outlasts_44 (fun u0 u1 u2 u3 ho h => ih u0 u1 u2 u3 ho h) _ _ _ _ ho h
        · replace h := (if_neg hc).symm.trans h
          exact o8_outlasts_44 (fun u0 u1 u2 u3 ho h => ih u0 u1 u2 u3 ho h) _ _ _ _ ho h
set_option maxRecDepth 20000 in
set_option maxHeartbeats 4000000 in
theorem o_X8_outlasts {M : zM} {r1 : Int32} {Mr : zM} (h : f8_outlasts M = some (r1, Mr)) : zOut [10, 9] [] M Mr := by
  have ho : zOut [10, 9] [] M M := zOut.rf
  rw [f8_outlasts] at h
  exact o8_outlasts_6 zfuel _ _ _ _ ho h
