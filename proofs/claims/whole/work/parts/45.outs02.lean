set_option maxRecDepth 20000 in
set_option maxHeartbeats 4000000 in
theorem o_X9_repeats {M : zM} {r1 : Int32} {Mr : zM} (h : f9_repeats M = some (r1, Mr)) : zOut [40] [0, 1] M Mr := by
  have ho : zOut [40] [0, 1] M M := zOut.rf
  rw [f9_repeats] at h
  replace ho := ho.si 39 0 (0 : Int32) (by simp)
  replace ho := ho.si 39 1 (0 : Int32) (by simp)
  obtain ⟨x1, hx1, h⟩ := z_bind h
  obtain ⟨M2, hM2, h⟩ := z_bind h
  replace ho := ho.call (o_X9_enters hM2) (by simp) (by simp)
  obtain ⟨x3, hx3, h⟩ := z_bind h
  obtain ⟨rfl, rfl⟩ := z_ret2 h
  exact ho
set_option maxRecDepth 20000 in
set_option maxHeartbeats 4000000 in
theorem o9_runsOf_80 {r1 : Int32} {Mr : zM} {M0 : zM} {k38 : Int32 → Int32 → Int32 → Int32 → Int32 → Int32 → zM → Option (Int32 × zM)} (hk38 : ∀ (v1 : Int32) (v2 : Int32) (v3 : Int32) (v4 : Int32) (v5 : Int32) (v6 : Int32) (M : zM), zOut [] [30] M0 M → k38 v1 v2 v3 v4 v5 v6 M = some (r1, Mr) → zOut [] [30] M0 Mr) : ∀ (v1 : Int32) (v2 : Int32) (v3 : Int32) (v4 : Int32) (v5 : Int32) (v6 : Int32) (s0 : Int32) (M : zM), zOut [] [30] M0 M → f9_runsOf_80 k38 v1 v2 v3 v4 v5 v6 s0 M = some (r1, Mr) → zOut [] [30] M0 Mr := by
  intro v1 v2 v3 v4 v5 v6 s0 M ho h
  rw [f9_runsOf_80] at h
  obtain ⟨x1, hx1, h⟩ := z_bind h
  replace ho := ho.si 39 30 (zmax (M.1 39 30) (if s0 = 0 then (1 : Int32) else (v5 + (1 : Int32)))) (by simp)
  exact hk38 _ _ _ _ _ _ _ ho h
set_option maxRecDepth 20000 in
set_option maxHeartbeats 4000000 in
theorem o9_runsOf_38 {r1 : Int32} {Mr : zM} {M0 : zM} {k132 : Int32 → Int32 → Int32 → zM → Option (Int32 × zM)} (hk132 : ∀ (v1 : Int32) (v2 : Int32) (v3 : Int32) (M : zM), zOut [] [30] M0 M → k132 v1 v2 v3 M = some (r1, Mr) → zOut [] [30] M0 Mr) : ∀ (n : Nat) (v1 : Int32) (v2 : Int32) (v3 : Int32) (v4 : Int32) (v5 : Int32) (v6 : Int32) (M : zM), zOut [] [30] M0 M → f9_runsOf_38 k132 n v1 v2 v3 v4 v5 v6 M = some (r1, Mr) → zOut [] [30] M0 Mr := by
  intro n
  induction n with
  | zero => intro v1 v2 v3 v4 v5 v6 M ho h; cases h
  | succ n ih =>
    intro v1 v2 v3 v4 v5 v6 M ho h
    rw [f9_runsOf_38] at h
    obtain ⟨x1, hx1, h⟩ := z_bind h
    by_cases hc : x1 ≤ v6
    · replace h := (if_pos hc).symm.trans h
      exact hk132 _ _ _ _ ho h
    · replace h := (if_neg hc).symm.trans h
      by_cases hc : v6 ≤ 0
      · replace h := (if_pos hc).symm.trans h
        exact o9_runsOf_80 (fun u0 u1 u2 u3 u4 u5 u6 ho h => ih u0 u1 u2 u3 u4 u5 u6 ho h) _ _ _ _ _ _ _ _ ho h
      · replace h := (if_neg hc).symm.trans h
        obtain ⟨x2, hx2, h⟩ := z_bind h
        obtain ⟨x3, hx3, h⟩ := z_bind h
        exact o9_runsOf_80 (fun u0 u1 u2 u3 u4 u5 u6 ho h => ih u0 u1 u2 u3 u4 u5 u6 ho h) _ _ _ _ _ _ _ _ ho h
set_option maxRecDepth 20000 in
set_option maxHeartbeats 4000000 in
theorem o9_runsOf_132 {r1 : Int32} {Mr : zM} {M0 : zM} {k9 : Int32 → Int32 → Int32 → zM → Option (Int32 × zM)} (hk9 : ∀ (v1 : Int32) (v2 : Int32) (v3 : Int32) (M : zM), zOut [] [30] M0 M → k9 v1 v2 v3 M = some (r1, Mr) → zOut [] [30] M0 Mr) : ∀ (v1 : Int32) (v2 : Int32) (v3 : Int32) (M : zM), zOut [] [30] M0 M → f9_runsOf_132 k9 v1 v2 v3 M = some (r1, Mr) → zOut [] [30] M0 Mr := by
  intro v1 v2 v3 M ho h
  rw [f9_runsOf_132] at h
  exact hk9 _ _ _ _ ho h
set_option maxRecDepth 20000 in
set_option maxHeartbeats 4000000 in
theorem o9_runsOf_9 {r1 : Int32} {Mr : zM} {M0 : zM} : ∀ (n : Nat) (v1 : Int32) (v2 : Int32) (v3 : Int32) (M : zM), zOut [] [30] M0 M → f9_runsOf_9 n v1 v2 v3 M = some (r1, Mr) → zOut [] [30] M0 Mr := by
  intro n
  induction n with
  | zero => intro v1 v2 v3 M ho h; cases h
  | succ n ih =>
    intro v1 v2 v3 M ho h
    rw [f9_runsOf_9] at h
    obtain ⟨x1, hx1, h⟩ := z_bind h
    by_cases hc : x1 ≤ v3
    · replace h := (if_pos hc).symm.trans h
      obtain ⟨rfl, rfl⟩ := z_ret2 h
      exact ho
    · replace h := (if_neg hc).symm.trans h
      obtain ⟨x2, hx2, h⟩ := z_bind h
      exact o9_runsOf_38 (fun u0 u1 u2 u3 ho h => o9_runsOf_132 (fun u0 u1 u2 u3 ho h => ih u0 u1 u2 u3 ho h) u0 u1 u2 u3 ho h) zfuel _ _ _ _ _ _ _ ho h
set_option maxRecDepth 20000 in
set_option maxHeartbeats 4000000 in
theorem o_X9_runsOf {v1 : Int32} {M : zM} {r1 : Int32} {Mr : zM} (h : f9_runsOf v1 M = some (r1, Mr)) : zOut [] [30] M Mr := by
  have ho : zOut [] [30] M M := zOut.rf
  rw [f9_runsOf] at h
  replace ho := ho.si 39 30 (0 : Int32) (by simp)
  exact o9_runsOf_9 zfuel _ _ _ _ ho h
set_option maxRecDepth 20000 in
set_option maxHeartbeats 4000000 in
theorem o_X9_runs {M : zM} {r1 : Int32} {Mr : zM} (h : f9_runs M = some (r1, Mr)) : zOut [40] [0, 1, 30] M Mr := by
  have ho : zOut [40] [0, 1, 30] M M := zOut.rf
  rw [f9_runs] at h
  replace ho := ho.si 39 0 (0 : Int32) (by simp)
  obtain ⟨p1, hp1, h⟩ := z_bind h
  replace ho := ho.call (o_X9_runsOf hp1) (by simp) (by simp)
  replace ho := ho.si 39 1 (0 : Int32) (by simp)
  obtain ⟨M2, hM2, h⟩ := z_bind h
  replace ho := ho.call (o_X9_enters hM2) (by simp) (by simp)
  obtain ⟨p3, hp3, h⟩ := z_bind h
  replace ho := ho.call (o_X9_runsOf hp3) (by simp) (by simp)
  obtain ⟨M4, hM4, h⟩ := z_bind h
  replace ho := ho.call (o_X9_enters hM4) (by simp) (by simp)
  obtain ⟨M5, hM5, h⟩ := z_bind h
  replace ho := ho.call (o_X9_enters hM5) (by simp) (by simp)
  obtain ⟨rfl, rfl⟩ := z_ret2 h
  exact ho
set_option maxRecDepth 20000 in
set_option maxHeartbeats 4000000 in
theorem o9_twins_120 {r1 : Int32} {Mr : zM} {M0 : zM} {k24 : Int32 → Int32 → Int32 → zM → Option (Int32 × zM)} (hk24 : ∀ (v1 : Int32) (v2 : Int32) (v3 : Int32) (M : zM), zOut [40] [0, 1] M0 M → k24 v1 v2 v3 M = some (r1, Mr) → zOut [40] [0, 1] M0 Mr) : ∀ (v1 : Int32) (v2 : Int32) (v3 : Int32) (v4 : Int32) (M : zM), zOut [40] [0, 1] M0 M → f9_twins_120 k24 v1 v2 v3 v4 M = some (r1, Mr) → zOut [40] [0, 1] M0 Mr := by
  intro v1 v2 v3 v4 M ho h
  rw [f9_twins_120] at h
  obtain ⟨x1, hx1, h⟩ := z_bind h
  exact hk24 _ _ _ _ ho h
set_option maxRecDepth 20000 in
set_option maxHeartbeats 4000000 in
theorem o9_twins_97 {r1 : Int32} {Mr : zM} {M0 : zM} {k24 : Int32 → Int32 → Int32 → zM → Option (Int32 × zM)} (hk24 : ∀ (v1 : Int32) (v2 : Int32) (v3 : Int32) (M : zM), zOut [40] [0, 1] M0 M → k24 v1 v2 v3 M = some (r1, Mr) → zOut [40] [0, 1] M0 Mr) : ∀ (v1 : Int32) (v2 : Int32) (v3 : Int32) (s0 : Int32) (M : zM), zOut [40] [0, 1] M0 M → f9_twins_97 k24 v1 v2 v3 s0 M = some (r1, Mr) → zOut [40] [0, 1] M0 Mr := by
  intro v1 v2 v3 s0 M ho h
  rw [f9_twins_97] at h
  by_cases hc : s0 = 0
  · replace h := (if_pos hc).symm.trans h
    exact o9_twins_120 hk24 _ _ _ _ _ ho h
  · replace h := (if_neg hc).symm.trans h
    by_cases hc : v1 = 0
    · replace h := (if_pos hc).symm.trans h
      obtain ⟨M1, hM1, h⟩ := z_bind h
      replace ho := ho.call (o_X9_enters hM1) (by simp) (by simp)
      obtain ⟨M2, hM2, h⟩ := z_bind h
      replace ho := ho.call (o_X9_enters hM2) (by simp) (by simp)
      exact o9_twins_120 hk24 _ _ _ _ _ ho h
    · replace h := (if_neg hc).symm.trans h
      exact o9_twins_120 hk24 _ _ _ _ _ ho h
set_option maxRecDepth 20000 in
set_option maxHeartbeats 4000000 in
theorem o9_twins_24 {r1 : Int32} {Mr : zM} {M0 : zM} {k134 : Int32 → Int32 → zM → Option (Int32 × zM)} (hk134 : ∀ (v1 : Int32) (v2 : Int32) (M : zM), zOut [40] [0, 1] M0 M → k134 v1 v2 M = some (r1, Mr) → zOut [40] [0, 1] M0 Mr) : ∀ (n : Nat) (v1 : Int32) (v2 : Int32) (v3 : Int32) (M : zM), zOut [40] [0, 1] M0 M → f9_twins_24 k134 n v1 v2 v3 M = some (r1, Mr) → zOut [40] [0, 1] M0 Mr := by
  intro n
  induction n with
  | zero => intro v1 v2 v3 M ho h; cases h
  | succ n ih =>
    intro v1 v2 v3 M ho h
    rw [f9_twins_24] at h
    by_cases hc : (12 : Int32) ≤ v3
    · replace h := (if_pos hc).symm.trans h
      exact hk134 _ _ _ ho h
    · replace h := (if_neg hc).symm.trans h
      by_cases hc : (v2 / (6 : Int32)) = (v3 / (6 : Int32))
      · replace h := (if_pos hc).symm.trans h
        obtain ⟨x1, hx1, h⟩ := z_bind h
        by_cases hc : x1 = 0
        · replace h := (if_pos hc).symm.trans h
          exact o9_twins_97 (fun u0 u1 u2 u3 ho h => ih u0 u1 u2 u3 ho h) _ _ _ _ _ ho h
        · replace h := (if_neg hc).symm.trans h
          obtain ⟨x2, hx2, h⟩ := z_bind h
          obtain ⟨x3, hx3, h⟩ := z_bind h
          exact o9_twins_97 (fun u0 u1 u2 u3 ho h => ih u0 u1 u2 u3 ho h) _ _ _ _ _ ho h
      · replace h := (if_neg hc).symm.trans h
        exact o9_twins_97 (fun u0 u1 u2 u3 ho h => ih u0 u1 u2 u3 ho h) _ _ _ _ _ ho h
set_option maxRecDepth 20000 in
set_option maxHeartbeats 4000000 in
theorem o9_twins_134 {r1 : Int32} {Mr : zM} {M0 : zM} {k14 : Int32 → Int32 → zM → Option (Int32 × zM)} (hk14 : ∀ (v1 : Int32) (v2 : Int32) (M : zM), zOut [40] [0, 1] M0 M → k14 v1 v2 M = some (r1, Mr) → zOut [40] [0, 1] M0 Mr) : ∀ (v1 : Int32) (v2 : Int32) (M : zM), zOut [40] [0, 1] M0 M → f9_twins_134 k14 v1 v2 M = some (r1, Mr) → zOut [40] [0, 1] M0 Mr := by
  intro v1 v2 M ho h
  rw [f9_twins_134] at h
  exact hk14 _ _ _ ho h
set_option maxRecDepth 20000 in
set_option maxHeartbeats 4000000 in
theorem o9_twins_14 {r1 : Int32} {Mr : zM} {M0 : zM} : ∀ (n : Nat) (v1 : Int32) (v2 : Int32) (M : zM), zOut [40] [0, 1] M0 M → f9_twins_14 n v1 v2 M = some (r1, Mr) → zOut [40] [0, 1] M0 Mr := by
  intro n
  induction n with
  | zero => intro v1 v2 M ho h; cases h
  | succ n ih =>
    intro v1 v2 M ho h
    rw [f9_twins_14] at h
    by_cases hc : (12 : Int32) ≤ v2
    · replace h := (if_pos hc).symm.trans h
      obtain ⟨rfl, rfl⟩ := z_ret2 h
      exact ho
    · replace h := (if_neg hc).symm.trans h
      exact o9_twins_24 (fun u0 u1 u2 ho h => o9_twins_134 (fun u0 u1 u2 ho h => ih u0 u1 u2 ho h) u0 u1 u2 ho h) zfuel _ _ _ _ ho h
set_option maxRecDepth 20000 in
set_option maxHeartbeats 4000000 in
theorem o_X9_twins {M : zM} {r1 : Int32} {Mr : zM} (h : f9_twins M = some (r1, Mr)) : zOut [40] [0, 1] M Mr := by
  have ho : zOut [40] [0, 1] M M := zOut.rf
  rw [f9_twins] at h
  replace ho := ho.si 39 0 (0 : Int32) (by simp)
  replace ho := ho.si 39 1 (0 : Int32) (by simp)
  exact o9_twins_14 zfuel _ _ _ ho h
set_option maxRecDepth 20000 in
set_option maxHeartbeats 4000000 in
theorem o9_game_183 {r1 : Int32} {Mr : zM} {M0 : zM} : ∀ (M : zM), zOut [40, 54, 55, 56, 59] [0, 1] M0 M → f9_game_183 M = some (r1, Mr) → zOut [40, 54, 55, 56, 59] [0, 1] M0 Mr := by
  intro M ho h
  rw [f9_game_183] at h
  obtain ⟨x1, hx1, h⟩ := z_bind h
  obtain ⟨rfl, rfl⟩ := z_ret2 h
  exact ho
set_option maxRecDepth 20000 in
set_option maxHeartbeats 4000000 in
theorem o9_game_177 {r1 : Int32} {Mr : zM} {M0 : zM} {k115 : Int32 → Int32 → zM → Option (Int32 × zM)} (hk115 : ∀ (v1 : Int32) (v2 : Int32) (M : zM), zOut [40, 54, 55, 56, 59] [0, 1] M0 M → k115 v1 v2 M = some (r1, Mr) → zOut [40, 54, 55, 56, 59] [0, 1] M0 Mr) : ∀ (v1 : Int32) (v2 : Int32) (M : zM), zOut [40, 54, 55, 56, 59] [0, 1] M0 M → f9_game_177 k115 v1 v2 M = some (r1, Mr) → zOut [40, 54, 55, 56, 59] [0, 1] M0 Mr := by
  intro v1 v2 M ho h
  rw [f9_game_177] at h
  exact hk115 _ _ _ ho h
set_option maxRecDepth 20000 in
set_option maxHeartbeats 4000000 in
theorem o9_game_115 {r1 : Int32} {Mr : zM} {M0 : zM} : ∀ (n : Nat) (v1 : Int32) (v2 : Int32) (M : zM), zOut [40, 54, 55, 56, 59] [0, 1] M0 M → f9_game_115 n v1 v2 M = some (r1, Mr) → zOut [40, 54, 55, 56, 59] [0, 1] M0 Mr := by
  intro n
  induction n with
  | zero => intro v1 v2 M ho h; cases h
  | succ n ih =>
    intro v1 v2 M ho h
    rw [f9_game_115] at h
    by_cases hc : (12 : Int32) ≤ v2
    · replace h := (if_pos hc).symm.trans h
      exact o9_game_183 _ ho h
    · replace h := (if_neg hc).symm.trans h
      obtain ⟨x1, hx1, h⟩ := z_bind h
      by_cases hc : x1 = 0
      · replace h := (if_pos hc).symm.trans h
        exact o9_game_183 _ ho h
      · replace h := (if_neg hc).symm.trans h
        by_cases hc : (M.1 39 1) = 0
        · replace h := (if_pos hc).symm.trans h
          obtain ⟨x2, hx2, h⟩ := z_bind h
          by_cases hc : x2 = 0
          · replace h := (if_pos hc).symm.trans h
            exact o9_game_177 (fun u0 u1 u2 ho h => ih u0 u1 u2 ho h) _ _ _ ho h
          · replace h := (if_neg hc).symm.trans h
            obtain ⟨x3, hx3, h⟩ := z_bind h
            by_cases hc : x3 = 0
            · replace h := (if_pos hc).symm.trans h
              exact o9_game_177 (fun u0 u1 u2 ho h => ih u0 u1 u2 ho h) _ _ _ ho h
            · replace h := (if_neg hc).symm.trans h
              obtain ⟨x4, hx4, h⟩ := z_bind h
              by_cases hc : x4 = 0
              · replace h := (if_pos hc).symm.trans h
                obtain ⟨M5, hM5, h⟩ := z_bind h
                replace ho := ho.call (o_X9_enters hM5) (by simp) (by simp)
                exact o9_game_177 (fun u0 u1 u2 ho h => ih u0 u1 u2 ho h) _ _ _ ho h
              · replace h := (if_neg hc).symm.trans h
                exact o9_game_177 (fun u0 u1 u2 ho h => ih u0 u1 u2 ho h) _ _ _ ho h
        · replace h := (if_neg hc).symm.trans h
          exact o9_game_183 _ ho h
set_option maxRecDepth 20000 in
set_option maxHeartbeats 4000000 in
theorem o9_game_95 {r1 : Int32} {Mr : zM} {M0 : zM} {k33 : Int32 → Int32 → Int32 → zM → Option (Int32 × zM)} (hk33 : ∀ (v1 : Int32) (v2 : Int32) (v3 : Int32) (M : zM), zOut [40, 54, 55, 56, 59] [0, 1] M0 M → k33 v1 v2 v3 M = some (r1, Mr) → zOut [40, 54, 55, 56, 59] [0, 1] M0 Mr) : ∀ (v1 : Int32) (v2 : Int32) (v3 : Int32) (s1 : Int32) (s2 : Int32) (M : zM), zOut [40, 54, 55, 56, 59] [0, 1] M0 M → f9_game_95 k33 v1 v2 v3 s1 s2 M = some (r1, Mr) → zOut [40, 54, 55, 56, 59] [0, 1] M0 Mr := by
  intro v1 v2 v3 s1 s2 M ho h
  rw [f9_game_95] at h
  obtain ⟨M1, hM1, h⟩ := z_bind h
  replace ho := ho.pZ hM1 (by simp)
  exact hk33 _ _ _ _ ho h
set_option maxRecDepth 20000 in
set_option maxHeartbeats 4000000 in
theorem o9_game_33 {r1 : Int32} {Mr : zM} {M0 : zM} {k102 : Int32 → Int32 → zM → Option (Int32 × zM)} (hk102 : ∀ (v1 : Int32) (v2 : Int32) (M : zM), zOut [40, 54, 55, 56, 59] [0, 1] M0 M → k102 v1 v2 M = some (r1, Mr) → zOut [40, 54, 55, 56, 59] [0, 1] M0 Mr) : ∀ (n : Nat) (v1 : Int32) (v2 : Int32) (v3 : Int32) (M : zM), zOut [40, 54, 55, 56, 59] [0, 1] M0 M → f9_game_33 k102 n v1 v2 v3 M = some (r1, Mr) → zOut [40, 54, 55, 56, 59] [0, 1] M0 Mr := by
  intro n
  induction n with
  | zero => intro v1 v2 v3 M ho h; cases h
  | succ n ih =>
    intro v1 v2 v3 M ho h
    rw [f9_game_33] at h
    by_cases hc : (12 : Int32) ≤ v3
    · replace h := (if_pos hc).symm.trans h
      exact hk102 _ _ _ ho h
    · replace h := (if_neg hc).symm.trans h
      obtain ⟨x1, hx1, h⟩ := z_bind h
      by_cases hc : x1 = 0
      · replace h := (if_pos hc).symm.trans h
        obtain ⟨x2, hx2, h⟩ := z_bind h
        by_cases hc : x2 = 0
        · replace h := (if_pos hc).symm.trans h
          exact o9_game_95 (fun u0 u1 u2 u3 ho h => ih u0 u1 u2 u3 ho h) _ _ _ _ _ _ ho h
        · replace h := (if_neg hc).symm.trans h
          obtain ⟨x3, hx3, h⟩ := z_bind h
          by_cases hc : x3 = 0
          · replace h := (if_pos hc).symm.trans h
            exact o9_game_95 (fun u0 u1 u2 u3 ho h => ih u0 u1 u2 u3 ho h) _ _ _ _ _ _ ho h
          · replace h := (if_neg hc).symm.trans h
            obtain ⟨x4, hx4, h⟩ := z_bind h
            exact o9_game_95 (fun u0 u1 u2 u3 ho h => ih u0 u1 u2 u3 ho h) _ _ _ _ _ _ ho h
      · replace h := (if_neg hc).symm.trans h
        exact o9_game_95 (fun u0 u1 u2 u3 ho h => ih u0 u1 u2 u3 ho h) _ _ _ _ _ _ ho h
set_option maxRecDepth 20000 in
set_option maxHeartbeats 4000000 in
theorem o9_game_102 {r1 : Int32} {Mr : zM} {M0 : zM} {k19 : Int32 → Int32 → zM → Option (Int32 × zM)} (hk19 : ∀ (v1 : Int32) (v2 : Int32) (M : zM), zOut [40, 54, 55, 56, 59] [0, 1] M0 M → k19 v1 v2 M = some (r1, Mr) → zOut [40, 54, 55, 56, 59] [0, 1] M0 Mr) : ∀ (v1 : Int32) (v2 : Int32) (M : zM), zOut [40, 54, 55, 56, 59] [0, 1] M0 M → f9_game_102 k19 v1 v2 M = some (r1, Mr) → zOut [40, 54, 55, 56, 59] [0, 1] M0 Mr := by
  intro v1 v2 M ho h
  rw [f9_game_102] at h
  exact hk19 _ _ _ ho h
set_option maxRecDepth 20000 in
set_option maxHeartbeats 4000000 in
theorem o9_game_19 {r1 : Int32} {Mr : zM} {M0 : zM} : ∀ (n : Nat) (v1 : Int32) (v2 : Int32) (M : zM), zOut [40, 54, 55, 56, 59] [0, 1] M0 M → f9_game_19 n v1 v2 M = some (r1, Mr) → zOut [40, 54, 55, 56, 59] [0, 1] M0 Mr := by
  intro n
  induction n with
  | zero => intro v1 v2 M ho h; cases h
  | succ n ih =>
    intro v1 v2 M ho h
    rw [f9_game_19] at h
    by_cases hc : v1 < v2
    · replace h := (if_pos hc).symm.trans h
      replace ho := ho.si 39 1 (0 : Int32) (by simp)
      exact o9_game_115 zfuel _ _ _ ho h
    · replace h := (if_neg hc).symm.trans h
      obtain ⟨M1, hM1, h⟩ := z_bind h
      replace ho := ho.pZ hM1 (by simp)
      exact o9_game_33 (fun u0 u1 u2 ho h => o9_game_102 (fun u0 u1 u2 ho h => ih u0 u1 u2 ho h) u0 u1 u2 ho h) zfuel _ _ _ _ ho h
set_option maxRecDepth 20000 in
set_option maxHeartbeats 4000000 in
theorem o_X9_game {M : zM} {r1 : Int32} {Mr : zM} (h : f9_game M = some (r1, Mr)) : zOut [40, 54, 55, 56, 59] [0, 1] M Mr := by
  have ho : zOut [40, 54, 55, 56, 59] [0, 1] M M := zOut.rf
  rw [f9_game] at h
  replace ho := ho.si 39 0 (0 : Int32) (by simp)
  obtain ⟨M1, hM1, h⟩ := z_bind h
  replace ho := ho.call (o_X9_laysHangs hM1) (by simp) (by simp)
  obtain ⟨x2, hx2, h⟩ := z_bind h
  exact o9_game_19 zfuel _ _ _ ho h
set_option maxRecDepth 20000 in
set_option maxHeartbeats 4000000 in
theorem o_X9_told {v1 : Int32} {v2 : Int32} {M : zM} {r1 : Int32} {Mr : zM} (h : f9_told v1 v2 M = some (r1, Mr)) : zOut [60, 61] [0, 32] M Mr := by
  have ho : zOut [60, 61] [0, 32] M M := zOut.rf
  rw [f9_told] at h
  replace ho := ho.si 39 0 (0 : Int32) (by simp)
  obtain ⟨x1, hx1, h⟩ := z_bind h
  by_cases hc : x1 = 0
  · replace h := (if_pos hc).symm.trans h
    obtain ⟨rfl, rfl⟩ := z_ret2 h
    exact ho
  · replace h := (if_neg hc).symm.trans h
    obtain ⟨x2, hx2, h⟩ := z_bind h
    obtain ⟨x3, hx3, h⟩ := z_bind h
    by_cases hc : x3 = 0
    · replace h := (if_pos hc).symm.trans h
      obtain ⟨rfl, rfl⟩ := z_ret2 h
      exact ho
    · replace h := (if_neg hc).symm.trans h
      by_cases hc : ((zsi M 39 0 (0 : Int32)).1 39 32) = (12 : Int32)
      · replace h := (if_pos hc).symm.trans h
        obtain ⟨rfl, rfl⟩ := z_ret2 h
        exact ho
      · replace h := (if_neg hc).symm.trans h
        obtain ⟨M4, hM4, h⟩ := z_bind h
        replace ho := ho.pI hM4 (by simp)
        obtain ⟨M5, hM5, h⟩ := z_bind h
        replace ho := ho.pI hM5 (by simp)
        replace ho := ho.si 39 32 ((M5.1 39 32) + (1 : Int32)) (by simp)
        obtain ⟨rfl, rfl⟩ := z_ret2 h
        exact ho
set_option maxRecDepth 20000 in
set_option maxHeartbeats 4000000 in
theorem o_X9_forget {M : zM} {r1 : Int32} {Mr : zM} (h : f9_forget M = some (r1, Mr)) : zOut [] [0, 32] M Mr := by
  have ho : zOut [] [0, 32] M M := zOut.rf
  rw [f9_forget] at h
  replace ho := ho.si 39 0 (0 : Int32) (by simp)
  replace ho := ho.si 39 32 (0 : Int32) (by simp)
  obtain ⟨rfl, rfl⟩ := z_ret2 h
  exact ho
set_option maxRecDepth 20000 in
set_option maxHeartbeats 4000000 in
theorem o_X9_fits {M : zM} {r1 : Int32} {Mr : zM} (h : f9_fits M = some (r1, Mr)) : zOut [40] [0, 1] M Mr := by
  have ho : zOut [40] [0, 1] M M := zOut.rf
  rw [f9_fits] at h
  replace ho := ho.si 39 0 (0 : Int32) (by simp)
  obtain ⟨x1, hx1, h⟩ := z_bind h
  replace ho := ho.si 39 1 (0 : Int32) (by simp)
  obtain ⟨x2, hx2, h⟩ := z_bind h
  obtain ⟨M3, hM3, h⟩ := z_bind h
  replace ho := ho.call (o_X9_enters hM3) (by simp) (by simp)
  obtain ⟨rfl, rfl⟩ := z_ret2 h
  exact ho
set_option maxRecDepth 20000 in
set_option maxHeartbeats 4000000 in
theorem o9_asks_87 {r1 : Int32} {Mr : zM} {M0 : zM} {k51 : Int32 → Int32 → Int32 → Int32 → Int32 → Int32 → Int32 → zM → Option (Int32 × zM)} (hk51 : ∀ (v1 : Int32) (v2 : Int32) (v3 : Int32) (v4 : Int32) (v5 : Int32) (v6 : Int32) (v7 : Int32) (M : zM), zOut [40] [0, 1] M0 M → k51 v1 v2 v3 v4 v5 v6 v7 M = some (r1, Mr) → zOut [40] [0, 1] M0 Mr) : ∀ (v1 : Int32) (v2 : Int32) (v3 : Int32) (v4 : Int32) (v5 : Int32) (v7 : Int32) (s0 : Int32) (s1 : Int32) (M : zM), zOut [40] [0, 1] M0 M → f9_asks_87 k51 v1 v2 v3 v4 v5 v7 s0 s1 M = some (r1, Mr) → zOut [40] [0, 1] M0 Mr := by
  intro v1 v2 v3 v4 v5 v7 s0 s1 M ho h
  rw [f9_asks_87] at h
  obtain ⟨x1, hx1, h⟩ := z_bind h
  exact hk51 _ _ _ _ _ _ _ _ ho h
set_option maxRecDepth 20000 in
set_option maxHeartbeats 4000000 in
theorem o9_asks_51 {r1 : Int32} {Mr : zM} {M0 : zM} {k99 : Int32 → Int32 → Int32 → Int32 → Int32 → Int32 → zM → Option (Int32 × zM)} (hk99 : ∀ (v1 : Int32) (v2 : Int32) (v3 : Int32) (v4 : Int32) (v5 : Int32) (v6 : Int32) (M : zM), zOut [40] [0, 1] M0 M → k99 v1 v2 v3 v4 v5 v6 M = some (r1, Mr) → zOut [40] [0, 1] M0 Mr) : ∀ (n : Nat) (v1 : Int32) (v2 : Int32) (v3 : Int32) (v4 : Int32) (v5 : Int32) (v6 : Int32) (v7 : Int32) (M : zM), zOut [40] [0, 1] M0 M → f9_asks_51 k99 n v1 v2 v3 v4 v5 v6 v7 M = some (r1, Mr) → zOut [40] [0, 1] M0 Mr := by
  intro n
  induction n with
  | zero => intro v1 v2 v3 v4 v5 v6 v7 M ho h; cases h
  | succ n ih =>
    intro v1 v2 v3 v4 v5 v6 v7 M ho h
    rw [f9_asks_51] at h
    by_cases hc : (12 : Int32) ≤ v7
    · replace h := (if_pos hc).symm.trans h
      exact hk99 _ _ _ _ _ _ _ ho h
    · replace h := (if_neg hc).symm.trans h
      obtain ⟨x1, hx1, h⟩ := z_bind h
      by_cases hc : x1 = 0
      · replace h := (if_pos hc).symm.trans h
        exact o9_asks_87 (fun u0 u1 u2 u3 u4 u5 u6 u7 ho h => ih u0 u1 u2 u3 u4 u5 u6 u7 ho h) _ _ _ _ _ _ _ _ _ ho h
      · replace h := (if_neg hc).symm.trans h
        obtain ⟨x2, hx2, h⟩ := z_bind h
        exact o9_asks_87 (fun u0 u1 u2 u3 u4 u5 u6 u7 ho h => ih u0 u1 u2 u3 u4 u5 u6 u7 ho h) _ _ _ _ _ _ _ _ _ ho h
set_option maxRecDepth 20000 in
set_option maxHeartbeats 4000000 in
theorem o9_asks_99 {r1 : Int32} {Mr : zM} {M0 : zM} {k35 : Int32 → Int32 → Int32 → Int32 → Int32 → zM → Option (Int32 × zM)} (hk35 : ∀ (v1 : Int32) (v2 : Int32) (v3 : Int32) (v4 : Int32) (v5 : Int32) (M : zM), zOut [40] [0, 1] M0 M → k35 v1 v2 v3 v4 v5 M = some (r1, Mr) → zOut [40] [0, 1] M0 Mr) : ∀ (v1 : Int32) (v2 : Int32) (v3 : Int32) (v4 : Int32) (v5 : Int32) (v6 : Int32) (M : zM), zOut [40] [0, 1] M0 M → f9_asks_99 k35 v1 v2 v3 v4 v5 v6 M = some (r1, Mr) → zOut [40] [0, 1] M0 Mr := by
  intro v1 v2 v3 v4 v5 v6 M ho h
  rw [f9_asks_99] at h
  obtain ⟨x1, hx1, h⟩ := z_bind h
  exact hk35 _ _ _ _ _ _ ho h
set_option maxRecDepth 20000 in
set_option maxHeartbeats 4000000 in
theorem o9_asks_35 {r1 : Int32} {Mr : zM} {M0 : zM} {k145 : Int32 → Int32 → Int32 → Int32 → zM → Option (Int32 × zM)} (hk145 : ∀ (v1 : Int32) (v2 : Int32) (v3 : Int32) (v4 : Int32) (M : zM), zOut [40] [0, 1] M0 M → k145 v1 v2 v3 v4 M = some (r1, Mr) → zOut [40] [0, 1] M0 Mr) : ∀ (n : Nat) (v1 : Int32) (v2 : Int32) (v3 : Int32) (v4 : Int32) (v5 : Int32) (M : zM), zOut [40] [0, 1] M0 M → f9_asks_35 k145 n v1 v2 v3 v4 v5 M = some (r1, Mr) → zOut [40] [0, 1] M0 Mr := by
  intro n
  induction n with
  | zero => intro v1 v2 v3 v4 v5 M ho h; cases h
  | succ n ih =>
    intro v1 v2 v3 v4 v5 M ho h
    rw [f9_asks_35] at h
    obtain ⟨x1, hx1, h⟩ := z_bind h
    by_cases hc : x1 < v5
    · replace h := (if_pos hc).symm.trans h
      exact hk145 _ _ _ _ _ ho h
    · replace h := (if_neg hc).symm.trans h
      exact o9_asks_51 (fun u0 u1 u2 u3 u4 u5 u6 ho h => o9_asks_99 (fun u0 u1 u2 u3 u4 u5 ho h => ih u0 u1 u2 u3 u4 u5 ho h) u0 u1 u2 u3 u4 u5 u6 ho h) zfuel _ _ _ _ _ _ _ _ ho h
set_option maxRecDepth 20000 in
set_option maxHeartbeats 4000000 in
theorem o9_asks_145 {r1 : Int32} {Mr : zM} {M0 : zM} {k26 : Int32 → Int32 → Int32 → Int32 → zM → Option (Int32 × zM)} (hk26 : ∀ (v1 : Int32) (v2 : Int32) (v3 : Int32) (v4 : Int32) (M : zM), zOut [40] [0, 1] M0 M → k26 v1 v2 v3 v4 M = some (r1, Mr) → zOut [40] [0, 1] M0 Mr) : ∀ (v1 : Int32) (v2 : Int32) (v3 : Int32) (v4 : Int32) (M : zM), zOut [40] [0, 1] M0 M → f9_asks_145 k26 v1 v2 v3 v4 M = some (r1, Mr) → zOut [40] [0, 1] M0 Mr := by
  intro v1 v2 v3 v4 M ho h
  rw [f9_asks_145] at h
  exact hk26 _ _ _ _ _ ho h
set_option maxRecDepth 20000 in
set_option maxHeartbeats 4000000 in
theorem o9_asks_26 {r1 : Int32} {Mr : zM} {M0 : zM} : ∀ (n : Nat) (v1 : Int32) (v2 : Int32) (v3 : Int32) (v4 : Int32) (M : zM), zOut [40] [0, 1] M0 M → f9_asks_26 n v1 v2 v3 v4 M = some (r1, Mr) → zOut [40] [0, 1] M0 Mr := by
  intro n
  induction n with
  | zero => intro v1 v2 v3 v4 M ho h; cases h
  | succ n ih =>
    intro v1 v2 v3 v4 M ho h
    rw [f9_asks_26] at h
    by_cases hc : (5 : Int32) ≤ v4
    · replace h := (if_pos hc).symm.trans h
      replace ho := ho.si 39 1 (0 : Int32) (by simp)
      obtain ⟨M1, hM1, h⟩ := z_bind h
      replace ho := ho.call (o_X9_enters hM1) (by simp) (by simp)
      obtain ⟨rfl, rfl⟩ := z_ret2 h
      exact ho
    · replace h := (if_neg hc).symm.trans h
      exact o9_asks_35 (fun u0 u1 u2 u3 u4 ho h => o9_asks_145 (fun u0 u1 u2 u3 u4 ho h => ih u0 u1 u2 u3 u4 ho h) u0 u1 u2 u3 u4 ho h) zfuel _ _ _ _ _ _ ho h
set_option maxRecDepth 20000 in
set_option maxHeartbeats 4000000 in
theorem o_X9_asks {M : zM} {r1 : Int32} {Mr : zM} (h : f9_asks M = some (r1, Mr)) : zOut [40] [0, 1] M Mr := by
  have ho : zOut [40] [0, 1] M M := zOut.rf
  rw [f9_asks] at h
  replace ho := ho.si 39 0 (0 : Int32) (by simp)
  obtain ⟨x1, hx1, h⟩ := z_bind h
  by_cases hc : x1 = 0
  · replace h := (if_pos hc).symm.trans h
    obtain ⟨rfl, rfl⟩ := z_ret2 h
    exact ho
  · replace h := (if_neg hc).symm.trans h
    exact o9_asks_26 zfuel _ _ _ _ _ ho h
set_option maxRecDepth 20000 in
set_option maxHeartbeats 4000000 in
theorem o9_odds_139 {r1 : Int32} {Mr : zM} {M0 : zM} {k90 : Int32 → Int32 → Int64 → Int64 → Int32 → Int64 → Int32 → zM → Option (Int32 × zM)} (hk90 : ∀ (v1 : Int32) (v2 : Int32) (v3 : Int64) (v5 : Int64) (v7 : Int32) (v8 : Int64) (v10 : Int32) (M : zM), zOut [40, 54, 55, 56] [0, 1] M0 M → k90 v1 v2 v3 v5 v7 v8 v10 M = some (r1, Mr) → zOut [40, 54, 55, 56] [0, 1] M0 Mr) : ∀ (v1 : Int32) (v2 : Int32) (v3 : Int64) (v5 : Int64) (v7 : Int32) (v10 : Int32) (s0 : Int64) (s1 : Int64) (M : zM), zOut [40, 54, 55, 56] [0, 1] M0 M → f9_odds_139 k90 v1 v2 v3 v5 v7 v10 s0 s1 M = some (r1, Mr) → zOut [40, 54, 55, 56] [0, 1] M0 Mr := by
  intro v1 v2 v3 v5 v7 v10 s0 s1 M ho h
  rw [f9_odds_139] at h
  exact hk90 _ _ _ _ _ _ _ _ ho h
set_option maxRecDepth 20000 in
set_option maxHeartbeats 4000000 in
theorem o9_odds_90 {r1 : Int32} {Mr : zM} {M0 : zM} {k148 : Int32 → Int32 → Int64 → Int64 → Int32 → Int64 → zM → Option (Int32 × zM)} (hk148 : ∀ (v1 : Int32) (v2 : Int32) (v3 : Int64) (v5 : Int64) (v7 : Int32) (v8 : Int64) (M : zM), zOut [40, 54, 55, 56] [0, 1] M0 M → k148 v1 v2 v3 v5 v7 v8 M = some (r1, Mr) → zOut [40, 54, 55, 56] [0, 1] M0 Mr) : ∀ (n : Nat) (v1 : Int32) (v2 : Int32) (v3 : Int64) (v5 : Int64) (v7 : Int32) (v8 : Int64) (v10 : Int32) (M : zM), zOut [40, 54, 55, 56] [0, 1] M0 M → f9_odds_90 k148 n v1 v2 v3 v5 v7 v8 v10 M = some (r1, Mr) → zOut [40, 54, 55, 56] [0, 1] M0 Mr := by
  intro n
  induction n with
  | zero => intro v1 v2 v3 v5 v7 v8 v10 M ho h; cases h
  | succ n ih =>
    intro v1 v2 v3 v5 v7 v8 v10 M ho h
    rw [f9_odds_90] at h
    by_cases hc : (12 : Int32) ≤ v10
    · replace h := (if_pos hc).symm.trans h
      exact hk148 _ _ _ _ _ _ _ ho h
    · replace h := (if_neg hc).symm.trans h
      by_cases hc : (lg_cmp v8 (0 : Int64)) ≤ 0
      · replace h := (if_pos hc).symm.trans h
        exact hk148 _ _ _ _ _ _ _ ho h
      · replace h := (if_neg hc).symm.trans h
        obtain ⟨x1, hx1, h⟩ := z_bind h
        by_cases hc : x1 = 0
        · replace h := (if_pos hc).symm.trans h
          exact o9_odds_139 (fun u0 u1 u2 u3 u4 u5 u6 u7 ho h => ih u0 u1 u2 u3 u4 u5 u6 u7 ho h) _ _ _ _ _ _ _ _ _ ho h
        · replace h := (if_neg hc).symm.trans h
          obtain ⟨x2, hx2, h⟩ := z_bind h
          exact o9_odds_139 (fun u0 u1 u2 u3 u4 u5 u6 u7 ho h => ih u0 u1 u2 u3 u4 u5 u6 u7 ho h) _ _ _ _ _ _ _ _ _ ho h
set_option maxRecDepth 20000 in
set_option maxHeartbeats 4000000 in
theorem o9_odds_148 {r1 : Int32} {Mr : zM} {M0 : zM} {k68 : Int32 → Int32 → Int64 → Int64 → Int32 → zM → Option (Int32 × zM)} (hk68 : ∀ (v1 : Int32) (v2 : Int32) (v3 : Int64) (v5 : Int64) (v7 : Int32) (M : zM), zOut [40, 54, 55, 56] [0, 1] M0 M → k68 v1 v2 v3 v5 v7 M = some (r1, Mr) → zOut [40, 54, 55, 56] [0, 1] M0 Mr) : ∀ (v1 : Int32) (v2 : Int32) (v3 : Int64) (v5 : Int64) (v7 : Int32) (v8 : Int64) (M : zM), zOut [40, 54, 55, 56] [0, 1] M0 M → f9_odds_148 k68 v1 v2 v3 v5 v7 v8 M = some (r1, Mr) → zOut [40, 54, 55, 56] [0, 1] M0 Mr := by
  intro v1 v2 v3 v5 v7 v8 M ho h
  rw [f9_odds_148] at h
  exact hk68 _ _ _ _ _ _ ho h
set_option maxRecDepth 20000 in
set_option maxHeartbeats 4000000 in
theorem o9_odds_68 {r1 : Int32} {Mr : zM} {M0 : zM} : ∀ (n : Nat) (v1 : Int32) (v2 : Int32) (v3 : Int64) (v5 : Int64) (v7 : Int32) (M : zM), zOut [40, 54, 55, 56] [0, 1] M0 M → f9_odds_68 n v1 v2 v3 v5 v7 M = some (r1, Mr) → zOut [40, 54, 55, 56] [0, 1] M0 Mr := by
  intro n
  induction n with
  | zero => intro v1 v2 v3 v5 v7 M ho h; cases h
  | succ n ih =>
    intro v1 v2 v3 v5 v7 M ho h
    rw [f9_odds_68] at h
    by_cases hc : v2 < v7
    · replace h := (if_pos hc).symm.trans h
      obtain ⟨x1, hx1, h⟩ := z_bind h
      replace ho := ho.si 39 1 (0 : Int32) (by simp)
      obtain ⟨x2, hx2, h⟩ := z_bind h
      obtain ⟨M3, hM3, h⟩ := z_bind h
      replace ho := ho.call (o_X9_enters hM3) (by simp) (by simp)
      obtain ⟨x4, hx4, h⟩ := z_bind h
      obtain ⟨M5, hM5, h⟩ := z_bind h
      replace ho := ho.call (o_X9_enters hM5) (by simp) (by simp)
      obtain ⟨rfl, rfl⟩ := z_ret2 h
      exact ho
    · replace h := (if_neg hc).symm.trans h
      obtain ⟨x1, hx1, h⟩ := z_bind h
      obtain ⟨x2, hx2, h⟩ := z_bind h
      exact o9_odds_90 (fun u0 u1 u2 u3 u4 u5 u6 ho h => o9_odds_148 (fun u0 u1 u2 u3 u4 u5 ho h => ih u0 u1 u2 u3 u4 u5 ho h) u0 u1 u2 u3 u4 u5 u6 ho h) zfuel _ _ _ _ _ _ _ _ ho h
set_option maxRecDepth 20000 in
set_option maxHeartbeats 4000000 in
theorem o9_odds_39 {r1 : Int32} {Mr : zM} {M0 : zM} : ∀ (n : Nat) (v1 : Int32) (v2 : Int32) (v3 : Int64) (v5 : Int64) (v7 : Int32) (M : zM), zOut [40, 54, 55, 56] [0, 1] M0 M → f9_odds_39 n v1 v2 v3 v5 v7 M = some (r1, Mr) → zOut [40, 54, 55, 56] [0, 1] M0 Mr := by
  intro n
  induction n with
  | zero => intro v1 v2 v3 v5 v7 M ho h; cases h
  | succ n ih =>
    intro v1 v2 v3 v5 v7 M ho h
    rw [f9_odds_39] at h
    obtain ⟨x1, hx1, h⟩ := z_bind h
    by_cases hc : x1 ≤ v7
    · replace h := (if_pos hc).symm.trans h
      exact o9_odds_68 zfuel _ _ _ _ _ _ ho h
    · replace h := (if_neg hc).symm.trans h
      exact ih _ _ _ _ _ _ ho h
set_option maxRecDepth 20000 in
set_option maxHeartbeats 4000000 in
theorem o_X9_odds {v1 : Int32} {M : zM} {r1 : Int32} {Mr : zM} (h : f9_odds v1 M = some (r1, Mr)) : zOut [40, 54, 55, 56] [0, 1] M Mr := by
  have ho : zOut [40, 54, 55, 56] [0, 1] M M := zOut.rf
  rw [f9_odds] at h
  replace ho := ho.si 39 0 (0 : Int32) (by simp)
  obtain ⟨x1, hx1, h⟩ := z_bind h
  by_cases hc : x1 = 0
  · replace h := (if_pos hc).symm.trans h
    obtain ⟨rfl, rfl⟩ := z_ret2 h
    exact ho
  · replace h := (if_neg hc).symm.trans h
    obtain ⟨M2, hM2, h⟩ := z_bind h
    replace ho := ho.call (o_X9_laysHangs hM2) (by simp) (by simp)
    obtain ⟨x3, hx3, h⟩ := z_bind h
    exact o9_odds_39 zfuel _ _ _ _ _ _ ho h
set_option maxRecDepth 20000 in
set_option maxHeartbeats 4000000 in
theorem o9_law_135 {r1 : Int32} {Mr : zM} {M0 : zM} : ∀ (n : Nat) (v2 : Int32) (v3 : Int32) (v4 : Int32) (v5 : Int32) (M : zM), zOut [40, 42, 45, 46, 47, 48, 62, 63] [0, 1, 7, 8, 9, 10, 14, 15] M0 M → f9_law_135 n v2 v3 v4 v5 M = some (r1, Mr) → zOut [40, 42, 45, 46, 47, 48, 62, 63] [0, 1, 7, 8, 9, 10, 14, 15] M0 Mr := by
  intro n
  induction n with
  | zero => intro v2 v3 v4 v5 M ho h; cases h
  | succ n ih =>
    intro v2 v3 v4 v5 M ho h
    rw [f9_law_135] at h
    by_cases hc : (10 : Int32) ≤ v5
    · replace h := (if_pos hc).symm.trans h
      obtain ⟨M1, hM1, h⟩ := z_bind h
      replace ho := ho.call (o_X9_laysCode hM1) (by simp) (by simp)
      replace ho := ho.si 39 1 (0 : Int32) (by simp)
      obtain ⟨x2, hx2, h⟩ := z_bind h
      obtain ⟨M3, hM3, h⟩ := z_bind h
      replace ho := ho.call (o_X9_enters hM3) (by simp) (by simp)
      obtain ⟨M4, hM4, h⟩ := z_bind h
      replace ho := ho.call (o_X9_enters hM4) (by simp) (by simp)
      obtain ⟨rfl, rfl⟩ := z_ret2 h
      exact ho
    · replace h := (if_neg hc).symm.trans h
      obtain ⟨p1, hp1, h⟩ := z_bind h
      replace ho := ho.call (o_X9_nightGoes hp1) (by simp) (by simp)
      obtain ⟨x2, hx2, h⟩ := z_bind h
      obtain ⟨x3, hx3, h⟩ := z_bind h
      exact ih _ _ _ _ _ ho h
set_option maxRecDepth 20000 in
set_option maxHeartbeats 4000000 in
theorem o9_law_77 {r1 : Int32} {Mr : zM} {M0 : zM} : ∀ (n : Nat) (v2 : Int32) (v3 : Int32) (v4 : Int32) (M : zM), zOut [40, 42, 45, 46, 47, 48, 62, 63] [0, 1, 7, 8, 9, 10, 14, 15] M0 M → f9_law_77 n v2 v3 v4 M = some (r1, Mr) → zOut [40, 42, 45, 46, 47, 48, 62, 63] [0, 1, 7, 8, 9, 10, 14, 15] M0 Mr := by
  intro n
  induction n with
  | zero => intro v2 v3 v4 M ho h; cases h
  | succ n ih =>
    intro v2 v3 v4 M ho h
    rw [f9_law_77] at h
    by_cases hc : (M.1 39 14) ≤ v4
    · replace h := (if_pos hc).symm.trans h
      obtain ⟨M1, hM1, h⟩ := z_bind h
      replace ho := ho.call (o_X9_laysCode hM1) (by simp) (by simp)
      obtain ⟨M2, hM2, h⟩ := z_bind h
      replace ho := ho.call (o_X9_copies hM2) (by simp) (by simp)
      exact o9_law_135 zfuel _ _ _ _ _ ho h
    · replace h := (if_neg hc).symm.trans h
      obtain ⟨x1, hx1, h⟩ := z_bind h
      obtain ⟨M2, hM2, h⟩ := z_bind h
      replace ho := ho.pI hM2 (by simp)
      exact ih _ _ _ _ ho h
set_option maxRecDepth 20000 in
set_option maxHeartbeats 4000000 in
theorem o9_law_35 {r1 : Int32} {Mr : zM} {M0 : zM} : ∀ (n : Nat) (v2 : Int32) (M : zM), zOut [40, 42, 45, 46, 47, 48, 62, 63] [0, 1, 7, 8, 9, 10, 14, 15] M0 M → f9_law_35 n v2 M = some (r1, Mr) → zOut [40, 42, 45, 46, 47, 48, 62, 63] [0, 1, 7, 8, 9, 10, 14, 15] M0 Mr := by
  intro n
  induction n with
  | zero => intro v2 M ho h; cases h
  | succ n ih =>
    intro v2 M ho h
    rw [f9_law_35] at h
    by_cases hc : (10 : Int32) ≤ v2
    · replace h := (if_pos hc).symm.trans h
      obtain ⟨x1, hx1, h⟩ := z_bind h
      exact o9_law_77 zfuel _ _ _ _ ho h
    · replace h := (if_neg hc).symm.trans h
      obtain ⟨p1, hp1, h⟩ := z_bind h
      replace ho := ho.call (o_X9_nightGoes hp1) (by simp) (by simp)
      obtain ⟨M2, hM2, h⟩ := z_bind h
      replace ho := ho.pI hM2 (by simp)
      exact ih _ _ ho h
set_option maxRecDepth 20000 in
set_option maxHeartbeats 4000000 in
theorem o_X9_law {M : zM} {r1 : Int32} {Mr : zM} (h : f9_law M = some (r1, Mr)) : zOut [40, 42, 45, 46, 47, 48, 62, 63] [0, 1, 7, 8, 9, 10, 14, 15] M Mr := by
  have ho : zOut [40, 42, 45, 46, 47, 48, 62, 63] [0, 1, 7, 8, 9, 10, 14, 15] M M := zOut.rf
  rw [f9_law] at h
  replace ho := ho.si 39 0 (0 : Int32) (by simp)
  obtain ⟨p1, hp1, h⟩ := z_bind h
  replace ho := ho.call (o_X9_readsRule hp1) (by simp) (by simp)
  by_cases hc : 0 ≤ p1.1
  · replace h := (if_pos hc).symm.trans h
    obtain ⟨M2, hM2, h⟩ := z_bind h
    replace ho := ho.call (o_X9_copies hM2) (by simp) (by simp)
    exact o9_law_35 zfuel _ _ ho h
  · replace h := (if_neg hc).symm.trans h
    obtain ⟨rfl, rfl⟩ := z_ret2 h
    exact ho
set_option maxRecDepth 20000 in
set_option maxHeartbeats 4000000 in
theorem o9_rests_84 {r1 : Int32} {Mr : zM} {M0 : zM} {k37 : Int32 → Int32 → Int32 → Int32 → zM → Option (Int32 × zM)} (hk37 : ∀ (v1 : Int32) (v2 : Int32) (v3 : Int32) (v4 : Int32) (M : zM), zOut [40] [0, 1] M0 M → k37 v1 v2 v3 v4 M = some (r1, Mr) → zOut [40] [0, 1] M0 Mr) : ∀ (v1 : Int32) (v2 : Int32) (v3 : Int32) (v4 : Int32) (M : zM), zOut [40] [0, 1] M0 M → f9_rests_84 k37 v1 v2 v3 v4 M = some (r1, Mr) → zOut [40] [0, 1] M0 Mr := by
  intro v1 v2 v3 v4 M ho h
  rw [f9_rests_84] at h
  exact hk37 _ _ _ _ _ ho h
set_option maxRecDepth 20000 in
set_option maxHeartbeats 4000000 in
theorem o9_rests_81 {r1 : Int32} {Mr : zM} {M0 : zM} {k37 : Int32 → Int32 → Int32 → Int32 → zM → Option (Int32 × zM)} (hk37 : ∀ (v1 : Int32) (v2 : Int32) (v3 : Int32) (v4 : Int32) (M : zM), zOut [40] [0, 1] M0 M → k37 v1 v2 v3 v4 M = some (r1, Mr) → zOut [40] [0, 1] M0 Mr) : ∀ (v1 : Int32) (v2 : Int32) (v3 : Int32) (v4 : Int32) (M : zM), zOut [40] [0, 1] M0 M → f9_rests_81 k37 v1 v2 v3 v4 M = some (r1, Mr) → zOut [40] [0, 1] M0 Mr := by
  intro v1 v2 v3 v4 M ho h
  rw [f9_rests_81] at h
  exact o9_rests_84 hk37 _ _ _ _ _ ho h
set_option maxRecDepth 20000 in
set_option maxHeartbeats 4000000 in
theorem o9_rests_37 {r1 : Int32} {Mr : zM} {M0 : zM} {k90 : Int32 → Int32 → Int32 → zM → Option (Int32 × zM)} (hk90 : ∀ (v1 : Int32) (v2 : Int32) (v3 : Int32) (M : zM), zOut [40] [0, 1] M0 M → k90 v1 v2 v3 M = some (r1, Mr) → zOut [40] [0, 1] M0 Mr) : ∀ (n : Nat) (v1 : Int32) (v2 : Int32) (v3 : Int32) (v4 : Int32) (M : zM), zOut [40] [0, 1] M0 M → f9_rests_37 k90 n v1 v2 v3 v4 M = some (r1, Mr) → zOut [40] [0, 1] M0 Mr := by
  intro n
  induction n with
  | zero => intro v1 v2 v3 v4 M ho h; cases h
  | succ n ih =>
    intro v1 v2 v3 v4 M ho h
    rw [f9_rests_37] at h
    by_cases hc : (9 : Int32) < v4
    · replace h := (if_pos hc).symm.trans h
      exact hk90 _ _ _ _ ho h
    · replace h := (if_neg hc).symm.trans h
      obtain ⟨x1, hx1, h⟩ := z_bind h
      by_cases hc : x1 = 0
      · replace h := (if_pos hc).symm.trans h
        exact o9_rests_84 (fun u0 u1 u2 u3 u4 ho h => ih u0 u1 u2 u3 u4 ho h) _ _ _ _ _ ho h
      · replace h := (if_neg hc).symm.trans h
        obtain ⟨x2, hx2, h⟩ := z_bind h
        by_cases hc : x2 = 0
        · replace h := (if_pos hc).symm.trans h
          exact o9_rests_84 (fun u0 u1 u2 u3 u4 ho h => ih u0 u1 u2 u3 u4 ho h) _ _ _ _ _ ho h
        · replace h := (if_neg hc).symm.trans h
          by_cases hc : v2 = 0
          · replace h := (if_pos hc).symm.trans h
            obtain ⟨M3, hM3, h⟩ := z_bind h
            replace ho := ho.call (o_X9_enters hM3) (by simp) (by simp)
            obtain ⟨M4, hM4, h⟩ := z_bind h
            replace ho := ho.call (o_X9_enters hM4) (by simp) (by simp)
            exact o9_rests_81 (fun u0 u1 u2 u3 u4 ho h => ih u0 u1 u2 u3 u4 ho h) _ _ _ _ _ ho h
          · replace h := (if_neg hc).symm.trans h
            exact o9_rests_81 (fun u0 u1 u2 u3 u4 ho h => ih u0 u1 u2 u3 u4 ho h) _ _ _ _ _ ho h
set_option maxRecDepth 20000 in
set_option maxHeartbeats 4000000 in
theorem o9_rests_90 {r1 : Int32} {Mr : zM} {M0 : zM} {k28 : Int32 → Int32 → Int32 → zM → Option (Int32 × zM)} (hk28 : ∀ (v1 : Int32) (v2 : Int32) (v3 : Int32) (M : zM), zOut [40] [0, 1] M0 M → k28 v1 v2 v3 M = some (r1, Mr) → zOut [40] [0, 1] M0 Mr) : ∀ (v1 : Int32) (v2 : Int32) (v3 : Int32) (M : zM), zOut [40] [0, 1] M0 M → f9_rests_90 k28 v1 v2 v3 M = some (r1, Mr) → zOut [40] [0, 1] M0 Mr := by
  intro v1 v2 v3 M ho h
  rw [f9_rests_90] at h
  exact hk28 _ _ _ _ ho h
set_option maxRecDepth 20000 in
set_option maxHeartbeats 4000000 in
theorem o9_rests_28 {r1 : Int32} {Mr : zM} {M0 : zM} : ∀ (n : Nat) (v1 : Int32) (v2 : Int32) (v3 : Int32) (M : zM), zOut [40] [0, 1] M0 M → f9_rests_28 n v1 v2 v3 M = some (r1, Mr) → zOut [40] [0, 1] M0 Mr := by
  intro n
  induction n with
  | zero => intro v1 v2 v3 M ho h; cases h
  | succ n ih =>
    intro v1 v2 v3 M ho h
    rw [f9_rests_28] at h
    by_cases hc : (9 : Int32) < v3
    · replace h := (if_pos hc).symm.trans h
      obtain ⟨rfl, rfl⟩ := z_ret2 h
      exact ho
    · replace h := (if_neg hc).symm.trans h
      exact o9_rests_37 (fun u0 u1 u2 u3 ho h => o9_rests_90 (fun u0 u1 u2 u3 ho h => ih u0 u1 u2 u3 ho h) u0 u1 u2 u3 ho h) zfuel _ _ _ _ _ ho h
set_option maxRecDepth 20000 in
set_option maxHeartbeats 4000000 in
theorem o_X9_rests {v1 : Int32} {M : zM} {r1 : Int32} {Mr : zM} (h : f9_rests v1 M = some (r1, Mr)) : zOut [40] [0, 1] M Mr := by
  have ho : zOut [40] [0, 1] M M := zOut.rf
  rw [f9_rests] at h
  replace ho := ho.si 39 0 (0 : Int32) (by simp)
  obtain ⟨x1, hx1, h⟩ := z_bind h
  by_cases hc : x1 = 0
  · replace h := (if_pos hc).symm.trans h
    obtain ⟨rfl, rfl⟩ := z_ret2 h
    exact ho
  · replace h := (if_neg hc).symm.trans h
    replace ho := ho.si 39 1 (0 : Int32) (by simp)
    exact o9_rests_28 zfuel _ _ _ _ ho h
set_option maxRecDepth 20000 in
set_option maxHeartbeats 4000000 in
theorem o_X9_drawn {v1 : Int32} {M : zM} {r1 : Int32} {Mr : zM} (h : f9_drawn v1 M = some (r1, Mr)) : zOut [] [37] M Mr := by
  have ho : zOut [] [37] M M := zOut.rf
  rw [f9_drawn] at h
  replace ho := ho.si 39 37 (((M.1 39 37) * (1103515245 : Int32)) + (12345 : Int32)) (by simp)
  obtain ⟨x1, hx1, h⟩ := z_bind h
  obtain ⟨rfl, rfl⟩ := z_ret2 h
  exact ho
set_option maxRecDepth 20000 in
set_option maxHeartbeats 4000000 in
theorem o9_years_165 {r1 : Int32} {Mr : zM} {M0 : zM} {k37 : Int32 → Int32 → zM → Option (Int32 × zM)} (hk37 : ∀ (v2 : Int32) (v3 : Int32) (M : zM), zOut [40, 42, 47, 48, 54, 55] [0, 1, 37] M0 M → k37 v2 v3 M = some (r1, Mr) → zOut [40, 42, 47, 48, 54, 55] [0, 1, 37] M0 Mr) : ∀ (v2 : Int32) (v3 : Int32) (M : zM), zOut [40, 42, 47, 48, 54, 55] [0, 1, 37] M0 M → f9_years_165 k37 v2 v3 M = some (r1, Mr) → zOut [40, 42, 47, 48, 54, 55] [0, 1, 37] M0 Mr := by
  intro v2 v3 M ho h
  rw [f9_years_165] at h
  exact hk37 _ _ _ ho h
set_option maxRecDepth 20000 in
set_option maxHeartbeats 4000000 in
theorem o9_years_37 {r1 : Int32} {Mr : zM} {M0 : zM} : ∀ (n : Nat) (v2 : Int32) (v3 : Int32) (M : zM), zOut [40, 42, 47, 48, 54, 55] [0, 1, 37] M0 M → f9_years_37 n v2 v3 M = some (r1, Mr) → zOut [40, 42, 47, 48, 54, 55] [0, 1, 37] M0 Mr := by
  intro n
  induction n with
  | zero => intro v2 v3 M ho h; cases h
  | succ n ih =>
    intro v2 v3 M ho h
    rw [f9_years_37] at h
    by_cases hc : v2 ≤ v3
    · replace h := (if_pos hc).symm.trans h
      replace ho := ho.si 39 1 (0 : Int32) (by simp)
      obtain ⟨x1, hx1, h⟩ := z_bind h
      obtain ⟨M2, hM2, h⟩ := z_bind h
      replace ho := ho.call (o_X9_enters hM2) (by simp) (by simp)
      obtain ⟨p3, hp3, h⟩ := z_bind h
      replace ho := ho.call (o_X9_doesHang hp3) (by simp) (by simp)
      obtain ⟨x4, hx4, h⟩ := z_bind h
      obtain ⟨M5, hM5, h⟩ := z_bind h
      replace ho := ho.call (o_X9_enters hM5) (by simp) (by simp)
      obtain ⟨x6, hx6, h⟩ := z_bind h
      obtain ⟨rfl, rfl⟩ := z_ret2 h
      exact ho
    · replace h := (if_neg hc).symm.trans h
      obtain ⟨p1, hp1, h⟩ := z_bind h
      replace ho := ho.call (o_X9_drawn hp1) (by simp) (by simp)
      by_cases hc : (2 : Int32) ≤ p1.1
      · replace h := (if_pos hc).symm.trans h
        by_cases hc : p1.1 = (2 : Int32)
        · replace h := (if_pos hc).symm.trans h
          obtain ⟨p2, hp2, h⟩ := z_bind h
          replace ho := ho.call (o_X9_drawn hp2) (by simp) (by simp)
          obtain ⟨p3, hp3, h⟩ := z_bind h
          replace ho := ho.call (o_X9_drawn hp3) (by simp) (by simp)
          obtain ⟨p4, hp4, h⟩ := z_bind h
          replace ho := ho.call (o_X9_flipsOne hp4) (by simp) (by simp)
          exact o9_years_165 (fun u0 u1 u2 ho h => ih u0 u1 u2 ho h) _ _ _ ho h
        · replace h := (if_neg hc).symm.trans h
          obtain ⟨p2, hp2, h⟩ := z_bind h
          replace ho := ho.call (o_X9_drawn hp2) (by simp) (by simp)
          obtain ⟨x3, hx3, h⟩ := z_bind h
          obtain ⟨p4, hp4, h⟩ := z_bind h
          replace ho := ho.call (o_X9_drawn hp4) (by simp) (by simp)
          obtain ⟨p5, hp5, h⟩ := z_bind h
          replace ho := ho.call (o_X9_drawn hp5) (by simp) (by simp)
          obtain ⟨x6, hx6, h⟩ := z_bind h
          obtain ⟨x7, hx7, h⟩ := z_bind h
          obtain ⟨p8, hp8, h⟩ := z_bind h
          replace ho := ho.call (o_X9_weavesIn hp8) (by simp) (by simp)
          exact o9_years_165 (fun u0 u1 u2 ho h => ih u0 u1 u2 ho h) _ _ _ ho h
      · replace h := (if_neg hc).symm.trans h
        obtain ⟨p2, hp2, h⟩ := z_bind h
        replace ho := ho.call (o_X9_nightGoes hp2) (by simp) (by simp)
        exact o9_years_165 (fun u0 u1 u2 ho h => ih u0 u1 u2 ho h) _ _ _ ho h
set_option maxRecDepth 20000 in
set_option maxHeartbeats 4000000 in
theorem o_X9_years {v1 : Int32} {v2 : Int32} {M : zM} {r1 : Int32} {Mr : zM} (h : f9_years v1 v2 M = some (r1, Mr)) : zOut [40, 42, 47, 48, 54, 55] [0, 1, 37] M Mr := by
  have ho : zOut [40, 42, 47, 48, 54, 55] [0, 1, 37] M M := zOut.rf
  rw [f9_years] at h
  replace ho := ho.si 39 0 (0 : Int32) (by simp)
  obtain ⟨x1, hx1, h⟩ := z_bind h
  by_cases hc : x1 = 0
  · replace h := (if_pos hc).symm.trans h
    obtain ⟨rfl, rfl⟩ := z_ret2 h
    exact ho
  · replace h := (if_neg hc).symm.trans h
    replace ho := ho.si 39 37 v1 (by simp)
    obtain ⟨M2, hM2, h⟩ := z_bind h
    replace ho := ho.call (o_X9_copies hM2) (by simp) (by simp)
    exact o9_years_37 zfuel _ _ _ ho h
set_option maxRecDepth 20000 in
set_option maxHeartbeats 4000000 in
theorem o9_keep_38 {r1 : Int32} {Mr : zM} {M0 : zM} : ∀ (n : Nat) (v1 : Int32) (v2 : Int32) (M : zM), zOut [64, 65, 66] [0] M0 M → f9_keep_38 n v1 v2 M = some (r1, Mr) → zOut [64, 65, 66] [0] M0 Mr := by
  intro n
  induction n with
  | zero => intro v1 v2 M ho h; cases h
  | succ n ih =>
    intro v1 v2 M ho h
    rw [f9_keep_38] at h
    by_cases hc : (9 : Int32) ≤ v2
    · replace h := (if_pos hc).symm.trans h
      obtain ⟨rfl, rfl⟩ := z_ret2 h
      exact ho
    · replace h := (if_neg hc).symm.trans h
      obtain ⟨x1, hx1, h⟩ := z_bind h
      obtain ⟨M2, hM2, h⟩ := z_bind h
      replace ho := ho.pI hM2 (by simp)
      exact ih _ _ _ ho h
set_option maxRecDepth 20000 in
set_option maxHeartbeats 4000000 in
theorem o_X9_keep {v1 : Int32} {M : zM} {r1 : Int32} {Mr : zM} (h : f9_keep v1 M = some (r1, Mr)) : zOut [64, 65, 66] [0] M Mr := by
  have ho : zOut [64, 65, 66] [0] M M := zOut.rf
  rw [f9_keep] at h
  replace ho := ho.si 39 0 (0 : Int32) (by simp)
  obtain ⟨x1, hx1, h⟩ := z_bind h
  by_cases hc : x1 = 0
  · replace h := (if_pos hc).symm.trans h
    obtain ⟨rfl, rfl⟩ := z_ret2 h
    exact ho
  · replace h := (if_neg hc).symm.trans h
    obtain ⟨M2, hM2, h⟩ := z_bind h
    replace ho := ho.pZ hM2 (by simp)
    obtain ⟨M3, hM3, h⟩ := z_bind h
    replace ho := ho.pI hM3 (by simp)
    exact o9_keep_38 zfuel _ _ _ ho h
set_option maxRecDepth 20000 in
set_option maxHeartbeats 4000000 in
theorem o9_again_43 {r1 : Int32} {Mr : zM} {M0 : zM} : ∀ (n : Nat) (v1 : Int32) (v2 : Int32) (M : zM), zOut [41] [0, 18] M0 M → f9_again_43 n v1 v2 M = some (r1, Mr) → zOut [41] [0, 18] M0 Mr := by
  intro n
  induction n with
  | zero => intro v1 v2 M ho h; cases h
  | succ n ih =>
    intro v1 v2 M ho h
    rw [f9_again_43] at h
    by_cases hc : (9 : Int32) ≤ v2
    · replace h := (if_pos hc).symm.trans h
      replace ho := ho.si 39 18 (0 : Int32) (by simp)
      obtain ⟨rfl, rfl⟩ := z_ret2 h
      exact ho
    · replace h := (if_neg hc).symm.trans h
      obtain ⟨x1, hx1, h⟩ := z_bind h
      obtain ⟨M2, hM2, h⟩ := z_bind h
      replace ho := ho.pI hM2 (by simp)
      exact ih _ _ _ ho h
set_option maxRecDepth 20000 in
set_option maxHeartbeats 4000000 in
theorem o_X9_again {v1 : Int32} {M : zM} {r1 : Int32} {Mr : zM} (h : f9_again v1 M = some (r1, Mr)) : zOut [41] [0, 18] M Mr := by
  have ho : zOut [41] [0, 18] M M := zOut.rf
  rw [f9_again] at h
  replace ho := ho.si 39 0 (0 : Int32) (by simp)
  obtain ⟨x1, hx1, h⟩ := z_bind h
  by_cases hc : x1 = 0
  · replace h := (if_pos hc).symm.trans h
    obtain ⟨rfl, rfl⟩ := z_ret2 h
    exact ho
  · replace h := (if_neg hc).symm.trans h
    obtain ⟨x2, hx2, h⟩ := z_bind h
    by_cases hc : x2 = 0
    · replace h := (if_pos hc).symm.trans h
      obtain ⟨rfl, rfl⟩ := z_ret2 h
      exact ho
    · replace h := (if_neg hc).symm.trans h
      obtain ⟨x3, hx3, h⟩ := z_bind h
      by_cases hc : x3 = ((zsi M 39 0 (0 : Int32)).1 39 5)
      · replace h := (if_pos hc).symm.trans h
        exact o9_again_43 zfuel _ _ _ ho h
      · replace h := (if_neg hc).symm.trans h
        obtain ⟨rfl, rfl⟩ := z_ret2 h
        exact ho
set_option maxRecDepth 20000 in
set_option maxHeartbeats 4000000 in
theorem o_X9_count {v1 : Int32} {M : zM} {r1 : Int32} {Mr : zM} (h : f9_count v1 M = some (r1, Mr)) : zOut [] [0] M Mr := by
  have ho : zOut [] [0] M M := zOut.rf
  rw [f9_count] at h
  replace ho := ho.si 39 0 (0 : Int32) (by simp)
  by_cases hc1 : v1 = (0 : Int32)
  · replace h := (if_pos hc1).symm.trans h
    obtain ⟨rfl, rfl⟩ := z_ret2 h
    exact ho
  replace h := (if_neg hc1).symm.trans h
  by_cases hc2 : v1 = (1 : Int32)
  · replace h := (if_pos hc2).symm.trans h
    obtain ⟨rfl, rfl⟩ := z_ret2 h
    exact ho
  replace h := (if_neg hc2).symm.trans h
  by_cases hc3 : v1 = (2 : Int32)
  · replace h := (if_pos hc3).symm.trans h
    obtain ⟨rfl, rfl⟩ := z_ret2 h
    exact ho
  replace h := (if_neg hc3).symm.trans h
  by_cases hc4 : v1 = (3 : Int32)
  · replace h := (if_pos hc4).symm.trans h
    obtain ⟨x1, hx1, h⟩ := z_bind h
    obtain ⟨rfl, rfl⟩ := z_ret2 h
    exact ho
  replace h := (if_neg hc4).symm.trans h
  by_cases hc5 : v1 = (4 : Int32)
  · replace h := (if_pos hc5).symm.trans h
    obtain ⟨rfl, rfl⟩ := z_ret2 h
    exact ho
  replace h := (if_neg hc5).symm.trans h
  by_cases hc6 : v1 = (5 : Int32)
  · replace h := (if_pos hc6).symm.trans h
    obtain ⟨rfl, rfl⟩ := z_ret2 h
    exact ho
  replace h := (if_neg hc6).symm.trans h
  by_cases hc7 : v1 = (6 : Int32)
  · replace h := (if_pos hc7).symm.trans h
    obtain ⟨rfl, rfl⟩ := z_ret2 h
    exact ho
  replace h := (if_neg hc7).symm.trans h
  by_cases hc8 : v1 = (7 : Int32)
  · replace h := (if_pos hc8).symm.trans h
    obtain ⟨rfl, rfl⟩ := z_ret2 h
    exact ho
  replace h := (if_neg hc8).symm.trans h
  obtain ⟨rfl, rfl⟩ := z_ret2 h
  exact ho
set_option maxRecDepth 20000 in
set_option maxHeartbeats 4000000 in
theorem o_X9_row {v1 : Int32} {M : zM} {r1 : Int64} {Mr : zM} (h : f9_row v1 M = some (r1, Mr)) : zOut [] [0] M Mr := by
  have ho : zOut [] [0] M M := zOut.rf
  rw [f9_row] at h
  replace ho := ho.si 39 0 (0 : Int32) (by simp)
  obtain ⟨x1, hx1, h⟩ := z_bind h
  by_cases hc : x1 = 0
  · replace h := (if_pos hc).symm.trans h
    replace ho := ho.si 39 0 (1 : Int32) (by simp)
    obtain ⟨rfl, rfl⟩ := z_ret2 h
    exact ho
  · replace h := (if_neg hc).symm.trans h
    obtain ⟨x2, hx2, h⟩ := z_bind h
    obtain ⟨rfl, rfl⟩ := z_ret2 h
    exact ho
set_option maxRecDepth 20000 in
set_option maxHeartbeats 4000000 in
theorem o0_tie_2 {a1 : Nat} {Mr : zM} {M0 : zM} : ∀ (n : Nat) (v2 : Int32) (M : zM), zOut [22, 23] [] M0 M → f0_tie_2 a1 n v2 M = some Mr → zOut [22, 23] [] M0 Mr := by
  intro n
  induction n with
  | zero => intro v2 M ho h; cases h
  | succ n ih =>
    intro v2 M ho h
    rw [f0_tie_2] at h
    by_cases hc : (6 : Int32) ≤ v2
    · replace h := (if_pos hc).symm.trans h
      obtain rfl := z_ret1 h
      exact ho
    · replace h := (if_neg hc).symm.trans h
      obtain ⟨x1, hx1, h⟩ := z_bind h
      obtain ⟨M2, hM2, h⟩ := z_bind h
      replace ho := ho.pI hM2 (by simp)
      obtain ⟨x3, hx3, h⟩ := z_bind h
      obtain ⟨x4, hx4, h⟩ := z_bind h
      obtain ⟨M5, hM5, h⟩ := z_bind h
      replace ho := ho.pI hM5 (by simp)
      obtain ⟨x6, hx6, h⟩ := z_bind h
      obtain ⟨M7, hM7, h⟩ := z_bind h
      replace ho := ho.pI hM7 (by simp)
      obtain ⟨x8, hx8, h⟩ := z_bind h
      obtain ⟨x9, hx9, h⟩ := z_bind h
      obtain ⟨M10, hM10, h⟩ := z_bind h
      replace ho := ho.pI hM10 (by simp)
      exact ih _ _ ho h
set_option maxRecDepth 20000 in
set_option maxHeartbeats 4000000 in
theorem o_X0_tie {a1 : Nat} {M : zM} {Mr : zM} (h : f0_tie a1 M = some Mr) : zOut [22, 23] [] M Mr := by
  have ho : zOut [22, 23] [] M M := zOut.rf
  rw [f0_tie] at h
  exact o0_tie_2 zfuel _ _ ho h
set_option maxRecDepth 20000 in
set_option maxHeartbeats 4000000 in
theorem o_X0_isTogether {a1 : Nat} {M : zM} {r1 : Int32} {Mr : zM} (h : f0_isTogether a1 M = some (r1, Mr)) : zOut [22, 23] [] M Mr := by
  have ho : zOut [22, 23] [] M M := zOut.rf
  rw [f0_isTogether] at h
  obtain ⟨M1, hM1, h⟩ := z_bind h
  replace ho := ho.call (o_X0_tie hM1) (by simp) (by simp)
  obtain ⟨x2, hx2, h⟩ := z_bind h
  obtain ⟨x3, hx3, h⟩ := z_bind h
  obtain ⟨x4, hx4, h⟩ := z_bind h
  obtain ⟨rfl, rfl⟩ := z_ret2 h
  exact ho
set_option maxRecDepth 20000 in
set_option maxHeartbeats 4000000 in
theorem o0_tabulate_93 {a1 : Nat} {Mr : zM} {M0 : zM} {k53 : Int32 → Int32 → Int32 → zM → Option zM} (hk53 : ∀ (v4 : Int32) (v5 : Int32) (v6 : Int32) (M : zM), zOut [21, 22, 23, 24, 26] [] M0 M → k53 v4 v5 v6 M = some Mr → zOut [21, 22, 23, 24, 26] [] M0 Mr) : ∀ (v4 : Int32) (v5 : Int32) (v6 : Int32) (M : zM), zOut [21, 22, 23, 24, 26] [] M0 M → f0_tabulate_93 a1 k53 v4 v5 v6 M = some Mr → zOut [21, 22, 23, 24, 26] [] M0 Mr := by
  intro v4 v5 v6 M ho h
  rw [f0_tabulate_93] at h
  by_cases hc : ((v5 - v4) &&& v4) = 0
  · replace h := (if_pos hc).symm.trans h
    obtain rfl := z_ret1 h
    exact ho
  · replace h := (if_neg hc).symm.trans h
    exact hk53 _ _ _ _ ho h
set_option maxRecDepth 20000 in
set_option maxHeartbeats 4000000 in
theorem o0_tabulate_53 {a1 : Nat} {Mr : zM} {M0 : zM} : ∀ (n : Nat) (v4 : Int32) (v5 : Int32) (v6 : Int32) (M : zM), zOut [21, 22, 23, 24, 26] [] M0 M → f0_tabulate_53 a1 n v4 v5 v6 M = some Mr → zOut [21, 22, 23, 24, 26] [] M0 Mr := by
  intro n
  induction n with
  | zero => intro v4 v5 v6 M ho h; cases h
  | succ n ih =>
    intro v4 v5 v6 M ho h
    rw [f0_tabulate_53] at h
    by_cases hc : (4096 : Int32) ≤ v6
    · replace h := (if_pos hc).symm.trans h
      obtain rfl := z_ret1 h
      exact ho
    · replace h := (if_neg hc).symm.trans h
      obtain ⟨x1, hx1, h⟩ := z_bind h
      by_cases hc : x1 = 0
      · replace h := (if_pos hc).symm.trans h
        exact o0_tabulate_93 (fun u0 u1 u2 u3 ho h => ih u0 u1 u2 u3 ho h) _ _ _ _ ho h
      · replace h := (if_neg hc).symm.trans h
        obtain ⟨M2, hM2, h⟩ := z_bind h
        replace ho := ho.call (o_X0_mark hM2) (by simp) (by simp)
        obtain ⟨x3, hx3, h⟩ := z_bind h
        obtain ⟨x4, hx4, h⟩ := z_bind h
        obtain ⟨M5, hM5, h⟩ := z_bind h
        replace ho := ho.pI hM5 (by simp)
        exact o0_tabulate_93 (fun u0 u1 u2 u3 ho h => ih u0 u1 u2 u3 ho h) _ _ _ _ ho h
set_option maxRecDepth 20000 in
set_option maxHeartbeats 4000000 in
theorem o_X0_tabulate {a1 : Nat} {M : zM} {Mr : zM} (h : f0_tabulate a1 M = some Mr) : zOut [21, 22, 23, 24, 26] [] M Mr := by
  have ho : zOut [21, 22, 23, 24, 26] [] M M := zOut.rf
  rw [f0_tabulate] at h
  obtain ⟨x1, hx1, h⟩ := z_bind h
  by_cases hc : (lg_cmp x1 (M.2 21 5)) = 0
  · replace h := (if_pos hc).symm.trans h
    obtain rfl := z_ret1 h
    exact ho
  · replace h := (if_neg hc).symm.trans h
    replace ho := ho.sj 21 5 x1 (by simp)
    obtain ⟨M2, hM2, h⟩ := z_bind h
    replace ho := ho.call (o_X0_tie hM2) (by simp) (by simp)
    obtain ⟨M3, hM3, h⟩ := z_bind h
    replace ho := ho.call (o_J7_fill_d0a16 hM3) (by simp) (by simp)
    obtain ⟨M4, hM4, h⟩ := z_bind h
    replace ho := ho.call (o_J7_fill_53178 hM4) (by simp) (by simp)
    obtain ⟨x5, hx5, h⟩ := z_bind h
    exact o0_tabulate_53 zfuel _ _ _ _ ho h
set_option maxRecDepth 20000 in
set_option maxHeartbeats 4000000 in
theorem o0_longestTaking_76 {r1 : Int32} {Mr : zM} {M0 : zM} {k39 : Int32 → Int32 → Int32 → Int32 → zM → Option (Int32 × zM)} (hk39 : ∀ (v1 : Int32) (v2 : Int32) (v3 : Int32) (v4 : Int32) (M : zM), zOut [25] [] M0 M → k39 v1 v2 v3 v4 M = some (r1, Mr) → zOut [25] [] M0 Mr) : ∀ (v1 : Int32) (v2 : Int32) (v3 : Int32) (v4 : Int32) (M : zM), zOut [25] [] M0 M → f0_longestTaking_76 k39 v1 v2 v3 v4 M = some (r1, Mr) → zOut [25] [] M0 Mr := by
  intro v1 v2 v3 v4 M ho h
  rw [f0_longestTaking_76] at h
  exact hk39 _ _ _ _ _ ho h
set_option maxRecDepth 20000 in
set_option maxHeartbeats 4000000 in
theorem o0_longestTaking_88 {r1 : Int32} {Mr : zM} {M0 : zM} : ∀ (v1 : Int32) (v2 : Int32) (M : zM), zOut [25] [] M0 M → f0_longestTaking_88 v1 v2 M = some (r1, Mr) → zOut [25] [] M0 Mr := by
  intro v1 v2 M ho h
  rw [f0_longestTaking_88] at h
  obtain ⟨x1, hx1, h⟩ := z_bind h
  obtain ⟨rfl, rfl⟩ := z_ret2 h
  exact ho
set_option maxRecDepth 20000 in
set_option maxHeartbeats 4000000 in
theorem o0_longestTaking_39 {r1 : Int32} {Mr : zM} {M0 : zM} : ∀ (n : Nat) (v1 : Int32) (v2 : Int32) (v3 : Int32) (v4 : Int32) (M : zM), zOut [25] [] M0 M → f0_longestTaking_39 n v1 v2 v3 v4 M = some (r1, Mr) → zOut [25] [] M0 Mr := by
  intro n
  induction n with
  | zero => intro v1 v2 v3 v4 M ho h; cases h
  | succ n ih =>
    intro v1 v2 v3 v4 M ho h
    rw [f0_longestTaking_39] at h
    by_cases hc : (4096 : Int32) ≤ v4
    · replace h := (if_pos hc).symm.trans h
      exact o0_longestTaking_88 _ _ _ ho h
    · replace h := (if_neg hc).symm.trans h
      by_cases hc : v3 = 0
      · replace h := (if_pos hc).symm.trans h
        exact o0_longestTaking_88 _ _ _ ho h
      · replace h := (if_neg hc).symm.trans h
        obtain ⟨x1, hx1, h⟩ := z_bind h
        by_cases hc : x1 = 0
        · replace h := (if_pos hc).symm.trans h
          exact o0_longestTaking_76 (fun u0 u1 u2 u3 u4 ho h => ih u0 u1 u2 u3 u4 ho h) _ _ _ _ _ ho h
        · replace h := (if_neg hc).symm.trans h
          obtain ⟨x2, hx2, h⟩ := z_bind h
          obtain ⟨M3, hM3, h⟩ := z_bind h
          replace ho := ho.call (o_X0_markTakings hM3) (by simp) (by simp)
          exact o0_longestTaking_76 (fun u0 u1 u2 u3 u4 ho h => ih u0 u1 u2 u3 u4 ho h) _ _ _ _ _ ho h
set_option maxRecDepth 20000 in
set_option maxHeartbeats 4000000 in
theorem o_X0_longestTaking {v1 : Int32} {M : zM} {r1 : Int32} {Mr : zM} (h : f0_longestTaking v1 M = some (r1, Mr)) : zOut [25] [] M Mr := by
  have ho : zOut [25] [] M M := zOut.rf
  rw [f0_longestTaking] at h
  obtain ⟨x1, hx1, h⟩ := z_bind h
  by_cases hc : x1 = 0
  · replace h := (if_pos hc).symm.trans h
    obtain ⟨rfl, rfl⟩ := z_ret2 h
    exact ho
  · replace h := (if_neg hc).symm.trans h
    obtain ⟨M2, hM2, h⟩ := z_bind h
    replace ho := ho.call (o_J7_fill_d0a16 hM2) (by simp) (by simp)
    obtain ⟨M3, hM3, h⟩ := z_bind h
    replace ho := ho.call (o_X0_mark hM3) (by simp) (by simp)
    obtain ⟨x4, hx4, h⟩ := z_bind h
    exact o0_longestTaking_39 zfuel _ _ _ _ _ ho h
set_option maxRecDepth 20000 in
set_option maxHeartbeats 4000000 in
theorem o0_winningTake_52 {r1 : Int32} {Mr : zM} {M0 : zM} {k12 : Int32 → Int32 → Int32 → zM → Option (Int32 × zM)} (hk12 : ∀ (v1 : Int32) (v2 : Int32) (v3 : Int32) (M : zM), zOut [25] [] M0 M → k12 v1 v2 v3 M = some (r1, Mr) → zOut [25] [] M0 Mr) : ∀ (v1 : Int32) (v2 : Int32) (v3 : Int32) (M : zM), zOut [25] [] M0 M → f0_winningTake_52 k12 v1 v2 v3 M = some (r1, Mr) → zOut [25] [] M0 Mr := by
  intro v1 v2 v3 M ho h
  rw [f0_winningTake_52] at h
  exact hk12 _ _ _ _ ho h
set_option maxRecDepth 20000 in
set_option maxHeartbeats 4000000 in
theorem o0_winningTake_64 {r1 : Int32} {Mr : zM} {M0 : zM} : ∀ (v1 : Int32) (M : zM), zOut [25] [] M0 M → f0_winningTake_64 v1 M = some (r1, Mr) → zOut [25] [] M0 Mr := by
  intro v1 M ho h
  rw [f0_winningTake_64] at h
  obtain ⟨x1, hx1, h⟩ := z_bind h
  obtain ⟨rfl, rfl⟩ := z_ret2 h
  exact ho
set_option maxRecDepth 20000 in
set_option maxHeartbeats 4000000 in
theorem o0_winningTake_12 {r1 : Int32} {Mr : zM} {M0 : zM} : ∀ (n : Nat) (v1 : Int32) (v2 : Int32) (v3 : Int32) (M : zM), zOut [25] [] M0 M → f0_winningTake_12 n v1 v2 v3 M = some (r1, Mr) → zOut [25] [] M0 Mr := by
  intro n
  induction n with
  | zero => intro v1 v2 v3 M ho h; cases h
  | succ n ih =>
    intro v1 v2 v3 M ho h
    rw [f0_winningTake_12] at h
    by_cases hc : (4096 : Int32) ≤ v3
    · replace h := (if_pos hc).symm.trans h
      exact o0_winningTake_64 _ _ ho h
    · replace h := (if_neg hc).symm.trans h
      by_cases hc : v2 = v1
      · replace h := (if_pos hc).symm.trans h
        exact o0_winningTake_64 _ _ ho h
      · replace h := (if_neg hc).symm.trans h
        obtain ⟨x1, hx1, h⟩ := z_bind h
        by_cases hc : x1 = 0
        · replace h := (if_pos hc).symm.trans h
          exact o0_winningTake_52 (fun u0 u1 u2 u3 ho h => ih u0 u1 u2 u3 ho h) _ _ _ _ ho h
        · replace h := (if_neg hc).symm.trans h
          obtain ⟨x2, hx2, h⟩ := z_bind h
          by_cases hc : x2 = (-1 : Int32)
          · replace h := (if_pos hc).symm.trans h
            exact o0_winningTake_52 (fun u0 u1 u2 u3 ho h => ih u0 u1 u2 u3 ho h) _ _ _ _ ho h
          · replace h := (if_neg hc).symm.trans h
            obtain ⟨M3, hM3, h⟩ := z_bind h
            replace ho := ho.call (o_X0_mark hM3) (by simp) (by simp)
            exact o0_winningTake_52 (fun u0 u1 u2 u3 ho h => ih u0 u1 u2 u3 ho h) _ _ _ _ ho h
set_option maxRecDepth 20000 in
set_option maxHeartbeats 4000000 in
theorem o_X0_winningTake {v1 : Int32} {M : zM} {r1 : Int32} {Mr : zM} (h : f0_winningTake v1 M = some (r1, Mr)) : zOut [25] [] M Mr := by
  have ho : zOut [25] [] M M := zOut.rf
  rw [f0_winningTake] at h
  obtain ⟨M1, hM1, h⟩ := z_bind h
  replace ho := ho.call (o_J7_fill_d0a16 hM1) (by simp) (by simp)
  exact o0_winningTake_12 zfuel _ _ _ _ ho h
set_option maxRecDepth 20000 in
set_option maxHeartbeats 4000000 in
theorem o1_narrow_65 {a1 : Nat} {Mr : zM} {M0 : zM} {k39 : Int32 → Int32 → Int32 → Int32 → zM → Option zM} (hk39 : ∀ (v2 : Int32) (v3 : Int32) (v4 : Int32) (v5 : Int32) (M : zM), zOut [27, 28] [] M0 M → k39 v2 v3 v4 v5 M = some Mr → zOut [27, 28] [] M0 Mr) : ∀ (v2 : Int32) (v3 : Int32) (v5 : Int32) (s0 : Int32) (M : zM), zOut [27, 28] [] M0 M → f1_narrow_65 a1 k39 v2 v3 v5 s0 M = some Mr → zOut [27, 28] [] M0 Mr := by
  intro v2 v3 v5 s0 M ho h
  rw [f1_narrow_65] at h
  exact hk39 _ _ _ _ _ ho h
set_option maxRecDepth 20000 in
set_option maxHeartbeats 4000000 in
theorem o1_narrow_39 {a1 : Nat} {Mr : zM} {M0 : zM} {k73 : Int32 → Int32 → Int32 → zM → Option zM} (hk73 : ∀ (v2 : Int32) (v3 : Int32) (v4 : Int32) (M : zM), zOut [27, 28] [] M0 M → k73 v2 v3 v4 M = some Mr → zOut [27, 28] [] M0 Mr) : ∀ (n : Nat) (v2 : Int32) (v3 : Int32) (v4 : Int32) (v5 : Int32) (M : zM), zOut [27, 28] [] M0 M → f1_narrow_39 a1 k73 n v2 v3 v4 v5 M = some Mr → zOut [27, 28] [] M0 Mr := by
  intro n
  induction n with
  | zero => intro v2 v3 v4 v5 M ho h; cases h
  | succ n ih =>
    intro v2 v3 v4 v5 M ho h
    rw [f1_narrow_39] at h
    by_cases hc : v5 < 0
    · replace h := (if_pos hc).symm.trans h
      exact hk73 _ _ _ _ ho h
    · replace h := (if_neg hc).symm.trans h
      by_cases hc : ((zushr v2 v5) &&& (1 : Int32)) = 0
      · replace h := (if_pos hc).symm.trans h
        exact o1_narrow_65 (fun u0 u1 u2 u3 u4 ho h => ih u0 u1 u2 u3 u4 ho h) _ _ _ _ _ ho h
      · replace h := (if_neg hc).symm.trans h
        obtain ⟨x1, hx1, h⟩ := z_bind h
        exact o1_narrow_65 (fun u0 u1 u2 u3 u4 ho h => ih u0 u1 u2 u3 u4 ho h) _ _ _ _ _ ho h
set_option maxRecDepth 20000 in
set_option maxHeartbeats 4000000 in
theorem o1_narrow_73 {a1 : Nat} {Mr : zM} {M0 : zM} {k15 : Int32 → Int32 → zM → Option zM} (hk15 : ∀ (v2 : Int32) (v3 : Int32) (M : zM), zOut [27, 28] [] M0 M → k15 v2 v3 M = some Mr → zOut [27, 28] [] M0 Mr) : ∀ (v2 : Int32) (v3 : Int32) (v4 : Int32) (M : zM), zOut [27, 28] [] M0 M → f1_narrow_73 a1 k15 v2 v3 v4 M = some Mr → zOut [27, 28] [] M0 Mr := by
  intro v2 v3 v4 M ho h
  rw [f1_narrow_73] at h
  obtain ⟨M1, hM1, h⟩ := z_bind h
  replace ho := ho.pI hM1 (by simp)
  exact hk15 _ _ _ ho h
set_option maxRecDepth 20000 in
set_option maxHeartbeats 4000000 in
theorem o1_narrow_15 {a1 : Nat} {Mr : zM} {M0 : zM} : ∀ (n : Nat) (v2 : Int32) (v3 : Int32) (M : zM), zOut [27, 28] [] M0 M → f1_narrow_15 a1 n v2 v3 M = some Mr → zOut [27, 28] [] M0 Mr := by
  intro n
  induction n with
  | zero => intro v2 v3 M ho h; cases h
  | succ n ih =>
    intro v2 v3 M ho h
    rw [f1_narrow_15] at h
    by_cases hc : (M.1 a1 0) ≤ v3
    · replace h := (if_pos hc).symm.trans h
      obtain rfl := z_ret1 h
      exact ho
    · replace h := (if_neg hc).symm.trans h
      obtain ⟨x1, hx1, h⟩ := z_bind h
      exact o1_narrow_39 (fun u0 u1 u2 u3 ho h => o1_narrow_73 (fun u0 u1 u2 ho h => ih u0 u1 u2 ho h) u0 u1 u2 u3 ho h) zfuel _ _ _ _ _ ho h
set_option maxRecDepth 20000 in
set_option maxHeartbeats 4000000 in
theorem o_X1_narrow {a1 : Nat} {v2 : Int32} {M : zM} {Mr : zM} (h : f1_narrow a1 v2 M = some Mr) : zOut [27, 28] [] M Mr := by
  have ho : zOut [27, 28] [] M M := zOut.rf
  rw [f1_narrow] at h
  obtain ⟨x1, hx1, h⟩ := z_bind h
  replace ho := ho.si 27 1 ((M.1 a1 1) - x1) (by simp)
  exact o1_narrow_15 zfuel _ _ _ ho h
set_option maxRecDepth 20000 in
set_option maxHeartbeats 4000000 in
theorem o2_push_74 {a0 : Nat} {n0 : Nat} {Mr : zM} {M0 : zM} : ∀ (v1 : Int64) (v3 : Int32) (M : zM), zOut [a0, a0 + 1, a0 + 2] [] M0 M → f2_push_74 a0 n0 v1 v3 M = some Mr → zOut [a0, a0 + 1, a0 + 2] [] M0 Mr := by
  intro v1 v3 M ho h
  rw [f2_push_74] at h
  obtain ⟨M1, hM1, h⟩ := z_bind h
  replace ho := ho.call (o_X2_put hM1) (by simp) (by simp)
  replace ho := ho.si a0 2 ((M1.1 a0 2) + (1 : Int32)) (by simp)
  obtain rfl := z_ret1 h
  exact ho
set_option maxRecDepth 20000 in
set_option maxHeartbeats 4000000 in
theorem o2_push_15 {a0 : Nat} {n0 : Nat} {Mr : zM} {M0 : zM} : ∀ (n : Nat) (v1 : Int64) (v3 : Int32) (v4 : Int32) (M : zM), zOut [a0, a0 + 1, a0 + 2] [] M0 M → f2_push_15 a0 n0 n v1 v3 v4 M = some Mr → zOut [a0, a0 + 1, a0 + 2] [] M0 Mr := by
  intro n
  induction n with
  | zero => intro v1 v3 v4 M ho h; cases h
  | succ n ih =>
    intro v1 v3 v4 M ho h
    rw [f2_push_15] at h
    by_cases hc : (Int32.ofNat n0) ≤ v4
    · replace h := (if_pos hc).symm.trans h
      replace ho := ho.si a0 2 ((Int32.ofNat n0) - (1 : Int32)) (by simp)
      exact o2_push_74 _ _ _ ho h
    · replace h := (if_neg hc).symm.trans h
      obtain ⟨x1, hx1, h⟩ := z_bind h
      obtain ⟨M2, hM2, h⟩ := z_bind h
      replace ho := ho.pJ hM2 (by simp)
      obtain ⟨x3, hx3, h⟩ := z_bind h
      obtain ⟨M4, hM4, h⟩ := z_bind h
      replace ho := ho.pI hM4 (by simp)
      exact ih _ _ _ _ ho h
set_option maxRecDepth 20000 in
set_option maxHeartbeats 4000000 in
theorem o_X2_push {a0 : Nat} {n0 : Nat} {v1 : Int64} {v3 : Int32} {M : zM} {Mr : zM} (h : f2_push a0 n0 v1 v3 M = some Mr) : zOut [a0, a0 + 1, a0 + 2] [] M Mr := by
  have ho : zOut [a0, a0 + 1, a0 + 2] [] M M := zOut.rf
  rw [f2_push] at h
  by_cases hc : (M.1 a0 2) < (Int32.ofNat n0)
  · replace h := (if_pos hc).symm.trans h
    exact o2_push_74 _ _ _ ho h
  · replace h := (if_neg hc).symm.trans h
    exact o2_push_15 zfuel _ _ _ _ ho h
set_option maxRecDepth 20000 in
set_option maxHeartbeats 4000000 in
theorem o_X2_bringBack {a0 : Nat} {n0 : Nat} {v1 : Int32} {a2 : Nat} {M : zM} {Mr : zM} (h : f2_bringBack a0 n0 v1 a2 M = some Mr) : zOut [a2, a2 + 1] [] M Mr := by
  have ho : zOut [a2, a2 + 1] [] M M := zOut.rf
  rw [f2_bringBack] at h
  obtain ⟨x1, hx1, h⟩ := z_bind h
  by_cases hc : x1 = 0
  · replace h := (if_pos hc).symm.trans h
    obtain rfl := z_ret1 h
    exact ho
  · replace h := (if_neg hc).symm.trans h
    obtain ⟨x2, hx2, h⟩ := z_bind h
    obtain ⟨M3, hM3, h⟩ := z_bind h
    replace ho := ho.call (o_X7_takeShape hM3) (by simp) (by simp)
    obtain ⟨x4, hx4, h⟩ := z_bind h
    replace ho := ho.si a2 2 x4 (by simp)
    obtain rfl := z_ret1 h
    exact ho
set_option maxRecDepth 20000 in
set_option maxHeartbeats 4000000 in
theorem o_X4_putPlainRule {a0 : Nat} {M : zM} {Mr : zM} (h : f4_putPlainRule a0 M = some Mr) : zOut [a0, a0 + 1] [] M Mr := by
  have ho : zOut [a0, a0 + 1] [] M M := zOut.rf
  rw [f4_putPlainRule] at h
  obtain ⟨M1, hM1, h⟩ := z_bind h
  replace ho := ho.call (o_X4_emit hM1) (by simp) (by simp)
  obtain ⟨M2, hM2, h⟩ := z_bind h
  replace ho := ho.call (o_X4_emit hM2) (by simp) (by simp)
  obtain ⟨M3, hM3, h⟩ := z_bind h
  replace ho := ho.call (o_X4_emit hM3) (by simp) (by simp)
  obtain rfl := z_ret1 h
  exact ho
set_option maxRecDepth 20000 in
set_option maxHeartbeats 4000000 in
theorem o4_takesThing_91 {a0 : Nat} {r1 : Int32} {Mr : zM} {M0 : zM} : ∀ (v1 : Int32) (v2 : Int32) (M : zM), zOut [a0, a0 + 1, a0 + 2, a0 + 3] [] M0 M → f4_takesThing_91 a0 v1 v2 M = some (r1, Mr) → zOut [a0, a0 + 1, a0 + 2, a0 + 3] [] M0 Mr := by
  intro v1 v2 M ho h
  rw [f4_takesThing_91] at h
  obtain ⟨M1, hM1, h⟩ := z_bind h
  replace ho := ho.call (o_X4_emit hM1) (by simp) (by simp)
  replace ho := ho.si a0 6 (if v2 = 0 then (3 : Int32) else (1 : Int32)) (by simp)
  replace ho := ho.si a0 7 (0 : Int32) (by simp)
  obtain ⟨rfl, rfl⟩ := z_ret2 h
  exact ho
set_option maxRecDepth 20000 in
set_option maxHeartbeats 4000000 in
theorem o_X4_takesThing {a0 : Nat} {v1 : Int32} {M : zM} {r1 : Int32} {Mr : zM} (h : f4_takesThing a0 v1 M = some (r1, Mr)) : zOut [a0, a0 + 1, a0 + 2, a0 + 3] [] M Mr := by
  have ho : zOut [a0, a0 + 1, a0 + 2, a0 + 3] [] M M := zOut.rf
  rw [f4_takesThing] at h
  by_cases hc : v1 = (45 : Int32)
  · replace h := (if_pos hc).symm.trans h
    obtain ⟨M1, hM1, h⟩ := z_bind h
    replace ho := ho.call (o_X4_hold hM1) (by simp) (by simp)
    obtain ⟨rfl, rfl⟩ := z_ret2 h
    exact ho
  · replace h := (if_neg hc).symm.trans h
    by_cases hc : v1 = (40 : Int32)
    · replace h := (if_pos hc).symm.trans h
      by_cases hc : (M.1 a0 5) < (4 : Int32)
      · replace h := (if_pos hc).symm.trans h
        replace ho := ho.si a0 5 ((M.1 a0 5) + (1 : Int32)) (by simp)
        obtain ⟨M1, hM1, h⟩ := z_bind h
        replace ho := ho.pZ hM1 (by simp)
        obtain ⟨M2, hM2, h⟩ := z_bind h
        replace ho := ho.call (o_X4_hold hM2) (by simp) (by simp)
        obtain ⟨rfl, rfl⟩ := z_ret2 h
        exact ho
      · replace h := (if_neg hc).symm.trans h
        obtain ⟨rfl, rfl⟩ := z_ret2 h
        exact ho
    · replace h := (if_neg hc).symm.trans h
      by_cases hc : (if v1 < (48 : Int32) then (0 : Int32) else (if (57 : Int32) < v1 then (0 : Int32) else (1 : Int32))) = 0
      · replace h := (if_pos hc).symm.trans h
        obtain ⟨x1, hx1, h⟩ := z_bind h
        by_cases hc : x1 = 0
        · replace h := (if_pos hc).symm.trans h
          obtain ⟨rfl, rfl⟩ := z_ret2 h
          exact ho
        · replace h := (if_neg hc).symm.trans h
          exact o4_takesThing_91 _ _ _ ho h
      · replace h := (if_neg hc).symm.trans h
        exact o4_takesThing_91 _ _ _ ho h
set_option maxRecDepth 20000 in
set_option maxHeartbeats 4000000 in
theorem o4_takesJoin_152 {a0 : Nat} {r1 : Int32} {Mr : zM} {M0 : zM} : ∀ (v1 : Int32) (v2 : Int32) (M : zM), zOut [a0, a0 + 1, a0 + 2, a0 + 3] [] M0 M → f4_takesJoin_152 a0 v1 v2 M = some (r1, Mr) → zOut [a0, a0 + 1, a0 + 2, a0 + 3] [] M0 Mr := by
  intro v1 v2 M ho h
  rw [f4_takesJoin_152] at h
  obtain ⟨x1, hx1, h⟩ := z_bind h
  obtain ⟨M2, hM2, h⟩ := z_bind h
  replace ho := ho.pZ hM2 (by simp)
  obtain ⟨M3, hM3, h⟩ := z_bind h
  replace ho := ho.call (o_X4_release hM3) (by simp) (by simp)
  obtain ⟨M4, hM4, h⟩ := z_bind h
  replace ho := ho.call (o_X4_hold hM4) (by simp) (by simp)
  replace ho := ho.si a0 7 (1 : Int32) (by simp)
  obtain ⟨rfl, rfl⟩ := z_ret2 h
  exact ho
set_option maxRecDepth 20000 in
set_option maxHeartbeats 4000000 in
theorem o4_takesJoin_72 {a0 : Nat} {r1 : Int32} {Mr : zM} {M0 : zM} : ∀ (v1 : Int32) (M : zM), zOut [a0, a0 + 1, a0 + 2, a0 + 3] [] M0 M → f4_takesJoin_72 a0 v1 M = some (r1, Mr) → zOut [a0, a0 + 1, a0 + 2, a0 + 3] [] M0 Mr := by
  intro v1 M ho h
  rw [f4_takesJoin_72] at h
  by_cases hc : v1 = (41 : Int32)
  · replace h := (if_pos hc).symm.trans h
    by_cases hc : (1 : Int32) ≤ (M.1 a0 5)
    · replace h := (if_pos hc).symm.trans h
      obtain ⟨M1, hM1, h⟩ := z_bind h
      replace ho := ho.call (o_X4_release hM1) (by simp) (by simp)
      replace ho := ho.si a0 3 ((M1.1 a0 3) - (1 : Int32)) (by simp)
      replace ho := ho.si a0 5 (((zsi M1 a0 3 ((M1.1 a0 3) - (1 : Int32))).1 a0 5) - (1 : Int32)) (by simp)
      replace ho := ho.si a0 6 (3 : Int32) (by simp)
      obtain ⟨rfl, rfl⟩ := z_ret2 h
      exact ho
    · replace h := (if_neg hc).symm.trans h
      obtain ⟨rfl, rfl⟩ := z_ret2 h
      exact ho
  · replace h := (if_neg hc).symm.trans h
    obtain ⟨x1, hx1, h⟩ := z_bind h
    by_cases hc : x1 = 0
    · replace h := (if_pos hc).symm.trans h
      obtain ⟨rfl, rfl⟩ := z_ret2 h
      exact ho
    · replace h := (if_neg hc).symm.trans h
      by_cases hc : x1 = (1 : Int32)
      · replace h := (if_pos hc).symm.trans h
        obtain ⟨x2, hx2, h⟩ := z_bind h
        by_cases hc : x2 = 0
        · replace h := (if_pos hc).symm.trans h
          exact o4_takesJoin_152 _ _ _ ho h
        · replace h := (if_neg hc).symm.trans h
          obtain ⟨rfl, rfl⟩ := z_ret2 h
          exact ho
      · replace h := (if_neg hc).symm.trans h
        exact o4_takesJoin_152 _ _ _ ho h
set_option maxRecDepth 20000 in
set_option maxHeartbeats 4000000 in
theorem o_X4_takesJoin {a0 : Nat} {v1 : Int32} {M : zM} {r1 : Int32} {Mr : zM} (h : f4_takesJoin a0 v1 M = some (r1, Mr)) : zOut [a0, a0 + 1, a0 + 2, a0 + 3] [] M Mr := by
  have ho : zOut [a0, a0 + 1, a0 + 2, a0 + 3] [] M M := zOut.rf
  rw [f4_takesJoin] at h
  by_cases hc : v1 < (48 : Int32)
  · replace h := (if_pos hc).symm.trans h
    exact o4_takesJoin_72 _ _ ho h
  · replace h := (if_neg hc).symm.trans h
    by_cases hc : (57 : Int32) < v1
    · replace h := (if_pos hc).symm.trans h
      exact o4_takesJoin_72 _ _ ho h
    · replace h := (if_neg hc).symm.trans h
      by_cases hc : (3 : Int32) ≤ (M.1 a0 6)
      · replace h := (if_pos hc).symm.trans h
        obtain ⟨rfl, rfl⟩ := z_ret2 h
        exact ho
      · replace h := (if_neg hc).symm.trans h
        by_cases hc : (1 : Int32) ≤ (M.1 a0 1)
        · replace h := (if_pos hc).symm.trans h
          obtain ⟨x1, hx1, h⟩ := z_bind h
          obtain ⟨M2, hM2, h⟩ := z_bind h
          replace ho := ho.pI hM2 (by simp)
          replace ho := ho.si a0 6 ((M2.1 a0 6) + (1 : Int32)) (by simp)
          obtain ⟨rfl, rfl⟩ := z_ret2 h
          exact ho
        · replace h := (if_neg hc).symm.trans h
          obtain ⟨rfl, rfl⟩ := z_ret2 h
          exact ho
set_option maxRecDepth 20000 in
set_option maxHeartbeats 4000000 in
theorem o7_weaveIn_164 {a0 : Nat} {r1 : Int32} {Mr : zM} {M0 : zM} : ∀ (v1 : Int32) (M : zM), zOut [a0, a0 + 1] [] M0 M → f7_weaveIn_164 a0 v1 M = some (r1, Mr) → zOut [a0, a0 + 1] [] M0 Mr := by
  intro v1 M ho h
  rw [f7_weaveIn_164] at h
  obtain ⟨M1, hM1, h⟩ := z_bind h
  replace ho := ho.call (o_X7_settle hM1) (by simp) (by simp)
  obtain ⟨x2, hx2, h⟩ := z_bind h
  obtain ⟨rfl, rfl⟩ := z_ret2 h
  exact ho
set_option maxRecDepth 20000 in
set_option maxHeartbeats 4000000 in
theorem o7_weaveIn_62 {a0 : Nat} {r1 : Int32} {Mr : zM} {M0 : zM} : ∀ (n : Nat) (v1 : Int32) (v2 : Int32) (v3 : Int32) (v4 : Int32) (M : zM), zOut [a0, a0 + 1] [] M0 M → f7_weaveIn_62 a0 n v1 v2 v3 v4 M = some (r1, Mr) → zOut [a0, a0 + 1] [] M0 Mr := by
  intro n
  induction n with
  | zero => intro v1 v2 v3 v4 M ho h; cases h
  | succ n ih =>
    intro v1 v2 v3 v4 M ho h
    rw [f7_weaveIn_62] at h
    by_cases hc : v4 ≤ v2
    · replace h := (if_pos hc).symm.trans h
      obtain ⟨M1, hM1, h⟩ := z_bind h
      replace ho := ho.pI hM1 (by simp)
      replace ho := ho.si a0 0 ((M1.1 a0 0) + (1 : Int32)) (by simp)
      exact o7_weaveIn_164 _ _ ho h
    · replace h := (if_neg hc).symm.trans h
      obtain ⟨x1, hx1, h⟩ := z_bind h
      obtain ⟨M2, hM2, h⟩ := z_bind h
      replace ho := ho.pI hM2 (by simp)
      exact ih _ _ _ _ _ ho h
set_option maxRecDepth 20000 in
set_option maxHeartbeats 4000000 in
theorem o7_weaveIn_113 {a0 : Nat} {r1 : Int32} {Mr : zM} {M0 : zM} : ∀ (n : Nat) (v1 : Int32) (v2 : Int32) (v3 : Int32) (v4 : Int32) (M : zM), zOut [a0, a0 + 1] [] M0 M → f7_weaveIn_113 a0 n v1 v2 v3 v4 M = some (r1, Mr) → zOut [a0, a0 + 1] [] M0 Mr := by
  intro n
  induction n with
  | zero => intro v1 v2 v3 v4 M ho h; cases h
  | succ n ih =>
    intro v1 v2 v3 v4 M ho h
    rw [f7_weaveIn_113] at h
    by_cases hc : (M.1 a0 0) ≤ v4
    · replace h := (if_pos hc).symm.trans h
      replace ho := ho.si a0 1 ((M.1 a0 1) + (1 : Int32)) (by simp)
      exact o7_weaveIn_164 _ _ ho h
    · replace h := (if_neg hc).symm.trans h
      obtain ⟨x1, hx1, h⟩ := z_bind h
      obtain ⟨x2, hx2, h⟩ := z_bind h
      obtain ⟨M3, hM3, h⟩ := z_bind h
      replace ho := ho.pI hM3 (by simp)
      exact ih _ _ _ _ _ ho h
set_option maxRecDepth 20000 in
set_option maxHeartbeats 4000000 in
theorem o7_weaveIn_9 {a0 : Nat} {r1 : Int32} {Mr : zM} {M0 : zM} : ∀ (v1 : Int32) (v2 : Int32) (v3 : Int32) (M : zM), zOut [a0, a0 + 1] [] M0 M → f7_weaveIn_9 a0 v1 v2 v3 M = some (r1, Mr) → zOut [a0, a0 + 1] [] M0 Mr := by
  intro v1 v2 v3 M ho h
  rw [f7_weaveIn_9] at h
  by_cases hc : v2 < 0
  · replace h := (if_pos hc).symm.trans h
    obtain ⟨rfl, rfl⟩ := z_ret2 h
    exact ho
  · replace h := (if_neg hc).symm.trans h
    obtain ⟨x1, hx1, h⟩ := z_bind h
    by_cases hc : v2 ≤ x1
    · replace h := (if_pos hc).symm.trans h
      by_cases hc : v3 < 0
      · replace h := (if_pos hc).symm.trans h
        obtain ⟨rfl, rfl⟩ := z_ret2 h
        exact ho
      · replace h := (if_neg hc).symm.trans h
        obtain ⟨x2, hx2, h⟩ := z_bind h
        by_cases hc : v3 ≤ x2
        · replace h := (if_pos hc).symm.trans h
          obtain ⟨x3, hx3, h⟩ := z_bind h
          by_cases hc : x3 < (6 : Int32)
          · replace h := (if_pos hc).symm.trans h
            by_cases hc : v1 = 0
            · replace h := (if_pos hc).symm.trans h
              exact o7_weaveIn_62 zfuel _ _ _ _ _ ho h
            · replace h := (if_neg hc).symm.trans h
              exact o7_weaveIn_113 zfuel _ _ _ _ _ ho h
          · replace h := (if_neg hc).symm.trans h
            obtain ⟨rfl, rfl⟩ := z_ret2 h
            exact ho
        · replace h := (if_neg hc).symm.trans h
          obtain ⟨rfl, rfl⟩ := z_ret2 h
          exact ho
    · replace h := (if_neg hc).symm.trans h
      obtain ⟨rfl, rfl⟩ := z_ret2 h
      exact ho
set_option maxRecDepth 20000 in
set_option maxHeartbeats 4000000 in
theorem o_X7_weaveIn {a0 : Nat} {v1 : Int32} {v2 : Int32} {v3 : Int32} {M : zM} {r1 : Int32} {Mr : zM} (h : f7_weaveIn a0 v1 v2 v3 M = some (r1, Mr)) : zOut [a0, a0 + 1] [] M Mr := by
  have ho : zOut [a0, a0 + 1] [] M M := zOut.rf
  rw [f7_weaveIn] at h
  by_cases hc : v1 = 0
  · replace h := (if_pos hc).symm.trans h
    exact o7_weaveIn_9 _ _ _ _ ho h
  · replace h := (if_neg hc).symm.trans h
    by_cases hc : v1 = (1 : Int32)
    · replace h := (if_pos hc).symm.trans h
      exact o7_weaveIn_9 _ _ _ _ ho h
    · replace h := (if_neg hc).symm.trans h
      obtain ⟨rfl, rfl⟩ := z_ret2 h
      exact ho
set_option maxRecDepth 20000 in
set_option maxHeartbeats 4000000 in
theorem o7_drawOut_137 {a0 : Nat} {r1 : Int32} {Mr : zM} {M0 : zM} : ∀ (v3 : Int32) (M : zM), zOut [a0, a0 + 1] [] M0 M → f7_drawOut_137 a0 v3 M = some (r1, Mr) → zOut [a0, a0 + 1] [] M0 Mr := by
  intro v3 M ho h
  rw [f7_drawOut_137] at h
  obtain ⟨M1, hM1, h⟩ := z_bind h
  replace ho := ho.call (o_X7_settle hM1) (by simp) (by simp)
  obtain ⟨rfl, rfl⟩ := z_ret2 h
  exact ho
set_option maxRecDepth 20000 in
set_option maxHeartbeats 4000000 in
theorem o7_drawOut_47 {a0 : Nat} {r1 : Int32} {Mr : zM} {M0 : zM} : ∀ (n : Nat) (v3 : Int32) (v4 : Int32) (M : zM), zOut [a0, a0 + 1] [] M0 M → f7_drawOut_47 a0 n v3 v4 M = some (r1, Mr) → zOut [a0, a0 + 1] [] M0 Mr := by
  intro n
  induction n with
  | zero => intro v3 v4 M ho h; cases h
  | succ n ih =>
    intro v3 v4 M ho h
    rw [f7_drawOut_47] at h
    by_cases hc : (M.1 a0 0) ≤ v4
    · replace h := (if_pos hc).symm.trans h
      obtain ⟨M1, hM1, h⟩ := z_bind h
      replace ho := ho.pI hM1 (by simp)
      exact o7_drawOut_137 _ _ ho h
    · replace h := (if_neg hc).symm.trans h
      obtain ⟨x1, hx1, h⟩ := z_bind h
      obtain ⟨M2, hM2, h⟩ := z_bind h
      replace ho := ho.pI hM2 (by simp)
      exact ih _ _ _ ho h
set_option maxRecDepth 20000 in
set_option maxHeartbeats 4000000 in
theorem o7_drawOut_104 {a0 : Nat} {r1 : Int32} {Mr : zM} {M0 : zM} : ∀ (n : Nat) (v2 : Int32) (v3 : Int32) (v4 : Int32) (M : zM), zOut [a0, a0 + 1] [] M0 M → f7_drawOut_104 a0 n v2 v3 v4 M = some (r1, Mr) → zOut [a0, a0 + 1] [] M0 Mr := by
  intro n
  induction n with
  | zero => intro v2 v3 v4 M ho h; cases h
  | succ n ih =>
    intro v2 v3 v4 M ho h
    rw [f7_drawOut_104] at h
    by_cases hc : (M.1 a0 0) ≤ v4
    · replace h := (if_pos hc).symm.trans h
      exact o7_drawOut_137 _ _ ho h
    · replace h := (if_neg hc).symm.trans h
      obtain ⟨x1, hx1, h⟩ := z_bind h
      obtain ⟨x2, hx2, h⟩ := z_bind h
      obtain ⟨M3, hM3, h⟩ := z_bind h
      replace ho := ho.pI hM3 (by simp)
      exact ih _ _ _ _ ho h
set_option maxRecDepth 20000 in
set_option maxHeartbeats 4000000 in
theorem o_X7_drawOut {a0 : Nat} {v1 : Int32} {v2 : Int32} {M : zM} {r1 : Int32} {Mr : zM} (h : f7_drawOut a0 v1 v2 M = some (r1, Mr)) : zOut [a0, a0 + 1] [] M Mr := by
  have ho : zOut [a0, a0 + 1] [] M M := zOut.rf
  rw [f7_drawOut] at h
  obtain ⟨x1, hx1, h⟩ := z_bind h
  by_cases hc : x1 = 0
  · replace h := (if_pos hc).symm.trans h
    obtain ⟨rfl, rfl⟩ := z_ret2 h
    exact ho
  · replace h := (if_neg hc).symm.trans h
    obtain ⟨x2, hx2, h⟩ := z_bind h
    by_cases hc : x2 = (1 : Int32)
    · replace h := (if_pos hc).symm.trans h
      obtain ⟨rfl, rfl⟩ := z_ret2 h
      exact ho
    · replace h := (if_neg hc).symm.trans h
      obtain ⟨x3, hx3, h⟩ := z_bind h
      by_cases hc : v1 = 0
      · replace h := (if_pos hc).symm.trans h
        replace ho := ho.si a0 0 ((M.1 a0 0) - (1 : Int32)) (by simp)
        exact o7_drawOut_47 zfuel _ _ _ ho h
      · replace h := (if_neg hc).symm.trans h
        replace ho := ho.si a0 1 ((M.1 a0 1) - (1 : Int32)) (by simp)
        exact o7_drawOut_104 zfuel _ _ _ _ ho h
set_option maxRecDepth 20000 in
set_option maxHeartbeats 4000000 in
theorem o7_turnRound_163 {a0 : Nat} {r1 : Int32} {Mr : zM} {M0 : zM} : ∀ (v3 : Int32) (M : zM), zOut [a0 + 1] [] M0 M → f7_turnRound_163 a0 v3 M = some (r1, Mr) → zOut [a0 + 1] [] M0 Mr := by
  intro v3 M ho h
  rw [f7_turnRound_163] at h
  obtain ⟨M1, hM1, h⟩ := z_bind h
  replace ho := ho.call (o_X7_settle hM1) (by simp) (by simp)
  obtain ⟨rfl, rfl⟩ := z_ret2 h
  exact ho
set_option maxRecDepth 20000 in
set_option maxHeartbeats 4000000 in
theorem o7_turnRound_130 {a0 : Nat} {r1 : Int32} {Mr : zM} {M0 : zM} : ∀ (n : Nat) (v3 : Int32) (v4 : Int32) (M : zM), zOut [a0 + 1] [] M0 M → f7_turnRound_130 a0 n v3 v4 M = some (r1, Mr) → zOut [a0 + 1] [] M0 Mr := by
  intro n
  induction n with
  | zero => intro v3 v4 M ho h; cases h
  | succ n ih =>
    intro v3 v4 M ho h
    rw [f7_turnRound_130] at h
    by_cases hc : (M.1 a0 0) ≤ v4
    · replace h := (if_pos hc).symm.trans h
      exact o7_turnRound_163 _ _ ho h
    · replace h := (if_neg hc).symm.trans h
      obtain ⟨x1, hx1, h⟩ := z_bind h
      obtain ⟨x2, hx2, h⟩ := z_bind h
      obtain ⟨M3, hM3, h⟩ := z_bind h
      replace ho := ho.pI hM3 (by simp)
      exact ih _ _ _ ho h
set_option maxRecDepth 20000 in
set_option maxHeartbeats 4000000 in
theorem o7_turnRound_70 {a0 : Nat} {r1 : Int32} {Mr : zM} {M0 : zM} : ∀ (n : Nat) (v2 : Int32) (v3 : Int32) (v4 : Int32) (M : zM), zOut [a0 + 1] [] M0 M → f7_turnRound_70 a0 n v2 v3 v4 M = some (r1, Mr) → zOut [a0 + 1] [] M0 Mr := by
  intro n
  induction n with
  | zero => intro v2 v3 v4 M ho h; cases h
  | succ n ih =>
    intro v2 v3 v4 M ho h
    rw [f7_turnRound_70] at h
    by_cases hc : (v2 / (2 : Int32)) ≤ v4
    · replace h := (if_pos hc).symm.trans h
      exact o7_turnRound_163 _ _ ho h
    · replace h := (if_neg hc).symm.trans h
      obtain ⟨x1, hx1, h⟩ := z_bind h
      obtain ⟨x2, hx2, h⟩ := z_bind h
      obtain ⟨M3, hM3, h⟩ := z_bind h
      replace ho := ho.pI hM3 (by simp)
      obtain ⟨M4, hM4, h⟩ := z_bind h
      replace ho := ho.pI hM4 (by simp)
      exact ih _ _ _ _ ho h
set_option maxRecDepth 20000 in
set_option maxHeartbeats 4000000 in
theorem o7_turnRound_22 {a0 : Nat} {r1 : Int32} {Mr : zM} {M0 : zM} : ∀ (n : Nat) (v1 : Int32) (v2 : Int32) (v3 : Int32) (v4 : Int32) (M : zM), zOut [a0 + 1] [] M0 M → f7_turnRound_22 a0 n v1 v2 v3 v4 M = some (r1, Mr) → zOut [a0 + 1] [] M0 Mr := by
  intro n
  induction n with
  | zero => intro v1 v2 v3 v4 M ho h; cases h
  | succ n ih =>
    intro v1 v2 v3 v4 M ho h
    rw [f7_turnRound_22] at h
    by_cases hc : v2 ≤ v4
    · replace h := (if_pos hc).symm.trans h
      by_cases hc : v1 = 0
      · replace h := (if_pos hc).symm.trans h
        exact o7_turnRound_70 zfuel _ _ _ _ ho h
      · replace h := (if_neg hc).symm.trans h
        exact o7_turnRound_130 zfuel _ _ _ ho h
    · replace h := (if_neg hc).symm.trans h
      obtain ⟨x1, hx1, h⟩ := z_bind h
      obtain ⟨x2, hx2, h⟩ := z_bind h
      exact ih _ _ _ _ _ ho h
set_option maxRecDepth 20000 in
set_option maxHeartbeats 4000000 in
theorem o7_turnRound_11 {a0 : Nat} {r1 : Int32} {Mr : zM} {M0 : zM} : ∀ (v1 : Int32) (M : zM), zOut [a0 + 1] [] M0 M → f7_turnRound_11 a0 v1 M = some (r1, Mr) → zOut [a0 + 1] [] M0 Mr := by
  intro v1 M ho h
  rw [f7_turnRound_11] at h
  obtain ⟨x1, hx1, h⟩ := z_bind h
  exact o7_turnRound_22 zfuel _ _ _ _ _ ho h
set_option maxRecDepth 20000 in
set_option maxHeartbeats 4000000 in
theorem o_X7_turnRound {a0 : Nat} {v1 : Int32} {M : zM} {r1 : Int32} {Mr : zM} (h : f7_turnRound a0 v1 M = some (r1, Mr)) : zOut [a0 + 1] [] M Mr := by
  have ho : zOut [a0 + 1] [] M M := zOut.rf
  rw [f7_turnRound] at h
  by_cases hc : v1 = 0
  · replace h := (if_pos hc).symm.trans h
    exact o7_turnRound_11 _ _ ho h
  · replace h := (if_neg hc).symm.trans h
    by_cases hc : v1 = (1 : Int32)
    · replace h := (if_pos hc).symm.trans h
      exact o7_turnRound_11 _ _ ho h
    · replace h := (if_neg hc).symm.trans h
      obtain ⟨rfl, rfl⟩ := z_ret2 h
      exact ho
set_option maxRecDepth 20000 in
set_option maxHeartbeats 4000000 in
theorem o7_passNight_17 {a0 : Nat} {Mr : zM} {M0 : zM} : ∀ (M : zM), zOut [a0, a0 + 1] [] M0 M → f7_passNight_17 a0 M = some Mr → zOut [a0, a0 + 1] [] M0 Mr := by
  intro M ho h
  rw [f7_passNight_17] at h
  replace ho := ho.si a0 2 ((M.1 a0 2) + (1 : Int32)) (by simp)
  obtain rfl := z_ret1 h
  exact ho
set_option maxRecDepth 20000 in
set_option maxHeartbeats 4000000 in
theorem o_X7_passNight {a0 : Nat} {v1 : Int32} {M : zM} {Mr : zM} (h : f7_passNight a0 v1 M = some Mr) : zOut [a0, a0 + 1] [] M Mr := by
  have ho : zOut [a0, a0 + 1] [] M M := zOut.rf
  rw [f7_passNight] at h
  by_cases hc : v1 < 0
  · replace h := (if_pos hc).symm.trans h
    exact o7_passNight_17 _ ho h
  · replace h := (if_neg hc).symm.trans h
    obtain ⟨p1, hp1, h⟩ := z_bind h
    replace ho := ho.call (o_X7_drawOut hp1) (by simp) (by simp)
    exact o7_passNight_17 _ ho h
set_option maxRecDepth 20000 in
set_option maxHeartbeats 4000000 in
theorem o_X8_undo {M : zM} {r1 : Int32} {Mr : zM} (h : f8_undo M = some (r1, Mr)) : zOut [1, 2, 33] [] M Mr := by
  have ho : zOut [1, 2, 33] [] M M := zOut.rf
  rw [f8_undo] at h
  by_cases hc : (M.1 33 2) = 0
  · replace h := (if_pos hc).symm.trans h
    obtain ⟨rfl, rfl⟩ := z_ret2 h
    exact ho
  · replace h := (if_neg hc).symm.trans h
    replace ho := ho.si 33 2 ((M.1 33 2) - (1 : Int32)) (by simp)
    obtain ⟨M1, hM1, h⟩ := z_bind h
    replace ho := ho.call (o_X2_bringBack hM1) (by simp) (by simp)
    obtain ⟨rfl, rfl⟩ := z_ret2 h
    exact ho
set_option maxRecDepth 20000 in
set_option maxHeartbeats 4000000 in
theorem o8_lefts_130 {r1 : Int32} {Mr : zM} {M0 : zM} {k74 : Int32 → Int32 → Int32 → Int32 → Int32 → Int32 → Int32 → zM → Option (Int32 × zM)} (hk74 : ∀ (v1 : Int32) (v2 : Int32) (v3 : Int32) (v4 : Int32) (v5 : Int32) (v6 : Int32) (v7 : Int32) (M : zM), zOut [10, 27, 28, 29, 9] [] M0 M → k74 v1 v2 v3 v4 v5 v6 v7 M = some (r1, Mr) → zOut [10, 27, 28, 29, 9] [] M0 Mr) : ∀ (v1 : Int32) (v2 : Int32) (v3 : Int32) (v4 : Int32) (v5 : Int32) (v6 : Int32) (v7 : Int32) (M : zM), zOut [10, 27, 28, 29, 9] [] M0 M → f8_lefts_130 k74 v1 v2 v3 v4 v5 v6 v7 M = some (r1, Mr) → zOut [10, 27, 28, 29, 9] [] M0 Mr := by
  intro v1 v2 v3 v4 v5 v6 v7 M ho h
  rw [f8_lefts_130] at h
  exact hk74 _ _ _ _ _ _ _ _ ho h
set_option maxRecDepth 20000 in
set_option maxHeartbeats 4000000 in
theorem o8_lefts_74 {r1 : Int32} {Mr : zM} {M0 : zM} {k136 : Int32 → Int32 → Int32 → Int32 → Int32 → Int32 → zM → Option (Int32 × zM)} (hk136 : ∀ (v1 : Int32) (v2 : Int32) (v3 : Int32) (v4 : Int32) (v5 : Int32) (v6 : Int32) (M : zM), zOut [10, 27, 28, 29, 9] [] M0 M → k136 v1 v2 v3 v4 v5 v6 M = some (r1, Mr) → zOut [10, 27, 28, 29, 9] [] M0 Mr) : ∀ (n : Nat) (v1 : Int32) (v2 : Int32) (v3 : Int32) (v4 : Int32) (v5 : Int32) (v6 : Int32) (v7 : Int32) (M : zM), zOut [10, 27, 28, 29, 9] [] M0 M → f8_lefts_74 k136 n v1 v2 v3 v4 v5 v6 v7 M = some (r1, Mr) → zOut [10, 27, 28, 29, 9] [] M0 Mr := by
  intro n
  induction n with
  | zero => intro v1 v2 v3 v4 v5 v6 v7 M ho h; cases h
  | succ n ih =>
    intro v1 v2 v3 v4 v5 v6 v7 M ho h
    rw [f8_lefts_74] at h
    by_cases hc : v4 ≤ v7
    · replace h := (if_pos hc).symm.trans h
      exact hk136 _ _ _ _ _ _ _ ho h
    · replace h := (if_neg hc).symm.trans h
      obtain ⟨x1, hx1, h⟩ := z_bind h
      obtain ⟨x2, hx2, h⟩ := z_bind h
      by_cases hc : (x1 + x2) = v1
      · replace h := (if_pos hc).symm.trans h
        obtain ⟨x3, hx3, h⟩ := z_bind h
        obtain ⟨p4, hp4, h⟩ := z_bind h
        replace ho := ho.call (o_X1_isNew hp4) (by simp) (by simp)
        exact o8_lefts_130 (fun u0 u1 u2 u3 u4 u5 u6 u7 ho h => ih u0 u1 u2 u3 u4 u5 u6 u7 ho h) _ _ _ _ _ _ _ _ ho h
      · replace h := (if_neg hc).symm.trans h
        exact o8_lefts_130 (fun u0 u1 u2 u3 u4 u5 u6 u7 ho h => ih u0 u1 u2 u3 u4 u5 u6 u7 ho h) _ _ _ _ _ _ _ _ ho h
set_option maxRecDepth 20000 in
set_option maxHeartbeats 4000000 in
theorem o8_lefts_136 {r1 : Int32} {Mr : zM} {M0 : zM} {k51 : Int32 → Int32 → Int32 → Int32 → Int32 → Int32 → zM → Option (Int32 × zM)} (hk51 : ∀ (v1 : Int32) (v2 : Int32) (v3 : Int32) (v4 : Int32) (v5 : Int32) (v6 : Int32) (M : zM), zOut [10, 27, 28, 29, 9] [] M0 M → k51 v1 v2 v3 v4 v5 v6 M = some (r1, Mr) → zOut [10, 27, 28, 29, 9] [] M0 Mr) : ∀ (v1 : Int32) (v2 : Int32) (v3 : Int32) (v4 : Int32) (v5 : Int32) (v6 : Int32) (M : zM), zOut [10, 27, 28, 29, 9] [] M0 M → f8_lefts_136 k51 v1 v2 v3 v4 v5 v6 M = some (r1, Mr) → zOut [10, 27, 28, 29, 9] [] M0 Mr := by
  intro v1 v2 v3 v4 v5 v6 M ho h
  rw [f8_lefts_136] at h
  exact hk51 _ _ _ _ _ _ _ ho h
set_option maxRecDepth 20000 in
set_option maxHeartbeats 4000000 in
theorem o8_lefts_51 {r1 : Int32} {Mr : zM} {M0 : zM} : ∀ (n : Nat) (v1 : Int32) (v2 : Int32) (v3 : Int32) (v4 : Int32) (v5 : Int32) (v6 : Int32) (M : zM), zOut [10, 27, 28, 29, 9] [] M0 M → f8_lefts_51 n v1 v2 v3 v4 v5 v6 M = some (r1, Mr) → zOut [10, 27, 28, 29, 9] [] M0 Mr := by
  intro n
  induction n with
  | zero => intro v1 v2 v3 v4 v5 v6 M ho h; cases h
  | succ n ih =>
    intro v1 v2 v3 v4 v5 v6 M ho h
    rw [f8_lefts_51] at h
    by_cases hc : v5 ≤ v6
    · replace h := (if_pos hc).symm.trans h
      obtain ⟨M1, hM1, h⟩ := z_bind h
      replace ho := ho.call (o_X3_tell hM1) (by simp) (by simp)
      obtain ⟨rfl, rfl⟩ := z_ret2 h
      exact ho
    · replace h := (if_neg hc).symm.trans h
      obtain ⟨M1, hM1, h⟩ := z_bind h
      replace ho := ho.call (o_X1_narrow hM1) (by simp) (by simp)
      exact o8_lefts_74 (fun u0 u1 u2 u3 u4 u5 u6 ho h => o8_lefts_136 (fun u0 u1 u2 u3 u4 u5 u6 ho h => ih u0 u1 u2 u3 u4 u5 u6 ho h) u0 u1 u2 u3 u4 u5 u6 ho h) zfuel _ _ _ _ _ _ _ _ ho h
set_option maxRecDepth 20000 in
set_option maxHeartbeats 4000000 in
theorem o_X8_lefts {v1 : Int32} {M : zM} {r1 : Int32} {Mr : zM} (h : f8_lefts v1 M = some (r1, Mr)) : zOut [10, 27, 28, 29, 9] [] M Mr := by
  have ho : zOut [10, 27, 28, 29, 9] [] M M := zOut.rf
  rw [f8_lefts] at h
  by_cases hc : v1 < 0
  · replace h := (if_pos hc).symm.trans h
    obtain ⟨rfl, rfl⟩ := z_ret2 h
    exact ho
  · replace h := (if_neg hc).symm.trans h
    by_cases hc : v1 ≤ (4 : Int32)
    · replace h := (if_pos hc).symm.trans h
      obtain ⟨M1, hM1, h⟩ := z_bind h
      replace ho := ho.call (o_X1_forgetShapes hM1) (by simp) (by simp)
      exact o8_lefts_51 zfuel _ _ _ _ _ _ _ ho h
    · replace h := (if_neg hc).symm.trans h
      obtain ⟨rfl, rfl⟩ := z_ret2 h
      exact ho
