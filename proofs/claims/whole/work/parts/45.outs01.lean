set_option maxRecDepth 20000 in
set_option maxHeartbeats 4000000 in
theorem o9_nightGoes_22 {a1 : Nat} {r1 : Int32} {Mr : zM} {M0 : zM} : ∀ (v2 : Int32) (M : zM), zOut [47, 48, a1] [] M0 M → f9_nightGoes_22 a1 v2 M = some (r1, Mr) → zOut [47, 48, a1] [] M0 Mr := by
  intro v2 M ho h
  rw [f9_nightGoes_22] at h
  replace ho := ho.si a1 8 ((M.1 a1 8) + (1 : Int32)) (by simp)
  obtain ⟨rfl, rfl⟩ := z_ret2 h
  exact ho
set_option maxRecDepth 20000 in
set_option maxHeartbeats 4000000 in
theorem o_X9_nightGoes {a1 : Nat} {M : zM} {r1 : Int32} {Mr : zM} (h : f9_nightGoes a1 M = some (r1, Mr)) : zOut [47, 48, a1] [] M Mr := by
  have ho : zOut [47, 48, a1] [] M M := zOut.rf
  rw [f9_nightGoes] at h
  obtain ⟨p1, hp1, h⟩ := z_bind h
  replace ho := ho.call (o_X9_nextOf hp1) (by simp) (by simp)
  by_cases hc : p1.1 < 0
  · replace h := (if_pos hc).symm.trans h
    exact o9_nightGoes_22 _ _ ho h
  · replace h := (if_neg hc).symm.trans h
    obtain ⟨M2, hM2, h⟩ := z_bind h
    replace ho := ho.call (o_X9_goes hM2) (by simp) (by simp)
    exact o9_nightGoes_22 _ _ ho h
set_option maxRecDepth 20000 in
set_option maxHeartbeats 4000000 in
theorem o9_goesOn_2 {a1 : Nat} {Mr : zM} {M0 : zM} : ∀ (n : Nat) (v2 : Int32) (v3 : Int32) (M : zM), zOut [47, 48, a1] [] M0 M → f9_goesOn_2 a1 n v2 v3 M = some Mr → zOut [47, 48, a1] [] M0 Mr := by
  intro n
  induction n with
  | zero => intro v2 v3 M ho h; cases h
  | succ n ih =>
    intro v2 v3 M ho h
    rw [f9_goesOn_2] at h
    by_cases hc : v2 ≤ v3
    · replace h := (if_pos hc).symm.trans h
      obtain rfl := z_ret1 h
      exact ho
    · replace h := (if_neg hc).symm.trans h
      obtain ⟨p1, hp1, h⟩ := z_bind h
      replace ho := ho.call (o_X9_nightGoes hp1) (by simp) (by simp)
      exact ih _ _ _ ho h
set_option maxRecDepth 20000 in
set_option maxHeartbeats 4000000 in
theorem o_X9_goesOn {a1 : Nat} {v2 : Int32} {M : zM} {Mr : zM} (h : f9_goesOn a1 v2 M = some Mr) : zOut [47, 48, a1] [] M Mr := by
  have ho : zOut [47, 48, a1] [] M M := zOut.rf
  rw [f9_goesOn] at h
  exact o9_goesOn_2 zfuel _ _ _ ho h
set_option maxRecDepth 20000 in
set_option maxHeartbeats 4000000 in
theorem o_X9_weavesIn {a0 : Nat} {v1 : Int32} {v2 : Int32} {v3 : Int32} {M : zM} {r1 : Int32} {Mr : zM} (h : f9_weavesIn a0 v1 v2 v3 M = some (r1, Mr)) : zOut [a0] [] M Mr := by
  have ho : zOut [a0] [] M M := zOut.rf
  rw [f9_weavesIn] at h
  obtain ⟨x1, hx1, h⟩ := z_bind h
  by_cases hc : x1 = 0
  · replace h := (if_pos hc).symm.trans h
    obtain ⟨rfl, rfl⟩ := z_ret2 h
    exact ho
  · replace h := (if_neg hc).symm.trans h
    obtain ⟨x2, hx2, h⟩ := z_bind h
    obtain ⟨x3, hx3, h⟩ := z_bind h
    by_cases hc : x3 = 0
    · replace h := (if_pos hc).symm.trans h
      obtain ⟨rfl, rfl⟩ := z_ret2 h
      exact ho
    · replace h := (if_neg hc).symm.trans h
      obtain ⟨x4, hx4, h⟩ := z_bind h
      obtain ⟨x5, hx5, h⟩ := z_bind h
      obtain ⟨x6, hx6, h⟩ := z_bind h
      by_cases hc : x6 = 0
      · replace h := (if_pos hc).symm.trans h
        obtain ⟨rfl, rfl⟩ := z_ret2 h
        exact ho
      · replace h := (if_neg hc).symm.trans h
        obtain ⟨x7, hx7, h⟩ := z_bind h
        by_cases hc : x7 = (6 : Int32)
        · replace h := (if_pos hc).symm.trans h
          obtain ⟨rfl, rfl⟩ := z_ret2 h
          exact ho
        · replace h := (if_neg hc).symm.trans h
          obtain ⟨M8, hM8, h⟩ := z_bind h
          replace ho := ho.call (o_X9_comes hM8) (by simp) (by simp)
          obtain ⟨x9, hx9, h⟩ := z_bind h
          obtain ⟨rfl, rfl⟩ := z_ret2 h
          exact ho
set_option maxRecDepth 20000 in
set_option maxHeartbeats 4000000 in
theorem o_X9_drawsOut {v1 : Int32} {v2 : Int32} {M : zM} {r1 : Int32} {Mr : zM} (h : f9_drawsOut v1 v2 M = some (r1, Mr)) : zOut [41] [] M Mr := by
  have ho : zOut [41] [] M M := zOut.rf
  rw [f9_drawsOut] at h
  obtain ⟨x1, hx1, h⟩ := z_bind h
  by_cases hc : x1 = 0
  · replace h := (if_pos hc).symm.trans h
    obtain ⟨rfl, rfl⟩ := z_ret2 h
    exact ho
  · replace h := (if_neg hc).symm.trans h
    obtain ⟨x2, hx2, h⟩ := z_bind h
    by_cases hc : x2 = (1 : Int32)
    · replace h := (if_pos hc).symm.trans h
      obtain ⟨rfl, rfl⟩ := z_ret2 h
      exact ho
    · replace h := (if_neg hc).symm.trans h
      obtain ⟨x3, hx3, h⟩ := z_bind h
      obtain ⟨M4, hM4, h⟩ := z_bind h
      replace ho := ho.call (o_X9_goes hM4) (by simp) (by simp)
      obtain ⟨rfl, rfl⟩ := z_ret2 h
      exact ho
set_option maxRecDepth 20000 in
set_option maxHeartbeats 4000000 in
theorem o_X9_flipsOne {a0 : Nat} {v1 : Int32} {v2 : Int32} {M : zM} {r1 : Int32} {Mr : zM} (h : f9_flipsOne a0 v1 v2 M = some (r1, Mr)) : zOut [a0] [] M Mr := by
  have ho : zOut [a0] [] M M := zOut.rf
  rw [f9_flipsOne] at h
  obtain ⟨x1, hx1, h⟩ := z_bind h
  by_cases hc : x1 = 0
  · replace h := (if_pos hc).symm.trans h
    obtain ⟨rfl, rfl⟩ := z_ret2 h
    exact ho
  · replace h := (if_neg hc).symm.trans h
    obtain ⟨x2, hx2, h⟩ := z_bind h
    by_cases hc : x2 = 0
    · replace h := (if_pos hc).symm.trans h
      obtain ⟨rfl, rfl⟩ := z_ret2 h
      exact ho
    · replace h := (if_neg hc).symm.trans h
      obtain ⟨x3, hx3, h⟩ := z_bind h
      obtain ⟨M4, hM4, h⟩ := z_bind h
      replace ho := ho.pI hM4 (by simp)
      obtain ⟨x5, hx5, h⟩ := z_bind h
      obtain ⟨rfl, rfl⟩ := z_ret2 h
      exact ho
set_option maxRecDepth 20000 in
set_option maxHeartbeats 4000000 in
theorem o9_mirrorsAll_85 {r1 : Int32} {Mr : zM} {M0 : zM} : ∀ (n : Nat) (v1 : Int32) (v2 : Int32) (v3 : Int32) (v4 : Int32) (M : zM), zOut [41, 42] [] M0 M → f9_mirrorsAll_85 n v1 v2 v3 v4 M = some (r1, Mr) → zOut [41, 42] [] M0 Mr := by
  intro n
  induction n with
  | zero => intro v1 v2 v3 v4 M ho h; cases h
  | succ n ih =>
    intro v1 v2 v3 v4 M ho h
    rw [f9_mirrorsAll_85] at h
    by_cases hc : v2 ≤ v4
    · replace h := (if_pos hc).symm.trans h
      obtain ⟨rfl, rfl⟩ := z_ret2 h
      exact ho
    · replace h := (if_neg hc).symm.trans h
      obtain ⟨x1, hx1, h⟩ := z_bind h
      obtain ⟨x2, hx2, h⟩ := z_bind h
      obtain ⟨x3, hx3, h⟩ := z_bind h
      exact ih _ _ _ _ _ ho h
set_option maxRecDepth 20000 in
set_option maxHeartbeats 4000000 in
theorem o9_mirrorsAll_34 {r1 : Int32} {Mr : zM} {M0 : zM} : ∀ (n : Nat) (v1 : Int32) (v2 : Int32) (v3 : Int32) (M : zM), zOut [41, 42] [] M0 M → f9_mirrorsAll_34 n v1 v2 v3 M = some (r1, Mr) → zOut [41, 42] [] M0 Mr := by
  intro n
  induction n with
  | zero => intro v1 v2 v3 M ho h; cases h
  | succ n ih =>
    intro v1 v2 v3 M ho h
    rw [f9_mirrorsAll_34] at h
    by_cases hc : v2 ≤ v3
    · replace h := (if_pos hc).symm.trans h
      exact o9_mirrorsAll_85 zfuel _ _ _ _ _ ho h
    · replace h := (if_neg hc).symm.trans h
      obtain ⟨x1, hx1, h⟩ := z_bind h
      obtain ⟨M2, hM2, h⟩ := z_bind h
      replace ho := ho.call (o_X9_goes hM2) (by simp) (by simp)
      obtain ⟨M3, hM3, h⟩ := z_bind h
      replace ho := ho.call (o_X9_comes hM3) (by simp) (by simp)
      exact ih _ _ _ _ ho h
set_option maxRecDepth 20000 in
set_option maxHeartbeats 4000000 in
theorem o_X9_mirrorsAll {v1 : Int32} {M : zM} {r1 : Int32} {Mr : zM} (h : f9_mirrorsAll v1 M = some (r1, Mr)) : zOut [41, 42] [] M Mr := by
  have ho : zOut [41, 42] [] M M := zOut.rf
  rw [f9_mirrorsAll] at h
  obtain ⟨x1, hx1, h⟩ := z_bind h
  by_cases hc : x1 = 0
  · replace h := (if_pos hc).symm.trans h
    obtain ⟨rfl, rfl⟩ := z_ret2 h
    exact ho
  · replace h := (if_neg hc).symm.trans h
    obtain ⟨M2, hM2, h⟩ := z_bind h
    replace ho := ho.call (o_X9_copies hM2) (by simp) (by simp)
    obtain ⟨x3, hx3, h⟩ := z_bind h
    exact o9_mirrorsAll_34 zfuel _ _ _ _ ho h
set_option maxRecDepth 20000 in
set_option maxHeartbeats 4000000 in
theorem o_X9_nights {v1 : Int32} {M : zM} {r1 : Int32} {Mr : zM} (h : f9_nights v1 M = some (r1, Mr)) : zOut [40, 41, 47, 48, 49] [0, 1, 18] M Mr := by
  have ho : zOut [40, 41, 47, 48, 49] [0, 1, 18] M M := zOut.rf
  rw [f9_nights] at h
  replace ho := ho.si 39 0 (0 : Int32) (by simp)
  obtain ⟨x1, hx1, h⟩ := z_bind h
  by_cases hc : x1 = 0
  · replace h := (if_pos hc).symm.trans h
    obtain ⟨rfl, rfl⟩ := z_ret2 h
    exact ho
  · replace h := (if_neg hc).symm.trans h
    obtain ⟨M2, hM2, h⟩ := z_bind h
    replace ho := ho.call (o_X9_putsBy hM2) (by simp) (by simp)
    obtain ⟨M3, hM3, h⟩ := z_bind h
    replace ho := ho.call (o_X9_goesOn hM3) (by simp) (by simp)
    replace ho := ho.si 39 1 (0 : Int32) (by simp)
    obtain ⟨M4, hM4, h⟩ := z_bind h
    replace ho := ho.call (o_X9_enters hM4) (by simp) (by simp)
    obtain ⟨M5, hM5, h⟩ := z_bind h
    replace ho := ho.call (o_X9_enters hM5) (by simp) (by simp)
    obtain ⟨x6, hx6, h⟩ := z_bind h
    obtain ⟨p7, hp7, h⟩ := z_bind h
    replace ho := ho.call (o_X9_adds hp7) (by simp) (by simp)
    obtain ⟨rfl, rfl⟩ := z_ret2 h
    exact ho
set_option maxRecDepth 20000 in
set_option maxHeartbeats 4000000 in
theorem o_X9_weaves {v1 : Int32} {v2 : Int32} {v3 : Int32} {M : zM} {r1 : Int32} {Mr : zM} (h : f9_weaves v1 v2 v3 M = some (r1, Mr)) : zOut [41, 49] [0, 18] M Mr := by
  have ho : zOut [41, 49] [0, 18] M M := zOut.rf
  rw [f9_weaves] at h
  replace ho := ho.si 39 0 (0 : Int32) (by simp)
  obtain ⟨M1, hM1, h⟩ := z_bind h
  replace ho := ho.call (o_X9_putsBy hM1) (by simp) (by simp)
  obtain ⟨p2, hp2, h⟩ := z_bind h
  replace ho := ho.call (o_X9_weavesIn hp2) (by simp) (by simp)
  obtain ⟨p3, hp3, h⟩ := z_bind h
  replace ho := ho.call (o_X9_counted hp3) (by simp) (by simp)
  obtain ⟨rfl, rfl⟩ := z_ret2 h
  exact ho
set_option maxRecDepth 20000 in
set_option maxHeartbeats 4000000 in
theorem o_X9_draws {v1 : Int32} {v2 : Int32} {M : zM} {r1 : Int32} {Mr : zM} (h : f9_draws v1 v2 M = some (r1, Mr)) : zOut [41, 49] [0, 18] M Mr := by
  have ho : zOut [41, 49] [0, 18] M M := zOut.rf
  rw [f9_draws] at h
  replace ho := ho.si 39 0 (0 : Int32) (by simp)
  obtain ⟨M1, hM1, h⟩ := z_bind h
  replace ho := ho.call (o_X9_putsBy hM1) (by simp) (by simp)
  obtain ⟨p2, hp2, h⟩ := z_bind h
  replace ho := ho.call (o_X9_drawsOut hp2) (by simp) (by simp)
  obtain ⟨p3, hp3, h⟩ := z_bind h
  replace ho := ho.call (o_X9_counted hp3) (by simp) (by simp)
  obtain ⟨rfl, rfl⟩ := z_ret2 h
  exact ho
set_option maxRecDepth 20000 in
set_option maxHeartbeats 4000000 in
theorem o_X9_flips {v1 : Int32} {v2 : Int32} {M : zM} {r1 : Int32} {Mr : zM} (h : f9_flips v1 v2 M = some (r1, Mr)) : zOut [41, 49] [0, 18] M Mr := by
  have ho : zOut [41, 49] [0, 18] M M := zOut.rf
  rw [f9_flips] at h
  replace ho := ho.si 39 0 (0 : Int32) (by simp)
  obtain ⟨M1, hM1, h⟩ := z_bind h
  replace ho := ho.call (o_X9_putsBy hM1) (by simp) (by simp)
  obtain ⟨p2, hp2, h⟩ := z_bind h
  replace ho := ho.call (o_X9_flipsOne hp2) (by simp) (by simp)
  obtain ⟨p3, hp3, h⟩ := z_bind h
  replace ho := ho.call (o_X9_counted hp3) (by simp) (by simp)
  obtain ⟨rfl, rfl⟩ := z_ret2 h
  exact ho
set_option maxRecDepth 20000 in
set_option maxHeartbeats 4000000 in
theorem o_X9_mirrors {v1 : Int32} {M : zM} {r1 : Int32} {Mr : zM} (h : f9_mirrors v1 M = some (r1, Mr)) : zOut [41, 42, 49] [0, 18] M Mr := by
  have ho : zOut [41, 42, 49] [0, 18] M M := zOut.rf
  rw [f9_mirrors] at h
  replace ho := ho.si 39 0 (0 : Int32) (by simp)
  obtain ⟨M1, hM1, h⟩ := z_bind h
  replace ho := ho.call (o_X9_putsBy hM1) (by simp) (by simp)
  obtain ⟨p2, hp2, h⟩ := z_bind h
  replace ho := ho.call (o_X9_mirrorsAll hp2) (by simp) (by simp)
  obtain ⟨p3, hp3, h⟩ := z_bind h
  replace ho := ho.call (o_X9_counted hp3) (by simp) (by simp)
  obtain ⟨rfl, rfl⟩ := z_ret2 h
  exact ho
set_option maxRecDepth 20000 in
set_option maxHeartbeats 4000000 in
theorem o9_readsAct_115 {r1 : Int32} {Mr : zM} {M0 : zM} : ∀ (v1 : Int32) (M : zM), zOut [50, 51, 52, 53] [8, 24] M0 M → f9_readsAct_115 v1 M = some (r1, Mr) → zOut [50, 51, 52, 53] [8, 24] M0 Mr := by
  intro v1 M ho h
  rw [f9_readsAct_115] at h
  obtain ⟨x1, hx1, h⟩ := z_bind h
  obtain ⟨rfl, rfl⟩ := z_ret2 h
  exact ho
set_option maxRecDepth 20000 in
set_option maxHeartbeats 4000000 in
theorem o9_readsAct_194 {r1 : Int32} {Mr : zM} {M0 : zM} : ∀ (v1 : Int32) (v3 : Int32) (s0 : Int32) (M : zM), zOut [50, 51, 52, 53] [8, 24] M0 M → f9_readsAct_194 v1 v3 s0 M = some (r1, Mr) → zOut [50, 51, 52, 53] [8, 24] M0 Mr := by
  intro v1 v3 s0 M ho h
  rw [f9_readsAct_194] at h
  obtain ⟨M1, hM1, h⟩ := z_bind h
  replace ho := ho.pI hM1 (by simp)
  obtain ⟨rfl, rfl⟩ := z_ret2 h
  exact ho
set_option maxRecDepth 20000 in
set_option maxHeartbeats 4000000 in
theorem o9_readsAct_160 {r1 : Int32} {Mr : zM} {M0 : zM} : ∀ (v1 : Int32) (M : zM), zOut [50, 51, 52, 53] [8, 24] M0 M → f9_readsAct_160 v1 M = some (r1, Mr) → zOut [50, 51, 52, 53] [8, 24] M0 Mr := by
  intro v1 M ho h
  rw [f9_readsAct_160] at h
  obtain ⟨x1, hx1, h⟩ := z_bind h
  obtain ⟨rfl, rfl⟩ := z_ret2 h
  exact ho
set_option maxRecDepth 20000 in
set_option maxHeartbeats 4000000 in
theorem o9_readsAct_74 {r1 : Int32} {Mr : zM} {M0 : zM} : ∀ (v1 : Int32) (s0 : Int32) (M : zM), zOut [50, 51, 52, 53] [8, 24] M0 M → f9_readsAct_74 v1 s0 M = some (r1, Mr) → zOut [50, 51, 52, 53] [8, 24] M0 Mr := by
  intro v1 s0 M ho h
  rw [f9_readsAct_74] at h
  obtain ⟨p1, hp1, h⟩ := z_bind h
  replace ho := ho.call (o_X9_digitIn hp1) (by simp) (by simp)
  obtain ⟨M2, hM2, h⟩ := z_bind h
  replace ho := ho.pI hM2 (by simp)
  obtain ⟨x3, hx3, h⟩ := z_bind h
  by_cases hc : x3 < 0
  · replace h := (if_pos hc).symm.trans h
    exact o9_readsAct_115 _ _ ho h
  · replace h := (if_neg hc).symm.trans h
    obtain ⟨x4, hx4, h⟩ := z_bind h
    by_cases hc : (2 : Int32) ≤ x4
    · replace h := (if_pos hc).symm.trans h
      obtain ⟨p5, hp5, h⟩ := z_bind h
      replace ho := ho.call (o_X9_number hp5) (by simp) (by simp)
      obtain ⟨M6, hM6, h⟩ := z_bind h
      replace ho := ho.pI hM6 (by simp)
      obtain ⟨x7, hx7, h⟩ := z_bind h
      by_cases hc : x7 < 0
      · replace h := (if_pos hc).symm.trans h
        exact o9_readsAct_160 _ _ ho h
      · replace h := (if_neg hc).symm.trans h
        obtain ⟨x8, hx8, h⟩ := z_bind h
        by_cases hc : (4 : Int32) ≤ x8
        · replace h := (if_pos hc).symm.trans h
          obtain ⟨p9, hp9, h⟩ := z_bind h
          replace ho := ho.call (o_X9_number hp9) (by simp) (by simp)
          by_cases hc : 0 ≤ p9.1
          · replace h := (if_pos hc).symm.trans h
            obtain ⟨p10, hp10, h⟩ := z_bind h
            replace ho := ho.call (o_X9_number hp10) (by simp) (by simp)
            exact o9_readsAct_194 _ _ _ _ ho h
          · replace h := (if_neg hc).symm.trans h
            exact o9_readsAct_194 _ _ _ _ ho h
        · replace h := (if_neg hc).symm.trans h
          exact o9_readsAct_160 _ _ ho h
    · replace h := (if_neg hc).symm.trans h
      exact o9_readsAct_115 _ _ ho h
set_option maxRecDepth 20000 in
set_option maxHeartbeats 4000000 in
theorem o_X9_readsAct {M : zM} {r1 : Int32} {Mr : zM} (h : f9_readsAct M = some (r1, Mr)) : zOut [50, 51, 52, 53] [8, 24] M Mr := by
  have ho : zOut [50, 51, 52, 53] [8, 24] M M := zOut.rf
  rw [f9_readsAct] at h
  obtain ⟨p1, hp1, h⟩ := z_bind h
  replace ho := ho.call (o_X9_takesOf hp1) (by simp) (by simp)
  obtain ⟨M2, hM2, h⟩ := z_bind h
  replace ho := ho.pI hM2 (by simp)
  replace ho := ho.si 39 24 ((M2.1 39 24) + (1 : Int32)) (by simp)
  obtain ⟨x3, hx3, h⟩ := z_bind h
  by_cases hc : 0 ≤ x3
  · replace h := (if_pos hc).symm.trans h
    obtain ⟨x4, hx4, h⟩ := z_bind h
    by_cases hc : x4 = (1 : Int32)
    · replace h := (if_pos hc).symm.trans h
      exact o9_readsAct_74 _ _ _ ho h
    · replace h := (if_neg hc).symm.trans h
      obtain ⟨x5, hx5, h⟩ := z_bind h
      by_cases hc : x5 = (2 : Int32)
      · replace h := (if_pos hc).symm.trans h
        exact o9_readsAct_74 _ _ _ ho h
      · replace h := (if_neg hc).symm.trans h
        obtain ⟨x6, hx6, h⟩ := z_bind h
        exact o9_readsAct_74 _ _ _ ho h
  · replace h := (if_neg hc).symm.trans h
    obtain ⟨rfl, rfl⟩ := z_ret2 h
    exact ho
set_option maxRecDepth 20000 in
set_option maxHeartbeats 4000000 in
theorem o_X9_does {v1 : Int32} {M : zM} {r1 : Int32} {Mr : zM} (h : f9_does v1 M = some (r1, Mr)) : zOut [41, 42, 47, 48] [] M Mr := by
  have ho : zOut [41, 42, 47, 48] [] M M := zOut.rf
  rw [f9_does] at h
  obtain ⟨x1, hx1, h⟩ := z_bind h
  obtain ⟨x2, hx2, h⟩ := z_bind h
  by_cases hc1 : x2 = (0 : Int32)
  · replace h := (if_pos hc1).symm.trans h
    obtain ⟨M3, hM3, h⟩ := z_bind h
    replace ho := ho.call (o_X9_goesOn hM3) (by simp) (by simp)
    obtain ⟨rfl, rfl⟩ := z_ret2 h
    exact ho
  replace h := (if_neg hc1).symm.trans h
  by_cases hc2 : x2 = (1 : Int32)
  · replace h := (if_pos hc2).symm.trans h
    obtain ⟨p3, hp3, h⟩ := z_bind h
    replace ho := ho.call (o_X9_mirrorsAll hp3) (by simp) (by simp)
    obtain ⟨rfl, rfl⟩ := z_ret2 h
    exact ho
  replace h := (if_neg hc2).symm.trans h
  by_cases hc3 : x2 = (2 : Int32)
  · replace h := (if_pos hc3).symm.trans h
    obtain ⟨x3, hx3, h⟩ := z_bind h
    obtain ⟨p4, hp4, h⟩ := z_bind h
    replace ho := ho.call (o_X9_drawsOut hp4) (by simp) (by simp)
    obtain ⟨rfl, rfl⟩ := z_ret2 h
    exact ho
  replace h := (if_neg hc3).symm.trans h
  by_cases hc4 : x2 = (3 : Int32)
  · replace h := (if_pos hc4).symm.trans h
    obtain ⟨x3, hx3, h⟩ := z_bind h
    obtain ⟨p4, hp4, h⟩ := z_bind h
    replace ho := ho.call (o_X9_flipsOne hp4) (by simp) (by simp)
    obtain ⟨rfl, rfl⟩ := z_ret2 h
    exact ho
  replace h := (if_neg hc4).symm.trans h
  obtain ⟨x3, hx3, h⟩ := z_bind h
  obtain ⟨x4, hx4, h⟩ := z_bind h
  obtain ⟨p5, hp5, h⟩ := z_bind h
  replace ho := ho.call (o_X9_weavesIn hp5) (by simp) (by simp)
  obtain ⟨rfl, rfl⟩ := z_ret2 h
  exact ho
set_option maxRecDepth 20000 in
set_option maxHeartbeats 4000000 in
theorem o9_work_88 {r1 : Int32} {Mr : zM} {M0 : zM} : ∀ (v4 : Int32) (M : zM), zOut [40, 41, 42, 47, 48, 49, 50, 51, 52, 53] [0, 1, 7, 8, 9, 10, 18, 24] M0 M → f9_work_88 v4 M = some (r1, Mr) → zOut [40, 41, 42, 47, 48, 49, 50, 51, 52, 53] [0, 1, 7, 8, 9, 10, 18, 24] M0 Mr := by
  intro v4 M ho h
  rw [f9_work_88] at h
  replace ho := ho.si 39 1 (0 : Int32) (by simp)
  obtain ⟨x1, hx1, h⟩ := z_bind h
  obtain ⟨M2, hM2, h⟩ := z_bind h
  replace ho := ho.call (o_X9_enters hM2) (by simp) (by simp)
  obtain ⟨x3, hx3, h⟩ := z_bind h
  obtain ⟨M4, hM4, h⟩ := z_bind h
  replace ho := ho.call (o_X9_enters hM4) (by simp) (by simp)
  by_cases hc : v4 ≤ 0
  · replace h := (if_pos hc).symm.trans h
    obtain ⟨rfl, rfl⟩ := z_ret2 h
    exact ho
  · replace h := (if_neg hc).symm.trans h
    obtain ⟨p5, hp5, h⟩ := z_bind h
    replace ho := ho.call (o_X9_adds hp5) (by simp) (by simp)
    obtain ⟨rfl, rfl⟩ := z_ret2 h
    exact ho
set_option maxRecDepth 20000 in
set_option maxHeartbeats 4000000 in
theorem o9_work_64 {r1 : Int32} {Mr : zM} {M0 : zM} : ∀ (n : Nat) (v4 : Int32) (M : zM), zOut [40, 41, 42, 47, 48, 49, 50, 51, 52, 53] [0, 1, 7, 8, 9, 10, 18, 24] M0 M → f9_work_64 n v4 M = some (r1, Mr) → zOut [40, 41, 42, 47, 48, 49, 50, 51, 52, 53] [0, 1, 7, 8, 9, 10, 18, 24] M0 Mr := by
  intro n
  induction n with
  | zero => intro v4 M ho h; cases h
  | succ n ih =>
    intro v4 M ho h
    rw [f9_work_64] at h
    by_cases hc : (M.1 39 24) ≤ v4
    · replace h := (if_pos hc).symm.trans h
      exact o9_work_88 _ _ ho h
    · replace h := (if_neg hc).symm.trans h
      obtain ⟨p1, hp1, h⟩ := z_bind h
      replace ho := ho.call (o_X9_does hp1) (by simp) (by simp)
      by_cases hc : p1.1 = 0
      · replace h := (if_pos hc).symm.trans h
        exact o9_work_88 _ _ ho h
      · replace h := (if_neg hc).symm.trans h
        exact ih _ _ ho h
set_option maxRecDepth 20000 in
set_option maxHeartbeats 4000000 in
theorem o9_work_42 {r1 : Int32} {Mr : zM} {M0 : zM} : ∀ (v1 : Int32) (v2 : Int32) (M : zM), zOut [40, 41, 42, 47, 48, 49, 50, 51, 52, 53] [0, 1, 7, 8, 9, 10, 18, 24] M0 M → f9_work_42 v1 v2 M = some (r1, Mr) → zOut [40, 41, 42, 47, 48, 49, 50, 51, 52, 53] [0, 1, 7, 8, 9, 10, 18, 24] M0 Mr := by
  intro v1 v2 M ho h
  rw [f9_work_42] at h
  obtain ⟨x1, hx1, h⟩ := z_bind h
  by_cases hc : 0 ≤ x1
  · replace h := (if_pos hc).symm.trans h
    obtain ⟨M2, hM2, h⟩ := z_bind h
    replace ho := ho.call (o_X9_putsBy hM2) (by simp) (by simp)
    exact o9_work_64 zfuel _ _ ho h
  · replace h := (if_neg hc).symm.trans h
    obtain ⟨rfl, rfl⟩ := z_ret2 h
    exact ho
set_option maxRecDepth 20000 in
set_option maxHeartbeats 4000000 in
theorem o9_work_19 {r1 : Int32} {Mr : zM} {M0 : zM} : ∀ (n : Nat) (v1 : Int32) (v2 : Int32) (M : zM), zOut [40, 41, 42, 47, 48, 49, 50, 51, 52, 53] [0, 1, 7, 8, 9, 10, 18, 24] M0 M → f9_work_19 n v1 v2 M = some (r1, Mr) → zOut [40, 41, 42, 47, 48, 49, 50, 51, 52, 53] [0, 1, 7, 8, 9, 10, 18, 24] M0 Mr := by
  intro n
  induction n with
  | zero => intro v1 v2 M ho h; cases h
  | succ n ih =>
    intro v1 v2 M ho h
    rw [f9_work_19] at h
    by_cases hc : v2 = 0
    · replace h := (if_pos hc).symm.trans h
      exact o9_work_42 _ _ _ ho h
    · replace h := (if_neg hc).symm.trans h
      by_cases hc : (M.1 39 9) ≤ (M.1 39 8)
      · replace h := (if_pos hc).symm.trans h
        exact o9_work_42 _ _ _ ho h
      · replace h := (if_neg hc).symm.trans h
        obtain ⟨p1, hp1, h⟩ := z_bind h
        replace ho := ho.call (o_X9_readsAct hp1) (by simp) (by simp)
        exact ih _ _ _ ho h
set_option maxRecDepth 20000 in
set_option maxHeartbeats 4000000 in
theorem o_X9_work {M : zM} {r1 : Int32} {Mr : zM} (h : f9_work M = some (r1, Mr)) : zOut [40, 41, 42, 47, 48, 49, 50, 51, 52, 53] [0, 1, 7, 8, 9, 10, 18, 24] M Mr := by
  have ho : zOut [40, 41, 42, 47, 48, 49, 50, 51, 52, 53] [0, 1, 7, 8, 9, 10, 18, 24] M M := zOut.rf
  rw [f9_work] at h
  replace ho := ho.si 39 0 (0 : Int32) (by simp)
  obtain ⟨p1, hp1, h⟩ := z_bind h
  replace ho := ho.call (o_X9_begins hp1) (by simp) (by simp)
  replace ho := ho.si 39 24 (0 : Int32) (by simp)
  exact o9_work_19 zfuel _ _ _ ho h
set_option maxRecDepth 20000 in
set_option maxHeartbeats 4000000 in
theorem o9_laysAbove_40 {a1 : Nat} {Mr : zM} {M0 : zM} {k121 : Int32 → zM → Option zM} (hk121 : ∀ (v2 : Int32) (M : zM), zOut [54, 55] [] M0 M → k121 v2 M = some Mr → zOut [54, 55] [] M0 Mr) : ∀ (n : Nat) (v2 : Int32) (v3 : Int32) (M : zM), zOut [54, 55] [] M0 M → f9_laysAbove_40 a1 k121 n v2 v3 M = some Mr → zOut [54, 55] [] M0 Mr := by
  intro n
  induction n with
  | zero => intro v2 v3 M ho h; cases h
  | succ n ih =>
    intro v2 v3 M ho h
    rw [f9_laysAbove_40] at h
    by_cases hc : (M.1 a1 7) ≤ v3
    · replace h := (if_pos hc).symm.trans h
      exact hk121 _ _ ho h
    · replace h := (if_neg hc).symm.trans h
      obtain ⟨x1, hx1, h⟩ := z_bind h
      obtain ⟨x2, hx2, h⟩ := z_bind h
      obtain ⟨x3, hx3, h⟩ := z_bind h
      obtain ⟨M4, hM4, h⟩ := z_bind h
      replace ho := ho.pI hM4 (by simp)
      obtain ⟨x5, hx5, h⟩ := z_bind h
      obtain ⟨M6, hM6, h⟩ := z_bind h
      replace ho := ho.pI hM6 (by simp)
      exact ih _ _ _ ho h
set_option maxRecDepth 20000 in
set_option maxHeartbeats 4000000 in
theorem o9_laysAbove_121 {a1 : Nat} {Mr : zM} {M0 : zM} {k30 : Int32 → zM → Option zM} (hk30 : ∀ (v2 : Int32) (M : zM), zOut [54, 55] [] M0 M → k30 v2 M = some Mr → zOut [54, 55] [] M0 Mr) : ∀ (v2 : Int32) (M : zM), zOut [54, 55] [] M0 M → f9_laysAbove_121 a1 k30 v2 M = some Mr → zOut [54, 55] [] M0 Mr := by
  intro v2 M ho h
  rw [f9_laysAbove_121] at h
  exact hk30 _ _ ho h
set_option maxRecDepth 20000 in
set_option maxHeartbeats 4000000 in
theorem o9_laysAbove_30 {a1 : Nat} {Mr : zM} {M0 : zM} : ∀ (n : Nat) (v2 : Int32) (M : zM), zOut [54, 55] [] M0 M → f9_laysAbove_30 a1 n v2 M = some Mr → zOut [54, 55] [] M0 Mr := by
  intro n
  induction n with
  | zero => intro v2 M ho h; cases h
  | succ n ih =>
    intro v2 M ho h
    rw [f9_laysAbove_30] at h
    by_cases hc : (M.1 a1 6) ≤ v2
    · replace h := (if_pos hc).symm.trans h
      obtain rfl := z_ret1 h
      exact ho
    · replace h := (if_neg hc).symm.trans h
      exact o9_laysAbove_40 (fun u0 u1 ho h => o9_laysAbove_121 (fun u0 u1 ho h => ih u0 u1 ho h) u0 u1 ho h) zfuel _ _ _ ho h
set_option maxRecDepth 20000 in
set_option maxHeartbeats 4000000 in
theorem o9_laysAbove_2 {a1 : Nat} {Mr : zM} {M0 : zM} : ∀ (n : Nat) (v2 : Int32) (M : zM), zOut [54, 55] [] M0 M → f9_laysAbove_2 a1 n v2 M = some Mr → zOut [54, 55] [] M0 Mr := by
  intro n
  induction n with
  | zero => intro v2 M ho h; cases h
  | succ n ih =>
    intro v2 M ho h
    rw [f9_laysAbove_2] at h
    by_cases hc : (12 : Int32) ≤ v2
    · replace h := (if_pos hc).symm.trans h
      exact o9_laysAbove_30 zfuel _ _ ho h
    · replace h := (if_neg hc).symm.trans h
      obtain ⟨M1, hM1, h⟩ := z_bind h
      replace ho := ho.pI hM1 (by simp)
      obtain ⟨M2, hM2, h⟩ := z_bind h
      replace ho := ho.pI hM2 (by simp)
      exact ih _ _ ho h
set_option maxRecDepth 20000 in
set_option maxHeartbeats 4000000 in
theorem o_X9_laysAbove {a1 : Nat} {M : zM} {Mr : zM} (h : f9_laysAbove a1 M = some Mr) : zOut [54, 55] [] M Mr := by
  have ho : zOut [54, 55] [] M M := zOut.rf
  rw [f9_laysAbove] at h
  exact o9_laysAbove_2 zfuel _ _ ho h
set_option maxRecDepth 20000 in
set_option maxHeartbeats 4000000 in
theorem o_X9_doesHang {a1 : Nat} {M : zM} {r1 : Int32} {Mr : zM} (h : f9_doesHang a1 M = some (r1, Mr)) : zOut [54, 55] [] M Mr := by
  have ho : zOut [54, 55] [] M M := zOut.rf
  rw [f9_doesHang] at h
  obtain ⟨M1, hM1, h⟩ := z_bind h
  replace ho := ho.call (o_X9_laysAbove hM1) (by simp) (by simp)
  obtain ⟨x2, hx2, h⟩ := z_bind h
  obtain ⟨x3, hx3, h⟩ := z_bind h
  obtain ⟨x4, hx4, h⟩ := z_bind h
  obtain ⟨rfl, rfl⟩ := z_ret2 h
  exact ho
set_option maxRecDepth 20000 in
set_option maxHeartbeats 4000000 in
theorem o9_laysHangs_49 {Mr : zM} {M0 : zM} {k18 : Int32 → Int32 → zM → Option zM} (hk18 : ∀ (v1 : Int32) (v2 : Int32) (M : zM), zOut [54, 55, 56] [] M0 M → k18 v1 v2 M = some Mr → zOut [54, 55, 56] [] M0 Mr) : ∀ (v1 : Int32) (v2 : Int32) (s1 : Int32) (s2 : Int32) (M : zM), zOut [54, 55, 56] [] M0 M → f9_laysHangs_49 k18 v1 v2 s1 s2 M = some Mr → zOut [54, 55, 56] [] M0 Mr := by
  intro v1 v2 s1 s2 M ho h
  rw [f9_laysHangs_49] at h
  obtain ⟨M1, hM1, h⟩ := z_bind h
  replace ho := ho.pZ hM1 (by simp)
  exact hk18 _ _ _ ho h
set_option maxRecDepth 20000 in
set_option maxHeartbeats 4000000 in
theorem o9_laysHangs_18 {Mr : zM} {M0 : zM} : ∀ (n : Nat) (v1 : Int32) (v2 : Int32) (M : zM), zOut [54, 55, 56] [] M0 M → f9_laysHangs_18 n v1 v2 M = some Mr → zOut [54, 55, 56] [] M0 Mr := by
  intro n
  induction n with
  | zero => intro v1 v2 M ho h; cases h
  | succ n ih =>
    intro v1 v2 M ho h
    rw [f9_laysHangs_18] at h
    by_cases hc : v1 < v2
    · replace h := (if_pos hc).symm.trans h
      obtain rfl := z_ret1 h
      exact ho
    · replace h := (if_neg hc).symm.trans h
      by_cases hc : (v2 &&& (v1 ^^^ (-1 : Int32))) = 0
      · replace h := (if_pos hc).symm.trans h
        obtain ⟨x1, hx1, h⟩ := z_bind h
        exact o9_laysHangs_49 (fun u0 u1 u2 ho h => ih u0 u1 u2 ho h) _ _ _ _ _ ho h
      · replace h := (if_neg hc).symm.trans h
        exact o9_laysHangs_49 (fun u0 u1 u2 ho h => ih u0 u1 u2 ho h) _ _ _ _ _ ho h
set_option maxRecDepth 20000 in
set_option maxHeartbeats 4000000 in
theorem o_X9_laysHangs {M : zM} {Mr : zM} (h : f9_laysHangs M = some Mr) : zOut [54, 55, 56] [] M Mr := by
  have ho : zOut [54, 55, 56] [] M M := zOut.rf
  rw [f9_laysHangs] at h
  obtain ⟨M1, hM1, h⟩ := z_bind h
  replace ho := ho.call (o_X9_laysAbove hM1) (by simp) (by simp)
  obtain ⟨x2, hx2, h⟩ := z_bind h
  exact o9_laysHangs_18 zfuel _ _ _ ho h
set_option maxRecDepth 20000 in
set_option maxHeartbeats 4000000 in
theorem o_X9_next {M : zM} {r1 : Int32} {Mr : zM} (h : f9_next M = some (r1, Mr)) : zOut [40, 47, 48] [0, 1] M Mr := by
  have ho : zOut [40, 47, 48] [0, 1] M M := zOut.rf
  rw [f9_next] at h
  replace ho := ho.si 39 0 (0 : Int32) (by simp)
  obtain ⟨p1, hp1, h⟩ := z_bind h
  replace ho := ho.call (o_X9_nextOf hp1) (by simp) (by simp)
  by_cases hc : p1.1 < 0
  · replace h := (if_pos hc).symm.trans h
    obtain ⟨rfl, rfl⟩ := z_ret2 h
    exact ho
  · replace h := (if_neg hc).symm.trans h
    replace ho := ho.si 39 1 (0 : Int32) (by simp)
    obtain ⟨p2, hp2, h⟩ := z_bind h
    replace ho := ho.call (o_X9_pull hp2) (by simp) (by simp)
    obtain ⟨M3, hM3, h⟩ := z_bind h
    replace ho := ho.call (o_X9_enters hM3) (by simp) (by simp)
    obtain ⟨rfl, rfl⟩ := z_ret2 h
    exact ho
set_option maxRecDepth 20000 in
set_option maxHeartbeats 4000000 in
theorem o9_later_70 {r1 : Int32} {Mr : zM} {M0 : zM} : ∀ (n : Nat) (v2 : Int32) (M : zM), zOut [40, 42, 47, 48] [0, 1] M0 M → f9_later_70 n v2 M = some (r1, Mr) → zOut [40, 42, 47, 48] [0, 1] M0 Mr := by
  intro n
  induction n with
  | zero => intro v2 M ho h; cases h
  | succ n ih =>
    intro v2 M ho h
    rw [f9_later_70] at h
    by_cases hc : (M.1 42 6) ≤ v2
    · replace h := (if_pos hc).symm.trans h
      obtain ⟨x1, hx1, h⟩ := z_bind h
      obtain ⟨rfl, rfl⟩ := z_ret2 h
      exact ho
    · replace h := (if_neg hc).symm.trans h
      obtain ⟨x1, hx1, h⟩ := z_bind h
      obtain ⟨M2, hM2, h⟩ := z_bind h
      replace ho := ho.call (o_X9_enters hM2) (by simp) (by simp)
      exact ih _ _ ho h
set_option maxRecDepth 20000 in
set_option maxHeartbeats 4000000 in
theorem o_X9_later {v1 : Int32} {M : zM} {r1 : Int32} {Mr : zM} (h : f9_later v1 M = some (r1, Mr)) : zOut [40, 42, 47, 48] [0, 1] M Mr := by
  have ho : zOut [40, 42, 47, 48] [0, 1] M M := zOut.rf
  rw [f9_later] at h
  replace ho := ho.si 39 0 (0 : Int32) (by simp)
  obtain ⟨x1, hx1, h⟩ := z_bind h
  by_cases hc : x1 = 0
  · replace h := (if_pos hc).symm.trans h
    obtain ⟨rfl, rfl⟩ := z_ret2 h
    exact ho
  · replace h := (if_neg hc).symm.trans h
    obtain ⟨M2, hM2, h⟩ := z_bind h
    replace ho := ho.call (o_X9_copies hM2) (by simp) (by simp)
    obtain ⟨M3, hM3, h⟩ := z_bind h
    replace ho := ho.call (o_X9_goesOn hM3) (by simp) (by simp)
    replace ho := ho.si 39 1 (0 : Int32) (by simp)
    obtain ⟨M4, hM4, h⟩ := z_bind h
    replace ho := ho.call (o_X9_enters hM4) (by simp) (by simp)
    obtain ⟨M5, hM5, h⟩ := z_bind h
    replace ho := ho.call (o_X9_enters hM5) (by simp) (by simp)
    exact o9_later_70 zfuel _ _ ho h
set_option maxRecDepth 20000 in
set_option maxHeartbeats 4000000 in
theorem o9_falls_18 {r1 : Int32} {Mr : zM} {M0 : zM} : ∀ (n : Nat) (v1 : Int32) (M : zM), zOut [40, 42, 47, 48, 54, 55] [0, 1] M0 M → f9_falls_18 n v1 M = some (r1, Mr) → zOut [40, 42, 47, 48, 54, 55] [0, 1] M0 Mr := by
  intro n
  induction n with
  | zero => intro v1 M ho h; cases h
  | succ n ih =>
    intro v1 M ho h
    rw [f9_falls_18] at h
    by_cases hc : (60 : Int32) < v1
    · replace h := (if_pos hc).symm.trans h
      obtain ⟨rfl, rfl⟩ := z_ret2 h
      exact ho
    · replace h := (if_neg hc).symm.trans h
      obtain ⟨p1, hp1, h⟩ := z_bind h
      replace ho := ho.call (o_X9_doesHang hp1) (by simp) (by simp)
      by_cases hc : p1.1 = 0
      · replace h := (if_pos hc).symm.trans h
        replace ho := ho.si 39 1 (0 : Int32) (by simp)
        obtain ⟨x2, hx2, h⟩ := z_bind h
        obtain ⟨M3, hM3, h⟩ := z_bind h
        replace ho := ho.call (o_X9_enters hM3) (by simp) (by simp)
        obtain ⟨rfl, rfl⟩ := z_ret2 h
        exact ho
      · replace h := (if_neg hc).symm.trans h
        obtain ⟨p2, hp2, h⟩ := z_bind h
        replace ho := ho.call (o_X9_nightGoes hp2) (by simp) (by simp)
        exact ih _ _ ho h
set_option maxRecDepth 20000 in
set_option maxHeartbeats 4000000 in
theorem o_X9_falls {M : zM} {r1 : Int32} {Mr : zM} (h : f9_falls M = some (r1, Mr)) : zOut [40, 42, 47, 48, 54, 55] [0, 1] M Mr := by
  have ho : zOut [40, 42, 47, 48, 54, 55] [0, 1] M M := zOut.rf
  rw [f9_falls] at h
  replace ho := ho.si 39 0 (0 : Int32) (by simp)
  obtain ⟨M1, hM1, h⟩ := z_bind h
  replace ho := ho.call (o_X9_copies hM1) (by simp) (by simp)
  exact o9_falls_18 zfuel _ _ ho h
set_option maxRecDepth 20000 in
set_option maxHeartbeats 4000000 in
theorem o9_leaves_35 {a1 : Nat} {r1 : Int32} {Mr : zM} {M0 : zM} {k11 : Int32 → Int32 → zM → Option (Int32 × zM)} (hk11 : ∀ (v2 : Int32) (v3 : Int32) (M : zM), zOut [a1] [] M0 M → k11 v2 v3 M = some (r1, Mr) → zOut [a1] [] M0 Mr) : ∀ (v2 : Int32) (v3 : Int32) (M : zM), zOut [a1] [] M0 M → f9_leaves_35 a1 k11 v2 v3 M = some (r1, Mr) → zOut [a1] [] M0 Mr := by
  intro v2 v3 M ho h
  rw [f9_leaves_35] at h
  exact hk11 _ _ _ ho h
set_option maxRecDepth 20000 in
set_option maxHeartbeats 4000000 in
theorem o9_leaves_11 {a1 : Nat} {r1 : Int32} {Mr : zM} {M0 : zM} : ∀ (n : Nat) (v2 : Int32) (v3 : Int32) (M : zM), zOut [a1] [] M0 M → f9_leaves_11 a1 n v2 v3 M = some (r1, Mr) → zOut [a1] [] M0 Mr := by
  intro n
  induction n with
  | zero => intro v2 v3 M ho h; cases h
  | succ n ih =>
    intro v2 v3 M ho h
    rw [f9_leaves_11] at h
    by_cases hc : v3 < 0
    · replace h := (if_pos hc).symm.trans h
      obtain ⟨rfl, rfl⟩ := z_ret2 h
      exact ho
    · replace h := (if_neg hc).symm.trans h
      obtain ⟨x1, hx1, h⟩ := z_bind h
      by_cases hc : x1 = 0
      · replace h := (if_pos hc).symm.trans h
        exact o9_leaves_35 (fun u0 u1 u2 ho h => ih u0 u1 u2 ho h) _ _ _ ho h
      · replace h := (if_neg hc).symm.trans h
        obtain ⟨M2, hM2, h⟩ := z_bind h
        replace ho := ho.call (o_X9_goes hM2) (by simp) (by simp)
        exact o9_leaves_35 (fun u0 u1 u2 ho h => ih u0 u1 u2 ho h) _ _ _ ho h
set_option maxRecDepth 20000 in
set_option maxHeartbeats 4000000 in
theorem o_X9_leaves {a1 : Nat} {v2 : Int32} {M : zM} {r1 : Int32} {Mr : zM} (h : f9_leaves a1 v2 M = some (r1, Mr)) : zOut [a1] [] M Mr := by
  have ho : zOut [a1] [] M M := zOut.rf
  rw [f9_leaves] at h
  obtain ⟨M1, hM1, h⟩ := z_bind h
  replace ho := ho.call (o_X9_copies hM1) (by simp) (by simp)
  exact o9_leaves_11 zfuel _ _ _ ho h
set_option maxRecDepth 20000 in
set_option maxHeartbeats 4000000 in
theorem o9_rags_134 {r1 : Int32} {Mr : zM} {M0 : zM} {k34 : Int32 → Int32 → Int32 → zM → Option (Int32 × zM)} (hk34 : ∀ (v2 : Int32) (v3 : Int32) (v4 : Int32) (M : zM), zOut [40, 42, 44] [0, 1, 7, 8, 9, 10] M0 M → k34 v2 v3 v4 M = some (r1, Mr) → zOut [40, 42, 44] [0, 1, 7, 8, 9, 10] M0 Mr) : ∀ (v2 : Int32) (v3 : Int32) (v4 : Int32) (v5 : Int32) (M : zM), zOut [40, 42, 44] [0, 1, 7, 8, 9, 10] M0 M → f9_rags_134 k34 v2 v3 v4 v5 M = some (r1, Mr) → zOut [40, 42, 44] [0, 1, 7, 8, 9, 10] M0 Mr := by
  intro v2 v3 v4 v5 M ho h
  rw [f9_rags_134] at h
  obtain ⟨x1, hx1, h⟩ := z_bind h
  exact hk34 _ _ _ _ ho h
set_option maxRecDepth 20000 in
set_option maxHeartbeats 4000000 in
theorem o9_rags_116 {r1 : Int32} {Mr : zM} {M0 : zM} {k34 : Int32 → Int32 → Int32 → zM → Option (Int32 × zM)} (hk34 : ∀ (v2 : Int32) (v3 : Int32) (v4 : Int32) (M : zM), zOut [40, 42, 44] [0, 1, 7, 8, 9, 10] M0 M → k34 v2 v3 v4 M = some (r1, Mr) → zOut [40, 42, 44] [0, 1, 7, 8, 9, 10] M0 Mr) : ∀ (v2 : Int32) (v3 : Int32) (v4 : Int32) (s0 : Int32) (M : zM), zOut [40, 42, 44] [0, 1, 7, 8, 9, 10] M0 M → f9_rags_116 k34 v2 v3 v4 s0 M = some (r1, Mr) → zOut [40, 42, 44] [0, 1, 7, 8, 9, 10] M0 Mr := by
  intro v2 v3 v4 s0 M ho h
  rw [f9_rags_116] at h
  by_cases hc : s0 = 0
  · replace h := (if_pos hc).symm.trans h
    exact o9_rags_134 hk34 _ _ _ _ _ ho h
  · replace h := (if_neg hc).symm.trans h
    by_cases hc : v3 = 0
    · replace h := (if_pos hc).symm.trans h
      obtain ⟨M1, hM1, h⟩ := z_bind h
      replace ho := ho.call (o_X9_enters hM1) (by simp) (by simp)
      exact o9_rags_134 hk34 _ _ _ _ _ ho h
    · replace h := (if_neg hc).symm.trans h
      exact o9_rags_134 hk34 _ _ _ _ _ ho h
set_option maxRecDepth 20000 in
set_option maxHeartbeats 4000000 in
theorem o9_rags_77 {r1 : Int32} {Mr : zM} {M0 : zM} {k34 : Int32 → Int32 → Int32 → zM → Option (Int32 × zM)} (hk34 : ∀ (v2 : Int32) (v3 : Int32) (v4 : Int32) (M : zM), zOut [40, 42, 44] [0, 1, 7, 8, 9, 10] M0 M → k34 v2 v3 v4 M = some (r1, Mr) → zOut [40, 42, 44] [0, 1, 7, 8, 9, 10] M0 Mr) : ∀ (v2 : Int32) (v3 : Int32) (v4 : Int32) (s0 : Int32) (M : zM), zOut [40, 42, 44] [0, 1, 7, 8, 9, 10] M0 M → f9_rags_77 k34 v2 v3 v4 s0 M = some (r1, Mr) → zOut [40, 42, 44] [0, 1, 7, 8, 9, 10] M0 Mr := by
  intro v2 v3 v4 s0 M ho h
  rw [f9_rags_77] at h
  by_cases hc : s0 = 0
  · replace h := (if_pos hc).symm.trans h
    exact o9_rags_116 hk34 _ _ _ _ _ ho h
  · replace h := (if_neg hc).symm.trans h
    obtain ⟨p1, hp1, h⟩ := z_bind h
    replace ho := ho.call (o_X9_leaves hp1) (by simp) (by simp)
    by_cases hc : p1.1 = 0
    · replace h := (if_pos hc).symm.trans h
      exact o9_rags_116 hk34 _ _ _ _ _ ho h
    · replace h := (if_neg hc).symm.trans h
      obtain ⟨x2, hx2, h⟩ := z_bind h
      exact o9_rags_116 hk34 _ _ _ _ _ ho h
set_option maxRecDepth 20000 in
set_option maxHeartbeats 4000000 in
theorem o9_rags_34 {r1 : Int32} {Mr : zM} {M0 : zM} : ∀ (n : Nat) (v2 : Int32) (v3 : Int32) (v4 : Int32) (M : zM), zOut [40, 42, 44] [0, 1, 7, 8, 9, 10] M0 M → f9_rags_34 n v2 v3 v4 M = some (r1, Mr) → zOut [40, 42, 44] [0, 1, 7, 8, 9, 10] M0 Mr := by
  intro n
  induction n with
  | zero => intro v2 v3 v4 M ho h; cases h
  | succ n ih =>
    intro v2 v3 v4 M ho h
    rw [f9_rags_34] at h
    by_cases hc : v2 < v4
    · replace h := (if_pos hc).symm.trans h
      obtain ⟨rfl, rfl⟩ := z_ret2 h
      exact ho
    · replace h := (if_neg hc).symm.trans h
      by_cases hc : (v4 &&& (v2 ^^^ (-1 : Int32))) = 0
      · replace h := (if_pos hc).symm.trans h
        obtain ⟨x1, hx1, h⟩ := z_bind h
        obtain ⟨x2, hx2, h⟩ := z_bind h
        obtain ⟨x3, hx3, h⟩ := z_bind h
        exact o9_rags_77 (fun u0 u1 u2 u3 ho h => ih u0 u1 u2 u3 ho h) _ _ _ _ _ ho h
      · replace h := (if_neg hc).symm.trans h
        exact o9_rags_77 (fun u0 u1 u2 u3 ho h => ih u0 u1 u2 u3 ho h) _ _ _ _ _ ho h
set_option maxRecDepth 20000 in
set_option maxHeartbeats 4000000 in
theorem o_X9_rags {M : zM} {r1 : Int32} {Mr : zM} (h : f9_rags M = some (r1, Mr)) : zOut [40, 42, 44] [0, 1, 7, 8, 9, 10] M Mr := by
  have ho : zOut [40, 42, 44] [0, 1, 7, 8, 9, 10] M M := zOut.rf
  rw [f9_rags] at h
  replace ho := ho.si 39 0 (0 : Int32) (by simp)
  obtain ⟨p1, hp1, h⟩ := z_bind h
  replace ho := ho.call (o_X9_readsCloth hp1) (by simp) (by simp)
  by_cases hc : 0 ≤ p1.1
  · replace h := (if_pos hc).symm.trans h
    obtain ⟨x2, hx2, h⟩ := z_bind h
    replace ho := ho.si 39 1 (0 : Int32) (by simp)
    exact o9_rags_34 zfuel _ _ _ _ ho h
  · replace h := (if_neg hc).symm.trans h
    obtain ⟨rfl, rfl⟩ := z_ret2 h
    exact ho
set_option maxRecDepth 20000 in
set_option maxHeartbeats 4000000 in
theorem o9_lefts_87 {r1 : Int32} {Mr : zM} {M0 : zM} {k124 : Int32 → Int32 → Int32 → Int32 → Int32 → Int64 → Int32 → zM → Option (Int32 × zM)} (hk124 : ∀ (v1 : Int32) (v2 : Int32) (v3 : Int32) (v4 : Int32) (v5 : Int32) (v6 : Int64) (v8 : Int32) (M : zM), zOut [40, 42, 57] [0, 1] M0 M → k124 v1 v2 v3 v4 v5 v6 v8 M = some (r1, Mr) → zOut [40, 42, 57] [0, 1] M0 Mr) : ∀ (n : Nat) (v1 : Int32) (v2 : Int32) (v3 : Int32) (v4 : Int32) (v5 : Int32) (v6 : Int64) (v8 : Int32) (v9 : Int32) (M : zM), zOut [40, 42, 57] [0, 1] M0 M → f9_lefts_87 k124 n v1 v2 v3 v4 v5 v6 v8 v9 M = some (r1, Mr) → zOut [40, 42, 57] [0, 1] M0 Mr := by
  intro n
  induction n with
  | zero => intro v1 v2 v3 v4 v5 v6 v8 v9 M ho h; cases h
  | succ n ih =>
    intro v1 v2 v3 v4 v5 v6 v8 v9 M ho h
    rw [f9_lefts_87] at h
    by_cases hc : v3 ≤ v9
    · replace h := (if_pos hc).symm.trans h
      exact hk124 _ _ _ _ _ _ _ _ ho h
    · replace h := (if_neg hc).symm.trans h
      by_cases hc : v8 = 0
      · replace h := (if_pos hc).symm.trans h
        exact hk124 _ _ _ _ _ _ _ _ ho h
      · replace h := (if_neg hc).symm.trans h
        obtain ⟨x1, hx1, h⟩ := z_bind h
        exact ih _ _ _ _ _ _ _ _ _ ho h
set_option maxRecDepth 20000 in
set_option maxHeartbeats 4000000 in
theorem o9_lefts_143 {r1 : Int32} {Mr : zM} {M0 : zM} {k35 : Int32 → Int32 → Int32 → Int32 → Int32 → zM → Option (Int32 × zM)} (hk35 : ∀ (v1 : Int32) (v2 : Int32) (v3 : Int32) (v4 : Int32) (v5 : Int32) (M : zM), zOut [40, 42, 57] [0, 1] M0 M → k35 v1 v2 v3 v4 v5 M = some (r1, Mr) → zOut [40, 42, 57] [0, 1] M0 Mr) : ∀ (v1 : Int32) (v2 : Int32) (v3 : Int32) (v4 : Int32) (v5 : Int32) (M : zM), zOut [40, 42, 57] [0, 1] M0 M → f9_lefts_143 k35 v1 v2 v3 v4 v5 M = some (r1, Mr) → zOut [40, 42, 57] [0, 1] M0 Mr := by
  intro v1 v2 v3 v4 v5 M ho h
  rw [f9_lefts_143] at h
  exact hk35 _ _ _ _ _ _ ho h
set_option maxRecDepth 20000 in
set_option maxHeartbeats 4000000 in
theorem o9_lefts_124 {r1 : Int32} {Mr : zM} {M0 : zM} {k35 : Int32 → Int32 → Int32 → Int32 → Int32 → zM → Option (Int32 × zM)} (hk35 : ∀ (v1 : Int32) (v2 : Int32) (v3 : Int32) (v4 : Int32) (v5 : Int32) (M : zM), zOut [40, 42, 57] [0, 1] M0 M → k35 v1 v2 v3 v4 v5 M = some (r1, Mr) → zOut [40, 42, 57] [0, 1] M0 Mr) : ∀ (v1 : Int32) (v2 : Int32) (v3 : Int32) (v4 : Int32) (v5 : Int32) (v6 : Int64) (v8 : Int32) (M : zM), zOut [40, 42, 57] [0, 1] M0 M → f9_lefts_124 k35 v1 v2 v3 v4 v5 v6 v8 M = some (r1, Mr) → zOut [40, 42, 57] [0, 1] M0 Mr := by
  intro v1 v2 v3 v4 v5 v6 v8 M ho h
  rw [f9_lefts_124] at h
  obtain ⟨M1, hM1, h⟩ := z_bind h
  replace ho := ho.pJ hM1 (by simp)
  obtain ⟨x2, hx2, h⟩ := z_bind h
  exact o9_lefts_143 hk35 _ _ _ _ _ _ ho h
set_option maxRecDepth 20000 in
set_option maxHeartbeats 4000000 in
theorem o9_lefts_35 {r1 : Int32} {Mr : zM} {M0 : zM} : ∀ (n : Nat) (v1 : Int32) (v2 : Int32) (v3 : Int32) (v4 : Int32) (v5 : Int32) (M : zM), zOut [40, 42, 57] [0, 1] M0 M → f9_lefts_35 n v1 v2 v3 v4 v5 M = some (r1, Mr) → zOut [40, 42, 57] [0, 1] M0 Mr := by
  intro n
  induction n with
  | zero => intro v1 v2 v3 v4 v5 M ho h; cases h
  | succ n ih =>
    intro v1 v2 v3 v4 v5 M ho h
    rw [f9_lefts_35] at h
    by_cases hc : v2 < v5
    · replace h := (if_pos hc).symm.trans h
      replace ho := ho.si 39 1 (0 : Int32) (by simp)
      obtain ⟨M1, hM1, h⟩ := z_bind h
      replace ho := ho.call (o_X9_enters hM1) (by simp) (by simp)
      obtain ⟨rfl, rfl⟩ := z_ret2 h
      exact ho
    · replace h := (if_neg hc).symm.trans h
      by_cases hc : (v5 &&& (v2 ^^^ (-1 : Int32))) = 0
      · replace h := (if_pos hc).symm.trans h
        obtain ⟨x1, hx1, h⟩ := z_bind h
        by_cases hc : x1 = v1
        · replace h := (if_pos hc).symm.trans h
          obtain ⟨p2, hp2, h⟩ := z_bind h
          replace ho := ho.call (o_X9_leaves hp2) (by simp) (by simp)
          by_cases hc : p2.1 = 0
          · replace h := (if_pos hc).symm.trans h
            exact o9_lefts_143 (fun u0 u1 u2 u3 u4 u5 ho h => ih u0 u1 u2 u3 u4 u5 ho h) _ _ _ _ _ _ ho h
          · replace h := (if_neg hc).symm.trans h
            obtain ⟨x3, hx3, h⟩ := z_bind h
            exact o9_lefts_87 (fun u0 u1 u2 u3 u4 u5 u6 u7 ho h => o9_lefts_124 (fun u0 u1 u2 u3 u4 u5 ho h => ih u0 u1 u2 u3 u4 u5 ho h) u0 u1 u2 u3 u4 u5 u6 u7 ho h) zfuel _ _ _ _ _ _ _ _ _ ho h
        · replace h := (if_neg hc).symm.trans h
          exact o9_lefts_143 (fun u0 u1 u2 u3 u4 u5 ho h => ih u0 u1 u2 u3 u4 u5 ho h) _ _ _ _ _ _ ho h
      · replace h := (if_neg hc).symm.trans h
        exact o9_lefts_143 (fun u0 u1 u2 u3 u4 u5 ho h => ih u0 u1 u2 u3 u4 u5 ho h) _ _ _ _ _ _ ho h
set_option maxRecDepth 20000 in
set_option maxHeartbeats 4000000 in
theorem o_X9_lefts {v1 : Int32} {M : zM} {r1 : Int32} {Mr : zM} (h : f9_lefts v1 M = some (r1, Mr)) : zOut [40, 42, 57] [0, 1] M Mr := by
  have ho : zOut [40, 42, 57] [0, 1] M M := zOut.rf
  rw [f9_lefts] at h
  replace ho := ho.si 39 0 (0 : Int32) (by simp)
  obtain ⟨x1, hx1, h⟩ := z_bind h
  by_cases hc : x1 = 0
  · replace h := (if_pos hc).symm.trans h
    obtain ⟨rfl, rfl⟩ := z_ret2 h
    exact ho
  · replace h := (if_neg hc).symm.trans h
    obtain ⟨x2, hx2, h⟩ := z_bind h
    exact o9_lefts_35 zfuel _ _ _ _ _ _ ho h
set_option maxRecDepth 20000 in
set_option maxHeartbeats 4000000 in
theorem o9_outlasts_119 {r1 : Int32} {Mr : zM} {M0 : zM} {k58 : Int32 → Int32 → Int32 → Int32 → Int32 → zM → Option (Int32 × zM)} (hk58 : ∀ (v1 : Int32) (v2 : Int32) (v3 : Int32) (v4 : Int32) (v5 : Int32) (M : zM), zOut [40] [0, 1] M0 M → k58 v1 v2 v3 v4 v5 M = some (r1, Mr) → zOut [40] [0, 1] M0 Mr) : ∀ (v1 : Int32) (v2 : Int32) (v4 : Int32) (v5 : Int32) (s0 : Int32) (M : zM), zOut [40] [0, 1] M0 M → f9_outlasts_119 k58 v1 v2 v4 v5 s0 M = some (r1, Mr) → zOut [40] [0, 1] M0 Mr := by
  intro v1 v2 v4 v5 s0 M ho h
  rw [f9_outlasts_119] at h
  exact hk58 _ _ _ _ _ _ ho h
set_option maxRecDepth 20000 in
set_option maxHeartbeats 4000000 in
theorem o9_outlasts_58 {r1 : Int32} {Mr : zM} {M0 : zM} {k126 : Int32 → Int32 → Int32 → Int32 → zM → Option (Int32 × zM)} (hk126 : ∀ (v1 : Int32) (v2 : Int32) (v3 : Int32) (v4 : Int32) (M : zM), zOut [40] [0, 1] M0 M → k126 v1 v2 v3 v4 M = some (r1, Mr) → zOut [40] [0, 1] M0 Mr) : ∀ (n : Nat) (v1 : Int32) (v2 : Int32) (v3 : Int32) (v4 : Int32) (v5 : Int32) (M : zM), zOut [40] [0, 1] M0 M → f9_outlasts_58 k126 n v1 v2 v3 v4 v5 M = some (r1, Mr) → zOut [40] [0, 1] M0 Mr := by
  intro n
  induction n with
  | zero => intro v1 v2 v3 v4 v5 M ho h; cases h
  | succ n ih =>
    intro v1 v2 v3 v4 v5 M ho h
    rw [f9_outlasts_58] at h
    by_cases hc : v4 ≤ v5
    · replace h := (if_pos hc).symm.trans h
      exact hk126 _ _ _ _ _ ho h
    · replace h := (if_neg hc).symm.trans h
      by_cases hc : v3 = 0
      · replace h := (if_pos hc).symm.trans h
        exact hk126 _ _ _ _ _ ho h
      · replace h := (if_neg hc).symm.trans h
        obtain ⟨x1, hx1, h⟩ := z_bind h
        by_cases hc : x1 = 0
        · replace h := (if_pos hc).symm.trans h
          exact o9_outlasts_119 (fun u0 u1 u2 u3 u4 u5 ho h => ih u0 u1 u2 u3 u4 u5 ho h) _ _ _ _ _ _ ho h
        · replace h := (if_neg hc).symm.trans h
          obtain ⟨x2, hx2, h⟩ := z_bind h
          by_cases hc : x2 = 0
          · replace h := (if_pos hc).symm.trans h
            exact o9_outlasts_119 (fun u0 u1 u2 u3 u4 u5 ho h => ih u0 u1 u2 u3 u4 u5 ho h) _ _ _ _ _ _ ho h
          · replace h := (if_neg hc).symm.trans h
            obtain ⟨x3, hx3, h⟩ := z_bind h
            obtain ⟨x4, hx4, h⟩ := z_bind h
            obtain ⟨x5, hx5, h⟩ := z_bind h
            exact o9_outlasts_119 (fun u0 u1 u2 u3 u4 u5 ho h => ih u0 u1 u2 u3 u4 u5 ho h) _ _ _ _ _ _ ho h
set_option maxRecDepth 20000 in
set_option maxHeartbeats 4000000 in
theorem o9_outlasts_126 {r1 : Int32} {Mr : zM} {M0 : zM} {k43 : Int32 → Int32 → Int32 → Int32 → zM → Option (Int32 × zM)} (hk43 : ∀ (v1 : Int32) (v2 : Int32) (v3 : Int32) (v4 : Int32) (M : zM), zOut [40] [0, 1] M0 M → k43 v1 v2 v3 v4 M = some (r1, Mr) → zOut [40] [0, 1] M0 Mr) : ∀ (v1 : Int32) (v2 : Int32) (v3 : Int32) (v4 : Int32) (M : zM), zOut [40] [0, 1] M0 M → f9_outlasts_126 k43 v1 v2 v3 v4 M = some (r1, Mr) → zOut [40] [0, 1] M0 Mr := by
  intro v1 v2 v3 v4 M ho h
  rw [f9_outlasts_126] at h
  exact hk43 _ _ _ _ _ ho h
set_option maxRecDepth 20000 in
set_option maxHeartbeats 4000000 in
theorem o9_outlasts_43 {r1 : Int32} {Mr : zM} {M0 : zM} {k132 : Int32 → Int32 → Int32 → zM → Option (Int32 × zM)} (hk132 : ∀ (v1 : Int32) (v2 : Int32) (v3 : Int32) (M : zM), zOut [40] [0, 1] M0 M → k132 v1 v2 v3 M = some (r1, Mr) → zOut [40] [0, 1] M0 Mr) : ∀ (n : Nat) (v1 : Int32) (v2 : Int32) (v3 : Int32) (v4 : Int32) (M : zM), zOut [40] [0, 1] M0 M → f9_outlasts_43 k132 n v1 v2 v3 v4 M = some (r1, Mr) → zOut [40] [0, 1] M0 Mr := by
  intro n
  induction n with
  | zero => intro v1 v2 v3 v4 M ho h; cases h
  | succ n ih =>
    intro v1 v2 v3 v4 M ho h
    rw [f9_outlasts_43] at h
    by_cases hc : (M.1 41 6) ≤ v4
    · replace h := (if_pos hc).symm.trans h
      exact hk132 _ _ _ _ ho h
    · replace h := (if_neg hc).symm.trans h
      exact o9_outlasts_58 (fun u0 u1 u2 u3 u4 ho h => o9_outlasts_126 (fun u0 u1 u2 u3 u4 ho h => ih u0 u1 u2 u3 u4 ho h) u0 u1 u2 u3 u4 ho h) zfuel _ _ _ _ _ _ ho h
set_option maxRecDepth 20000 in
set_option maxHeartbeats 4000000 in
theorem o9_outlasts_132 {r1 : Int32} {Mr : zM} {M0 : zM} {k9 : Int32 → Int32 → zM → Option (Int32 × zM)} (hk9 : ∀ (v1 : Int32) (v2 : Int32) (M : zM), zOut [40] [0, 1] M0 M → k9 v1 v2 M = some (r1, Mr) → zOut [40] [0, 1] M0 Mr) : ∀ (v1 : Int32) (v2 : Int32) (v3 : Int32) (M : zM), zOut [40] [0, 1] M0 M → f9_outlasts_132 k9 v1 v2 v3 M = some (r1, Mr) → zOut [40] [0, 1] M0 Mr := by
  intro v1 v2 v3 M ho h
  rw [f9_outlasts_132] at h
  exact hk9 _ _ _ ho h
set_option maxRecDepth 20000 in
set_option maxHeartbeats 4000000 in
theorem o9_outlasts_9 {r1 : Int32} {Mr : zM} {M0 : zM} : ∀ (n : Nat) (v1 : Int32) (v2 : Int32) (M : zM), zOut [40] [0, 1] M0 M → f9_outlasts_9 n v1 v2 M = some (r1, Mr) → zOut [40] [0, 1] M0 Mr := by
  intro n
  induction n with
  | zero => intro v1 v2 M ho h; cases h
  | succ n ih =>
    intro v1 v2 M ho h
    rw [f9_outlasts_9] at h
    obtain ⟨x1, hx1, h⟩ := z_bind h
    by_cases hc : x1 < v2
    · replace h := (if_pos hc).symm.trans h
      replace ho := ho.si 39 1 (0 : Int32) (by simp)
      obtain ⟨M2, hM2, h⟩ := z_bind h
      replace ho := ho.call (o_X9_enters hM2) (by simp) (by simp)
      obtain ⟨x3, hx3, h⟩ := z_bind h
      obtain ⟨rfl, rfl⟩ := z_ret2 h
      exact ho
    · replace h := (if_neg hc).symm.trans h
      obtain ⟨x2, hx2, h⟩ := z_bind h
      obtain ⟨x3, hx3, h⟩ := z_bind h
      exact o9_outlasts_43 (fun u0 u1 u2 u3 ho h => o9_outlasts_132 (fun u0 u1 u2 ho h => ih u0 u1 u2 ho h) u0 u1 u2 u3 ho h) zfuel _ _ _ _ _ ho h
set_option maxRecDepth 20000 in
set_option maxHeartbeats 4000000 in
theorem o_X9_outlasts {M : zM} {r1 : Int32} {Mr : zM} (h : f9_outlasts M = some (r1, Mr)) : zOut [40] [0, 1] M Mr := by
  have ho : zOut [40] [0, 1] M M := zOut.rf
  rw [f9_outlasts] at h
  replace ho := ho.si 39 0 (0 : Int32) (by simp)
  exact o9_outlasts_9 zfuel _ _ _ ho h
set_option maxRecDepth 20000 in
set_option maxHeartbeats 4000000 in
theorem o9_words_56 {r1 : Int32} {Mr : zM} {M0 : zM} {k91 : Int32 → Int32 → Int32 → Int32 → Int32 → Int32 → Int32 → zM → Option (Int32 × zM)} (hk91 : ∀ (v1 : Int32) (v2 : Int32) (v3 : Int32) (v4 : Int32) (v5 : Int32) (v6 : Int32) (v7 : Int32) (M : zM), zOut [40] [0, 1] M0 M → k91 v1 v2 v3 v4 v5 v6 v7 M = some (r1, Mr) → zOut [40] [0, 1] M0 Mr) : ∀ (n : Nat) (v1 : Int32) (v2 : Int32) (v3 : Int32) (v4 : Int32) (v5 : Int32) (v6 : Int32) (v7 : Int32) (v8 : Int32) (M : zM), zOut [40] [0, 1] M0 M → f9_words_56 k91 n v1 v2 v3 v4 v5 v6 v7 v8 M = some (r1, Mr) → zOut [40] [0, 1] M0 Mr := by
  intro n
  induction n with
  | zero => intro v1 v2 v3 v4 v5 v6 v7 v8 M ho h; cases h
  | succ n ih =>
    intro v1 v2 v3 v4 v5 v6 v7 v8 M ho h
    rw [f9_words_56] at h
    by_cases hc : v1 ≤ v8
    · replace h := (if_pos hc).symm.trans h
      exact hk91 _ _ _ _ _ _ _ _ ho h
    · replace h := (if_neg hc).symm.trans h
      obtain ⟨x1, hx1, h⟩ := z_bind h
      exact ih _ _ _ _ _ _ _ _ _ ho h
set_option maxRecDepth 20000 in
set_option maxHeartbeats 4000000 in
theorem o9_words_91 {r1 : Int32} {Mr : zM} {M0 : zM} {k41 : Int32 → Int32 → Int32 → Int32 → Int32 → Int32 → zM → Option (Int32 × zM)} (hk41 : ∀ (v1 : Int32) (v2 : Int32) (v3 : Int32) (v4 : Int32) (v5 : Int32) (v6 : Int32) (M : zM), zOut [40] [0, 1] M0 M → k41 v1 v2 v3 v4 v5 v6 M = some (r1, Mr) → zOut [40] [0, 1] M0 Mr) : ∀ (v1 : Int32) (v2 : Int32) (v3 : Int32) (v4 : Int32) (v5 : Int32) (v6 : Int32) (v7 : Int32) (M : zM), zOut [40] [0, 1] M0 M → f9_words_91 k41 v1 v2 v3 v4 v5 v6 v7 M = some (r1, Mr) → zOut [40] [0, 1] M0 Mr := by
  intro v1 v2 v3 v4 v5 v6 v7 M ho h
  rw [f9_words_91] at h
  obtain ⟨x1, hx1, h⟩ := z_bind h
  obtain ⟨x2, hx2, h⟩ := z_bind h
  exact hk41 _ _ _ _ _ _ _ ho h
set_option maxRecDepth 20000 in
set_option maxHeartbeats 4000000 in
theorem o9_words_41 {r1 : Int32} {Mr : zM} {M0 : zM} : ∀ (n : Nat) (v1 : Int32) (v2 : Int32) (v3 : Int32) (v4 : Int32) (v5 : Int32) (v6 : Int32) (M : zM), zOut [40] [0, 1] M0 M → f9_words_41 n v1 v2 v3 v4 v5 v6 M = some (r1, Mr) → zOut [40] [0, 1] M0 Mr := by
  intro n
  induction n with
  | zero => intro v1 v2 v3 v4 v5 v6 M ho h; cases h
  | succ n ih =>
    intro v1 v2 v3 v4 v5 v6 M ho h
    rw [f9_words_41] at h
    obtain ⟨x1, hx1, h⟩ := z_bind h
    by_cases hc : x1 < v6
    · replace h := (if_pos hc).symm.trans h
      replace ho := ho.si 39 1 (0 : Int32) (by simp)
      by_cases hc : v3 ≤ 0
      · replace h := (if_pos hc).symm.trans h
        obtain ⟨rfl, rfl⟩ := z_ret2 h
        exact ho
      · replace h := (if_neg hc).symm.trans h
        obtain ⟨M2, hM2, h⟩ := z_bind h
        replace ho := ho.call (o_X9_enters hM2) (by simp) (by simp)
        obtain ⟨M3, hM3, h⟩ := z_bind h
        replace ho := ho.call (o_X9_enters hM3) (by simp) (by simp)
        obtain ⟨rfl, rfl⟩ := z_ret2 h
        exact ho
    · replace h := (if_neg hc).symm.trans h
      exact o9_words_56 (fun u0 u1 u2 u3 u4 u5 u6 u7 ho h => o9_words_91 (fun u0 u1 u2 u3 u4 u5 u6 ho h => ih u0 u1 u2 u3 u4 u5 u6 ho h) u0 u1 u2 u3 u4 u5 u6 u7 ho h) zfuel _ _ _ _ _ _ _ _ _ ho h
set_option maxRecDepth 20000 in
set_option maxHeartbeats 4000000 in
theorem o_X9_words {v1 : Int32} {v2 : Int32} {M : zM} {r1 : Int32} {Mr : zM} (h : f9_words v1 v2 M = some (r1, Mr)) : zOut [40] [0, 1] M Mr := by
  have ho : zOut [40] [0, 1] M M := zOut.rf
  rw [f9_words] at h
  replace ho := ho.si 39 0 (0 : Int32) (by simp)
  obtain ⟨x1, hx1, h⟩ := z_bind h
  by_cases hc : x1 = 0
  · replace h := (if_pos hc).symm.trans h
    obtain ⟨rfl, rfl⟩ := z_ret2 h
    exact ho
  · replace h := (if_neg hc).symm.trans h
    obtain ⟨x2, hx2, h⟩ := z_bind h
    by_cases hc : x2 = 0
    · replace h := (if_pos hc).symm.trans h
      obtain ⟨rfl, rfl⟩ := z_ret2 h
      exact ho
    · replace h := (if_neg hc).symm.trans h
      exact o9_words_41 zfuel _ _ _ _ _ _ _ ho h
set_option maxRecDepth 20000 in
set_option maxHeartbeats 4000000 in
theorem o9_loose_56 {r1 : Int32} {Mr : zM} {M0 : zM} {k9 : Int32 → Int32 → zM → Option (Int32 × zM)} (hk9 : ∀ (v1 : Int32) (v2 : Int32) (M : zM), zOut [40] [0, 1] M0 M → k9 v1 v2 M = some (r1, Mr) → zOut [40] [0, 1] M0 Mr) : ∀ (v1 : Int32) (v2 : Int32) (s0 : Int32) (M : zM), zOut [40] [0, 1] M0 M → f9_loose_56 k9 v1 v2 s0 M = some (r1, Mr) → zOut [40] [0, 1] M0 Mr := by
  intro v1 v2 s0 M ho h
  rw [f9_loose_56] at h
  exact hk9 _ _ _ ho h
set_option maxRecDepth 20000 in
set_option maxHeartbeats 4000000 in
theorem o9_loose_9 {r1 : Int32} {Mr : zM} {M0 : zM} : ∀ (n : Nat) (v1 : Int32) (v2 : Int32) (M : zM), zOut [40] [0, 1] M0 M → f9_loose_9 n v1 v2 M = some (r1, Mr) → zOut [40] [0, 1] M0 Mr := by
  intro n
  induction n with
  | zero => intro v1 v2 M ho h; cases h
  | succ n ih =>
    intro v1 v2 M ho h
    rw [f9_loose_9] at h
    by_cases hc : (12 : Int32) ≤ v2
    · replace h := (if_pos hc).symm.trans h
      replace ho := ho.si 39 1 (0 : Int32) (by simp)
      obtain ⟨x1, hx1, h⟩ := z_bind h
      obtain ⟨M2, hM2, h⟩ := z_bind h
      replace ho := ho.call (o_X9_enters hM2) (by simp) (by simp)
      obtain ⟨x3, hx3, h⟩ := z_bind h
      obtain ⟨M4, hM4, h⟩ := z_bind h
      replace ho := ho.call (o_X9_enters hM4) (by simp) (by simp)
      obtain ⟨rfl, rfl⟩ := z_ret2 h
      exact ho
    · replace h := (if_neg hc).symm.trans h
      obtain ⟨x1, hx1, h⟩ := z_bind h
      by_cases hc : x1 = 0
      · replace h := (if_pos hc).symm.trans h
        exact o9_loose_56 (fun u0 u1 u2 ho h => ih u0 u1 u2 ho h) _ _ _ _ ho h
      · replace h := (if_neg hc).symm.trans h
        obtain ⟨x2, hx2, h⟩ := z_bind h
        exact o9_loose_56 (fun u0 u1 u2 ho h => ih u0 u1 u2 ho h) _ _ _ _ ho h
set_option maxRecDepth 20000 in
set_option maxHeartbeats 4000000 in
theorem o_X9_loose {M : zM} {r1 : Int32} {Mr : zM} (h : f9_loose M = some (r1, Mr)) : zOut [40] [0, 1] M Mr := by
  have ho : zOut [40] [0, 1] M M := zOut.rf
  rw [f9_loose] at h
  replace ho := ho.si 39 0 (0 : Int32) (by simp)
  exact o9_loose_9 zfuel _ _ _ ho h
set_option maxRecDepth 20000 in
set_option maxHeartbeats 4000000 in
theorem o9_sheds_97 {r1 : Int32} {Mr : zM} {M0 : zM} {k56 : Int32 → Int32 → Int32 → Int32 → Int32 → zM → Option (Int32 × zM)} (hk56 : ∀ (v1 : Int32) (v2 : Int32) (v4 : Int32) (v5 : Int32) (v6 : Int32) (M : zM), zOut [40, 54, 55] [0, 1] M0 M → k56 v1 v2 v4 v5 v6 M = some (r1, Mr) → zOut [40, 54, 55] [0, 1] M0 Mr) : ∀ (v1 : Int32) (v2 : Int32) (v5 : Int32) (v6 : Int32) (s0 : Int32) (s1 : Int32) (M : zM), zOut [40, 54, 55] [0, 1] M0 M → f9_sheds_97 k56 v1 v2 v5 v6 s0 s1 M = some (r1, Mr) → zOut [40, 54, 55] [0, 1] M0 Mr := by
  intro v1 v2 v5 v6 s0 s1 M ho h
  rw [f9_sheds_97] at h
  exact hk56 _ _ _ _ _ _ ho h
set_option maxRecDepth 20000 in
set_option maxHeartbeats 4000000 in
theorem o9_sheds_56 {r1 : Int32} {Mr : zM} {M0 : zM} {k106 : Int32 → Int32 → Int32 → zM → Option (Int32 × zM)} (hk106 : ∀ (v1 : Int32) (v2 : Int32) (v4 : Int32) (M : zM), zOut [40, 54, 55] [0, 1] M0 M → k106 v1 v2 v4 M = some (r1, Mr) → zOut [40, 54, 55] [0, 1] M0 Mr) : ∀ (n : Nat) (v1 : Int32) (v2 : Int32) (v4 : Int32) (v5 : Int32) (v6 : Int32) (M : zM), zOut [40, 54, 55] [0, 1] M0 M → f9_sheds_56 k106 n v1 v2 v4 v5 v6 M = some (r1, Mr) → zOut [40, 54, 55] [0, 1] M0 Mr := by
  intro n
  induction n with
  | zero => intro v1 v2 v4 v5 v6 M ho h; cases h
  | succ n ih =>
    intro v1 v2 v4 v5 v6 M ho h
    rw [f9_sheds_56] at h
    by_cases hc : (12 : Int32) ≤ v6
    · replace h := (if_pos hc).symm.trans h
      exact hk106 _ _ _ _ ho h
    · replace h := (if_neg hc).symm.trans h
      by_cases hc : v5 = 0
      · replace h := (if_pos hc).symm.trans h
        exact hk106 _ _ _ _ ho h
      · replace h := (if_neg hc).symm.trans h
        obtain ⟨x1, hx1, h⟩ := z_bind h
        by_cases hc : x1 = 0
        · replace h := (if_pos hc).symm.trans h
          exact o9_sheds_97 (fun u0 u1 u2 u3 u4 u5 ho h => ih u0 u1 u2 u3 u4 u5 ho h) _ _ _ _ _ _ _ ho h
        · replace h := (if_neg hc).symm.trans h
          obtain ⟨x2, hx2, h⟩ := z_bind h
          exact o9_sheds_97 (fun u0 u1 u2 u3 u4 u5 ho h => ih u0 u1 u2 u3 u4 u5 ho h) _ _ _ _ _ _ _ ho h
set_option maxRecDepth 20000 in
set_option maxHeartbeats 4000000 in
theorem o9_sheds_106 {r1 : Int32} {Mr : zM} {M0 : zM} {k25 : Int32 → Int32 → Int32 → zM → Option (Int32 × zM)} (hk25 : ∀ (v1 : Int32) (v2 : Int32) (v3 : Int32) (M : zM), zOut [40, 54, 55] [0, 1] M0 M → k25 v1 v2 v3 M = some (r1, Mr) → zOut [40, 54, 55] [0, 1] M0 Mr) : ∀ (v1 : Int32) (v2 : Int32) (v4 : Int32) (M : zM), zOut [40, 54, 55] [0, 1] M0 M → f9_sheds_106 k25 v1 v2 v4 M = some (r1, Mr) → zOut [40, 54, 55] [0, 1] M0 Mr := by
  intro v1 v2 v4 M ho h
  rw [f9_sheds_106] at h
  obtain ⟨x1, hx1, h⟩ := z_bind h
  exact hk25 _ _ _ _ ho h
set_option maxRecDepth 20000 in
set_option maxHeartbeats 4000000 in
theorem o9_sheds_25 {r1 : Int32} {Mr : zM} {M0 : zM} : ∀ (n : Nat) (v1 : Int32) (v2 : Int32) (v3 : Int32) (M : zM), zOut [40, 54, 55] [0, 1] M0 M → f9_sheds_25 n v1 v2 v3 M = some (r1, Mr) → zOut [40, 54, 55] [0, 1] M0 Mr := by
  intro n
  induction n with
  | zero => intro v1 v2 v3 M ho h; cases h
  | succ n ih =>
    intro v1 v2 v3 M ho h
    rw [f9_sheds_25] at h
    by_cases hc : v3 = 0
    · replace h := (if_pos hc).symm.trans h
      replace ho := ho.si 39 1 (0 : Int32) (by simp)
      obtain ⟨M1, hM1, h⟩ := z_bind h
      replace ho := ho.call (o_X9_enters hM1) (by simp) (by simp)
      obtain ⟨M2, hM2, h⟩ := z_bind h
      replace ho := ho.call (o_X9_enters hM2) (by simp) (by simp)
      obtain ⟨x3, hx3, h⟩ := z_bind h
      obtain ⟨rfl, rfl⟩ := z_ret2 h
      exact ho
    · replace h := (if_neg hc).symm.trans h
      exact o9_sheds_56 (fun u0 u1 u2 u3 ho h => o9_sheds_106 (fun u0 u1 u2 u3 ho h => ih u0 u1 u2 u3 ho h) u0 u1 u2 u3 ho h) zfuel _ _ _ _ _ _ ho h
set_option maxRecDepth 20000 in
set_option maxHeartbeats 4000000 in
theorem o_X9_sheds {M : zM} {r1 : Int32} {Mr : zM} (h : f9_sheds M = some (r1, Mr)) : zOut [40, 54, 55] [0, 1] M Mr := by
  have ho : zOut [40, 54, 55] [0, 1] M M := zOut.rf
  rw [f9_sheds] at h
  replace ho := ho.si 39 0 (0 : Int32) (by simp)
  obtain ⟨M1, hM1, h⟩ := z_bind h
  replace ho := ho.call (o_X9_laysAbove hM1) (by simp) (by simp)
  obtain ⟨x2, hx2, h⟩ := z_bind h
  exact o9_sheds_25 zfuel _ _ _ _ ho h
set_option maxRecDepth 20000 in
set_option maxHeartbeats 4000000 in
theorem o9_hangs_106 {r1 : Int32} {Mr : zM} {M0 : zM} {k31 : Int32 → Int32 → Int32 → Int32 → Int32 → zM → Option (Int32 × zM)} (hk31 : ∀ (v1 : Int32) (v2 : Int32) (v3 : Int32) (v4 : Int32) (v5 : Int32) (M : zM), zOut [40, 54, 55] [0, 1] M0 M → k31 v1 v2 v3 v4 v5 M = some (r1, Mr) → zOut [40, 54, 55] [0, 1] M0 Mr) : ∀ (v1 : Int32) (v2 : Int32) (v3 : Int32) (v4 : Int32) (v5 : Int32) (M : zM), zOut [40, 54, 55] [0, 1] M0 M → f9_hangs_106 k31 v1 v2 v3 v4 v5 M = some (r1, Mr) → zOut [40, 54, 55] [0, 1] M0 Mr := by
  intro v1 v2 v3 v4 v5 M ho h
  rw [f9_hangs_106] at h
  exact hk31 _ _ _ _ _ _ ho h
set_option maxRecDepth 20000 in
set_option maxHeartbeats 4000000 in
theorem o9_hangs_31 {r1 : Int32} {Mr : zM} {M0 : zM} : ∀ (n : Nat) (v1 : Int32) (v2 : Int32) (v3 : Int32) (v4 : Int32) (v5 : Int32) (M : zM), zOut [40, 54, 55] [0, 1] M0 M → f9_hangs_31 n v1 v2 v3 v4 v5 M = some (r1, Mr) → zOut [40, 54, 55] [0, 1] M0 Mr := by
  intro n
  induction n with
  | zero => intro v1 v2 v3 v4 v5 M ho h; cases h
  | succ n ih =>
    intro v1 v2 v3 v4 v5 M ho h
    rw [f9_hangs_31] at h
    by_cases hc : (12 : Int32) ≤ v5
    · replace h := (if_pos hc).symm.trans h
      replace ho := ho.si 39 1 (0 : Int32) (by simp)
      obtain ⟨M1, hM1, h⟩ := z_bind h
      replace ho := ho.call (o_X9_enters hM1) (by simp) (by simp)
      obtain ⟨M2, hM2, h⟩ := z_bind h
      replace ho := ho.call (o_X9_enters hM2) (by simp) (by simp)
      obtain ⟨x3, hx3, h⟩ := z_bind h
      obtain ⟨rfl, rfl⟩ := z_ret2 h
      exact ho
    · replace h := (if_neg hc).symm.trans h
      obtain ⟨x1, hx1, h⟩ := z_bind h
      by_cases hc : x1 = 0
      · replace h := (if_pos hc).symm.trans h
        exact o9_hangs_106 (fun u0 u1 u2 u3 u4 u5 ho h => ih u0 u1 u2 u3 u4 u5 ho h) _ _ _ _ _ _ ho h
      · replace h := (if_neg hc).symm.trans h
        obtain ⟨x2, hx2, h⟩ := z_bind h
        obtain ⟨x3, hx3, h⟩ := z_bind h
        obtain ⟨x4, hx4, h⟩ := z_bind h
        exact o9_hangs_106 (fun u0 u1 u2 u3 u4 u5 ho h => ih u0 u1 u2 u3 u4 u5 ho h) _ _ _ _ _ _ ho h
set_option maxRecDepth 20000 in
set_option maxHeartbeats 4000000 in
theorem o_X9_hangs {M : zM} {r1 : Int32} {Mr : zM} (h : f9_hangs M = some (r1, Mr)) : zOut [40, 54, 55] [0, 1] M Mr := by
  have ho : zOut [40, 54, 55] [0, 1] M M := zOut.rf
  rw [f9_hangs] at h
  replace ho := ho.si 39 0 (0 : Int32) (by simp)
  obtain ⟨M1, hM1, h⟩ := z_bind h
  replace ho := ho.call (o_X9_laysAbove hM1) (by simp) (by simp)
  obtain ⟨x2, hx2, h⟩ := z_bind h
  exact o9_hangs_31 zfuel _ _ _ _ _ _ ho h
set_option maxRecDepth 20000 in
set_option maxHeartbeats 4000000 in
theorem o9_spares_61 {r1 : Int32} {Mr : zM} {M0 : zM} {k25 : Int32 → Int32 → Int32 → zM → Option (Int32 × zM)} (hk25 : ∀ (v1 : Int32) (v2 : Int32) (v3 : Int32) (M : zM), zOut [40, 54, 55] [0, 1] M0 M → k25 v1 v2 v3 M = some (r1, Mr) → zOut [40, 54, 55] [0, 1] M0 Mr) : ∀ (v1 : Int32) (v3 : Int32) (s0 : Int32) (s1 : Int32) (M : zM), zOut [40, 54, 55] [0, 1] M0 M → f9_spares_61 k25 v1 v3 s0 s1 M = some (r1, Mr) → zOut [40, 54, 55] [0, 1] M0 Mr := by
  intro v1 v3 s0 s1 M ho h
  rw [f9_spares_61] at h
  exact hk25 _ _ _ _ ho h
set_option maxRecDepth 20000 in
set_option maxHeartbeats 4000000 in
theorem o9_spares_25 {r1 : Int32} {Mr : zM} {M0 : zM} : ∀ (n : Nat) (v1 : Int32) (v2 : Int32) (v3 : Int32) (M : zM), zOut [40, 54, 55] [0, 1] M0 M → f9_spares_25 n v1 v2 v3 M = some (r1, Mr) → zOut [40, 54, 55] [0, 1] M0 Mr := by
  intro n
  induction n with
  | zero => intro v1 v2 v3 M ho h; cases h
  | succ n ih =>
    intro v1 v2 v3 M ho h
    rw [f9_spares_25] at h
    by_cases hc : (12 : Int32) ≤ v3
    · replace h := (if_pos hc).symm.trans h
      replace ho := ho.si 39 1 (0 : Int32) (by simp)
      obtain ⟨x1, hx1, h⟩ := z_bind h
      obtain ⟨M2, hM2, h⟩ := z_bind h
      replace ho := ho.call (o_X9_enters hM2) (by simp) (by simp)
      obtain ⟨rfl, rfl⟩ := z_ret2 h
      exact ho
    · replace h := (if_neg hc).symm.trans h
      obtain ⟨x1, hx1, h⟩ := z_bind h
      by_cases hc : x1 = 0
      · replace h := (if_pos hc).symm.trans h
        exact o9_spares_61 (fun u0 u1 u2 u3 ho h => ih u0 u1 u2 u3 ho h) _ _ _ _ _ ho h
      · replace h := (if_neg hc).symm.trans h
        obtain ⟨x2, hx2, h⟩ := z_bind h
        exact o9_spares_61 (fun u0 u1 u2 u3 ho h => ih u0 u1 u2 u3 ho h) _ _ _ _ _ ho h
set_option maxRecDepth 20000 in
set_option maxHeartbeats 4000000 in
theorem o_X9_spares {M : zM} {r1 : Int32} {Mr : zM} (h : f9_spares M = some (r1, Mr)) : zOut [40, 54, 55] [0, 1] M Mr := by
  have ho : zOut [40, 54, 55] [0, 1] M M := zOut.rf
  rw [f9_spares] at h
  replace ho := ho.si 39 0 (0 : Int32) (by simp)
  obtain ⟨M1, hM1, h⟩ := z_bind h
  replace ho := ho.call (o_X9_laysAbove hM1) (by simp) (by simp)
  obtain ⟨x2, hx2, h⟩ := z_bind h
  exact o9_spares_25 zfuel _ _ _ _ ho h
set_option maxRecDepth 20000 in
set_option maxHeartbeats 4000000 in
theorem o9_mends_244 {r1 : Int32} {Mr : zM} {M0 : zM} {k143 : Int32 → Int32 → zM → Option (Int32 × zM)} (hk143 : ∀ (v1 : Int32) (v2 : Int32) (M : zM), zOut [40, 42, 54, 55] [0, 1] M0 M → k143 v1 v2 M = some (r1, Mr) → zOut [40, 42, 54, 55] [0, 1] M0 Mr) : ∀ (v1 : Int32) (v2 : Int32) (M : zM), zOut [40, 42, 54, 55] [0, 1] M0 M → f9_mends_244 k143 v1 v2 M = some (r1, Mr) → zOut [40, 42, 54, 55] [0, 1] M0 Mr := by
  intro v1 v2 M ho h
  rw [f9_mends_244] at h
  exact hk143 _ _ _ ho h
set_option maxRecDepth 20000 in
set_option maxHeartbeats 4000000 in
theorem o9_mends_143 {r1 : Int32} {Mr : zM} {M0 : zM} {k250 : Int32 → zM → Option (Int32 × zM)} (hk250 : ∀ (v1 : Int32) (M : zM), zOut [40, 42, 54, 55] [0, 1] M0 M → k250 v1 M = some (r1, Mr) → zOut [40, 42, 54, 55] [0, 1] M0 Mr) : ∀ (n : Nat) (v1 : Int32) (v2 : Int32) (M : zM), zOut [40, 42, 54, 55] [0, 1] M0 M → f9_mends_143 k250 n v1 v2 M = some (r1, Mr) → zOut [40, 42, 54, 55] [0, 1] M0 Mr := by
  intro n
  induction n with
  | zero => intro v1 v2 M ho h; cases h
  | succ n ih =>
    intro v1 v2 M ho h
    rw [f9_mends_143] at h
    by_cases hc : (36 : Int32) ≤ v2
    · replace h := (if_pos hc).symm.trans h
      exact hk250 _ _ ho h
    · replace h := (if_neg hc).symm.trans h
      obtain ⟨x1, hx1, h⟩ := z_bind h
      by_cases hc : x1 = 0
      · replace h := (if_pos hc).symm.trans h
        exact hk250 _ _ ho h
      · replace h := (if_neg hc).symm.trans h
        obtain ⟨x2, hx2, h⟩ := z_bind h
        by_cases hc : x2 = 0
        · replace h := (if_pos hc).symm.trans h
          exact o9_mends_244 (fun u0 u1 u2 ho h => ih u0 u1 u2 ho h) _ _ _ ho h
        · replace h := (if_neg hc).symm.trans h
          obtain ⟨M3, hM3, h⟩ := z_bind h
          replace ho := ho.call (o_X9_copies hM3) (by simp) (by simp)
          obtain ⟨p4, hp4, h⟩ := z_bind h
          replace ho := ho.call (o_X9_flipsOne hp4) (by simp) (by simp)
          obtain ⟨p5, hp5, h⟩ := z_bind h
          replace ho := ho.call (o_X9_flipsOne hp5) (by simp) (by simp)
          obtain ⟨p6, hp6, h⟩ := z_bind h
          replace ho := ho.call (o_X9_doesHang hp6) (by simp) (by simp)
          by_cases hc : p6.1 = 0
          · replace h := (if_pos hc).symm.trans h
            exact o9_mends_244 (fun u0 u1 u2 ho h => ih u0 u1 u2 ho h) _ _ _ ho h
          · replace h := (if_neg hc).symm.trans h
            replace ho := ho.si 39 1 (0 : Int32) (by simp)
            obtain ⟨M7, hM7, h⟩ := z_bind h
            replace ho := ho.call (o_X9_enters hM7) (by simp) (by simp)
            obtain ⟨M8, hM8, h⟩ := z_bind h
            replace ho := ho.call (o_X9_enters hM8) (by simp) (by simp)
            obtain ⟨rfl, rfl⟩ := z_ret2 h
            exact ho
set_option maxRecDepth 20000 in
set_option maxHeartbeats 4000000 in
theorem o9_mends_250 {r1 : Int32} {Mr : zM} {M0 : zM} {k133 : Int32 → zM → Option (Int32 × zM)} (hk133 : ∀ (v1 : Int32) (M : zM), zOut [40, 42, 54, 55] [0, 1] M0 M → k133 v1 M = some (r1, Mr) → zOut [40, 42, 54, 55] [0, 1] M0 Mr) : ∀ (v1 : Int32) (M : zM), zOut [40, 42, 54, 55] [0, 1] M0 M → f9_mends_250 k133 v1 M = some (r1, Mr) → zOut [40, 42, 54, 55] [0, 1] M0 Mr := by
  intro v1 M ho h
  rw [f9_mends_250] at h
  exact hk133 _ _ ho h
set_option maxRecDepth 20000 in
set_option maxHeartbeats 4000000 in
theorem o9_mends_133 {r1 : Int32} {Mr : zM} {M0 : zM} : ∀ (n : Nat) (v1 : Int32) (M : zM), zOut [40, 42, 54, 55] [0, 1] M0 M → f9_mends_133 n v1 M = some (r1, Mr) → zOut [40, 42, 54, 55] [0, 1] M0 Mr := by
  intro n
  induction n with
  | zero => intro v1 M ho h; cases h
  | succ n ih =>
    intro v1 M ho h
    rw [f9_mends_133] at h
    by_cases hc : (36 : Int32) ≤ v1
    · replace h := (if_pos hc).symm.trans h
      obtain ⟨rfl, rfl⟩ := z_ret2 h
      exact ho
    · replace h := (if_neg hc).symm.trans h
      exact o9_mends_143 (fun u0 u1 ho h => o9_mends_250 (fun u0 u1 ho h => ih u0 u1 ho h) u0 u1 ho h) zfuel _ _ _ ho h
set_option maxRecDepth 20000 in
set_option maxHeartbeats 4000000 in
theorem o9_mends_125 {r1 : Int32} {Mr : zM} {M0 : zM} {k57 : Int32 → zM → Option (Int32 × zM)} (hk57 : ∀ (v1 : Int32) (M : zM), zOut [40, 42, 54, 55] [0, 1] M0 M → k57 v1 M = some (r1, Mr) → zOut [40, 42, 54, 55] [0, 1] M0 Mr) : ∀ (v1 : Int32) (M : zM), zOut [40, 42, 54, 55] [0, 1] M0 M → f9_mends_125 k57 v1 M = some (r1, Mr) → zOut [40, 42, 54, 55] [0, 1] M0 Mr := by
  intro v1 M ho h
  rw [f9_mends_125] at h
  exact hk57 _ _ ho h
set_option maxRecDepth 20000 in
set_option maxHeartbeats 4000000 in
theorem o9_mends_57 {r1 : Int32} {Mr : zM} {M0 : zM} : ∀ (n : Nat) (v1 : Int32) (M : zM), zOut [40, 42, 54, 55] [0, 1] M0 M → f9_mends_57 n v1 M = some (r1, Mr) → zOut [40, 42, 54, 55] [0, 1] M0 Mr := by
  intro n
  induction n with
  | zero => intro v1 M ho h; cases h
  | succ n ih =>
    intro v1 M ho h
    rw [f9_mends_57] at h
    by_cases hc : (36 : Int32) ≤ v1
    · replace h := (if_pos hc).symm.trans h
      exact o9_mends_133 zfuel _ _ ho h
    · replace h := (if_neg hc).symm.trans h
      obtain ⟨x1, hx1, h⟩ := z_bind h
      by_cases hc : x1 = 0
      · replace h := (if_pos hc).symm.trans h
        exact o9_mends_125 (fun u0 u1 ho h => ih u0 u1 ho h) _ _ ho h
      · replace h := (if_neg hc).symm.trans h
        obtain ⟨M2, hM2, h⟩ := z_bind h
        replace ho := ho.call (o_X9_copies hM2) (by simp) (by simp)
        obtain ⟨p3, hp3, h⟩ := z_bind h
        replace ho := ho.call (o_X9_flipsOne hp3) (by simp) (by simp)
        obtain ⟨p4, hp4, h⟩ := z_bind h
        replace ho := ho.call (o_X9_doesHang hp4) (by simp) (by simp)
        by_cases hc : p4.1 = 0
        · replace h := (if_pos hc).symm.trans h
          exact o9_mends_125 (fun u0 u1 ho h => ih u0 u1 ho h) _ _ ho h
        · replace h := (if_neg hc).symm.trans h
          replace ho := ho.si 39 1 (0 : Int32) (by simp)
          obtain ⟨M5, hM5, h⟩ := z_bind h
          replace ho := ho.call (o_X9_enters hM5) (by simp) (by simp)
          obtain ⟨rfl, rfl⟩ := z_ret2 h
          exact ho
set_option maxRecDepth 20000 in
set_option maxHeartbeats 4000000 in
theorem o_X9_mends {M : zM} {r1 : Int32} {Mr : zM} (h : f9_mends M = some (r1, Mr)) : zOut [40, 42, 54, 55] [0, 1] M Mr := by
  have ho : zOut [40, 42, 54, 55] [0, 1] M M := zOut.rf
  rw [f9_mends] at h
  replace ho := ho.si 39 0 (0 : Int32) (by simp)
  obtain ⟨M1, hM1, h⟩ := z_bind h
  replace ho := ho.call (o_X9_copies hM1) (by simp) (by simp)
  obtain ⟨p2, hp2, h⟩ := z_bind h
  replace ho := ho.call (o_X9_doesHang hp2) (by simp) (by simp)
  replace ho := ho.si 39 1 (if p2.1 = 0 then (p2.2.1 39 1) else (0 : Int32)) (by simp)
  obtain ⟨x3, hx3, h⟩ := z_bind h
  obtain ⟨x4, hx4, h⟩ := z_bind h
  by_cases hc : x4 = 0
  · replace h := (if_pos hc).symm.trans h
    exact o9_mends_57 zfuel _ _ ho h
  · replace h := (if_neg hc).symm.trans h
    obtain ⟨rfl, rfl⟩ := z_ret2 h
    exact ho
set_option maxRecDepth 20000 in
set_option maxHeartbeats 4000000 in
theorem o9_endures_158 {r1 : Int32} {Mr : zM} {M0 : zM} {k90 : Int32 → Int32 → Int32 → Int32 → zM → Option (Int32 × zM)} (hk90 : ∀ (v1 : Int32) (v2 : Int32) (v3 : Int32) (v5 : Int32) (M : zM), zOut [40, 54, 55, 56, 58] [0, 1] M0 M → k90 v1 v2 v3 v5 M = some (r1, Mr) → zOut [40, 54, 55, 56, 58] [0, 1] M0 Mr) : ∀ (v1 : Int32) (v2 : Int32) (v3 : Int32) (v5 : Int32) (s1 : Int32) (s2 : Int32) (M : zM), zOut [40, 54, 55, 56, 58] [0, 1] M0 M → f9_endures_158 k90 v1 v2 v3 v5 s1 s2 M = some (r1, Mr) → zOut [40, 54, 55, 56, 58] [0, 1] M0 Mr := by
  intro v1 v2 v3 v5 s1 s2 M ho h
  rw [f9_endures_158] at h
  obtain ⟨M1, hM1, h⟩ := z_bind h
  replace ho := ho.pI hM1 (by simp)
  exact hk90 _ _ _ _ _ ho h
set_option maxRecDepth 20000 in
set_option maxHeartbeats 4000000 in
theorem o9_endures_152 {r1 : Int32} {Mr : zM} {M0 : zM} {k90 : Int32 → Int32 → Int32 → Int32 → zM → Option (Int32 × zM)} (hk90 : ∀ (v1 : Int32) (v2 : Int32) (v3 : Int32) (v5 : Int32) (M : zM), zOut [40, 54, 55, 56, 58] [0, 1] M0 M → k90 v1 v2 v3 v5 M = some (r1, Mr) → zOut [40, 54, 55, 56, 58] [0, 1] M0 Mr) : ∀ (v1 : Int32) (v2 : Int32) (v3 : Int32) (v5 : Int32) (s1 : Int32) (M : zM), zOut [40, 54, 55, 56, 58] [0, 1] M0 M → f9_endures_152 k90 v1 v2 v3 v5 s1 M = some (r1, Mr) → zOut [40, 54, 55, 56, 58] [0, 1] M0 Mr := by
  intro v1 v2 v3 v5 s1 M ho h
  rw [f9_endures_152] at h
  obtain ⟨x1, hx1, h⟩ := z_bind h
  exact o9_endures_158 hk90 _ _ _ _ _ _ _ ho h
set_option maxRecDepth 20000 in
set_option maxHeartbeats 4000000 in
theorem o9_endures_90 {r1 : Int32} {Mr : zM} {M0 : zM} {k165 : Int32 → Int32 → Int32 → zM → Option (Int32 × zM)} (hk165 : ∀ (v1 : Int32) (v2 : Int32) (v3 : Int32) (M : zM), zOut [40, 54, 55, 56, 58] [0, 1] M0 M → k165 v1 v2 v3 M = some (r1, Mr) → zOut [40, 54, 55, 56, 58] [0, 1] M0 Mr) : ∀ (n : Nat) (v1 : Int32) (v2 : Int32) (v3 : Int32) (v5 : Int32) (M : zM), zOut [40, 54, 55, 56, 58] [0, 1] M0 M → f9_endures_90 k165 n v1 v2 v3 v5 M = some (r1, Mr) → zOut [40, 54, 55, 56, 58] [0, 1] M0 Mr := by
  intro n
  induction n with
  | zero => intro v1 v2 v3 v5 M ho h; cases h
  | succ n ih =>
    intro v1 v2 v3 v5 M ho h
    rw [f9_endures_90] at h
    by_cases hc : (12 : Int32) ≤ v5
    · replace h := (if_pos hc).symm.trans h
      exact hk165 _ _ _ _ ho h
    · replace h := (if_neg hc).symm.trans h
      obtain ⟨x1, hx1, h⟩ := z_bind h
      by_cases hc : x1 = 0
      · replace h := (if_pos hc).symm.trans h
        exact o9_endures_152 (fun u0 u1 u2 u3 u4 ho h => ih u0 u1 u2 u3 u4 ho h) _ _ _ _ _ _ ho h
      · replace h := (if_neg hc).symm.trans h
        obtain ⟨x2, hx2, h⟩ := z_bind h
        by_cases hc : x2 = 0
        · replace h := (if_pos hc).symm.trans h
          exact o9_endures_152 (fun u0 u1 u2 u3 u4 ho h => ih u0 u1 u2 u3 u4 ho h) _ _ _ _ _ _ ho h
        · replace h := (if_neg hc).symm.trans h
          obtain ⟨x3, hx3, h⟩ := z_bind h
          obtain ⟨x4, hx4, h⟩ := z_bind h
          exact o9_endures_158 (fun u0 u1 u2 u3 u4 ho h => ih u0 u1 u2 u3 u4 ho h) _ _ _ _ _ _ _ ho h
set_option maxRecDepth 20000 in
set_option maxHeartbeats 4000000 in
theorem o9_endures_165 {r1 : Int32} {Mr : zM} {M0 : zM} {k21 : Int32 → Int32 → Int32 → zM → Option (Int32 × zM)} (hk21 : ∀ (v1 : Int32) (v2 : Int32) (v3 : Int32) (M : zM), zOut [40, 54, 55, 56, 58] [0, 1] M0 M → k21 v1 v2 v3 M = some (r1, Mr) → zOut [40, 54, 55, 56, 58] [0, 1] M0 Mr) : ∀ (v1 : Int32) (v2 : Int32) (v3 : Int32) (M : zM), zOut [40, 54, 55, 56, 58] [0, 1] M0 M → f9_endures_165 k21 v1 v2 v3 M = some (r1, Mr) → zOut [40, 54, 55, 56, 58] [0, 1] M0 Mr := by
  intro v1 v2 v3 M ho h
  rw [f9_endures_165] at h
  exact hk21 _ _ _ _ ho h
set_option maxRecDepth 20000 in
set_option maxHeartbeats 4000000 in
theorem o9_endures_79 {r1 : Int32} {Mr : zM} {M0 : zM} {k21 : Int32 → Int32 → Int32 → zM → Option (Int32 × zM)} (hk21 : ∀ (v1 : Int32) (v2 : Int32) (v3 : Int32) (M : zM), zOut [40, 54, 55, 56, 58] [0, 1] M0 M → k21 v1 v2 v3 M = some (r1, Mr) → zOut [40, 54, 55, 56, 58] [0, 1] M0 Mr) : ∀ (v1 : Int32) (v3 : Int32) (s0 : Int32) (M : zM), zOut [40, 54, 55, 56, 58] [0, 1] M0 M → f9_endures_79 k21 v1 v3 s0 M = some (r1, Mr) → zOut [40, 54, 55, 56, 58] [0, 1] M0 Mr := by
  intro v1 v3 s0 M ho h
  rw [f9_endures_79] at h
  obtain ⟨M1, hM1, h⟩ := z_bind h
  replace ho := ho.pI hM1 (by simp)
  exact o9_endures_90 (fun u0 u1 u2 u3 ho h => o9_endures_165 hk21 u0 u1 u2 u3 ho h) zfuel _ _ _ _ _ ho h
set_option maxRecDepth 20000 in
set_option maxHeartbeats 4000000 in
theorem o9_endures_78 {r1 : Int32} {Mr : zM} {M0 : zM} {k21 : Int32 → Int32 → Int32 → zM → Option (Int32 × zM)} (hk21 : ∀ (v1 : Int32) (v2 : Int32) (v3 : Int32) (M : zM), zOut [40, 54, 55, 56, 58] [0, 1] M0 M → k21 v1 v2 v3 M = some (r1, Mr) → zOut [40, 54, 55, 56, 58] [0, 1] M0 Mr) : ∀ (v1 : Int32) (v2 : Int32) (v3 : Int32) (M : zM), zOut [40, 54, 55, 56, 58] [0, 1] M0 M → f9_endures_78 k21 v1 v2 v3 M = some (r1, Mr) → zOut [40, 54, 55, 56, 58] [0, 1] M0 Mr := by
  intro v1 v2 v3 M ho h
  rw [f9_endures_78] at h
  exact o9_endures_79 hk21 _ _ _ _ ho h
set_option maxRecDepth 20000 in
set_option maxHeartbeats 4000000 in
theorem o9_endures_52 {r1 : Int32} {Mr : zM} {M0 : zM} {k21 : Int32 → Int32 → Int32 → zM → Option (Int32 × zM)} (hk21 : ∀ (v1 : Int32) (v2 : Int32) (v3 : Int32) (M : zM), zOut [40, 54, 55, 56, 58] [0, 1] M0 M → k21 v1 v2 v3 M = some (r1, Mr) → zOut [40, 54, 55, 56, 58] [0, 1] M0 Mr) : ∀ (v1 : Int32) (v2 : Int32) (v3 : Int32) (s0 : Int32) (M : zM), zOut [40, 54, 55, 56, 58] [0, 1] M0 M → f9_endures_52 k21 v1 v2 v3 s0 M = some (r1, Mr) → zOut [40, 54, 55, 56, 58] [0, 1] M0 Mr := by
  intro v1 v2 v3 s0 M ho h
  rw [f9_endures_52] at h
  by_cases hc : s0 = 0
  · replace h := (if_pos hc).symm.trans h
    exact o9_endures_78 hk21 _ _ _ _ ho h
  · replace h := (if_neg hc).symm.trans h
    by_cases hc : v2 < 0
    · replace h := (if_pos hc).symm.trans h
      exact o9_endures_79 hk21 _ _ _ _ ho h
    · replace h := (if_neg hc).symm.trans h
      obtain ⟨x1, hx1, h⟩ := z_bind h
      obtain ⟨x2, hx2, h⟩ := z_bind h
      exact o9_endures_79 hk21 _ _ _ _ ho h
set_option maxRecDepth 20000 in
set_option maxHeartbeats 4000000 in
theorem o9_endures_203 {r1 : Int32} {Mr : zM} {M0 : zM} : ∀ (v2 : Int32) (s1 : Int64) (M : zM), zOut [40, 54, 55, 56, 58] [0, 1] M0 M → f9_endures_203 v2 s1 M = some (r1, Mr) → zOut [40, 54, 55, 56, 58] [0, 1] M0 Mr := by
  intro v2 s1 M ho h
  rw [f9_endures_203] at h
  obtain ⟨M1, hM1, h⟩ := z_bind h
  replace ho := ho.call (o_X9_enters hM1) (by simp) (by simp)
  obtain ⟨x2, hx2, h⟩ := z_bind h
  obtain ⟨rfl, rfl⟩ := z_ret2 h
  exact ho
set_option maxRecDepth 20000 in
set_option maxHeartbeats 4000000 in
theorem o9_endures_21 {r1 : Int32} {Mr : zM} {M0 : zM} : ∀ (n : Nat) (v1 : Int32) (v2 : Int32) (v3 : Int32) (M : zM), zOut [40, 54, 55, 56, 58] [0, 1] M0 M → f9_endures_21 n v1 v2 v3 M = some (r1, Mr) → zOut [40, 54, 55, 56, 58] [0, 1] M0 Mr := by
  intro n
  induction n with
  | zero => intro v1 v2 v3 M ho h; cases h
  | succ n ih =>
    intro v1 v2 v3 M ho h
    rw [f9_endures_21] at h
    by_cases hc : v1 < v3
    · replace h := (if_pos hc).symm.trans h
      replace ho := ho.si 39 1 (0 : Int32) (by simp)
      obtain ⟨M1, hM1, h⟩ := z_bind h
      replace ho := ho.call (o_X9_enters hM1) (by simp) (by simp)
      obtain ⟨x2, hx2, h⟩ := z_bind h
      by_cases hc : x2 = 0
      · replace h := (if_pos hc).symm.trans h
        exact o9_endures_203 _ _ _ ho h
      · replace h := (if_neg hc).symm.trans h
        obtain ⟨x3, hx3, h⟩ := z_bind h
        exact o9_endures_203 _ _ _ ho h
    · replace h := (if_neg hc).symm.trans h
      by_cases hc : (v3 &&& (v1 ^^^ (-1 : Int32))) = 0
      · replace h := (if_pos hc).symm.trans h
        obtain ⟨x1, hx1, h⟩ := z_bind h
        exact o9_endures_52 (fun u0 u1 u2 u3 ho h => ih u0 u1 u2 u3 ho h) _ _ _ _ _ ho h
      · replace h := (if_neg hc).symm.trans h
        exact o9_endures_52 (fun u0 u1 u2 u3 ho h => ih u0 u1 u2 u3 ho h) _ _ _ _ _ ho h
set_option maxRecDepth 20000 in
set_option maxHeartbeats 4000000 in
theorem o_X9_endures {M : zM} {r1 : Int32} {Mr : zM} (h : f9_endures M = some (r1, Mr)) : zOut [40, 54, 55, 56, 58] [0, 1] M Mr := by
  have ho : zOut [40, 54, 55, 56, 58] [0, 1] M M := zOut.rf
  rw [f9_endures] at h
  replace ho := ho.si 39 0 (0 : Int32) (by simp)
  obtain ⟨M1, hM1, h⟩ := z_bind h
  replace ho := ho.call (o_X9_laysHangs hM1) (by simp) (by simp)
  obtain ⟨x2, hx2, h⟩ := z_bind h
  exact o9_endures_21 zfuel _ _ _ _ ho h
set_option maxRecDepth 20000 in
set_option maxHeartbeats 4000000 in
theorem o9_differs_110 {r1 : Int32} {Mr : zM} {M0 : zM} {k190 : Int32 → Int32 → Int32 → Int32 → Int32 → Int32 → zM → Option (Int32 × zM)} (hk190 : ∀ (v2 : Int32) (v3 : Int32) (v4 : Int32) (v5 : Int32) (v6 : Int32) (v7 : Int32) (M : zM), zOut [40, 44] [0, 1, 7, 8, 9, 10] M0 M → k190 v2 v3 v4 v5 v6 v7 M = some (r1, Mr) → zOut [40, 44] [0, 1, 7, 8, 9, 10] M0 Mr) : ∀ (n : Nat) (v2 : Int32) (v3 : Int32) (v4 : Int32) (v5 : Int32) (v6 : Int32) (v7 : Int32) (v8 : Int32) (M : zM), zOut [40, 44] [0, 1, 7, 8, 9, 10] M0 M → f9_differs_110 k190 n v2 v3 v4 v5 v6 v7 v8 M = some (r1, Mr) → zOut [40, 44] [0, 1, 7, 8, 9, 10] M0 Mr := by
  intro n
  induction n with
  | zero => intro v2 v3 v4 v5 v6 v7 v8 M ho h; cases h
  | succ n ih =>
    intro v2 v3 v4 v5 v6 v7 v8 M ho h
    rw [f9_differs_110] at h
    by_cases hc : (M.1 41 7) ≤ v8
    · replace h := (if_pos hc).symm.trans h
      exact hk190 _ _ _ _ _ _ _ ho h
    · replace h := (if_neg hc).symm.trans h
      obtain ⟨x1, hx1, h⟩ := z_bind h
      obtain ⟨x2, hx2, h⟩ := z_bind h
      obtain ⟨x3, hx3, h⟩ := z_bind h
      obtain ⟨x4, hx4, h⟩ := z_bind h
      obtain ⟨x5, hx5, h⟩ := z_bind h
      obtain ⟨x6, hx6, h⟩ := z_bind h
      obtain ⟨x7, hx7, h⟩ := z_bind h
      exact ih _ _ _ _ _ _ _ _ ho h
set_option maxRecDepth 20000 in
set_option maxHeartbeats 4000000 in
theorem o9_differs_190 {r1 : Int32} {Mr : zM} {M0 : zM} {k95 : Int32 → Int32 → Int32 → Int32 → Int32 → Int32 → zM → Option (Int32 × zM)} (hk95 : ∀ (v2 : Int32) (v3 : Int32) (v4 : Int32) (v5 : Int32) (v6 : Int32) (v7 : Int32) (M : zM), zOut [40, 44] [0, 1, 7, 8, 9, 10] M0 M → k95 v2 v3 v4 v5 v6 v7 M = some (r1, Mr) → zOut [40, 44] [0, 1, 7, 8, 9, 10] M0 Mr) : ∀ (v2 : Int32) (v3 : Int32) (v4 : Int32) (v5 : Int32) (v6 : Int32) (v7 : Int32) (M : zM), zOut [40, 44] [0, 1, 7, 8, 9, 10] M0 M → f9_differs_190 k95 v2 v3 v4 v5 v6 v7 M = some (r1, Mr) → zOut [40, 44] [0, 1, 7, 8, 9, 10] M0 Mr := by
  intro v2 v3 v4 v5 v6 v7 M ho h
  rw [f9_differs_190] at h
  exact hk95 _ _ _ _ _ _ _ ho h
set_option maxRecDepth 20000 in
set_option maxHeartbeats 4000000 in
theorem o9_differs_95 {r1 : Int32} {Mr : zM} {M0 : zM} {k196 : Int32 → Int32 → Int32 → Int32 → Int32 → zM → Option (Int32 × zM)} (hk196 : ∀ (v2 : Int32) (v3 : Int32) (v4 : Int32) (v5 : Int32) (v6 : Int32) (M : zM), zOut [40, 44] [0, 1, 7, 8, 9, 10] M0 M → k196 v2 v3 v4 v5 v6 M = some (r1, Mr) → zOut [40, 44] [0, 1, 7, 8, 9, 10] M0 Mr) : ∀ (n : Nat) (v2 : Int32) (v3 : Int32) (v4 : Int32) (v5 : Int32) (v6 : Int32) (v7 : Int32) (M : zM), zOut [40, 44] [0, 1, 7, 8, 9, 10] M0 M → f9_differs_95 k196 n v2 v3 v4 v5 v6 v7 M = some (r1, Mr) → zOut [40, 44] [0, 1, 7, 8, 9, 10] M0 Mr := by
  intro n
  induction n with
  | zero => intro v2 v3 v4 v5 v6 v7 M ho h; cases h
  | succ n ih =>
    intro v2 v3 v4 v5 v6 v7 M ho h
    rw [f9_differs_95] at h
    by_cases hc : (M.1 41 6) ≤ v7
    · replace h := (if_pos hc).symm.trans h
      exact hk196 _ _ _ _ _ _ ho h
    · replace h := (if_neg hc).symm.trans h
      exact o9_differs_110 (fun u0 u1 u2 u3 u4 u5 u6 ho h => o9_differs_190 (fun u0 u1 u2 u3 u4 u5 u6 ho h => ih u0 u1 u2 u3 u4 u5 u6 ho h) u0 u1 u2 u3 u4 u5 u6 ho h) zfuel _ _ _ _ _ _ _ _ ho h
set_option maxRecDepth 20000 in
set_option maxHeartbeats 4000000 in
theorem o9_differs_246 {r1 : Int32} {Mr : zM} {M0 : zM} {k77 : Int32 → Int32 → Int32 → Int32 → zM → Option (Int32 × zM)} (hk77 : ∀ (v2 : Int32) (v3 : Int32) (v4 : Int32) (v5 : Int32) (M : zM), zOut [40, 44] [0, 1, 7, 8, 9, 10] M0 M → k77 v2 v3 v4 v5 M = some (r1, Mr) → zOut [40, 44] [0, 1, 7, 8, 9, 10] M0 Mr) : ∀ (v2 : Int32) (v3 : Int32) (v4 : Int32) (v5 : Int32) (M : zM), zOut [40, 44] [0, 1, 7, 8, 9, 10] M0 M → f9_differs_246 k77 v2 v3 v4 v5 M = some (r1, Mr) → zOut [40, 44] [0, 1, 7, 8, 9, 10] M0 Mr := by
  intro v2 v3 v4 v5 M ho h
  rw [f9_differs_246] at h
  exact hk77 _ _ _ _ _ ho h
set_option maxRecDepth 20000 in
set_option maxHeartbeats 4000000 in
theorem o9_differs_196 {r1 : Int32} {Mr : zM} {M0 : zM} {k77 : Int32 → Int32 → Int32 → Int32 → zM → Option (Int32 × zM)} (hk77 : ∀ (v2 : Int32) (v3 : Int32) (v4 : Int32) (v5 : Int32) (M : zM), zOut [40, 44] [0, 1, 7, 8, 9, 10] M0 M → k77 v2 v3 v4 v5 M = some (r1, Mr) → zOut [40, 44] [0, 1, 7, 8, 9, 10] M0 Mr) : ∀ (v2 : Int32) (v3 : Int32) (v4 : Int32) (v5 : Int32) (v6 : Int32) (M : zM), zOut [40, 44] [0, 1, 7, 8, 9, 10] M0 M → f9_differs_196 k77 v2 v3 v4 v5 v6 M = some (r1, Mr) → zOut [40, 44] [0, 1, 7, 8, 9, 10] M0 Mr := by
  intro v2 v3 v4 v5 v6 M ho h
  rw [f9_differs_196] at h
  by_cases hc : v3 ≤ v6
  · replace h := (if_pos hc).symm.trans h
    exact o9_differs_246 hk77 _ _ _ _ _ ho h
  · replace h := (if_neg hc).symm.trans h
    replace ho := ho.si 39 1 (0 : Int32) (by simp)
    obtain ⟨M1, hM1, h⟩ := z_bind h
    replace ho := ho.call (o_X9_enters hM1) (by simp) (by simp)
    obtain ⟨M2, hM2, h⟩ := z_bind h
    replace ho := ho.call (o_X9_enters hM2) (by simp) (by simp)
    obtain ⟨M3, hM3, h⟩ := z_bind h
    replace ho := ho.call (o_X9_enters hM3) (by simp) (by simp)
    exact o9_differs_246 hk77 _ _ _ _ _ ho h
set_option maxRecDepth 20000 in
set_option maxHeartbeats 4000000 in
theorem o9_differs_77 {r1 : Int32} {Mr : zM} {M0 : zM} {k252 : Int32 → Int32 → Int32 → zM → Option (Int32 × zM)} (hk252 : ∀ (v2 : Int32) (v3 : Int32) (v4 : Int32) (M : zM), zOut [40, 44] [0, 1, 7, 8, 9, 10] M0 M → k252 v2 v3 v4 M = some (r1, Mr) → zOut [40, 44] [0, 1, 7, 8, 9, 10] M0 Mr) : ∀ (n : Nat) (v2 : Int32) (v3 : Int32) (v4 : Int32) (v5 : Int32) (M : zM), zOut [40, 44] [0, 1, 7, 8, 9, 10] M0 M → f9_differs_77 k252 n v2 v3 v4 v5 M = some (r1, Mr) → zOut [40, 44] [0, 1, 7, 8, 9, 10] M0 Mr := by
  intro n
  induction n with
  | zero => intro v2 v3 v4 v5 M ho h; cases h
  | succ n ih =>
    intro v2 v3 v4 v5 M ho h
    rw [f9_differs_77] at h
    by_cases hc : (M.1 41 7) ≤ v5
    · replace h := (if_pos hc).symm.trans h
      exact hk252 _ _ _ _ ho h
    · replace h := (if_neg hc).symm.trans h
      exact o9_differs_95 (fun u0 u1 u2 u3 u4 u5 ho h => o9_differs_196 (fun u0 u1 u2 u3 u4 ho h => ih u0 u1 u2 u3 u4 ho h) u0 u1 u2 u3 u4 u5 ho h) zfuel _ _ _ _ _ _ _ ho h
set_option maxRecDepth 20000 in
set_option maxHeartbeats 4000000 in
theorem o9_differs_252 {r1 : Int32} {Mr : zM} {M0 : zM} {k62 : Int32 → Int32 → Int32 → zM → Option (Int32 × zM)} (hk62 : ∀ (v2 : Int32) (v3 : Int32) (v4 : Int32) (M : zM), zOut [40, 44] [0, 1, 7, 8, 9, 10] M0 M → k62 v2 v3 v4 M = some (r1, Mr) → zOut [40, 44] [0, 1, 7, 8, 9, 10] M0 Mr) : ∀ (v2 : Int32) (v3 : Int32) (v4 : Int32) (M : zM), zOut [40, 44] [0, 1, 7, 8, 9, 10] M0 M → f9_differs_252 k62 v2 v3 v4 M = some (r1, Mr) → zOut [40, 44] [0, 1, 7, 8, 9, 10] M0 Mr := by
  intro v2 v3 v4 M ho h
  rw [f9_differs_252] at h
  exact hk62 _ _ _ _ ho h
set_option maxRecDepth 20000 in
set_option maxHeartbeats 4000000 in
theorem o9_differs_62 {r1 : Int32} {Mr : zM} {M0 : zM} : ∀ (n : Nat) (v2 : Int32) (v3 : Int32) (v4 : Int32) (M : zM), zOut [40, 44] [0, 1, 7, 8, 9, 10] M0 M → f9_differs_62 n v2 v3 v4 M = some (r1, Mr) → zOut [40, 44] [0, 1, 7, 8, 9, 10] M0 Mr := by
  intro n
  induction n with
  | zero => intro v2 v3 v4 M ho h; cases h
  | succ n ih =>
    intro v2 v3 v4 M ho h
    rw [f9_differs_62] at h
    by_cases hc : (M.1 41 6) ≤ v4
    · replace h := (if_pos hc).symm.trans h
      obtain ⟨rfl, rfl⟩ := z_ret2 h
      exact ho
    · replace h := (if_neg hc).symm.trans h
      exact o9_differs_77 (fun u0 u1 u2 u3 ho h => o9_differs_252 (fun u0 u1 u2 u3 ho h => ih u0 u1 u2 u3 ho h) u0 u1 u2 u3 ho h) zfuel _ _ _ _ _ ho h
set_option maxRecDepth 20000 in
set_option maxHeartbeats 4000000 in
theorem o_X9_differs {M : zM} {r1 : Int32} {Mr : zM} (h : f9_differs M = some (r1, Mr)) : zOut [40, 44] [0, 1, 7, 8, 9, 10] M Mr := by
  have ho : zOut [40, 44] [0, 1, 7, 8, 9, 10] M M := zOut.rf
  rw [f9_differs] at h
  replace ho := ho.si 39 0 (0 : Int32) (by simp)
  obtain ⟨p1, hp1, h⟩ := z_bind h
  replace ho := ho.call (o_X9_readsCloth hp1) (by simp) (by simp)
  by_cases hc : 0 ≤ p1.1
  · replace h := (if_pos hc).symm.trans h
    by_cases hc : (p1.2.1 44 6) = (p1.2.1 41 6)
    · replace h := (if_pos hc).symm.trans h
      by_cases hc : (p1.2.1 44 7) = (p1.2.1 41 7)
      · replace h := (if_pos hc).symm.trans h
        exact o9_differs_62 zfuel _ _ _ _ ho h
      · replace h := (if_neg hc).symm.trans h
        obtain ⟨rfl, rfl⟩ := z_ret2 h
        exact ho
    · replace h := (if_neg hc).symm.trans h
      obtain ⟨rfl, rfl⟩ := z_ret2 h
      exact ho
  · replace h := (if_neg hc).symm.trans h
    obtain ⟨rfl, rfl⟩ := z_ret2 h
    exact ho
set_option maxRecDepth 20000 in
set_option maxHeartbeats 4000000 in
theorem o9_looks_50 {r1 : Int32} {Mr : zM} {M0 : zM} {k14 : Int32 → Int32 → zM → Option (Int32 × zM)} (hk14 : ∀ (v1 : Int32) (v2 : Int32) (M : zM), zOut [40] [0, 1] M0 M → k14 v1 v2 M = some (r1, Mr) → zOut [40] [0, 1] M0 Mr) : ∀ (v1 : Int32) (v2 : Int32) (s0 : Int32) (M : zM), zOut [40] [0, 1] M0 M → f9_looks_50 k14 v1 v2 s0 M = some (r1, Mr) → zOut [40] [0, 1] M0 Mr := by
  intro v1 v2 s0 M ho h
  rw [f9_looks_50] at h
  obtain ⟨M1, hM1, h⟩ := z_bind h
  replace ho := ho.call (o_X9_enters hM1) (by simp) (by simp)
  exact hk14 _ _ _ ho h
set_option maxRecDepth 20000 in
set_option maxHeartbeats 4000000 in
theorem o9_looks_41 {r1 : Int32} {Mr : zM} {M0 : zM} {k14 : Int32 → Int32 → zM → Option (Int32 × zM)} (hk14 : ∀ (v1 : Int32) (v2 : Int32) (M : zM), zOut [40] [0, 1] M0 M → k14 v1 v2 M = some (r1, Mr) → zOut [40] [0, 1] M0 Mr) : ∀ (v1 : Int32) (v2 : Int32) (M : zM), zOut [40] [0, 1] M0 M → f9_looks_41 k14 v1 v2 M = some (r1, Mr) → zOut [40] [0, 1] M0 Mr := by
  intro v1 v2 M ho h
  rw [f9_looks_41] at h
  obtain ⟨x1, hx1, h⟩ := z_bind h
  exact o9_looks_50 hk14 _ _ _ _ ho h
set_option maxRecDepth 20000 in
set_option maxHeartbeats 4000000 in
theorem o9_looks_14 {r1 : Int32} {Mr : zM} {M0 : zM} : ∀ (n : Nat) (v1 : Int32) (v2 : Int32) (M : zM), zOut [40] [0, 1] M0 M → f9_looks_14 n v1 v2 M = some (r1, Mr) → zOut [40] [0, 1] M0 Mr := by
  intro n
  induction n with
  | zero => intro v1 v2 M ho h; cases h
  | succ n ih =>
    intro v1 v2 M ho h
    rw [f9_looks_14] at h
    by_cases hc : (5 : Int32) ≤ v2
    · replace h := (if_pos hc).symm.trans h
      obtain ⟨rfl, rfl⟩ := z_ret2 h
      exact ho
    · replace h := (if_neg hc).symm.trans h
      by_cases hc : v2 < (4 : Int32)
      · replace h := (if_pos hc).symm.trans h
        exact o9_looks_41 (fun u0 u1 u2 ho h => ih u0 u1 u2 ho h) _ _ _ ho h
      · replace h := (if_neg hc).symm.trans h
        by_cases hc : (M.1 41 6) = (M.1 41 7)
        · replace h := (if_pos hc).symm.trans h
          exact o9_looks_41 (fun u0 u1 u2 ho h => ih u0 u1 u2 ho h) _ _ _ ho h
        · replace h := (if_neg hc).symm.trans h
          exact o9_looks_50 (fun u0 u1 u2 ho h => ih u0 u1 u2 ho h) _ _ _ _ ho h
set_option maxRecDepth 20000 in
set_option maxHeartbeats 4000000 in
theorem o_X9_looks {M : zM} {r1 : Int32} {Mr : zM} (h : f9_looks M = some (r1, Mr)) : zOut [40] [0, 1] M Mr := by
  have ho : zOut [40] [0, 1] M M := zOut.rf
  rw [f9_looks] at h
  replace ho := ho.si 39 0 (0 : Int32) (by simp)
  replace ho := ho.si 39 1 (0 : Int32) (by simp)
  exact o9_looks_14 zfuel _ _ _ ho h
