/-! the invariant holds at the start -/
theorem zfrA (M : zM) (n k j : Nat) : (zfr M n).1 k j = if k = n then 0 else M.1 k j := by
  by_cases h : k = n <;> simp [zfr, h]
theorem zfrB (M : zM) (n k j : Nat) : (zfr M n).2 k j = if k = n then 0 else M.2 k j := by
  by_cases h : k = n <;> simp [zfr, h]
set_option maxHeartbeats 4000000 in
theorem zst_a (M : zM) : (zstart M).1 1 0 = 1 ∧ (zstart M).1 1 1 = 1 ∧ (zstart M).1 1 2 = 0 ∧ (zstart M).1 7 1 = 0 ∧ (zstart M).1 9 1 = 0 := by
  refine ⟨?_, ?_, ?_, ?_, ?_⟩ <;> simp [zstart, mm_X9_init_39, mm_X8_init_0, mm_X7_init_1, mm_X7_init_3, mm_X7_init_5, mm_X6_init_7, mm_X3_init_9, mm_X4_init_11, mm_X4_init_16, mm_X0_init_21, mm_X1_init_27, mm_X5_init_30, mm_X2_init_33, mm_X2_init_36, zpp, zfrA, zfrB, zsi1, zsi2, zsj1, zsj2]
set_option maxHeartbeats 4000000 in
theorem zst_b (M : zM) (j : Nat) : (zstart M).1 2 j = if j = 0 then 1 else 0 := by
  by_cases h : j = 0
  · subst h
    simp [zstart, mm_X9_init_39, mm_X8_init_0, mm_X7_init_1, mm_X7_init_3, mm_X7_init_5, mm_X6_init_7, mm_X3_init_9, mm_X4_init_11, mm_X4_init_16, mm_X0_init_21, mm_X1_init_27, mm_X5_init_30, mm_X2_init_33, mm_X2_init_36, zpp, zfrA, zfrB, zsi1, zsi2, zsj1, zsj2]
  · simp [h, zstart, mm_X9_init_39, mm_X8_init_0, mm_X7_init_1, mm_X7_init_3, mm_X7_init_5, mm_X6_init_7, mm_X3_init_9, mm_X4_init_11, mm_X4_init_16, mm_X0_init_21, mm_X1_init_27, mm_X5_init_30, mm_X2_init_33, mm_X2_init_36, zpp, zfrA, zfrB, zsi1, zsi2, zsj1, zsj2]
set_option maxHeartbeats 4000000 in
theorem zst_c (M : zM) : (zstart M).1 11 1 = 3 ∧ (zstart M).1 12 0 = 1099 ∧ (zstart M).1 12 1 = 1105 ∧ (zstart M).1 12 2 = 1045 ∧ (zstart M).2 21 5 = 0 ∧ (zstart M).1 30 2 = 0 ∧ (zstart M).1 33 2 = 0 := by
  refine ⟨?_, ?_, ?_, ?_, ?_, ?_, ?_⟩ <;> simp [zstart, mm_X9_init_39, mm_X8_init_0, mm_X7_init_1, mm_X7_init_3, mm_X7_init_5, mm_X6_init_7, mm_X3_init_9, mm_X4_init_11, mm_X4_init_16, mm_X0_init_21, mm_X1_init_27, mm_X5_init_30, mm_X2_init_33, mm_X2_init_36, zpp, zfrA, zfrB, zsi1, zsi2, zsj1, zsj2]
set_option maxHeartbeats 4000000 in
theorem zst_d (M : zM) : (∀ i, (zstart M).2 37 i = 0) ∧ (∀ j, (zstart M).1 39 j = 0) ∧ (zstart M).1 41 0 = 1 ∧ (zstart M).1 41 6 = 1 ∧ (zstart M).1 41 7 = 1 ∧ (zstart M).1 41 8 = 0 ∧ ∀ i, (zstart M).1 64 i = 0 := by
  refine ⟨?_, ?_, ?_, ?_, ?_, ?_, ?_⟩ <;> simp [zstart, mm_X9_init_39, mm_X8_init_0, mm_X7_init_1, mm_X7_init_3, mm_X7_init_5, mm_X6_init_7, mm_X3_init_9, mm_X4_init_11, mm_X4_init_16, mm_X0_init_21, mm_X1_init_27, mm_X5_init_30, mm_X2_init_33, mm_X2_init_36, zpp, zfrA, zfrB, zsi1, zsi2, zsj1, zsj2]
def zw1 (i : Nat) : Nat := if i = 0 then 1 else 0
theorem zw1_col (j : Nat) : zcol 1 1 zw1 j = 0 := by
  unfold zcol
  by_cases h : j < 1
  · rw [if_pos h]
    have : j = 0 := by omega
    subst this
    rfl
  · rw [if_neg h]
theorem zinit (M : zM) : zInv 0 (zstart M) := by
  obtain ⟨a1, a2, a3, a4, a5⟩ := zst_a M
  have b := zst_b M
  obtain ⟨c1, c2, c3, c4, c5, c6, c7⟩ := zst_c M
  obtain ⟨d1, d2, d3, d4, d5, d6, d7⟩ := zst_d M
  generalize zstart M = Z at a1 a2 a3 a4 a5 b c1 c2 c3 c4 c5 c6 c7 d1 d2 d3 d4 d5 d6 d7
  refine ⟨⟨1, 1, zw1, ⟨by omega, by omega, by omega, by omega, ?_, ?_⟩, ⟨a1, a2, ?_, ?_⟩, ⟨d4, d5, ?_⟩, ?_⟩, ⟨0, fun _ => 0, by omega, a4, d2 7, fun i hi => absurd hi (by omega)⟩, ⟨[], ⟨a5, by simp, fun i v h => by simp at h⟩, ⟨d2 1, by simp, fun i v h => by simp at h⟩⟩, ⟨0, fun _ => 0, fun _ => 0, by omega, c6, d2 32, fun i hi => absurd hi (by omega)⟩, ⟨[1099, 1105, 1045], by decide, c1, ?_, rfl, Or.inr ⟨d2 14, rfl⟩⟩, ⟨0, by omega, c7, d2 18, fun i hi => absurd hi (by omega)⟩, ⟨0, by omega, d2 5, fun i _ => Or.inl ⟨d1 i, Or.inl (d7 i)⟩⟩, Or.inl c5⟩
  · intro i hi
    have : i = 0 := by omega
    subst this
    decide
  · intro i hi
    rw [zw1, if_neg (by omega)]
  · intro i hi
    show Z.1 2 i = _
    rw [b, zw1]
    by_cases h : i = 0
    · rw [if_pos h, if_pos h]
      rfl
    · rw [if_neg h, if_neg h]
      rfl
  · intro j hj
    show Z.1 2 (6 + j) = _
    rw [b, if_neg (by omega), zw1_col]
    rfl
  · intro i hi
    have : i = 0 := by omega
    subst this
    exact d3
  · rw [d6, a3]
  · intro i x hx
    match i, hx with
    | 0, hx =>
      have : 1099 = x := by simpa using hx
      subst this
      exact c2
    | 1, hx =>
      have : 1105 = x := by simpa using hx
      subst this
      exact c3
    | 2, hx =>
      have : 1045 = x := by simpa using hx
      subst this
      exact c4
    | i + 3, hx => simp at hx
