/-! more words of numbers and memories -/
theorem zl10 : (10 : Int32) = nI 10 := rfl
theorem zl11 : (11 : Int32) = nI 11 := rfl
theorem nI_ne {a b : Nat} (h : a ≠ b) (ha : a < 2 ^ 31) (hb : b < 2 ^ 31) : ¬ nI a = nI b := fun q => h ((nI_eq ha hb).mp q)
theorem zsi1 (M : zM) (k j : Nat) (v : Int32) (k' j' : Nat) : (zsi M k j v).1 k' j' = if k' = k ∧ j' = j then v else M.1 k' j' := by
  by_cases h : k' = k
  · subst h
    by_cases h2 : j' = j <;> simp [zsi, upd, h2]
  · simp [zsi, h]
theorem zsi2 (M : zM) (k j : Nat) (v : Int32) : (zsi M k j v).2 = M.2 := rfl
theorem zsj1 (M : zM) (k j : Nat) (v : Int64) : (zsj M k j v).1 = M.1 := rfl
theorem zsj2 (M : zM) (k j : Nat) (v : Int64) (k' j' : Nat) : (zsj M k j v).2 k' j' = if k' = k ∧ j' = j then v else M.2 k' j' := by
  by_cases h : k' = k
  · subst h
    by_cases h2 : j' = j <;> simp [zsj, vp_updL, h2]
  · simp [zsj, h]
/-- an int against a bound -/
theorem zix_big {v : Int32} {n : Nat} (hn : n < 2 ^ 30) (h : nI n ≤ v) : ¬ v < 0 ∧ (∀ m, m < n → ¬ v ≤ nI m ∧ nI m < v ∧ ¬ v < nI m ∧ nI m ≤ v ∧ ¬ v = nI m) := by
  rw [Int32.le_iff_toInt_le, nI_toInt (by omega)] at h
  refine ⟨?_, fun m hm => ?_⟩
  · rw [Int32.lt_iff_toInt_lt]
    simp only [Int32.toInt_zero]
    omega
  · have e := nI_toInt (n := m) (by omega)
    simp only [Int32.lt_iff_toInt_lt, Int32.le_iff_toInt_le, ← Int32.toInt_inj, e]
    omega
theorem zix_neg {v : Int32} (h : v < 0) : ∀ m, m < 2 ^ 30 → v ≤ nI m ∧ ¬ nI m < v ∧ v < nI m ∧ ¬ nI m ≤ v ∧ ¬ v = nI m := by
  rw [Int32.lt_iff_toInt_lt] at h
  simp only [Int32.toInt_zero] at h
  intro m hm
  have e := nI_toInt (n := m) (by omega)
  simp only [Int32.lt_iff_toInt_lt, Int32.le_iff_toInt_le, ← Int32.toInt_inj, e]
  omega
/-- the reference's bounds test over an int -/
theorem in_n (v : Int32) {n : Nat} (hn : n < 2 ^ 30) : f9_in v.toInt64 0 (nI n).toInt64 = some (if v < 0 then 0 else if nI n < v then 0 else 1) := in_i rfl rfl
theorem in_ok {j n : Nat} (hn : n < 2 ^ 30) (h : j ≤ n) : f9_in (nI j).toInt64 0 (nI n).toInt64 = some 1 := by
  rw [in_n _ hn, if_neg (nI_pos (by omega)), if_neg (nI_nlt h (by omega))]
theorem in_neg {v : Int32} {n : Nat} (hn : n < 2 ^ 30) (h : v < 0) : f9_in v.toInt64 0 (nI n).toInt64 = some 0 := by
  rw [in_n _ hn, if_pos h]
theorem in_big {v : Int32} {n : Nat} (hn : n < 2 ^ 30 - 1) (h : nI (n + 1) ≤ v) : f9_in v.toInt64 0 (nI n).toInt64 = some 0 := by
  obtain ⟨h1, h2⟩ := zix_big (by omega) h
  rw [in_n _ (by omega), if_neg h1, if_pos (h2 n (by omega)).2.1]
/-! rows -/
theorem zR8.add {M : zM} {L : List Int64} (h : zR8 M L) (hl : L.length < 8) (v : Int64) : ∃ M', f3_add v M = some M' ∧ zR8 M' (L ++ [v]) := by
  obtain ⟨h1, h2, h3⟩ := h
  refine ⟨zsi (zsj M 10 L.length v) 9 1 (nI (L.length + 1)), ?_, ?_, ?_, ?_⟩
  · rw [f3_add, h1]
    simp (disch := omega) only [zl0, zl1, zl2, zl3, zl4, zl5, zl6, zl7, zl8, zl9, zl10, zl11, zl12, nI_add, nI_sub, nI_mul, zaI_n, zaJ_n, zpI_n, zpJ_n, Option.bind_some, nI_le, nI_ge, nI_lt, nI_nlt, nI_ne, ↓reduceIte, if_true, if_false, zsj1, h1]
  · simp [zsi1]
  · simp; omega
  · intro i x hx
    simp only [zsi2, zsj2]
    by_cases hi : i = L.length
    · subst hi
      simp at hx
      simp [hx]
    · rw [if_neg (by omega)]
      rw [List.getElem?_append_left (by
        rcases Nat.lt_or_ge i L.length with q | q
        · exact q
        · rw [List.getElem?_append_right q] at hx
          have := (List.getElem?_eq_some_iff.mp hx).1
          simp at this
          omega)] at hx
      exact h3 i x hx
theorem zR9.add {M : zM} {L : List Int64} (h : zR9 M L) (hl : L.length < 23) (v : Int64) : ∃ M', f9_enters v M = some M' ∧ zR9 M' (L ++ [v]) := by
  obtain ⟨h1, h2, h3⟩ := h
  refine ⟨zsi (zsj M 40 L.length v) 39 1 (nI (L.length + 1)), ?_, ?_, ?_, ?_⟩
  · rw [f9_enters, h1]
    simp (disch := omega) only [zl0, zl1, zl2, zl3, zl4, zl5, zl6, zl7, zl8, zl9, zl10, zl11, zl12, nI_add, nI_sub, nI_mul, zaI_n, zaJ_n, zpI_n, zpJ_n, Option.bind_some, nI_le, nI_ge, nI_lt, nI_nlt, nI_ne, ↓reduceIte, if_true, if_false, zsj1, h1]
  · simp [zsi1]
  · simp; omega
  · intro i x hx
    simp only [zsi2, zsj2]
    by_cases hi : i = L.length
    · subst hi
      simp at hx
      simp [hx]
    · rw [if_neg (by omega)]
      rw [List.getElem?_append_left (by
        rcases Nat.lt_or_ge i L.length with q | q
        · exact q
        · rw [List.getElem?_append_right q] at hx
          have := (List.getElem?_eq_some_iff.mp hx).1
          simp at this
          omega)] at hx
      exact h3 i x hx
theorem zR8_nil (M : zM) : zR8 (zsi M 9 1 0) [] := ⟨by simp [zsi1, nI_0], by simp, fun i v h => by simp at h⟩
theorem zR9_nil (M : zM) : zR9 (zsi M 39 1 0) [] := ⟨by simp [zsi1, nI_0], by simp, fun i v h => by simp at h⟩
theorem c_tell (v : Int64) (M : zM) : ∃ M', f3_tell v M = some M' ∧ zR8 M' [v] := by
  obtain ⟨M', h1, h2⟩ := (zR8_nil M).add (by simp) v
  exact ⟨M', by rw [f3_tell, h1]; rfl, h2⟩
theorem c_tell2 (v x : Int64) (M : zM) : ∃ M', f3_tell_ v x M = some M' ∧ zR8 M' [v, x] := by
  obtain ⟨M', h1, h2⟩ := (zR8_nil M).add (by simp) v
  obtain ⟨M'', h3, h4⟩ := h2.add (by simp) x
  exact ⟨M'', by rw [f3_tell_, h1, Option.bind_some, h3]; rfl, h4⟩
theorem r_tell (v : Int64) (M : zM) : ∃ M', f9_enters v (zsi M 39 1 0) = some M' ∧ zR9 M' [v] := (zR9_nil M).add (by simp) v
/-! the calls that tell or change a number or two -/
theorem zP_forget_ok : zP_forget zInv := by
  intro c M hc h
  obtain ⟨n, a, b, hD⟩ := h.2.2.2.1
  have h8 : f8_forget M = some (nI n, zsi M 30 2 0) := by rw [f8_forget, hD.2.1]
  have h9 : f9_forget (zsi M 30 2 0) = some (nI n, zsi (zsi (zsi M 30 2 0) 39 0 0) 39 32 0) := by
    rw [f9_forget]
    simp [zsi1, hD.2.2.1]
  refine ⟨_, _, _, h8, h9, zInv_to h ((o_X8_forget h8).trans (o_X9_forget h9)) (Or.inl rfl) (Or.inl rfl) (Or.inl rfl) (Or.inr ⟨0, fun _ => 0, fun _ => 0, by omega, ?_, ?_, fun i hi => by omega⟩) (Or.inl rfl) (Or.inl rfl) (Or.inl rfl) (Or.inl rfl)⟩
  · simp [zsi1, nI_0]
  · simp [zsi1, nI_0]
theorem zP_end_ok : zP_end zInv := by
  intro c M v hc h
  obtain ⟨n, t, hB⟩ := h.2.1
  obtain ⟨b1, b2, b3, b4⟩ := id hB
  rcases pk_ix v (n := n + 1) (by omega) with hv | hv | ⟨j, hj, rfl⟩
  · have h8 : f8_end v M = some (0, M) := by rw [f8_end, if_pos hv]
    have h9 : f9_end v M = some (0, zsi M 39 0 0) := by
      rw [f9_end]
      simp only [zsi1, b3]
      simp [in_neg (n := n) (by omega) hv, b3]
    exact ⟨_, _, _, h8, h9, zInv_to h ((o_X8_end h8).trans (o_X9_end h9)) (Or.inl rfl) (Or.inr ⟨n, t, hB.1, by simp [zsi1, b2], by simp [zsi1, b3], fun i hi => by simpa [zsi1] using b4 i hi⟩) (Or.inl rfl) (Or.inl rfl) (Or.inl rfl) (Or.inl rfl) (Or.inl rfl) (Or.inl rfl)⟩
  · obtain ⟨g1, g2⟩ := zix_big (by omega) hv
    have h8 : f8_end v M = some (0, M) := by rw [f8_end, if_neg g1, b2, if_neg (g2 n (by omega)).1]
    have h9 : f9_end v M = some (0, zsi M 39 0 0) := by
      rw [f9_end]
      simp only [zsi1, b3]
      simp [in_big (n := n) (by omega) hv, b3]
    exact ⟨_, _, _, h8, h9, zInv_to h ((o_X8_end h8).trans (o_X9_end h9)) (Or.inl rfl) (Or.inr ⟨n, t, hB.1, by simp [zsi1, b2], by simp [zsi1, b3], fun i hi => by simpa [zsi1] using b4 i hi⟩) (Or.inl rfl) (Or.inl rfl) (Or.inl rfl) (Or.inl rfl) (Or.inl rfl) (Or.inl rfl)⟩
  · have h8 : f8_end (nI j) M = some (1, zsi M 7 1 (nI j)) := by
      rw [f8_end, b2, if_neg (nI_pos (by omega)), if_pos (nI_le (by omega) (by omega))]
    have h9 : f9_end (nI j) (zsi M 7 1 (nI j)) = some (1, zsi (zsi (zsi M 7 1 (nI j)) 39 0 0) 39 7 (nI j)) := by
      rw [f9_end]
      simp only [zsi1, b3]
      simp [in_ok (n := n) (j := j) (by omega) (by omega), b3]
    exact ⟨_, _, _, h8, h9, zInv_to h ((o_X8_end h8).trans (o_X9_end h9)) (Or.inl rfl) (Or.inr ⟨j, t, by omega, by simp [zsi1], by simp [zsi1], fun i hi => by simpa [zsi1] using b4 i (by omega)⟩) (Or.inl rfl) (Or.inl rfl) (Or.inl rfl) (Or.inl rfl) (Or.inl rfl) (Or.inl rfl)⟩
