/-! what hangs together: the steps downwards and upwards -/
theorem zdf_bit (a b i : Nat) : (zdf a b).testBit i = (a.testBit i && !b.testBit i) := by
  unfold zdf
  rw [Nat.testBit_xor, Nat.testBit_and]
  cases a.testBit i <;> cases b.testBit i <;> rfl
theorem zdf_le (a b : Nat) : zdf a b ≤ a := by
  have : zdf a b &&& a = zdf a b := by
    apply Nat.eq_of_testBit_eq
    intro i
    rw [Nat.testBit_and, zdf_bit]
    cases a.testBit i <;> simp
  rw [← this]
  exact Nat.and_le_right
theorem nI_m1 : (-1 : Int32) = nI (2 ^ 32 - 1) := by decide
theorem nI_andn {x : Nat} (y : Nat) (hx : x < 2 ^ 32) : nI x &&& (nI y ^^^ (-1)) = nI (zdf x y) := by
  rw [nI_m1, nI_xor, nI_and]
  congr 1
  apply Nat.eq_of_testBit_eq
  intro i
  rw [Nat.testBit_and, Nat.testBit_xor, Nat.testBit_two_pow_sub_one, zdf_bit]
  by_cases hi : i < 32
  · simp [hi]
  · have : x.testBit i = false := Nat.testBit_lt_two_pow (Nat.lt_of_lt_of_le hx (Nat.pow_le_pow_right (by omega) (by omega)))
    simp [this]
theorem zlow_0 : ∀ a, a < 64 → ∀ b, b < 64 → 64 * a + b ≠ 0 → fJ6_bitCount ((nI (64 * a + b) &&& -(nI (64 * a + b))) - 1) = some (nI (zlow (64 * a + b))) ∧ nI (64 * a + b) ^^^ (nI (64 * a + b) &&& -(nI (64 * a + b))) = nI (64 * a + b - 2 ^ zlow (64 * a + b)) ∧ fJ6_numberOfTrailingZeros (nI (64 * a + b)) = some (nI (zlow (64 * a + b))) ∧ zlow (64 * a + b) < 12 ∧ (64 * a + b) / 2 ^ zlow (64 * a + b) % 2 = 1 ∧ nI (64 * a + b) &&& -(nI (64 * a + b)) = nI (2 ^ zlow (64 * a + b)) := by decide +kernel
theorem zlow_1 : ∀ a, a < 64 → ∀ b, b < 64 → ∀ g, g < 12 → g < zlow (64 * a + b) → (64 * a + b) / 2 ^ g % 2 = 0 := by decide +kernel
def zct (x : Nat) : Nat := zsum (fun i => x / 2 ^ i % 2) 12
theorem zct_low0 : ∀ a, a < 64 → ∀ b, b < 64 → 64 * a + b ≠ 0 → zct (64 * a + b - 2 ^ zlow (64 * a + b)) + 1 = zct (64 * a + b) := by decide +kernel
theorem zct_00 : ∀ a, a < 64 → ∀ b, b < 64 → zct (64 * a + b) = 0 → 64 * a + b = 0 := by decide +kernel
section LO
variable {f : Nat}
theorem z64 {f : Nat} (h : f < 4096) : ∃ a b, a < 64 ∧ b < 64 ∧ f = 64 * a + b := ⟨f / 64, f % 64, by omega, by omega, by omega⟩
theorem zlow_n (h : f < 4096) (h0 : f ≠ 0) : fJ6_bitCount ((nI f &&& -(nI f)) - 1) = some (nI (zlow f)) ∧ nI f ^^^ (nI f &&& -(nI f)) = nI (f - 2 ^ zlow f) ∧ fJ6_numberOfTrailingZeros (nI f) = some (nI (zlow f)) ∧ zlow f < 12 ∧ f / 2 ^ zlow f % 2 = 1 ∧ nI f &&& -(nI f) = nI (2 ^ zlow f) := by
  obtain ⟨a, b, ha, hb, rfl⟩ := z64 h
  exact zlow_0 a ha b hb h0
theorem zlow_min (h : f < 4096) {g : Nat} (hg : g < 12) (hl : g < zlow f) : f.testBit g = false := by
  obtain ⟨a, b, ha, hb, rfl⟩ := z64 h
  rw [Nat.testBit_eq_decide_div_mod_eq, zlow_1 a ha b hb g hg hl]
  rfl
theorem zlow_bit (h : f < 4096) (h0 : f ≠ 0) : f.testBit (zlow f) = true := by
  rw [Nat.testBit_eq_decide_div_mod_eq, (zlow_n h h0).2.2.2.2.1]
  rfl
theorem zct_low (h : f < 4096) (h0 : f ≠ 0) : zct (f - 2 ^ zlow f) + 1 = zct f := by
  obtain ⟨a, b, ha, hb, rfl⟩ := z64 h
  exact zct_low0 a ha b hb h0
theorem zct_0 (h : f < 4096) (h0 : zct f = 0) : f = 0 := by
  obtain ⟨a, b, ha, hb, rfl⟩ := z64 h
  exact zct_00 a ha b hb h0
theorem zct_le (x : Nat) : zct x ≤ 12 := by
  have := zsum_le (g := fun i => x / 2 ^ i % 2) (b := 1) (n := 12) (fun i _ => by show x / 2 ^ i % 2 ≤ 1; omega)
  unfold zct
  omega
theorem zdv (x i : Nat) : x / 2 ^ i % 2 = if x.testBit i then 1 else 0 := by
  rw [Nat.testBit_eq_decide_div_mod_eq]
  rcases (show x / 2 ^ i % 2 = 0 ∨ x / 2 ^ i % 2 = 1 by omega) with h | h <;> rw [h] <;> rfl
theorem zsum_add (g g' : Nat → Nat) (n : Nat) : zsum (fun i => g i + g' i) n = zsum g n + zsum g' n := by
  induction n with
  | zero => rfl
  | succ n ih => rw [zsum, zsum, zsum, ih]; omega
theorem zct_or {x y : Nat} (h : ∀ i, x.testBit i = true → y.testBit i = false) : zct (x ||| y) = zct x + zct y := by
  unfold zct
  rw [← zsum_add]
  apply zsum_congr
  intro i _
  rw [zdv, zdv, zdv, Nat.testBit_or]
  have := h i
  cases hx : x.testBit i
  · cases hy : y.testBit i <;> rfl
  · rw [this hx]
    rfl
end LO
theorem zsub_bit0 : ∀ a, a < 64 → ∀ b, b < 64 → 64 * a + b ≠ 0 → ∀ i, i < 12 → (64 * a + b - 2 ^ zlow (64 * a + b)).testBit i = ((64 * a + b).testBit i && !decide (i = zlow (64 * a + b))) := by decide +kernel
