/-! whether a set hangs together -/
def zTC (M : zM) (a b p e : Nat) (w : Nat → Nat) : Prop := ∀ t, t < 12 → zhas p e t → M.1 a t = nI (zbel p e w t) ∧ M.1 b t = nI (zabv p e w t)
def zsb (p e s : Nat) : Prop := ∀ t, s.testBit t = true → t < 12 ∧ zhas p e t
def zi (b : Bool) : Nat := if b = true then 1 else 0
theorem zsb_lt {p e s : Nat} (h : zsb p e s) : s < 4096 := zlt4096 (fun i hi => by
  cases q : s.testBit i
  · rfl
  · have := (h i q).1
    omega)
theorem zbc_1 : ∀ a, a < 64 → ∀ b, b < 64 → zbc (64 * a + b) = 1 → 64 * a + b = 2 ^ zlow (64 * a + b) := by decide +kernel
theorem zbc_0 : ∀ a, a < 64 → ∀ b, b < 64 → zbc (64 * a + b) < 13 := by decide +kernel
theorem zbc_lt {s : Nat} (h : s < 4096) : zbc s < 13 := by
  obtain ⟨a, b, ha, hb, rfl⟩ := z64 h
  exact zbc_0 a ha b hb
theorem zbc_pw : ∀ f, f < 12 → zbc (2 ^ f) = 1 ∧ zlow (2 ^ f) = f := by decide +kernel
