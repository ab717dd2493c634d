/-! rests: whether x is best against y -/
def zrb (v x y : Nat) : Bool := f8_isBestAgainst (nI x) (nI y) (nI v) == some 1
theorem rests_b : ∀ v, v < 21 → ∀ x, x < 10 → ∀ y, y < 10 → f8_isBestAgainst (nI x) (nI y) (nI v) = some (nI (zi (zrb v x y))) ∧ f9_isRest (nI x) (nI y) (nI v) = some (nI (zi (zrb v x y))) := by decide +kernel
