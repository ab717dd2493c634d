theorem zz_test (a b : Nat) : a + b = b + a := by omega
theorem i_vc : Claimed_1_1 ∧ Claimed_1_2 := sorry
