section C1
variable {M : zM} {k p e : Nat} {w : Nat → Nat}
theorem zfull_lt {n : Nat} (h : n ≤ 6) : 2 ^ n ≤ 64 ∧ 1 ≤ 2 ^ n := ⟨by have : 2 ^ n ≤ 2 ^ 6 := Nat.pow_le_pow_right (by omega) h; omega, Nat.one_le_two_pow⟩
theorem c_size (h : zWc M k p e w) {kd : Nat} (hk : kd < 2) : f7_sizeOf k (nI kd) M = some (nI (zmany p e kd)) := by
  unfold f7_sizeOf
  rcases (show kd = 0 ∨ kd = 1 by omega) with rfl | rfl
  · rw [if_pos (show nI 0 = 0 from rfl), h.1]; rfl
  · rw [if_neg (by decide), h.2.1]; rfl
theorem c_full (h : zWc M k p e w) (hc : zCl p e w) {kd : Nat} (hk : kd < 2) : f7_fullOf k (nI kd) M = some (nI (2 ^ zmany p e (1 - kd) - 1)) := by
  unfold f7_fullOf
  obtain ⟨c1, c2, c3, c4, c5, c6⟩ := id hc
  rcases (show kd = 0 ∨ kd = 1 by omega) with rfl | rfl
  · obtain ⟨q1, q2⟩ := zfull_lt c4
    rw [if_pos (show nI 0 = 0 from rfl), h.2.1, zl1, nI_shl (by omega) (by omega), Nat.one_mul, nI_sub q2]
    rfl
  · obtain ⟨q1, q2⟩ := zfull_lt c2
    rw [if_neg (by decide), h.1, zl1, nI_shl (by omega) (by omega), Nat.one_mul, nI_sub q2]
    rfl
theorem c_cells (h : zWc M k p e w) {kd i : Nat} (hk : kd < 2) (hi : i < 6) : f7_cellsOf k (nI kd) (nI i) M = some (nI (zth p e w kd i)) := by
  unfold f7_cellsOf
  rw [show (6 : Int32) * nI kd + nI i = nI (6 * kd + i) by rw [zl6, nI_mul, nI_add], if_neg (nI_pos (by omega)), zl12, if_neg (nI_ge (by omega) (by omega)), zaI_n (by omega) (by omega)]
  rcases (show kd = 0 ∨ kd = 1 by omega) with rfl | rfl
  · rw [show 6 * 0 + i = i by omega, h.2.2.1 i hi]; rfl
  · rw [show 6 * 1 + i = 6 + i by omega, h.2.2.2 i hi]; rfl
theorem c_changes (h : zWc M k p e w) (hc : zCl p e w) {kd i : Nat} (hk : kd < 2) (hi : i < 6) : f7_changesOf k (nI kd) (nI i) M = some (nI (zchg (zmany p e (1 - kd)) (zth p e w kd i))) := by
  unfold f7_changesOf
  obtain ⟨q1, q2⟩ := zmany_le hc (1 - kd)
  rw [c_cells h hk hi, Option.bind_some, c_full h hc hk, Option.bind_some, zl1, chg7_n _ (by omega) _ (zth_lt64 hc kd i) (by omega)]
  rfl
end C1
theorem r_changes {M : zM} {a p e : Nat} {w : Nat → Nat} (hc : zCl p e w) {kd i : Nat} : f9_changesOf (nI (zth p e w kd i)) (nI (zmany p e (1 - kd))) = some (nI (zchg (zmany p e (1 - kd)) (zth p e w kd i))) := by
  obtain ⟨q1, q2⟩ := zmany_le hc (1 - kd)
  exact chg9_n _ (by omega) _ (zth_lt64 hc kd i)
