/-! a cloth of p picks and e ends with words w, as the class and as the reference hold it -/
def zCl (p e : Nat) (w : Nat → Nat) : Prop := 1 ≤ p ∧ p ≤ 6 ∧ 1 ≤ e ∧ e ≤ 6 ∧ (∀ i, i < p → w i < 2 ^ e) ∧ ∀ i, p ≤ i → w i = 0
def zcolp (w : Nat → Nat) (j : Nat) : Nat → Nat
  | 0 => 0
  | n + 1 => zcolp w j n + (1 - w n / 2 ^ j % 2) * 2 ^ n
def zcol (p e : Nat) (w : Nat → Nat) (j : Nat) : Nat := if j < e then zcolp w j p else 0
/-- the cells of a thread -/
def zth (p e : Nat) (w : Nat → Nat) (kd i : Nat) : Nat := if kd = 0 then w i else zcol p e w i
def zmany (p e kd : Nat) : Nat := if kd = 0 then p else e
def zWc (M : zM) (k p e : Nat) (w : Nat → Nat) : Prop := M.1 k 0 = nI p ∧ M.1 k 1 = nI e ∧ (∀ i, i < 6 → M.1 (k + 1) i = nI (w i)) ∧ ∀ j, j < 6 → M.1 (k + 1) (6 + j) = nI (zcol p e w j)
def zRr (M : zM) (a p e : Nat) (w : Nat → Nat) : Prop := M.1 a 6 = nI p ∧ M.1 a 7 = nI e ∧ ∀ i, i < p → M.1 a i = nI (w i)
theorem zCl.lt64 {p e : Nat} {w : Nat → Nat} (h : zCl p e w) (i : Nat) : w i < 64 := by
  obtain ⟨h1, h2, h3, h4, h5, h6⟩ := h
  by_cases hi : i < p
  · have := h5 i hi
    have : 2 ^ e ≤ 2 ^ 6 := Nat.pow_le_pow_right (by omega) h4
    omega
  · rw [h6 i (by omega)]; omega
theorem zcolp_lt (w : Nat → Nat) (j n : Nat) : zcolp w j n < 2 ^ n := by
  induction n with
  | zero => simp [zcolp]
  | succ n ih =>
    rw [zcolp]
    have : (1 - w n / 2 ^ j % 2) * 2 ^ n ≤ 1 * 2 ^ n := Nat.mul_le_mul_right _ (by omega)
    rw [Nat.pow_succ]
    omega
theorem zcol_lt (p e : Nat) (w : Nat → Nat) (j : Nat) : zcol p e w j < 2 ^ p := by
  unfold zcol
  split
  · exact zcolp_lt w j p
  · exact Nat.two_pow_pos p
theorem zcol_lt64 {p e : Nat} {w : Nat → Nat} (h : zCl p e w) (j : Nat) : zcol p e w j < 64 := by
  have := zcol_lt p e w j
  have : 2 ^ p ≤ 2 ^ 6 := Nat.pow_le_pow_right (by omega) h.2.1
  omega
theorem zth_lt64 {p e : Nat} {w : Nat → Nat} (h : zCl p e w) (kd i : Nat) : zth p e w kd i < 64 := by
  unfold zth
  split
  · exact h.lt64 i
  · exact zcol_lt64 h i
theorem zor_disj {a b n : Nat} (ha : a < 2 ^ n) : a ||| b * 2 ^ n = a + b * 2 ^ n := by
  rw [Nat.or_comm, ← Nat.shiftLeft_eq, ← Nat.shiftLeft_add_eq_or_of_lt ha, Nat.add_comm]
-- the reference's small functions
theorem lgc_lt (x y : Int64) : lg_cmp x y < 0 ↔ x < y := by
  unfold lg_cmp
  by_cases h1 : x > y
  · rw [if_pos h1]
    exact ⟨fun h => absurd h (by decide), fun h => absurd (Int64.lt_trans h h1) (Int64.lt_irrefl)⟩
  · rw [if_neg h1]
    by_cases h2 : x = y
    · rw [if_pos h2, h2]
      exact ⟨fun h => absurd h (by decide), fun h => absurd h (Int64.lt_irrefl)⟩
    · rw [if_neg h2]
      exact ⟨fun _ => by
        rcases Int64.lt_or_eq_of_le (Int64.not_lt.mp h1) with h | h
        · exact h
        · exact absurd h h2, fun _ => by decide⟩
theorem lgc_gt (x y : Int64) : 0 < lg_cmp x y ↔ y < x := by
  unfold lg_cmp
  by_cases h1 : x > y
  · rw [if_pos h1]
    exact ⟨fun _ => h1, fun _ => by decide⟩
  · rw [if_neg h1]
    by_cases h2 : x = y
    · rw [if_pos h2]
      exact ⟨fun h => absurd h (by decide), fun h => absurd h h1⟩
    · rw [if_neg h2]
      exact ⟨fun h => absurd h (by decide), fun h => absurd h h1⟩
theorem lgc_eq (x y : Int64) : lg_cmp x y = 0 ↔ x = y := by
  unfold lg_cmp
  by_cases h1 : x > y
  · rw [if_pos h1]
    exact ⟨fun h => absurd h (by decide), fun h => absurd h1 (by rw [h]; exact Int64.lt_irrefl)⟩
  · rw [if_neg h1]
    by_cases h2 : x = y
    · rw [if_pos h2]
      exact ⟨fun _ => h2, fun _ => rfl⟩
    · rw [if_neg h2]
      exact ⟨fun h => absurd h (by decide), fun h => absurd h h2⟩
theorem in_g (x lo hi : Int64) : f9_in x lo hi = some (if x < lo then 0 else if hi < x then 0 else 1) := by
  unfold f9_in
  simp only [lgc_lt, lgc_gt]
theorem in_i {v lo hi : Int32} {lo' hi' : Int64} (h1 : lo' = lo.toInt64) (h2 : hi' = hi.toInt64) : f9_in v.toInt64 lo' hi' = some (if v < lo then 0 else if hi < v then 0 else 1) := by
  subst h1
  subst h2
  rw [in_g]
  simp only [Int32.lt_iff_toInt_lt, Int64.lt_iff_toInt_lt, Int32.toInt_toInt64]
theorem flag1 {c : Prop} [Decidable c] : f9_flag (if c then 1 else 0) = some (if c then 1 else 0) := by
  by_cases h : c <;> simp [h, f9_flag]
theorem flag0 {c : Prop} [Decidable c] : f9_flag (if c then 0 else 1) = some (if c then 0 else 1) := by
  by_cases h : c <;> simp [h, f9_flag]
section R1
variable {M : zM} {a p e : Nat} {w : Nat → Nat}
theorem r_many (h : zRr M a p e w) {kd : Nat} (hk : kd < 2) : f9_manyOf a (nI kd) M = some (nI (zmany p e kd)) := by
  unfold f9_manyOf
  rw [zl6, nI_add, zaI_n (by omega) (by omega)]
  show some (M.1 a (6 + kd)) = _
  rcases (show kd = 0 ∨ kd = 1 by omega) with rfl | rfl
  · rw [h.1]; rfl
  · rw [h.2.1]; rfl
theorem r_cells (h : zRr M a p e w) {kd : Nat} (hk : kd < 2) : f9_cellsOf a (nI kd) M = some (nI (zmany p e (1 - kd))) := by
  unfold f9_cellsOf
  rw [zl7, nI_sub (by omega), zaI_n (by omega) (by omega)]
  show some (M.1 a (7 - kd)) = _
  rcases (show kd = 0 ∨ kd = 1 by omega) with rfl | rfl
  · rw [h.2.1]; rfl
  · rw [h.1]; rfl
theorem zmany_le (h : zCl p e w) (kd : Nat) : 1 ≤ zmany p e kd ∧ zmany p e kd ≤ 6 := by
  obtain ⟨h1, h2, h3, h4, -⟩ := h
  unfold zmany
  split <;> omega
/-- the reference's threads: any kind, any number -/
theorem r_isThread (h : zRr M a p e w) (hc : zCl p e w) (kd i : Int32) : f9_isThread a kd i M = some (if (kd = 0 ∨ kd = 1) ∧ 0 ≤ i ∧ i < nI (zmany p e kd.toNatClampNeg) then 1 else 0) := by
  unfold f9_isThread
  rw [in_i (lo := 0) (hi := 1) (lo' := 0) (hi' := 1) rfl rfl, Option.bind_some]
  by_cases hk : kd = 0 ∨ kd = 1
  · obtain ⟨k, hk2, rfl⟩ : ∃ k : Nat, k < 2 ∧ kd = nI k := by
      rcases hk with rfl | rfl
      · exact ⟨0, by omega, rfl⟩
      · exact ⟨1, by omega, rfl⟩
    have e1 : (if nI k < 0 then (0 : Int32) else if 1 < nI k then 0 else 1) = 1 := by
      rcases (show k = 0 ∨ k = 1 by omega) with rfl | rfl <;> decide
    rw [e1]
    obtain ⟨q1, q2⟩ := zmany_le hc k
    rw [if_neg (by decide), r_many h hk2, Option.bind_some, show nI (zmany p e k) - 1 = nI (zmany p e k - 1) from nI_sub q1, in_i (lo := 0) (lo' := 0) (hi := nI (zmany p e k - 1)) rfl rfl, Option.bind_some, nI_clamp (by omega)]
    have e2 : ∀ i : Int32, (nI (zmany p e k - 1) < i ↔ ¬ i < nI (zmany p e k)) := by
      intro i
      rcases pk_ix i (n := 7) (by omega) with h | h | ⟨j, hj, rfl⟩
      · exact ⟨fun q => absurd (Int32.lt_trans q h) (nI_pos (by omega)), fun q => absurd (Int32.lt_of_lt_of_le h (nI_pos' (by omega))) q⟩
      · exact ⟨fun _ q => absurd (Int32.lt_of_le_of_lt h q) (nI_nlt (by omega) (by omega)), fun _ => Int32.lt_of_lt_of_le (nI_lt (by omega) (by omega)) h⟩
      · rw [nI_ltI (by omega) (by omega), nI_ltI (by omega) (by omega)]
        omega
    by_cases h1 : i < 0
    · have h0 : ¬ 0 ≤ i := fun q => absurd h1 (Int32.not_lt.mpr q)
      simp [h1, h0]
    · have h0 : 0 ≤ i := Int32.not_lt.mp h1
      by_cases h2 : i < nI (zmany p e k) <;> simp [h1, h0, h2, e2, hk]
  · have e1 : (if kd < 0 then (0 : Int32) else if 1 < kd then 0 else 1) = 0 := by
      by_cases h1 : kd < 0
      · rw [if_pos h1]
      · rw [if_neg h1]
        obtain ⟨j, hj, rfl⟩ := nI_of h1
        have : 2 ≤ j := by
          rcases (show j = 0 ∨ j = 1 ∨ 2 ≤ j by omega) with rfl | rfl | q
          · exact absurd (Or.inl rfl) hk
          · exact absurd (Or.inr rfl) hk
          · exact q
        rw [if_pos (show (1 : Int32) < nI j from nI_lt (a := 1) (by omega) hj)]
    rw [e1, if_pos rfl, if_neg (fun q => hk q.1)]
theorem r_isThreadN (h : zRr M a p e w) (hc : zCl p e w) {kd i : Nat} (hk : kd < 2) (hi : i < 2 ^ 31) : f9_isThread a (nI kd) (nI i) M = some (if i < zmany p e kd then 1 else 0) := by
  rw [r_isThread h hc, nI_clamp (by omega)]
  have hk' : nI kd = 0 ∨ nI kd = 1 := by rcases (show kd = 0 ∨ kd = 1 by omega) with rfl | rfl; exact Or.inl rfl; exact Or.inr rfl
  obtain ⟨q1, q2⟩ := zmany_le hc kd
  simp only [hk', nI_pos' hi, nI_ltI hi (show zmany p e kd < 2 ^ 31 by omega), true_and]
/-- the bits of a thread -/
theorem r_bits (h : zRr M a p e w) (hc : zCl p e w) {kd i : Nat} (hk : kd < 2) (hi : i < zmany p e kd) : f9_bitsOf a (nI kd) (nI i) M = some (nI (zth p e w kd i)) := by
  unfold f9_bitsOf
  obtain ⟨c1, c2, c3, c4, c5, c6⟩ := id hc
  rcases (show kd = 0 ∨ kd = 1 by omega) with rfl | rfl
  · have hi : i < p := hi
    rw [if_pos (show nI 0 = 0 from rfl), zaI_n (by omega) (by omega), h.2.2 i hi]
    rfl
  · have hi : i < e := hi
    rw [if_neg (by decide)]
    refine (zloop0 (F := fun f k => f9_bitsOf_13 a f (nI i) (nI (zcolp w i k)) (nI k) M) p (by omega) (fun f k hk => ?_) (fun f => ?_)).trans (?_ : some (nI (zcolp w i p)) = _)
    · show f9_bitsOf_13 a (f + 1) _ _ _ M = _
      rw [f9_bitsOf_13, h.1, if_neg (nI_ge hk (by omega)), zaI_n (by omega) (by omega), h.2.2 k hk, Option.bind_some, has_n _ (hc.lt64 k) i (by omega), Option.bind_some, nI_1]
      congr 1
      rw [zcolp]
      rcases (show w k / 2 ^ i % 2 = 0 ∨ w k / 2 ^ i % 2 = 1 by omega) with q | q
      · have hk6 : k < 6 := by omega
        rw [q, if_pos (show nI 0 = 0 from rfl), zl1, nI_shl (by omega) (by have : 2 ^ k ≤ 2 ^ 6 := Nat.pow_le_pow_right (by omega) (by omega); omega), nI_or, zor_disj (zcolp_lt w i k)]
      · rw [q, if_neg (by decide), zl0, nI_or]
        simp
    · show f9_bitsOf_13 a (f + 1) _ _ _ M = _
      rw [f9_bitsOf_13, h.1, if_pos (nI_le (Nat.le_refl _) (by omega))]
    · show some _ = some (nI (zth p e w 1 i))
      rw [zth, if_neg (by decide), zcol, if_pos hi]
end R1
