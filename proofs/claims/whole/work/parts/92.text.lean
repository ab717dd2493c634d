/-! the text, as class and reference read it -/
/-- of the class: n signs t -/
def zTx (M : zM) (n : Nat) (t : Nat → Nat) : Prop := n ≤ 80 ∧ M.1 7 1 = nI n ∧ ∀ i, i < n → t i < 256 ∧ M.1 8 i = nI (t i)
/-- of the reference: n signs t up to its end, of which a are read -/
def zRt (M : zM) (n a : Nat) (t : Nat → Nat) : Prop := n ≤ 80 ∧ a ≤ n ∧ M.1 39 9 = nI n ∧ M.1 39 8 = nI a ∧ (∀ i, i < n → t i < 256 ∧ M.1 43 i = nI (t i)) ∧ M.1 39 7 = nI 0
/-- its text ahead of the reading -/
def zTr (M : zM) (n : Nat) (t : Nat → Nat) : Prop := n ≤ 80 ∧ M.1 39 7 = nI n ∧ ∀ i, i < n → t i < 256 ∧ M.1 43 i = nI (t i)
theorem zTr.to {M M' : zM} {n : Nat} {t : Nat → Nat} (h : zTr M n t) (h1 : M'.1 39 7 = M.1 39 7) (h2 : M'.1 43 = M.1 43) : zTr M' n t := by
  simp only [zTr, h1, h2]
  exact h
theorem zTx.to {M M' : zM} {n : Nat} {t : Nat → Nat} (h : zTx M n t) (h1 : M'.1 7 = M.1 7) (h2 : M'.1 8 = M.1 8) : zTx M' n t := by
  simp only [zTx, h1, h2]
  exact h
theorem zRt.to {M M' : zM} {n a : Nat} {t : Nat → Nat} (h : zRt M n a t) (h1 : M'.1 39 9 = M.1 39 9) (h2 : M'.1 39 8 = M.1 39 8) (h3 : M'.1 43 = M.1 43) (h4 : M'.1 39 7 = M.1 39 7) : zRt M' n a t := by
  simp only [zRt, h1, h2, h3, h4]
  exact h
theorem zRt.step {M : zM} {n a : Nat} {t : Nat → Nat} (h : zRt M n a t) (ha : a < n) : zRt (zsi M 39 8 (nI (a + 1))) n (a + 1) t := by
  obtain ⟨h1, h2, h3, h4, h5, h6⟩ := h
  refine ⟨h1, by omega, by simp [zsi1, h3], by simp [zsi1], fun i hi => ?_, by simp [zsi1, h6]⟩
  rw [zsi_ne (by omega)]
  exact h5 i hi
section TX
variable {M : zM} {n a : Nat} {t : Nat → Nat}
theorem c_at (h : zTx M n t) {p : Nat} (hp : p < n) : f6_at (nI p) M = some (nI (t p)) := by
  obtain ⟨h1, h2, h3⟩ := h
  rw [f6_at, h2, if_neg (nI_pos (by omega)), if_neg (nI_ge hp (by omega)), zaI_n (by omega) (by omega), (h3 p hp).2]
  rfl
theorem c_atE (h : zTx M n t) {p : Nat} (hp : n ≤ p) (hp2 : p < 1000) : f6_at (nI p) M = some (-1) := by
  obtain ⟨h1, h2, h3⟩ := h
  rw [f6_at, h2, if_neg (nI_pos (by omega)), if_pos (nI_le hp (by omega))]
def zdg (v : Nat) : Int32 := if 48 ≤ v ∧ v ≤ 57 then nI (v - 48) else -1
theorem zdg0 : ∀ v, v < 256 → (if nI v < 48 then (-1 : Int32) else (if (57 : Int32) < nI v then -1 else nI v - 48)) = zdg v := by decide +kernel
theorem c_dig (h : zTx M n t) {p : Nat} (hp : p < n) : f6_digit (nI p) M = some (zdg (t p)) := by
  rw [f6_digit, c_at h hp, Option.bind_some, zdg0 _ (h.2.2 p hp).1]
theorem c_digE (h : zTx M n t) {p : Nat} (hp : n ≤ p) (hp2 : p < 1000) : f6_digit (nI p) M = some (-1) := by
  rw [f6_digit, c_atE h hp hp2, Option.bind_some]
  rfl
/-- the strings -/
def zsgn (k i : Nat) : Nat := ((zbyt.getD k []).getD i 0).toNatClampNeg
theorem zschr_n : ∀ k, k < 12 → ∀ i, i < 8 → i < zlen.getD k 0 → zschr k (nI i) = some (nI (zsgn k i)) := by decide +kernel
theorem zsgn_lt : ∀ k, k < 12 → ∀ i, i < 8 → zsgn k i < 256 := by decide +kernel
theorem zlen_le : ∀ k, k < 12 → zlen.getD k 0 ≤ 8 := by decide +kernel
theorem r_takesOf (h : zRt M n a t) {k : Nat} (hk : k < 12) : (∃ j, j < zlen.getD k 0 ∧ a < n ∧ t a = zsgn k j ∧ f9_takesOf k M = some (nI j, zsi M 39 8 (nI (a + 1)))) ∨ ((a = n ∨ ∀ j, j < zlen.getD k 0 → t a ≠ zsgn k j) ∧ f9_takesOf k M = some (-1, M)) := by
  obtain ⟨h1, h2, h3, h4, h5, h6⟩ := h
  have hl := zlen_le k hk
  have hsl : zslen k = some (nI (zlen.getD k 0)) := by rw [zslen, if_pos hk]; rfl
  rw [f9_takesOf]
  refine zloopP (F := fun f j (u : Unit) => f9_takesOf_2 f k (nI j) M) (I := fun j _ => ∀ i, i < j → t a ≠ zsgn k i) (P := fun o => (∃ j, j < zlen.getD k 0 ∧ a < n ∧ t a = zsgn k j ∧ o = some (nI j, zsi M 39 8 (nI (a + 1)))) ∨ ((a = n ∨ ∀ j, j < zlen.getD k 0 → t a ≠ zsgn k j) ∧ o = some (-1, M))) (zlen.getD k 0) (by omega) (k0 := 0) (by omega) (fun f j u _ hj hI => ?_) (fun f u hI => ?_) (x := ()) (fun i hi => absurd hi (by omega))
  · by_cases ha : a = n
    · refine Or.inr (Or.inr ⟨Or.inl ha, ?_⟩)
      show f9_takesOf_2 (f + 1) k (nI j) M = _
      rw [f9_takesOf_2, hsl, Option.bind_some, if_neg (nI_ge hj (by omega)), h3, h4, if_pos (nI_le (by omega) (by omega))]
    · have hb := zsgn_lt k hk j (by omega)
      have ht := (h5 a (by omega)).1
      have e : f9_takesOf_2 (f + 1) k (nI j) M = if nI (zsgn k j) = nI (t a) then some (nI j, zsi M 39 8 (nI (a + 1))) else f9_takesOf_2 f k (nI (j + 1)) M := by
        rw [f9_takesOf_2, hsl, Option.bind_some, if_neg (nI_ge hj (by omega)), h3, h4, if_neg (nI_ge (by omega) (by omega)), zschr_n k hk j (by omega) hj, Option.bind_some, zaI_n (by omega) (by omega), (h5 a (by omega)).2, Option.bind_some, nI_1, nI_1]
      by_cases g : t a = zsgn k j
      · exact Or.inr (Or.inl ⟨j, hj, by omega, g, e.trans (by rw [g, if_pos rfl])⟩)
      · refine Or.inl ⟨(), e.trans (by rw [if_neg (nI_ne (fun q => g q.symm) (by omega) (by omega))]), fun i hi => ?_⟩
        by_cases g2 : i = j
        · subst g2
          exact g
        · exact hI i (by omega)
  · refine Or.inr ⟨Or.inr hI, ?_⟩
    show f9_takesOf_2 (f + 1) k (nI (zlen.getD k 0)) M = _
    rw [f9_takesOf_2, hsl, Option.bind_some, if_pos (nI_le (Nat.le_refl _) (by omega))]
theorem zdi0 : ∀ v, v < 256 → ∀ hi, hi < 10 → ∀ lo, lo < 2 → (if nI v - 48 < nI lo then (0 : Int32) else if nI hi < nI v - 48 then 0 else 1) = if 48 + lo ≤ v ∧ v ≤ 48 + hi then 1 else 0 := by decide +kernel
/-- a digit between two bounds -/
theorem r_digitIn (h : zRt M n a t) {lo hi : Nat} (hl : lo < 2) (hh : hi < 10) : (a < n ∧ 48 + lo ≤ t a ∧ t a ≤ 48 + hi ∧ f9_digitIn (nI lo) (nI hi) M = some (nI (t a - 48), zsi M 39 8 (nI (a + 1)))) ∨ ((a = n ∨ ¬ (48 + lo ≤ t a ∧ t a ≤ 48 + hi)) ∧ f9_digitIn (nI lo) (nI hi) M = some (-1, M)) := by
  obtain ⟨h1, h2, h3, h4, h5, h6⟩ := h
  rw [f9_digitIn, h3, h4]
  by_cases ha : a = n
  · rw [if_pos (nI_le (by omega) (by omega))]
    exact Or.inr ⟨Or.inl ha, rfl⟩
  · have ht := (h5 a (by omega)).1
    have q := zdi0 (t a) ht hi hh lo hl
    rw [if_neg (nI_ge (by omega) (by omega)), zaI_n (by omega) (by omega), (h5 a (by omega)).2, Option.bind_some, in_i (lo := nI lo) (hi := nI hi) rfl rfl, q, Option.bind_some]
    by_cases g : 48 + lo ≤ t a ∧ t a ≤ 48 + hi
    · refine Or.inl ⟨by omega, g.1, g.2, ?_⟩
      have e8 : (zsi M 39 8 (nI a + 1)).1 39 8 - 1 = nI a := by
        rw [zsi1, if_pos ⟨rfl, rfl⟩, nI_1]
        exact nI_sub (a := a + 1) (b := 1) (by omega)
      rw [if_pos g, if_neg (by decide), e8, zaI_n (by omega) (by omega), zsi_ne (by omega), (h5 a (by omega)).2, Option.bind_some, nI_1]
      rw [show nI (t a) - 48 = nI (t a - 48) from nI_sub (b := 48) (by omega)]
    · refine Or.inr ⟨Or.inr g, ?_⟩
      rw [if_neg g, if_pos rfl]
theorem r_begins (h : zTr M n t) {m : Nat} (hm : m ≤ 80) : ∃ M', f9_begins (nI m) M = some (nI n, M') ∧ zRt M' (min n m) 0 t ∧ M'.1 39 10 = nI 0 := by
  obtain ⟨h1, h3, h4⟩ := h
  refine ⟨_, by rw [f9_begins, h3], ⟨by omega, by omega, ?_, by simp [zsi1, nI_0], fun i hi => ?_, by simp [zsi1, nI_0]⟩, by simp [zsi1, nI_0]⟩
  · rw [zsi1, if_pos ⟨rfl, rfl⟩]
    try rw [h3]
    rw [zmin]
    by_cases g : m < n
    · rw [if_pos (nI_lt g (by omega)), Nat.min_eq_right (by omega)]
    · rw [if_neg (nI_nlt (by omega) (by omega)), Nat.min_eq_left (by omega)]
  · have := h4 i (by omega)
    refine ⟨this.1, ?_⟩
    simp [zsi1, this.2]
end TX
theorem iBn_tr {M : zM} {n : Nat} {t : Nat → Nat} (h : iBn M n t) : zTr M n t := ⟨h.1, h.2.2.1, fun i hi => ⟨(h.2.2.2 i hi).1, (h.2.2.2 i hi).2.2⟩⟩
theorem iBn_tx {M : zM} {n : Nat} {t : Nat → Nat} (h : iBn M n t) : zTx M n t := ⟨h.1, h.2.1, fun i hi => ⟨(h.2.2.2 i hi).1, (h.2.2.2 i hi).2.1⟩⟩
