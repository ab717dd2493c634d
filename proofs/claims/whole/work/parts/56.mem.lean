/-! what can be undone: pushed, brought back -/
def zsf (n i : Nat) : Nat := if n < 15 then i else i + 1
def zmi (n : Nat) : Nat := if n < 15 then n + 1 else 15
theorem c_put {M : zM} {i : Nat} (hi : i < 15) (s : Int64) (t : Int32) : f2_put 33 15 (nI i) s t M = some (zsi (zsj M 34 i s) 35 i t) := by
  rw [f2_put, show Int32.ofNat 15 = nI 15 from rfl]
  simp (disch := omega) only [zl0, zl1, zl2, zl3, zl4, zl5, zl6, zl7, zl8, zl9, zl10, zl11, zl12, nI_add, nI_sub, nI_mul, zaI_n, zaJ_n, zpI_n, zpJ_n, Option.bind_some, nI_le, nI_ge, nI_lt, nI_nlt, nI_ne, ↓reduceIte, if_true, if_false]
theorem c_push {M : zM} {n : Nat} (hn : n ≤ 15) (h0 : M.1 33 2 = nI n) (s : Int64) (t : Int32) : ∃ M', f2_push 33 15 s t M = some M' ∧ M'.1 33 2 = nI (zmi n) ∧ ∀ i, i < zmi n → M'.2 34 i = (if i + 1 = zmi n then s else M.2 34 (zsf n i)) ∧ M'.1 35 i = (if i + 1 = zmi n then t else M.1 35 (zsf n i)) := by
  rw [f2_push, show Int32.ofNat 15 = nI 15 from rfl, h0]
  by_cases hl : n < 15
  · rw [if_pos (nI_lt hl (by omega)), f2_push_74, h0, c_put hl, Option.bind_some]
    refine ⟨_, rfl, ?_, fun i hi => ?_⟩
    · simp [zsi1, zsj1, h0, nI_1, zmi, hl]
    · simp only [zmi, zsf, if_pos hl] at hi ⊢
      by_cases hin : i = n
      · subst hin
        simp [zsi1, zsi2, zsj1, zsj2]
      · rw [if_neg (by omega), if_neg (by omega)]
        simp [zsi1, zsi2, zsj1, zsj2, hin]
  · have hn15 : n = 15 := by omega
    subst hn15
    rw [if_neg (nI_nlt (Nat.le_refl _) (by omega))]
    refine zloopP (F := fun f j x => f2_push_15 33 15 f s t (nI j) x) (I := fun j x => x.1 33 2 = nI 15 ∧ ∀ i, i < 15 → x.2 34 i = (if i + 1 < j then M.2 34 (i + 1) else M.2 34 i) ∧ x.1 35 i = (if i + 1 < j then M.1 35 (i + 1) else M.1 35 i)) (P := fun o => ∃ M', o = some M' ∧ M'.1 33 2 = nI (zmi 15) ∧ ∀ i, i < zmi 15 → M'.2 34 i = (if i + 1 = zmi 15 then s else M.2 34 (zsf 15 i)) ∧ M'.1 35 i = (if i + 1 = zmi 15 then t else M.1 35 (zsf 15 i))) 15 (by omega) (k0 := 1) (by omega) (fun f j x hj0 hj hx => Or.inl ?_) (fun f x hx => ?_) ⟨h0, fun i hi => by rw [if_neg (by omega), if_neg (by omega)]; exact ⟨rfl, rfl⟩⟩
    · obtain ⟨x1, x2⟩ := hx
      refine ⟨zsi (zsj x 34 (j - 1) (x.2 34 j)) 35 (j - 1) (x.1 35 j), ?_, ?_, fun i hi => ?_⟩
      · show f2_push_15 33 15 (f + 1) s t (nI j) x = _
        rw [f2_push_15, show Int32.ofNat 15 = nI 15 from rfl]
        simp (disch := omega) only [zl0, zl1, zl2, zl3, zl4, zl5, zl6, zl7, zl8, zl9, zl10, zl11, zl12, nI_add, nI_sub, nI_mul, zaI_n, zaJ_n, zpI_n, zpJ_n, Option.bind_some, nI_le, nI_ge, nI_lt, nI_nlt, nI_ne, ↓reduceIte, if_true, if_false, zsj1]
      · simp [zsi1, zsj1, x1]
      · obtain ⟨q1, q2⟩ := x2 i hi
        obtain ⟨q3, q4⟩ := x2 j hj
        rw [if_neg (by omega)] at q3 q4
        simp only [zsi1, zsi2, zsj1, zsj2]
        by_cases hij : i = j - 1
        · subst hij
          have e : j - 1 + 1 = j := by omega
          simp [q3, q4, e]
        · by_cases hl2 : i + 1 < j
          · rw [if_pos hl2] at q1 q2
            simp only [hij, and_false, if_false, q1, q2]
            rw [if_pos (by omega), if_pos (by omega)]
            exact ⟨rfl, rfl⟩
          · rw [if_neg hl2] at q1 q2
            simp only [hij, and_false, if_false, q1, q2]
            rw [if_neg (by omega), if_neg (by omega)]
            exact ⟨rfl, rfl⟩
    · obtain ⟨x1, x2⟩ := hx
      refine ⟨zsi (zsi (zsj (zsi x 33 2 (nI 14)) 34 14 s) 35 14 t) 33 2 (nI 15), ?_, by simp [zsi1, zmi], fun i hi => ?_⟩
      · show f2_push_15 33 15 (f + 1) s t (nI 15) x = _
        rw [f2_push_15, show Int32.ofNat 15 = nI 15 from rfl, if_pos (nI_le (Nat.le_refl _) (by omega)), f2_push_74]
        have e : (zsi x 33 2 (nI 15 - 1)).1 33 2 = nI 14 := by
          rw [zsi1, if_pos ⟨rfl, rfl⟩]
          rfl
        rw [e, c_put (by omega), Option.bind_some]
        simp [zsi1, zsj1]
        rfl
      · have hz : zmi 15 = 15 := rfl
        rw [hz] at hi ⊢
        obtain ⟨q1, q2⟩ := x2 i hi
        simp only [zsi1, zsi2, zsj1, zsj2]
        by_cases hij : i = 14
        · subst hij
          simp
        · rw [if_neg (show ¬ i + 1 = 15 by omega), if_neg (show ¬ i + 1 = 15 by omega), show zsf 15 i = i + 1 from rfl]
          rw [if_pos (by omega)] at q1 q2
          simp [hij, q1, q2]
theorem r_puts {M : zM} {n : Nat} (hn : n ≤ 15) (h0 : M.1 39 18 = nI n) : ∃ M', f9_putsBy M = some M' ∧ (∀ i j, i < n → j < 9 → M'.1 49 (9 * i + j) = M.1 49 (9 * i + j)) ∧ ∀ j, j < 9 → M'.1 49 (9 * n + j) = M.1 41 j := by
  rw [f9_putsBy]
  refine zloopP (F := fun f j x => f9_putsBy_2 f (nI j) x) (I := fun j x => x.1 39 18 = nI n ∧ (∀ i, x.1 41 i = M.1 41 i) ∧ (∀ i j, i < n → j < 9 → x.1 49 (9 * i + j) = M.1 49 (9 * i + j)) ∧ ∀ i, i < j → x.1 49 (9 * n + i) = M.1 41 i) (P := fun o => ∃ M', o = some M' ∧ (∀ i j, i < n → j < 9 → M'.1 49 (9 * i + j) = M.1 49 (9 * i + j)) ∧ ∀ j, j < 9 → M'.1 49 (9 * n + j) = M.1 41 j) 9 (by omega) (k0 := 0) (by omega) (fun f j x _ hj hx => Or.inl ?_) (fun f x hx => ?_) ⟨h0, fun _ => rfl, fun _ _ _ _ => rfl, fun i hi => by omega⟩
  · obtain ⟨x1, x2, x3, x4⟩ := hx
    refine ⟨zsi x 49 (9 * n + j) (M.1 41 j), ?_, by simp [zsi1, x1], fun i => by simp [zsi1, x2], fun i j' hi hj' => ?_, fun i hi => ?_⟩
    · show f9_putsBy_2 (f + 1) (nI j) x = _
      rw [f9_putsBy_2]
      simp (disch := omega) only [zl0, zl1, zl2, zl3, zl4, zl5, zl6, zl7, zl8, zl9, zl10, zl11, zl12, nI_add, nI_sub, nI_mul, zaI_n, zaJ_n, zpI_n, zpJ_n, Option.bind_some, nI_le, nI_ge, nI_lt, nI_nlt, nI_ne, ↓reduceIte, if_true, if_false, x1, x2]
    · rw [zsi1, if_neg (by omega)]
      exact x3 i j' hi hj'
    · rw [zsi1]
      by_cases hij : i = j
      · subst hij
        simp
      · rw [if_neg (by omega)]
        exact x4 i (by omega)
  · obtain ⟨x1, x2, x3, x4⟩ := hx
    refine ⟨x, ?_, x3, x4⟩
    show f9_putsBy_2 (f + 1) (nI 9) x = _
    rw [f9_putsBy_2]
    simp (disch := omega) only [zl0, zl1, zl2, zl3, zl4, zl5, zl6, zl7, zl8, zl9, zl10, zl11, zl12, nI_add, nI_sub, nI_mul, zaI_n, zaJ_n, zpI_n, zpJ_n, Option.bind_some, nI_le, nI_ge, nI_lt, nI_nlt, nI_ne, ↓reduceIte, if_true, if_false]
theorem r_adds {M : zM} {n : Nat} (hn : n ≤ 15) (h0 : M.1 39 18 = nI n) (v : Int32) : ∃ M', f9_adds v M = some (v, M') ∧ M'.1 39 18 = nI (zmi n) ∧ ∀ i j, i < zmi n → j < 9 → M'.1 49 (9 * i + j) = M.1 49 (9 * zsf n i + j) := by
  rw [f9_adds]
  have e : (zsi M 39 18 (M.1 39 18 + 1)).1 39 18 = nI (n + 1) := by simp [zsi1, h0, nI_1]
  rw [e, show (15 : Int32) = nI 15 from rfl]
  by_cases hl : n < 15
  · rw [if_pos (nI_le (by omega) (by omega))]
    refine ⟨_, rfl, by rw [e, zmi, if_pos hl], fun i j hi hj => ?_⟩
    rw [zsi1, if_neg (by omega), zsf, if_pos hl]
  · have hn15 : n = 15 := by omega
    subst hn15
    rw [if_neg (nI_ge (by omega) (by omega))]
    refine zloopP (F := fun f j x => f9_adds_21 f v (nI j) x) (I := fun j x => x.1 39 18 = nI 16 ∧ ∀ i, i < 144 → x.1 49 i = (if i < j then M.1 49 (i + 9) else M.1 49 i)) (P := fun o => ∃ M', o = some (v, M') ∧ M'.1 39 18 = nI (zmi 15) ∧ ∀ i j, i < zmi 15 → j < 9 → M'.1 49 (9 * i + j) = M.1 49 (9 * zsf 15 i + j)) 135 (by omega) (k0 := 0) (by omega) (fun f j x _ hj hx => Or.inl ?_) (fun f x hx => ?_) ⟨e, fun i hi => by rw [if_neg (by omega)]; simp [zsi1]⟩
    · obtain ⟨x1, x2⟩ := hx
      refine ⟨zsi x 49 j (M.1 49 (j + 9)), ?_, by simp [zsi1, x1], fun i hi => ?_⟩
      · show f9_adds_21 (f + 1) v (nI j) x = _
        have q := x2 (j + 9) (by omega)
        rw [if_neg (by omega)] at q
        rw [f9_adds_21, show (135 : Int32) = nI 135 from rfl]
        simp (disch := omega) only [zl0, zl1, zl2, zl3, zl4, zl5, zl6, zl7, zl8, zl9, zl10, zl11, zl12, nI_add, nI_sub, nI_mul, zaI_n, zaJ_n, zpI_n, zpJ_n, Option.bind_some, nI_le, nI_ge, nI_lt, nI_nlt, nI_ne, ↓reduceIte, if_true, if_false, q]
      · rw [zsi1]
        by_cases hij : i = j
        · subst hij
          simp
        · rw [if_neg (by omega), x2 i hi]
          by_cases hl2 : i < j
          · rw [if_pos hl2, if_pos (by omega)]
          · rw [if_neg hl2, if_neg (by omega)]
    · obtain ⟨x1, x2⟩ := hx
      refine ⟨zsi x 39 18 (nI 15), ?_, by simp [zsi1, zmi], fun i j hi hj => ?_⟩
      · show f9_adds_21 (f + 1) v (nI 135) x = _
        rw [f9_adds_21, show (135 : Int32) = nI 135 from rfl, if_pos (nI_le (Nat.le_refl _) (by omega)), x1]
        rfl
      · have hz : zmi 15 = 15 := rfl
        rw [hz] at hi
        rw [zsi1, if_neg (by omega), x2 _ (by omega), if_pos (by omega), show zsf 15 i = i + 1 from rfl]
        exact congrArg (M.1 49) (by omega)
/-- one more that can be undone, on both sides -/
theorem iF_add {M M2 : zM} {p e : Nat} {w : Nat → Nat} (hA : iA M p e w) (hF : iF M) (h8 : ∀ n, n ≤ 15 → M.1 33 2 = nI n → M2.1 33 2 = nI (zmi n) ∧ ∀ i, i < zmi n → M2.2 34 i = (if i + 1 = zmi n then lN (zshN p e w) else M.2 34 (zsf n i)) ∧ M2.1 35 i = (if i + 1 = zmi n then M.1 1 2 else M.1 35 (zsf n i))) (h9 : ∀ n, n ≤ 15 → M.1 39 18 = nI n → M2.1 39 18 = nI (zmi n) ∧ ∀ i j, i < zmi n → j < 9 → M2.1 49 (9 * i + j) = (if i + 1 = zmi n then M.1 41 j else M.1 49 (9 * zsf n i + j))) : iF M2 := by
  obtain ⟨n, hn, f1, f2, f3⟩ := hF
  obtain ⟨a1, a2⟩ := h8 n hn f1
  obtain ⟨b1, b2⟩ := h9 n hn f2
  have hz : zmi n ≤ 15 ∧ (n < 15 → zmi n = n + 1) ∧ (¬ n < 15 → zmi n = 15) := by
    unfold zmi
    split <;> omega
  refine ⟨zmi n, hz.1, a1, b1, fun i hi => ?_⟩
  obtain ⟨c1, c2⟩ := a2 i hi
  by_cases hl : i + 1 = zmi n
  · rw [if_pos hl] at c1 c2
    refine ⟨p, e, w, hA.1, c1, ?_, ?_, ?_, fun j hj => ?_⟩
    · show _ = M2.1 49 (9 * i + 8)
      rw [c2, b2 i 8 hi (by omega), if_pos hl, hA.2.2.2]
    · show M2.1 49 (9 * i + 6) = _
      rw [b2 i 6 hi (by omega), if_pos hl, hA.2.2.1.1]
    · show M2.1 49 (9 * i + 7) = _
      rw [b2 i 7 hi (by omega), if_pos hl, hA.2.2.1.2.1]
    · show M2.1 49 (9 * i + j) = _
      rw [b2 i j hi (by have := hA.1.2.1; omega), if_pos hl, hA.2.2.1.2.2 j hj]
  · rw [if_neg hl] at c1 c2
    obtain ⟨p', e', w', q1, q2, q3, q4, q5, q6⟩ := f3 (zsf n i) (by unfold zsf; split <;> omega)
    refine ⟨p', e', w', q1, by rw [c1, q2], ?_, ?_, ?_, fun j hj => ?_⟩
    · show _ = M2.1 49 (9 * i + 8)
      rw [c2, b2 i 8 hi (by omega), if_neg hl]
      exact q3
    · show M2.1 49 (9 * i + 6) = _
      rw [b2 i 6 hi (by omega), if_neg hl]
      exact q4
    · show M2.1 49 (9 * i + 7) = _
      rw [b2 i 7 hi (by omega), if_neg hl]
      exact q5
    · show M2.1 49 (9 * i + j) = _
      rw [b2 i j hi (by have := q1.2.1; omega), if_neg hl]
      exact q6 j hj
