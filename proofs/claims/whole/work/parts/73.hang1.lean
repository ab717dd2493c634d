/-! the steps, run -/
theorem z1shl {t : Nat} (h : t < 12) : zshl 1 (nI t) = nI (2 ^ t) := by
  have h2 : 2 ^ t < 4096 := wb_lt2 (b := 12) h
  have := nI_shl (a := 1) (b := t) (by omega) (by omega)
  rw [Nat.one_mul] at this
  exact this
section RI
variable {tb : Nat → Nat} {s f : Nat}
theorem zlt4096 {x : Nat} (h : ∀ i, 12 ≤ i → x.testBit i = false) : x < 4096 := Nat.lt_pow_two_of_testBit (n := 12) x (fun i hi => h i hi)
theorem zbit12 {x i : Nat} (h : x < 4096) (hi : 12 ≤ i) : x.testBit i = false := Nat.testBit_lt_two_pow (Nat.lt_of_lt_of_le h (Nat.pow_le_pow_right (n := 2) (i := 12) (by omega) hi))
/-- seen and fresh: bounds, each fresh one is seen, what is seen lies in the set or is the first -/
theorem zri_inv (hs : s < 4096) (hf : f < 12) : ∀ k, (zri tb s f k).1 < 4096 ∧ (∀ i, (zri tb s f k).2.testBit i = true → (zri tb s f k).1.testBit i = true) ∧ ∀ i, (zri tb s f k).1.testBit i = true → i = f ∨ s.testBit i = true := by
  intro k
  induction k with
  | zero =>
    have h2 : 2 ^ f < 4096 := wb_lt2 (b := 12) hf
    refine ⟨h2, fun i hi => hi, fun i hi => Or.inl ?_⟩
    have hi : (2 ^ f).testBit i = true := hi
    rw [Nat.testBit_two_pow] at hi
    exact (of_decide_eq_true hi).symm
  | succ k ih =>
    obtain ⟨h1, h2, h3⟩ := ih
    rw [zri]
    by_cases h0 : (zri tb s f k).2 = 0
    · rw [if_pos h0]
      exact ⟨h1, h2, h3⟩
    · rw [if_neg h0]
      have hF : (zri tb s f k).2 < 4096 := zlt4096 (fun i hi => by
        cases q : (zri tb s f k).2.testBit i
        · rfl
        · have := h2 i q
          rw [zbit12 h1 hi] at this
          cases this)
      refine ⟨zlt4096 (fun i hi => ?_), fun i hi => ?_, fun i hi => ?_⟩
      · simp only [Nat.testBit_or, zdf_bit, Nat.testBit_and, zbit12 h1 hi, zbit12 hs hi]
        simp
      · simp only [Nat.testBit_or, zdf_bit] at hi ⊢
        rcases Bool.or_eq_true _ _ ▸ hi with hi | hi
        · by_cases hi12 : i < 12
          · obtain ⟨a, b, ha, hb, e⟩ := z64 hF
            have := zsub_bit0 a ha b hb (by rw [← e]; exact h0) i hi12
            rw [← e, hi] at this
            have hb2 : (zri tb s f k).2.testBit i = true := by
              cases q : (zri tb s f k).2.testBit i
              · rw [q] at this; simp at this
              · rfl
            rw [h2 i hb2]
            rfl
          · have : (zri tb s f k).2 - 2 ^ zlow (zri tb s f k).2 < 4096 := Nat.lt_of_le_of_lt (Nat.sub_le _ _) hF
            rw [zbit12 this (by omega)] at hi
            cases hi
        · rw [hi]
          simp
      · simp only [Nat.testBit_or, zdf_bit, Nat.testBit_and] at hi
        rcases Bool.or_eq_true _ _ ▸ hi with hi | hi
        · exact h3 i hi
        · simp at hi
          exact Or.inr hi.1.2
theorem zri_f (hs : s < 4096) (hf : f < 12) (k : Nat) : (zri tb s f k).2 < 4096 := by
  obtain ⟨h1, h2, -⟩ := zri_inv (tb := tb) hs hf k
  exact zlt4096 (fun i hi => by
    cases q : (zri tb s f k).2.testBit i
    · rfl
    · have := h2 i q
      rw [zbit12 h1 hi] at this
      cases this)
theorem zri_stay {k : Nat} (h0 : (zri tb s f k).2 = 0) (j : Nat) : zri tb s f (k + j) = zri tb s f k := by
  induction j with
  | zero => rfl
  | succ j ih => rw [← Nat.add_assoc, zri, ih, if_pos h0]
theorem zri_full {k : Nat} (h0 : (zri tb s f k).1 = s) (j : Nat) : (zri tb s f (k + j)).1 = s := by
  induction j with
  | zero => exact h0
  | succ j ih =>
    rw [← Nat.add_assoc, zri]
    split
    · exact ih
    · show _ ||| _ = s
      rw [ih]
      apply Nat.eq_of_testBit_eq
      intro i
      rw [Nat.testBit_or, zdf_bit, Nat.testBit_and]
      cases s.testBit i <;> simp
theorem zri_cnt (hs : s < 4096) (hf : f < 12) : ∀ k, (∀ j, j < k → (zri tb s f j).2 ≠ 0) → zct (zri tb s f k).1 = zct (zri tb s f k).2 + k := by
  intro k
  induction k with
  | zero => intro _; rfl
  | succ k ih =>
    intro h
    have e := ih (fun j hj => h j (by omega))
    have h0 := h k (by omega)
    obtain ⟨h1, h2, h3⟩ := zri_inv (tb := tb) hs hf k
    have hF := zri_f (tb := tb) hs hf k
    rw [zri, if_neg h0]
    have c1 : zct ((zri tb s f k).1 ||| zdf (tb (zlow (zri tb s f k).2) &&& s) (zri tb s f k).1) = zct (zri tb s f k).1 + zct (zdf (tb (zlow (zri tb s f k).2) &&& s) (zri tb s f k).1) := zct_or (fun i hi => by rw [zdf_bit, hi]; simp)
    have c2 : zct (((zri tb s f k).2 - 2 ^ zlow (zri tb s f k).2) ||| zdf (tb (zlow (zri tb s f k).2) &&& s) (zri tb s f k).1) = zct ((zri tb s f k).2 - 2 ^ zlow (zri tb s f k).2) + zct (zdf (tb (zlow (zri tb s f k).2) &&& s) (zri tb s f k).1) := zct_or (fun i hi => by
      have hi12 : i < 12 := by
        rcases Nat.lt_or_ge i 12 with q | q
        · exact q
        · rw [zbit12 (Nat.lt_of_le_of_lt (Nat.sub_le _ _) hF) q] at hi
          cases hi
      obtain ⟨a, b, ha, hb, e⟩ := z64 hF
      have := zsub_bit0 a ha b hb (by rw [← e]; exact h0) i hi12
      rw [← e, hi] at this
      have hb2 : (zri tb s f k).2.testBit i = true := by
        cases q : (zri tb s f k).2.testBit i
        · rw [q] at this; simp at this
        · rfl
      rw [zdf_bit, h2 i hb2]
      simp)
    have c3 := zct_low hF h0
    show zct _ = zct _ + (k + 1)
    rw [c1, c2]
    omega
theorem zri_12 (hs : s < 4096) (hf : f < 12) : (zri tb s f 12).2 = 0 := by
  by_cases h : ∀ j, j < 12 → (zri tb s f j).2 ≠ 0
  · have e := zri_cnt hs hf 12 h
    have := zct_le (zri tb s f 12).1
    exact zct_0 (zri_f hs hf 12) (by omega)
  · obtain ⟨j, hj⟩ := Classical.not_forall.mp h
    obtain ⟨hj1, hj2⟩ := Classical.not_imp.mp hj
    have h0 : (zri tb s f j).2 = 0 := Classical.not_not.mp hj2
    have := zri_stay h0 (12 - j)
    rw [show j + (12 - j) = 12 by omega] at this
    rw [this, h0]
theorem zreach_lt (hs : s < 4096) (hf : f < 12) : zreach tb s f < 4096 := (zri_inv hs hf 12).1
/-- the class -/
theorem c_reached {M : zM} {a : Nat} (hT : ∀ t, t < 12 → (t = f ∨ s.testBit t = true) → M.1 a t = nI (tb t)) (hb : ∀ t, t < 12 → tb t < 4096) (hs : s < 4096) (hf : f < 12) : f0_reached (nI (2 ^ f)) (nI s) a M = some (nI (zreach tb s f)) := by
  rw [f0_reached]
  refine zloopP (F := fun g k (x : Unit) => f0_reached_8 a g (nI s) (nI (zri tb s f k).1) (nI (zri tb s f k).2) (nI k) M) (I := fun _ _ => True) (P := fun o => o = some (nI (zreach tb s f))) 12 (by omega) (k0 := 0) (by omega) (fun g k x _ hk hx => ?_) (fun g x hx => ?_) (x := ()) trivial
  · obtain ⟨h1, h2, h3⟩ := zri_inv (tb := tb) hs hf k
    have hF := zri_f (tb := tb) hs hf k
    have e12 : ¬ (12 : Int32) ≤ nI k := nI_ge (b := 12) (by omega) (by omega)
    by_cases h0 : (zri tb s f k).2 = 0
    · refine Or.inr ?_
      show f0_reached_8 a (g + 1) _ _ _ (nI k) M = _
      rw [f0_reached_8, if_neg e12, if_pos (by rw [h0]; rfl), zreach]
      have := zri_stay h0 (12 - k)
      rw [show k + (12 - k) = 12 by omega] at this
      rw [this]
    · by_cases hfull : (zri tb s f k).1 = s
      · refine Or.inr ?_
        show f0_reached_8 a (g + 1) _ _ _ (nI k) M = _
        rw [f0_reached_8, if_neg e12, if_neg (nI_ne0 (by omega) (by omega)), if_pos (by rw [hfull]), zreach]
        have := zri_full hfull (12 - k)
        rw [show k + (12 - k) = 12 by omega] at this
        rw [this, hfull]
      · refine Or.inl ⟨(), ?_, trivial⟩
        obtain ⟨l1, l2, l3, l4, l5, l6⟩ := zlow_n hF h0
        have lb := h3 _ (h2 _ (zlow_bit hF h0))
        have htb := hb _ l4
        have hand : tb (zlow (zri tb s f k).2) &&& s < 4096 := Nat.lt_of_le_of_lt Nat.and_le_right hs
        show f0_reached_8 a (g + 1) _ _ _ (nI k) M = f0_reached_8 a g _ (nI (zri tb s f (k + 1)).1) (nI (zri tb s f (k + 1)).2) _ M
        rw [f0_reached_8, if_neg e12, if_neg (nI_ne0 (by omega) (by omega)), if_neg (nI_ne hfull (by omega) (by omega)), l1, Option.bind_some, if_neg (show ¬ (12 : Int32) ≤ nI (zlow (zri tb s f k).2) from nI_ge (b := 12) l4 (by omega)), zaI_n l4 (by omega), hT _ l4 lb, Option.bind_some, f0_reached_63, l2, nI_and, nI_andn _ (by omega), nI_or, nI_or, nI_1, zri, if_neg h0]
  · show f0_reached_8 a (g + 1) _ _ _ (nI 12) M = _
    rw [f0_reached_8, if_pos (by decide)]
    rfl
/-- the reference -/
theorem r_reach {M : zM} {a : Nat} (hT : ∀ t, t < 12 → (t = f ∨ s.testBit t = true) → M.1 a t = nI (tb t)) (hb : ∀ t, t < 12 → tb t < 4096) (hs : s < 4096) (hf : f < 12) : f9_reach (nI f) (nI s) a M = some (nI (zreach tb s f)) := by
  have h2f : 2 ^ f < 4096 := wb_lt2 (b := 12) hf
  rw [f9_reach, zl1, nI_shl (by omega) (by omega), Nat.one_mul]
  refine zloopP (F := fun g k (x : Unit) => f9_reach_7 a g (nI s) (nI (zri tb s f k).1) (nI (zri tb s f k).2) M) (I := fun _ _ => True) (P := fun o => o = some (nI (zreach tb s f))) 12 (by omega) (k0 := 0) (by omega) (fun g k x _ hk hx => ?_) (fun g x hx => ?_) (x := ()) trivial
  · obtain ⟨h1, h2, h3⟩ := zri_inv (tb := tb) hs hf k
    have hF := zri_f (tb := tb) hs hf k
    by_cases h0 : (zri tb s f k).2 = 0
    · refine Or.inr ?_
      show f9_reach_7 a (g + 1) _ _ _ M = _
      rw [f9_reach_7, if_pos (by rw [h0]; rfl), zreach]
      have := zri_stay h0 (12 - k)
      rw [show k + (12 - k) = 12 by omega] at this
      rw [this]
    · refine Or.inl ⟨(), ?_, trivial⟩
      obtain ⟨l1, l2, l3, l4, l5, l6⟩ := zlow_n hF h0
      have lb := h3 _ (h2 _ (zlow_bit hF h0))
      have htb := hb _ l4
      have hand : tb (zlow (zri tb s f k).2) &&& s < 4096 := Nat.lt_of_le_of_lt Nat.and_le_right hs
      have hl2 : 2 ^ zlow (zri tb s f k).2 < 4096 := wb_lt2 (b := 12) l4
      have hsub : zdf (zri tb s f k).2 (2 ^ zlow (zri tb s f k).2) = (zri tb s f k).2 - 2 ^ zlow (zri tb s f k).2 := by
        apply Nat.eq_of_testBit_eq
        intro i
        rw [zdf_bit, Nat.testBit_two_pow]
        by_cases hi : i < 12
        · obtain ⟨a', b', ha, hb', e⟩ := z64 hF
          have := zsub_bit0 a' ha b' hb' (by rw [← e]; exact h0) i hi
          rw [← e] at this
          rw [this]
          by_cases q : i = zlow (zri tb s f k).2
          · simp [q]
          · simp [q, Ne.symm q]
        · rw [zbit12 hF (by omega), zbit12 (x := (zri tb s f k).2 - 2 ^ zlow (zri tb s f k).2) (Nat.lt_of_le_of_lt (Nat.sub_le _ _) hF) (by omega)]
          rfl
      show f9_reach_7 a (g + 1) _ _ _ M = f9_reach_7 a g _ (nI (zri tb s f (k + 1)).1) (nI (zri tb s f (k + 1)).2) M
      rw [f9_reach_7, if_neg (nI_ne0 (by omega) (by omega)), l3, Option.bind_some, zaI_n l4 (by omega), hT _ l4 lb, Option.bind_some, nI_and, nI_andn _ (by omega), nI_or, z1shl l4, nI_andn _ (by omega), nI_or, hsub, zri, if_neg h0]
  · show f9_reach_7 a (g + 1) _ _ _ M = _
    rw [zri_12 hs hf, f9_reach_7, if_pos (show nI 0 = 0 from rfl)]
    rfl
end RI
