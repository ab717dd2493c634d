/-! the reference: a thread out, in, a cell turned, the other order -/
section RD
variable {M : zM} {a p e : Nat} {w : Nat → Nat}
theorem zcolp_bit (w : Nat → Nat) (j n : Nat) : ∀ i, i < n → zcolp w j n / 2 ^ i % 2 = 1 - w i / 2 ^ j % 2 := by
  induction n with
  | zero => intro i hi; omega
  | succ n ih =>
    intro i hi
    rw [zcolp]
    have hl := zcolp_lt w j n
    by_cases h : i = n
    · subst h
      rw [Nat.add_mul_div_right _ _ (Nat.two_pow_pos i), Nat.div_eq_of_lt hl]
      omega
    · have q := ih i (by omega)
      obtain ⟨d, hd⟩ : ∃ d, n = i + (d + 1) := ⟨n - i - 1, by omega⟩
      have e1 : (1 - w n / 2 ^ j % 2) * 2 ^ n = (1 - w n / 2 ^ j % 2) * 2 ^ d * 2 * 2 ^ i := by
        have e0 : 2 ^ n = 2 ^ d * 2 * 2 ^ i := by rw [hd, Nat.pow_add, Nat.pow_succ, Nat.mul_comm]
        rw [e0, ← Nat.mul_assoc, ← Nat.mul_assoc]
      rw [e1, Nat.add_mul_div_right _ _ (Nat.two_pow_pos i)]
      omega
theorem zcol_bit {j i : Nat} (hj : j < e) (hi : i < p) : zcol p e w j / 2 ^ i % 2 = 1 - w i / 2 ^ j % 2 := by
  rw [zcol, if_pos hj]
  exact zcolp_bit w j p i hi
theorem r_goes (h : zRr M a p e w) (hp : p ≤ 6) (hw : ∀ i, i < p → w i < 64) {kd i : Nat} (hk : kd < 2) (hi : i < zmany p e kd) (he : e ≤ 6) : ∃ M', f9_goes a (nI kd) (nI i) M = some M' ∧ zRr M' a (zdP p kd) (zdE e kd) (zdW w kd i) ∧ M'.1 a 8 = M.1 a 8 := by
  obtain ⟨h6, h7, hr⟩ := id h
  rw [f9_goes]
  rcases (show kd = 0 ∨ kd = 1 by omega) with rfl | rfl
  · have hi : i < p := hi
    rw [if_pos (show nI 0 = 0 from rfl), zl1, nI_add]
    refine zloopP (F := fun f j x => f9_goes_8 a f (nI 0) (nI j) x) (I := fun j x => x.1 a 6 = nI p ∧ x.1 a 7 = nI e ∧ x.1 a 8 = M.1 a 8 ∧ ∀ t, t < p → x.1 a t = nI (if i ≤ t ∧ t + 1 < j then w (t + 1) else w t)) (P := fun o => ∃ M', o = some M' ∧ zRr M' a (zdP p 0) (zdE e 0) (zdW w 0 i) ∧ M'.1 a 8 = M.1 a 8) p (by omega) (k0 := i + 1) (by omega) (fun f j x hj0 hj hx => Or.inl ?_) (fun f x hx => ?_) ⟨h6, h7, rfl, fun t ht => by rw [hr t ht, if_neg (by omega)]⟩
    · obtain ⟨x1, x2, x3, x4⟩ := hx
      have q := x4 j hj
      rw [if_neg (by omega)] at q
      refine ⟨zsi x a (j - 1) (nI (w j)), ?_, ?_, ?_, ?_, fun t ht => ?_⟩
      · show f9_goes_8 a (f + 1) _ (nI j) x = _
        rw [f9_goes_8]
        simp (disch := omega) only [zl0, zl1, zl2, zl3, zl4, zl5, zl6, zl7, zl8, zl9, zl10, zl11, zl12, nI_add, nI_sub, nI_mul, zaI_n, zaJ_n, zpI_n, zpJ_n, Option.bind_some, nI_le, nI_ge, nI_lt, nI_nlt, nI_ne, ↓reduceIte, if_true, if_false, x1, q]
      · rw [zsi1, if_neg (by omega), x1]
      · rw [zsi1, if_neg (by omega), x2]
      · rw [zsi1, if_neg (by omega), x3]
      · rw [zsi1]
        by_cases htj : t = j - 1
        · rw [if_pos ⟨rfl, htj⟩, if_pos (by omega)]
          congr 2
          omega
        · rw [if_neg (by omega), x4 t ht]
          congr 1
          by_cases g : i ≤ t ∧ t + 1 < j
          · rw [if_pos g, if_pos (by omega)]
          · rw [if_neg g, if_neg (by omega)]
    · obtain ⟨x1, x2, x3, x4⟩ := hx
      refine ⟨zsi x a 6 (nI (p - 1)), ?_, ⟨by simp [zsi1, zdP], by simp [zsi1, x2, zdE], fun t ht => ?_⟩, by simp [zsi1, x3]⟩
      · show f9_goes_8 a (f + 1) _ (nI p) x = _
        rw [f9_goes_8, x1, if_pos (nI_le (Nat.le_refl _) (by omega)), f9_goes_59]
        simp (disch := omega) only [zl0, zl1, zl2, zl3, zl4, zl5, zl6, zl7, zl8, zl9, zl10, zl11, zl12, nI_add, nI_sub, nI_mul, zaI_n, zaJ_n, zpI_n, zpJ_n, Option.bind_some, nI_le, nI_ge, nI_lt, nI_nlt, nI_ne, ↓reduceIte, if_true, if_false, x1]
      · have ht : t < p - 1 := ht
        rw [zsi1, if_neg (by omega), x4 t (by omega)]
        show _ = nI (if t < i then w t else w (t + 1))
        congr 1
        by_cases g : t < i
        · rw [if_pos g, if_neg (by omega)]
        · rw [if_neg g, if_pos (by omega)]
  · have hi : i < e := hi
    rw [if_neg (by decide)]
    refine zloopP (F := fun f j x => f9_goes_35 a f (nI 1) (nI i) (nI j) x) (I := fun j x => x.1 a 6 = nI p ∧ x.1 a 7 = nI e ∧ x.1 a 8 = M.1 a 8 ∧ ∀ t, t < p → x.1 a t = nI (if t < j then zwo (w t) i else w t)) (P := fun o => ∃ M', o = some M' ∧ zRr M' a (zdP p 1) (zdE e 1) (zdW w 1 i) ∧ M'.1 a 8 = M.1 a 8) p (by omega) (k0 := 0) (by omega) (fun f j x hj0 hj hx => Or.inl ?_) (fun f x hx => ?_) ⟨h6, h7, rfl, fun t ht => by rw [hr t ht, if_neg (by omega)]⟩
    · obtain ⟨x1, x2, x3, x4⟩ := hx
      have q := x4 j hj
      rw [if_neg (by omega)] at q
      refine ⟨zsi x a j (nI (zwo (w j) i)), ?_, ?_, ?_, ?_, fun t ht => ?_⟩
      · show f9_goes_35 a (f + 1) _ _ (nI j) x = _
        rw [f9_goes_35]
        simp (disch := omega) only [zl0, zl1, zl2, zl3, zl4, zl5, zl6, zl7, zl8, zl9, zl10, zl11, zl12, nI_add, nI_sub, nI_mul, zaI_n, zaJ_n, zpI_n, zpJ_n, Option.bind_some, nI_le, nI_ge, nI_lt, nI_nlt, nI_ne, ↓reduceIte, if_true, if_false, x1, q]
        rw [f9_without_n _ (hw j hj) i (by omega), Option.bind_some]
      · rw [zsi1, if_neg (by omega), x1]
      · rw [zsi1, if_neg (by omega), x2]
      · rw [zsi1, if_neg (by omega), x3]
      · rw [zsi1]
        by_cases htj : t = j
        · subst htj
          rw [if_pos ⟨rfl, rfl⟩, if_pos (by omega)]
        · rw [if_neg (by omega), x4 t ht]
          congr 1
          by_cases g : t < j
          · rw [if_pos g, if_pos (by omega)]
          · rw [if_neg g, if_neg (by omega)]
    · obtain ⟨x1, x2, x3, x4⟩ := hx
      refine ⟨zsi x a 7 (nI (e - 1)), ?_, ⟨by simp [zsi1, x1, zdP], by simp [zsi1, zdE], fun t ht => ?_⟩, by simp [zsi1, x3]⟩
      · show f9_goes_35 a (f + 1) _ _ (nI p) x = _
        rw [f9_goes_35, x1, if_pos (nI_le (Nat.le_refl _) (by omega)), f9_goes_59]
        simp (disch := omega) only [zl0, zl1, zl2, zl3, zl4, zl5, zl6, zl7, zl8, zl9, zl10, zl11, zl12, nI_add, nI_sub, nI_mul, zaI_n, zaJ_n, zpI_n, zpJ_n, Option.bind_some, nI_le, nI_ge, nI_lt, nI_nlt, nI_ne, ↓reduceIte, if_true, if_false, x2]
      · have ht : t < p := ht
        rw [zsi1, if_neg (by omega), x4 t (by omega), if_pos ht]
        rfl
theorem r_comes (h : zRr M a p e w) (hp : p ≤ 6) (hw : ∀ i, i < p → w i < 64) {kd i v : Nat} (hk : kd < 2) (hi : i ≤ zmany p e kd) (hm : zmany p e kd < 6) (he : e ≤ 6) (hv : v < 64) : ∃ M', f9_comes a (nI kd) (nI i) (nI v) M = some M' ∧ zRr M' a (zuP p kd) (zuE e kd) (zuW p w kd i v) ∧ M'.1 a 8 = M.1 a 8 := by
  obtain ⟨h6, h7, hr⟩ := id h
  rw [f9_comes]
  rcases (show kd = 0 ∨ kd = 1 by omega) with rfl | rfl
  · have hi : i ≤ p := hi
    have hm : p < 6 := hm
    rw [if_pos (show nI 0 = 0 from rfl), h6]
    refine zloopP (F := fun f j x => f9_comes_10 a f (nI 0) (nI i) (nI v) (nI (p - j)) x) (I := fun j x => x.1 a 6 = nI p ∧ x.1 a 7 = nI e ∧ x.1 a 8 = M.1 a 8 ∧ ∀ t, t < p + 1 → t ≠ p - j → x.1 a t = nI (if p - j < t then w (t - 1) else w t)) (P := fun o => ∃ M', o = some M' ∧ zRr M' a (zuP p 0) (zuE e 0) (zuW p w 0 i v) ∧ M'.1 a 8 = M.1 a 8) (p - i) (by omega) (k0 := 0) (by omega) (fun f j x hj0 hj hx => Or.inl ?_) (fun f x hx => ?_) ⟨h6, h7, rfl, fun t ht hn => by rw [hr t (by omega), if_neg (by omega)]⟩
    · obtain ⟨x1, x2, x3, x4⟩ := hx
      have q := x4 (p - j - 1) (by omega) (by omega)
      rw [if_neg (by omega), Nat.sub_sub] at q
      refine ⟨zsi x a (p - j) (nI (w (p - j - 1))), ?_, ?_, ?_, ?_, fun t ht hn => ?_⟩
      · show f9_comes_10 a (f + 1) _ (nI i) _ (nI (p - j)) x = _
        rw [f9_comes_10, nI_dec (by omega)]
        simp (disch := omega) only [zl0, zl1, zl2, zl3, zl4, zl5, zl6, zl7, zl8, zl9, zl10, zl11, zl12, nI_add, nI_sub, nI_mul, zaI_n, zaJ_n, zpI_n, zpJ_n, Option.bind_some, nI_le, nI_ge, nI_lt, nI_nlt, nI_ne, ↓reduceIte, if_true, if_false, q, Nat.sub_sub]
      · rw [zsi1, if_neg (by omega), x1]
      · rw [zsi1, if_neg (by omega), x2]
      · rw [zsi1, if_neg (by omega), x3]
      · rw [zsi1]
        by_cases htj : t = p - j
        · subst htj
          rw [if_pos ⟨rfl, rfl⟩, if_pos (by omega)]
        · rw [if_neg (by omega), x4 t ht htj]
          congr 1
          by_cases g : p - j < t
          · rw [if_pos g, if_pos (by omega)]
          · rw [if_neg g, if_neg (by omega)]
    · obtain ⟨x1, x2, x3, x4⟩ := hx
      rw [show p - (p - i) = i by omega] at x4
      refine ⟨zsi (zsi x a i (nI v)) a 6 (nI (p + 1)), ?_, ⟨by simp [zsi1, zuP], ?_, fun t ht => ?_⟩, ?_⟩
      · show f9_comes_10 a (f + 1) _ (nI i) _ (nI (p - (p - i))) x = _
        rw [show p - (p - i) = i by omega, f9_comes_10]
        have q : (zsi x a i (nI v)).1 a 6 = nI p := by rw [zsi1, if_neg (by omega), x1]
        simp (disch := omega) only [zl0, zl1, zl2, zl3, zl4, zl5, zl6, zl7, zl8, zl9, zl10, zl11, zl12, nI_add, nI_sub, nI_mul, zaI_n, zaJ_n, zpI_n, zpJ_n, Option.bind_some, nI_le, nI_ge, nI_lt, nI_nlt, nI_ne, ↓reduceIte, if_true, if_false]
        rw [f9_comes_86]
        simp (disch := omega) only [zl0, zl1, zl2, zl3, zl4, zl5, zl6, zl7, zl8, zl9, zl10, zl11, zl12, nI_add, nI_sub, nI_mul, zaI_n, zaJ_n, zpI_n, zpJ_n, Option.bind_some, nI_le, nI_ge, nI_lt, nI_nlt, nI_ne, ↓reduceIte, if_true, if_false, q]
      · rw [zsi1, if_neg (by omega), zsi1, if_neg (by omega), x2]
        rfl
      · have ht : t < p + 1 := ht
        rw [zsi1, if_neg (by omega), zsi1]
        show _ = nI (if t < i then w t else if t = i then v else w (t - 1))
        by_cases htj : t = i
        · rw [if_pos ⟨rfl, htj⟩, if_neg (by omega), if_pos htj]
        · rw [if_neg (by omega), x4 t ht htj]
          congr 1
          by_cases g : t < i
          · rw [if_pos g, if_neg (by omega)]
          · rw [if_neg g, if_neg htj, if_pos (by omega)]
      · rw [zsi1, if_neg (by omega), zsi1, if_neg (by omega), x3]
  · have hi : i ≤ e := hi
    have hm : e < 6 := hm
    rw [if_neg (by decide)]
    refine zloopP (F := fun f j x => f9_comes_42 a f (nI 1) (nI i) (nI v) (nI j) x) (I := fun j x => x.1 a 6 = nI p ∧ x.1 a 7 = nI e ∧ x.1 a 8 = M.1 a 8 ∧ ∀ t, t < p → x.1 a t = nI (if t < j then zwi (w t) i (1 - v / 2 ^ t % 2) else w t)) (P := fun o => ∃ M', o = some M' ∧ zRr M' a (zuP p 1) (zuE e 1) (zuW p w 1 i v) ∧ M'.1 a 8 = M.1 a 8) p (by omega) (k0 := 0) (by omega) (fun f j x hj0 hj hx => Or.inl ?_) (fun f x hx => ?_) ⟨h6, h7, rfl, fun t ht => by rw [hr t ht, if_neg (by omega)]⟩
    · obtain ⟨x1, x2, x3, x4⟩ := hx
      have q := x4 j hj
      rw [if_neg (by omega)] at q
      refine ⟨zsi x a j (nI (zwi (w j) i (1 - v / 2 ^ j % 2))), ?_, ?_, ?_, ?_, fun t ht => ?_⟩
      · show f9_comes_42 a (f + 1) _ _ _ (nI j) x = _
        have ef : f9_flag (if nI (v / 2 ^ j % 2) = 0 then 1 else 0) = some (nI (1 - v / 2 ^ j % 2)) := by
          rcases (show v / 2 ^ j % 2 = 0 ∨ v / 2 ^ j % 2 = 1 by omega) with g | g <;> rw [g] <;> rfl
        rw [f9_comes_42, x1, if_neg (nI_ge hj (by omega)), zaI_n (by omega) (by omega), q, Option.bind_some, has_n _ hv j (by omega), Option.bind_some, ef, Option.bind_some, f9_with_n _ (hw j hj) i (by omega) _ (by omega), Option.bind_some, zpI_n (by omega) (by omega), Option.bind_some, nI_1]
      · rw [zsi1, if_neg (by omega), x1]
      · rw [zsi1, if_neg (by omega), x2]
      · rw [zsi1, if_neg (by omega), x3]
      · rw [zsi1]
        by_cases htj : t = j
        · subst htj
          rw [if_pos ⟨rfl, rfl⟩, if_pos (by omega)]
        · rw [if_neg (by omega), x4 t ht]
          congr 1
          by_cases g : t < j
          · rw [if_pos g, if_pos (by omega)]
          · rw [if_neg g, if_neg (by omega)]
    · obtain ⟨x1, x2, x3, x4⟩ := hx
      refine ⟨zsi x a 7 (nI (e + 1)), ?_, ⟨by simp [zsi1, x1, zuP], by simp [zsi1, zuE], fun t ht => ?_⟩, by simp [zsi1, x3]⟩
      · show f9_comes_42 a (f + 1) _ _ _ (nI p) x = _
        rw [f9_comes_42, x1, if_pos (nI_le (Nat.le_refl _) (by omega)), f9_comes_86]
        simp (disch := omega) only [zl0, zl1, zl2, zl3, zl4, zl5, zl6, zl7, zl8, zl9, zl10, zl11, zl12, nI_add, nI_sub, nI_mul, zaI_n, zaJ_n, zpI_n, zpJ_n, Option.bind_some, nI_le, nI_ge, nI_lt, nI_nlt, nI_ne, ↓reduceIte, if_true, if_false, x2]
      · have ht : t < p := ht
        rw [zsi1, if_neg (by omega), x4 t (by omega), if_pos ht]
        show _ = nI (if t < p then zwi (w t) i (1 - v / 2 ^ t % 2) else 0)
        rw [if_pos ht]
end RD
