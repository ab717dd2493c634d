/-! loops whose state is carried: by a counter up to n, with a way out -/
theorem zloopP {σ α : Type} {F : Nat → Nat → σ → Option α} {I : Nat → σ → Prop} {P : Option α → Prop} (n : Nat) (hn : n < 4999) {k0 : Nat} (hk : k0 ≤ n) (hs : ∀ f k x, k0 ≤ k → k < n → I k x → (∃ y, F (f + 1) k x = F f (k + 1) y ∧ I (k + 1) y) ∨ P (F (f + 1) k x)) (he : ∀ f x, I n x → P (F (f + 1) n x)) {x : σ} (h0 : I k0 x) : P (F zfuel k0 x) := by
  have key : ∀ d f k x, n - k = d → k0 ≤ k → k ≤ n → d < f → I k x → P (F f k x) := by
    intro d
    induction d with
    | zero =>
      intro f k x e1 e0 e2 e3 hI
      obtain ⟨f, rfl⟩ : ∃ g, f = g + 1 := ⟨f - 1, by omega⟩
      have : k = n := by omega
      subst this
      exact he f x hI
    | succ d ih =>
      intro f k x e1 e0 e2 e3 hI
      obtain ⟨f, rfl⟩ : ∃ g, f = g + 1 := ⟨f - 1, by omega⟩
      rcases hs f k x e0 (by omega) hI with ⟨y, q1, q2⟩ | q
      · rw [q1]
        exact ih f (k + 1) y (by omega) (by omega) (by omega) (by omega) q2
      · exact q
  exact key (n - k0) zfuel k0 x rfl (Nat.le_refl _) hk (by unfold zfuel; omega) h0
/-! the class's cloth: settled, told as one number, taken from one -/
section WV
variable {M : zM} {k p e : Nat} {w : Nat → Nat}
theorem zpw6 {n : Nat} (h : n ≤ 5) : 2 ^ n ≤ 32 := by
  have : 2 ^ n ≤ 2 ^ 5 := Nat.pow_le_pow_right (by omega) h
  omega
theorem stl_in (h0 : M.1 k 0 = nI p) (h1 : M.1 k 1 = nI e) (h2 : ∀ i, i < 6 → M.1 (k + 1) i = nI (w i)) (hc : zCl p e w) (K : Int32 → Int32 → zM → Option zM) {j : Nat} (hj : j < 6) : f7_settle_12 k K zfuel (nI j) (nI 0) (nI 0) M = K (nI j) (nI (zcol p e w j)) M := by
  obtain ⟨c1, c2, c3, c4, c5, c6⟩ := id hc
  by_cases hje : j < e
  · refine (zloop0 (F := fun f n => f7_settle_12 k K f (nI j) (nI (zcolp w j n)) (nI n) M) p (by omega) (fun f n hn => ?_) (fun f => ?_)).trans (?_ : K (nI j) (nI (zcolp w j p)) M = _)
    · show f7_settle_12 k K (f + 1) _ _ _ M = _
      have hw := hc.lt64 n
      have hz := zpw6 (n := n) (by omega)
      rw [f7_settle_12]
      simp (disch := omega) only [zl0, zl1, zl2, zl3, zl4, zl5, zl6, zl7, zl8, zl9, zl10, zl11, zl12, nI_add, nI_sub, nI_mul, zaI_n, zaJ_n, zpI_n, zpJ_n, Option.bind_some, nI_le, nI_ge, nI_lt, nI_nlt, nI_ne, ↓reduceIte, if_true, if_false, h0, h1, h2, zl1, nI_ushr, nI_shl, nI_and, nI_xor]
      have e1 : (w n / 2 ^ j &&& 1) ^^^ 1 = 1 - w n / 2 ^ j % 2 := by
        rw [Nat.and_one_is_mod]
        rcases (show w n / 2 ^ j % 2 = 0 ∨ w n / 2 ^ j % 2 = 1 by omega) with q | q <;> rw [q] <;> rfl
      have e2 : (1 - w n / 2 ^ j % 2) * 2 ^ n < 2 ^ 32 := by
        have : (1 - w n / 2 ^ j % 2) * 2 ^ n ≤ 1 * 2 ^ n := Nat.mul_le_mul_right _ (by omega)
        omega
      rw [e1, nI_shl (by omega) e2, nI_or, zor_disj (zcolp_lt w j n)]
      rfl
    · show f7_settle_12 k K (f + 1) _ _ _ M = _
      rw [f7_settle_12]
      simp (disch := omega) only [zl0, zl1, zl2, zl3, zl4, zl5, zl6, zl7, zl8, zl9, zl10, zl11, zl12, nI_add, nI_sub, nI_mul, zaI_n, zaJ_n, zpI_n, zpJ_n, Option.bind_some, nI_le, nI_ge, nI_lt, nI_nlt, nI_ne, ↓reduceIte, if_true, if_false, h0]
    · rw [zcol, if_pos hje]
  · show f7_settle_12 k K (4999 + 1) _ _ _ M = _
    rw [f7_settle_12]
    simp (disch := omega) only [zl0, zl1, zl2, zl3, zl4, zl5, zl6, zl7, zl8, zl9, zl10, zl11, zl12, nI_add, nI_sub, nI_mul, zaI_n, zaJ_n, zpI_n, zpJ_n, Option.bind_some, nI_le, nI_ge, nI_lt, nI_nlt, nI_ne, ↓reduceIte, if_true, if_false, h0, h1]
    rw [zcol, if_neg hje]
theorem c_settle (h0 : M.1 k 0 = nI p) (h1 : M.1 k 1 = nI e) (h2 : ∀ i, i < 6 → M.1 (k + 1) i = nI (w i)) (hc : zCl p e w) : ∃ M', f7_settle k M = some M' ∧ zWc M' k p e w ∧ M'.1 k = M.1 k := by
  rw [f7_settle]
  refine zloopP (F := fun f n x => f7_settle_2 k f (nI n) x) (I := fun n x => x.1 k = M.1 k ∧ (∀ i, i < 6 → x.1 (k + 1) i = nI (w i)) ∧ ∀ j, j < n → x.1 (k + 1) (6 + j) = nI (zcol p e w j)) (P := fun o => ∃ M', o = some M' ∧ zWc M' k p e w ∧ M'.1 k = M.1 k) 6 (by omega) (k0 := 0) (by omega) (fun f n x _ hn hx => Or.inl ?_) (fun f x hx => ?_) (x := M) ⟨rfl, h2, fun j hj => by omega⟩
  · obtain ⟨x1, x2, x3⟩ := hx
    refine ⟨zsi x (k + 1) (6 + n) (nI (zcol p e w n)), ?_, ?_, ?_, ?_⟩
    · show f7_settle_2 k (f + 1) _ x = _
      rw [f7_settle_2]
      simp (disch := omega) only [zl0, zl1, zl2, zl3, zl4, zl5, zl6, zl7, zl8, zl9, zl10, zl11, zl12, nI_add, nI_sub, nI_mul, zaI_n, zaJ_n, zpI_n, zpJ_n, Option.bind_some, nI_le, nI_ge, nI_lt, nI_nlt, nI_ne, ↓reduceIte, if_true, if_false]
      rw [stl_in (by rw [x1, h0]) (by rw [x1, h1]) x2 hc _ hn, f7_settle_51]
      simp (disch := omega) only [zl0, zl1, zl2, zl3, zl4, zl5, zl6, zl7, zl8, zl9, zl10, zl11, zl12, nI_add, nI_sub, nI_mul, zaI_n, zaJ_n, zpI_n, zpJ_n, Option.bind_some, nI_le, nI_ge, nI_lt, nI_nlt, nI_ne, ↓reduceIte, if_true, if_false]
    · funext j
      simp [zsi1, x1]
    · intro i hi
      rw [zsi1, if_neg (by omega)]
      exact x2 i hi
    · intro j hj
      rw [zsi1]
      by_cases hjn : j = n
      · subst hjn
        simp
      · rw [if_neg (by omega)]
        exact x3 j (by omega)
  · obtain ⟨x1, x2, x3⟩ := hx
    refine ⟨x, ?_, ⟨by rw [x1, h0], by rw [x1, h1], x2, x3⟩, x1⟩
    show f7_settle_2 k (f + 1) _ x = _
    rw [f7_settle_2]
    simp (disch := omega) only [zl0, zl1, zl2, zl3, zl4, zl5, zl6, zl7, zl8, zl9, zl10, zl11, zl12, nI_add, nI_sub, nI_mul, zaI_n, zaJ_n, zpI_n, zpJ_n, Option.bind_some, nI_le, nI_ge, nI_lt, nI_nlt, nI_ne, ↓reduceIte, if_true, if_false]
theorem shp_step (h : ∀ i, i < 6 → M.1 (k + 1) i = nI (w i)) (hw : ∀ i, w i < 64) {i a f : Nat} (hi : i < 6) (ha : a < 2 ^ 40) : f7_shape_4 k (f + 1) (lN a) (nI i) M = f7_shape_4 k f (lN (w i + 64 * a)) (nI i + (-1)) M := by
  have h1 := hw i
  rw [f7_shape_4, if_neg (nI_pos (by omega)), zaI_n (by omega) (by omega), h i hi, Option.bind_some, nI_l (by omega)]
  have e1 : zlshl (lN a) 6 = lN (a * 2 ^ 6) := wb_shl a (k := 6) (by omega)
  rw [e1, wb_or (by omega) (by omega), Nat.or_comm, zor_disj (by omega), Nat.mul_comm a]
theorem zshN_lt (hc : zCl p e w) : zshN p e w < 2 ^ 42 := by
  obtain ⟨c1, c2, c3, c4, c5, c6⟩ := id hc
  have w0 := hc.lt64 0
  have w1 := hc.lt64 1
  have w2 := hc.lt64 2
  have w3 := hc.lt64 3
  have w4 := hc.lt64 4
  have w5 := hc.lt64 5
  unfold zshN
  omega
theorem c_shape (h : zWc M k p e w) (hc : zCl p e w) : f7_shape k M = some (lN (zshN p e w)) := by
  have w0 := hc.lt64 0
  have w1 := hc.lt64 1
  have w2 := hc.lt64 2
  have w3 := hc.lt64 3
  have w4 := hc.lt64 4
  have w5 := hc.lt64 5
  obtain ⟨c1, c2, c3, c4, c5, c6⟩ := id hc
  obtain ⟨h0, h1, h2, h3⟩ := h
  rw [f7_shape]
  show f7_shape_4 k (4993 + 1 + 1 + 1 + 1 + 1 + 1 + 1) (lN 0) (nI 5) M = _
  rw [shp_step h2 hc.lt64 (by omega) (by omega), pk_m1, shp_step h2 hc.lt64 (by omega) (by omega), pk_m1, shp_step h2 hc.lt64 (by omega) (by omega), pk_m1, shp_step h2 hc.lt64 (by omega) (by omega), pk_m1, shp_step h2 hc.lt64 (by omega) (by omega), pk_m1, shp_step h2 hc.lt64 (by omega) (by omega), f7_shape_4, if_pos (by decide), h0, h1]
  have e1 : ∀ a, zlshl (lN a) 6 = lN (a * 2 ^ 6) := fun a => wb_shl a (k := 6) (by omega)
  have e2 : zshl (nI e) 3 = nI (e * 2 ^ 3) := nI_shl (b := 3) (by omega) (by omega)
  rw [e1, e2, nI_l (by omega), nI_l (by omega), wb_or (by omega) (by omega), Nat.or_comm _ (e * 2 ^ 3), zor_disj (by omega), wb_or (by omega) (by omega), Nat.or_comm _ p]
  have e3 : ∀ X, e * 2 ^ 3 + X * 2 ^ 6 = (e + X * 2 ^ 3) * 2 ^ 3 := fun X => by omega
  rw [e3, zor_disj (by omega)]
  congr 2
  unfold zshN
  omega
end WV
section TS
variable {M : zM} {k p e : Nat} {w : Nat → Nat}
theorem zsh_p (hc : zCl p e w) : zshN p e w % 8 = p := by
  obtain ⟨c1, c2, c3, c4, c5, c6⟩ := id hc
  unfold zshN
  omega
theorem zsh_e (hc : zCl p e w) : zshN p e w / 8 % 8 = e := by
  obtain ⟨c1, c2, c3, c4, c5, c6⟩ := id hc
  unfold zshN
  omega
theorem zsh_w (hc : zCl p e w) {i : Nat} (hi : i < 6) : zshN p e w / 2 ^ (6 + 6 * i) % 64 = w i := by
  obtain ⟨c1, c2, c3, c4, c5, c6⟩ := id hc
  have w0 := hc.lt64 0
  have w1 := hc.lt64 1
  have w2 := hc.lt64 2
  have w3 := hc.lt64 3
  have w4 := hc.lt64 4
  have w5 := hc.lt64 5
  unfold zshN
  rcases (show i = 0 ∨ i = 1 ∨ i = 2 ∨ i = 3 ∨ i = 4 ∨ i = 5 by omega) with rfl | rfl | rfl | rfl | rfl | rfl
  · show _ / 64 % 64 = _
    omega
  · show _ / 4096 % 64 = _
    omega
  · show _ / 262144 % 64 = _
    omega
  · show _ / 16777216 % 64 = _
    omega
  · show _ / 1073741824 % 64 = _
    omega
  · show _ / 68719476736 % 64 = _
    omega
/-- one number, one cloth -/
theorem zsh_inj {p' e' : Nat} {w' : Nat → Nat} (hc : zCl p e w) (hc' : zCl p' e' w') (h : lN (zshN p e w) = lN (zshN p' e' w')) : p = p' ∧ e = e' ∧ w = w' := by
  have a := zshN_lt hc
  have b := zshN_lt hc'
  rw [pk_lEQ (by omega) (by omega)] at h
  refine ⟨by rw [← zsh_p hc, ← zsh_p hc', h], by rw [← zsh_e hc, ← zsh_e hc', h], funext fun i => ?_⟩
  by_cases hi : i < 6
  · rw [← zsh_w hc hi, ← zsh_w hc' hi, h]
  · rw [hc.2.2.2.2.2 i (by have := hc.2.1; omega), hc'.2.2.2.2.2 i (by have := hc'.2.1; omega)]
theorem zsh_ne0 (hc : zCl p e w) : ¬ lN (zshN p e w) = 0 := by
  have a := zshN_lt hc
  intro q
  have q' : lN (zshN p e w) = lN 0 := q
  rw [pk_lEQ (by omega) (by omega)] at q'
  have := zsh_p hc
  have := hc.1
  omega
theorem c_takeShape (hc : zCl p e w) (M : zM) (k : Nat) : ∃ M', f7_takeShape k (lN (zshN p e w)) M = some M' ∧ zWc M' k p e w ∧ M'.1 k 2 = M.1 k 2 := by
  have hS := zshN_lt hc
  have e1 : Int64.toInt32 (lN (zshN p e w) &&& 7) = nI p := by
    rw [show (7 : Int64) = lN (2 ^ 3 - 1) from rfl, wb_mask (by omega) (by omega), lN_i, show (2 : Nat) ^ 3 = 8 from rfl, zsh_p hc]
  have e2 : Int64.toInt32 ((zlushr (lN (zshN p e w)) 3) &&& 7) = nI e := by
    have q : zlushr (lN (zshN p e w)) 3 = lN (zshN p e w / 2 ^ 3) := wb_shr (k := 3) (by omega) (by omega)
    rw [q, show (7 : Int64) = lN (2 ^ 3 - 1) from rfl, wb_mask (by omega) (by omega), lN_i, show (2 : Nat) ^ 3 = 8 from rfl, zsh_e hc]
  have e3 : ∀ i, i < 6 → Int64.toInt32 ((zlushr (lN (zshN p e w)) (6 + 6 * nI i)) &&& 63) = nI (w i) := by
    intro i hi
    have q : zlushr (lN (zshN p e w)) (nI (6 + 6 * i)) = lN (zshN p e w / 2 ^ (6 + 6 * i)) := wb_shr (by omega) (by omega)
    have q2 : zshN p e w / 2 ^ (6 + 6 * i) ≤ zshN p e w := Nat.div_le_self _ _
    rw [show (6 : Int32) + 6 * nI i = nI (6 + 6 * i) by rw [zl6, nI_mul, nI_add], q, show (63 : Int64) = lN (2 ^ 6 - 1) from rfl, wb_mask (by omega) (by omega), lN_i, show (2 : Nat) ^ 6 = 64 from rfl, zsh_w hc hi]
  rw [f7_takeShape, e1, e2]
  refine zloopP (F := fun f n x => f7_takeShape_24 k f (lN (zshN p e w)) (nI n) x) (I := fun n x => x.1 k 0 = nI p ∧ x.1 k 1 = nI e ∧ x.1 k 2 = M.1 k 2 ∧ ∀ i, i < n → x.1 (k + 1) i = nI (w i)) (P := fun o => ∃ M', o = some M' ∧ zWc M' k p e w ∧ M'.1 k 2 = M.1 k 2) 6 (by omega) (k0 := 0) (by omega) (fun f n x _ hn hx => Or.inl ?_) (fun f x hx => ?_) ⟨by simp [zsi1], by simp [zsi1], by simp [zsi1], fun i hi => by omega⟩
  · obtain ⟨x1, x2, x3, x4⟩ := hx
    refine ⟨zsi x (k + 1) n (nI (w n)), ?_, by simp [zsi1, x1], by simp [zsi1, x2], by simp [zsi1, x3], fun i hi => ?_⟩
    · show f7_takeShape_24 k (f + 1) _ _ x = _
      rw [f7_takeShape_24, e3 n hn]
      simp (disch := omega) only [zl0, zl1, zl2, zl3, zl4, zl5, zl6, zl7, zl8, zl9, zl10, zl11, zl12, nI_add, nI_sub, nI_mul, zaI_n, zaJ_n, zpI_n, zpJ_n, Option.bind_some, nI_le, nI_ge, nI_lt, nI_nlt, nI_ne, ↓reduceIte, if_true, if_false]
    · rw [zsi1]
      by_cases hin : i = n
      · subst hin
        simp
      · rw [if_neg (by omega)]
        exact x4 i (by omega)
  · obtain ⟨x1, x2, x3, x4⟩ := hx
    obtain ⟨M', h1, h2, h3⟩ := c_settle x1 x2 x4 hc
    refine ⟨M', ?_, h2, by rw [h3, x3]⟩
    show f7_takeShape_24 k (f + 1) _ _ x = _
    rw [f7_takeShape_24]
    simp (disch := omega) only [zl0, zl1, zl2, zl3, zl4, zl5, zl6, zl7, zl8, zl9, zl10, zl11, zl12, nI_add, nI_sub, nI_mul, zaI_n, zaJ_n, zpI_n, zpJ_n, Option.bind_some, nI_le, nI_ge, nI_lt, nI_nlt, nI_ne, ↓reduceIte, if_true, if_false]
    rw [h1]
    rfl
end TS
