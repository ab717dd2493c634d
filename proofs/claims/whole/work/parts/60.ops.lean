/-! cloths: a thread out, in, a cell turned, the other order -/
theorem nI_dec {n : Nat} (h : 1 ≤ n) : nI n + (-1) = nI (n - 1) := by
  obtain ⟨m, rfl⟩ : ∃ m, n = m + 1 := ⟨n - 1, by omega⟩
  rw [pk_m1]
  rfl
def zdP (p kd : Nat) : Nat := if kd = 0 then p - 1 else p
def zdE (e kd : Nat) : Nat := if kd = 0 then e else e - 1
def zdW (w : Nat → Nat) (kd i : Nat) : Nat → Nat := if kd = 0 then fun j => if j < i then w j else w (j + 1) else fun j => zwo (w j) i
def zuP (p kd : Nat) : Nat := if kd = 0 then p + 1 else p
def zuE (e kd : Nat) : Nat := if kd = 0 then e else e + 1
def zuW (p : Nat) (w : Nat → Nat) (kd i v : Nat) : Nat → Nat := if kd = 0 then fun j => if j < i then w j else if j = i then v else w (j - 1) else fun j => if j < p then zwi (w j) i (1 - v / 2 ^ j % 2) else 0
def zfW (w : Nat → Nat) (a b : Nat) : Nat → Nat := fun j => if j = a then w a ^^^ 2 ^ b else w j
def zrev (w : Nat) : Nat → Nat
  | 0 => 0
  | n + 1 => 2 * zrev w n + w / 2 ^ n % 2
def zmW (p e : Nat) (w : Nat → Nat) (kd : Nat) : Nat → Nat := if kd = 0 then fun j => if j < p then w (p - 1 - j) else 0 else fun j => zrev (w j) e
theorem zwo_lt : ∀ e, e < 7 → ∀ i, i < e → ∀ w, w < 2 ^ e → zwo w i < 2 ^ (e - 1) := by decide +kernel
theorem zwi_lt : ∀ e, e < 6 → ∀ i, i < e + 1 → ∀ w, w < 2 ^ e → ∀ b, b < 2 → zwi w i b < 2 ^ (e + 1) := by decide +kernel
theorem zrev_lt (w n : Nat) : zrev w n < 2 ^ n := by
  induction n with
  | zero => simp [zrev]
  | succ n ih => rw [zrev, Nat.pow_succ]; omega
theorem zrev_0 (n : Nat) : zrev 0 n = 0 := by
  induction n with
  | zero => rfl
  | succ n ih => rw [zrev, ih]; simp
theorem zwo_64 : ∀ i, i < 6 → ∀ w, w < 64 → zwo w i < 64 := by decide +kernel
theorem zwo_0 (i : Nat) : zwo 0 i = 0 := by simp [zwo]
section CL
variable {p e : Nat} {w : Nat → Nat}
theorem zCl_d (hc : zCl p e w) {kd i : Nat} (hk : kd < 2) (hi : i < zmany p e kd) (h2 : 2 ≤ zmany p e kd) : zCl (zdP p kd) (zdE e kd) (zdW w kd i) := by
  obtain ⟨c1, c2, c3, c4, c5, c6⟩ := id hc
  rcases (show kd = 0 ∨ kd = 1 by omega) with rfl | rfl
  · have hi : i < p := hi
    have h2 : 2 ≤ p := h2
    refine ⟨show 1 ≤ p - 1 by omega, show p - 1 ≤ 6 by omega, c3, c4, fun j hj => ?_, fun j hj => ?_⟩
    · have hj : j < p - 1 := hj
      show (if j < i then w j else w (j + 1)) < 2 ^ e
      split
      · exact c5 j (by omega)
      · exact c5 (j + 1) (by omega)
    · have hj : p - 1 ≤ j := hj
      show (if j < i then w j else w (j + 1)) = 0
      rw [if_neg (by omega)]
      exact c6 _ (by omega)
  · have hi : i < e := hi
    have h2 : 2 ≤ e := h2
    refine ⟨c1, c2, show 1 ≤ e - 1 by omega, show e - 1 ≤ 6 by omega, fun j hj => ?_, fun j hj => ?_⟩
    · exact zwo_lt e (by omega) i hi _ (c5 j hj)
    · show zwo (w j) i = 0
      rw [c6 j hj, zwo_0]
theorem zCl_u (hc : zCl p e w) {kd i v : Nat} (hk : kd < 2) (hi : i ≤ zmany p e kd) (h2 : zmany p e kd < 6) (hv : v < 2 ^ zmany p e (1 - kd)) : zCl (zuP p kd) (zuE e kd) (zuW p w kd i v) := by
  obtain ⟨c1, c2, c3, c4, c5, c6⟩ := id hc
  rcases (show kd = 0 ∨ kd = 1 by omega) with rfl | rfl
  · have hi : i ≤ p := hi
    have h2 : p < 6 := h2
    have hv : v < 2 ^ e := hv
    refine ⟨show 1 ≤ p + 1 by omega, show p + 1 ≤ 6 by omega, c3, c4, fun j hj => ?_, fun j hj => ?_⟩
    · have hj : j < p + 1 := hj
      show (if j < i then w j else if j = i then v else w (j - 1)) < 2 ^ e
      split
      · exact c5 j (by omega)
      · split
        · exact hv
        · exact c5 (j - 1) (by omega)
    · have hj : p + 1 ≤ j := hj
      show (if j < i then w j else if j = i then v else w (j - 1)) = 0
      rw [if_neg (by omega), if_neg (by omega)]
      exact c6 _ (by omega)
  · have hi : i ≤ e := hi
    have h2 : e < 6 := h2
    refine ⟨c1, c2, show 1 ≤ e + 1 by omega, show e + 1 ≤ 6 by omega, fun j hj => ?_, fun j hj => ?_⟩
    · show (if j < p then zwi (w j) i (1 - v / 2 ^ j % 2) else 0) < 2 ^ (e + 1)
      rw [if_pos (show j < p from hj)]
      exact zwi_lt e (by omega) i (by omega) _ (c5 j hj) _ (by omega)
    · show (if j < p then zwi (w j) i (1 - v / 2 ^ j % 2) else 0) = 0
      rw [if_neg (show ¬ j < p from Nat.not_lt.mpr hj)]
theorem zCl_f (hc : zCl p e w) {a b : Nat} (ha : a < p) (hb : b < e) : zCl p e (zfW w a b) := by
  obtain ⟨c1, c2, c3, c4, c5, c6⟩ := id hc
  refine ⟨c1, c2, c3, c4, fun j hj => ?_, fun j hj => ?_⟩
  · unfold zfW
    split
    · exact Nat.xor_lt_two_pow (c5 a ha) (Nat.pow_lt_pow_right (by omega) hb)
    · exact c5 j hj
  · unfold zfW
    rw [if_neg (by omega)]
    exact c6 j hj
theorem zCl_m (hc : zCl p e w) {kd : Nat} (hk : kd < 2) : zCl p e (zmW p e w kd) := by
  obtain ⟨c1, c2, c3, c4, c5, c6⟩ := id hc
  rcases (show kd = 0 ∨ kd = 1 by omega) with rfl | rfl
  · refine ⟨c1, c2, c3, c4, fun j hj => ?_, fun j hj => ?_⟩
    · show (if j < p then w (p - 1 - j) else 0) < 2 ^ e
      rw [if_pos hj]
      exact c5 _ (by omega)
    · show (if j < p then w (p - 1 - j) else 0) = 0
      rw [if_neg (by omega)]
  · refine ⟨c1, c2, c3, c4, fun j hj => zrev_lt _ _, fun j hj => ?_⟩
    show zrev (w j) e = 0
    rw [c6 j hj, zrev_0]
end CL
section CD
variable {M : zM} {k p e : Nat} {w : Nat → Nat}
theorem zW_set (h0 : M.1 k 0 = nI p) (h1 : M.1 k 1 = nI e) (h2 : ∀ i, i < 6 → M.1 (k + 1) i = nI (w i)) (hc : zCl p e w) {w' : Nat → Nat} (he : ∀ i, i < 6 → w i = w' i) (hc' : zCl p e w') : ∃ M', f7_settle k M = some M' ∧ zWc M' k p e w' ∧ M'.1 k = M.1 k := c_settle h0 h1 (fun i hi => by rw [h2 i hi, he i hi]) hc'
theorem c_draw (h : zWc M k p e w) (hc : zCl p e w) {kd i : Nat} (hk : kd < 2) (hi : i < zmany p e kd) (hm : 2 ≤ zmany p e kd) : ∃ M', f7_drawOut k (nI kd) (nI i) M = some (nI (zth p e w kd i), M') ∧ zWc M' k (zdP p kd) (zdE e kd) (zdW w kd i) ∧ M'.1 k 2 = M.1 k 2 := by
  have hm6 := (zmany_le hc kd).2
  have hc' := zCl_d hc hk hi hm
  obtain ⟨c1, c2, c3, c4, c5, c6⟩ := id hc
  obtain ⟨w0, w1, w2, w3⟩ := id h
  rw [f7_drawOut, c_has_yes h hc hk hi, Option.bind_some, if_neg (by decide), c_size h hk, Option.bind_some, zl1, if_neg (nI_ne (a := zmany p e kd) (b := 1) (by omega) (by omega) (by omega)), c_cells h hk (by omega), Option.bind_some]
  rcases (show kd = 0 ∨ kd = 1 by omega) with rfl | rfl
  · have hi : i < p := hi
    have hm : 2 ≤ p := hm
    rw [if_pos (show nI 0 = 0 from rfl), w0, nI_sub (by omega)]
    refine zloopP (F := fun f j x => f7_drawOut_47 k f (nI (zth p e w 0 i)) (nI j) x) (I := fun j x => x.1 k 0 = nI (p - 1) ∧ x.1 k 1 = nI e ∧ x.1 k 2 = M.1 k 2 ∧ ∀ t, t < 6 → x.1 (k + 1) t = nI (if i ≤ t ∧ t < j then w (t + 1) else w t)) (P := fun o => ∃ M', o = some (nI (zth p e w 0 i), M') ∧ zWc M' k (zdP p 0) (zdE e 0) (zdW w 0 i) ∧ M'.1 k 2 = M.1 k 2) (p - 1) (by omega) (k0 := i) (by omega) (fun f j x hj0 hj hx => Or.inl ?_) (fun f x hx => ?_) ⟨by simp [zsi1], by simp [zsi1, w1], by simp [zsi1], fun t ht => by simp [zsi1, w2 t ht, show ¬ (i ≤ t ∧ t < i) by omega]⟩
    · obtain ⟨x1, x2, x3, x4⟩ := hx
      have q := x4 (j + 1) (by omega)
      rw [if_neg (by omega)] at q
      refine ⟨zsi x (k + 1) j (nI (w (j + 1))), ?_, by simp [zsi1, x1], by simp [zsi1, x2], by simp [zsi1, x3], fun t ht => ?_⟩
      · show f7_drawOut_47 k (f + 1) _ (nI j) x = _
        rw [f7_drawOut_47]
        simp (disch := omega) only [zl0, zl1, zl2, zl3, zl4, zl5, zl6, zl7, zl8, zl9, zl10, zl11, zl12, nI_add, nI_sub, nI_mul, zaI_n, zaJ_n, zpI_n, zpJ_n, Option.bind_some, nI_le, nI_ge, nI_lt, nI_nlt, nI_ne, ↓reduceIte, if_true, if_false, x1, q]
      · rw [zsi1]
        by_cases htj : t = j
        · subst htj
          rw [if_pos ⟨rfl, rfl⟩, if_pos ⟨hj0, by omega⟩]
        · rw [if_neg (by omega), x4 t ht]
          congr 1
          by_cases g : i ≤ t ∧ t < j
          · rw [if_pos g, if_pos (by omega)]
          · rw [if_neg g, if_neg (by omega)]
    · obtain ⟨x1, x2, x3, x4⟩ := hx
      obtain ⟨M', y1, y2, y3⟩ := c_settle (M := zsi x (k + 1) (p - 1) (nI 0)) (k := k) (p := zdP p 0) (e := zdE e 0) (w := zdW w 0 i) (by simp [zsi1, x1, zdP]) (by simp [zsi1, x2, zdE]) (fun t ht => by
        rw [zsi1]
        show _ = nI (if t < i then w t else w (t + 1))
        by_cases htj : t = p - 1
        · rw [if_pos ⟨rfl, htj⟩, if_neg (by omega), c6 _ (by omega)]
        · rw [if_neg (by omega), x4 t ht]
          congr 1
          by_cases g : t < i
          · rw [if_pos g, if_neg (by omega)]
          · rw [if_neg g]
            by_cases g2 : t < p - 1
            · rw [if_pos (by omega)]
            · rw [if_neg (by omega), c6 _ (by omega), c6 _ (by omega)]) hc'
      refine ⟨M', ?_, y2, ?_⟩
      · show f7_drawOut_47 k (f + 1) _ (nI (p - 1)) x = _
        rw [f7_drawOut_47]
        simp (disch := omega) only [zl0, zl1, zl2, zl3, zl4, zl5, zl6, zl7, zl8, zl9, zl10, zl11, zl12, nI_add, nI_sub, nI_mul, zaI_n, zaJ_n, zpI_n, zpJ_n, Option.bind_some, nI_le, nI_ge, nI_lt, nI_nlt, nI_ne, ↓reduceIte, if_true, if_false, x1]
        rw [f7_drawOut_137, y1]
        rfl
      · rw [y3]
        simp [zsi1, x3]
  · have hi : i < e := hi
    have hm : 2 ≤ e := hm
    rw [if_neg (by decide), w1, nI_sub (by omega)]
    refine zloopP (F := fun f j x => f7_drawOut_104 k f (nI i) (nI (zth p e w 1 i)) (nI j) x) (I := fun j x => x.1 k 0 = nI p ∧ x.1 k 1 = nI (e - 1) ∧ x.1 k 2 = M.1 k 2 ∧ ∀ t, t < 6 → x.1 (k + 1) t = nI (if t < j then zwo (w t) i else w t)) (P := fun o => ∃ M', o = some (nI (zth p e w 1 i), M') ∧ zWc M' k (zdP p 1) (zdE e 1) (zdW w 1 i) ∧ M'.1 k 2 = M.1 k 2) p (by omega) (k0 := 0) (by omega) (fun f j x _ hj hx => Or.inl ?_) (fun f x hx => ?_) ⟨by simp [zsi1, w0], by simp [zsi1], by simp [zsi1], fun t ht => by simp [zsi1, w2 t ht]⟩
    · obtain ⟨x1, x2, x3, x4⟩ := hx
      have q := x4 j (by omega)
      rw [if_neg (by omega)] at q
      refine ⟨zsi x (k + 1) j (nI (zwo (w j) i)), ?_, by simp [zsi1, x1], by simp [zsi1, x2], by simp [zsi1, x3], fun t ht => ?_⟩
      · show f7_drawOut_104 k (f + 1) _ _ (nI j) x = _
        rw [f7_drawOut_104]
        simp (disch := omega) only [zl0, zl1, zl2, zl3, zl4, zl5, zl6, zl7, zl8, zl9, zl10, zl11, zl12, nI_add, nI_sub, nI_mul, zaI_n, zaJ_n, zpI_n, zpJ_n, Option.bind_some, nI_le, nI_ge, nI_lt, nI_nlt, nI_ne, ↓reduceIte, if_true, if_false, x1, q]
        rw [f8_without_n _ (hc.lt64 j) i (by omega), Option.bind_some]
      · rw [zsi1]
        by_cases htj : t = j
        · subst htj
          rw [if_pos ⟨rfl, rfl⟩, if_pos (by omega)]
        · rw [if_neg (by omega), x4 t ht]
          congr 1
          by_cases g : t < j
          · rw [if_pos g, if_pos (by omega)]
          · rw [if_neg g, if_neg (by omega)]
    · obtain ⟨x1, x2, x3, x4⟩ := hx
      obtain ⟨M', y1, y2, y3⟩ := c_settle (M := x) (k := k) (p := zdP p 1) (e := zdE e 1) (w := zdW w 1 i) x1 x2 (fun t ht => by
        rw [x4 t ht]
        show _ = nI (zwo (w t) i)
        congr 1
        by_cases g : t < p
        · rw [if_pos g]
        · rw [if_neg g, c6 t (by omega), zwo_0]) hc'
      refine ⟨M', ?_, y2, by rw [y3, x3]⟩
      show f7_drawOut_104 k (f + 1) _ _ (nI p) x = _
      rw [f7_drawOut_104]
      simp (disch := omega) only [zl0, zl1, zl2, zl3, zl4, zl5, zl6, zl7, zl8, zl9, zl10, zl11, zl12, nI_add, nI_sub, nI_mul, zaI_n, zaJ_n, zpI_n, zpJ_n, Option.bind_some, nI_le, nI_ge, nI_lt, nI_nlt, nI_ne, ↓reduceIte, if_true, if_false, x1]
      rw [f7_drawOut_137, y1]
      rfl
end CD
