/-! what is left of a cloth by a set that is taken out -/
abbrev zQ3 : Type := Nat × Nat × (Nat → Nat)
def zlv (s p e : Nat) (w : Nat → Nat) : Nat → zQ3
  | 0 => (p, e, w)
  | j + 1 => if s.testBit (11 - j) = true then (zdP (zlv s p e w j).1 ((11 - j) / 6), zdE (zlv s p e w j).2.1 ((11 - j) / 6), zdW (zlv s p e w j).2.2 ((11 - j) / 6) ((11 - j) % 6)) else zlv s p e w j
/-- all below a thread is there yet -/
def zlvI (s p e : Nat) (w : Nat → Nat) (j : Nat) : Prop := (zlv s p e w j).1 ≤ 6 ∧ (zlv s p e w j).2.1 ≤ 6 ∧ (∀ i, i < (zlv s p e w j).1 → (zlv s p e w j).2.2 i < 64) ∧ ∀ t, t < 12 - j → zhas p e t → t % 6 < zmany (zlv s p e w j).1 (zlv s p e w j).2.1 (t / 6)
theorem zhas_m {p e t : Nat} (ht : t < 12) : zhas p e t ↔ t % 6 < zmany p e (t / 6) := by
  unfold zhas zmany
  by_cases g : t < 6
  · rw [if_pos (by omega)]
    omega
  · rw [if_neg (by omega)]
    omega
theorem zlvI_0 {s p e : Nat} {w : Nat → Nat} (hc : zCl p e w) : zlvI s p e w 0 := by
  obtain ⟨c1, c2, c3, c4, c5, c6⟩ := id hc
  exact ⟨c2, c4, fun i _ => hc.lt64 i, fun t ht h => (zhas_m (by omega)).mp h⟩
theorem zlvI_s {s p e : Nat} {w : Nat → Nat} (hb : zsb p e s) {j : Nat} (hj : j < 12) (h : zlvI s p e w j) : zlvI s p e w (j + 1) := by
  unfold zlvI at h ⊢
  obtain ⟨h1, h2, h3, h4⟩ := h
  rw [zlv]
  by_cases g : s.testBit (11 - j) = true
  · rw [if_pos g]
    have hh := h4 (11 - j) (by omega) (hb _ g).2
    generalize zlv s p e w j = Q at h1 h2 h3 h4 hh
    obtain ⟨qp, qe, qw⟩ := Q
    simp only [] at h1 h2 h3 h4 hh ⊢
    by_cases hk : (11 - j) / 6 = 0
    · rw [hk] at hh ⊢
      unfold zmany at hh
      rw [if_pos rfl] at hh
      refine ⟨by unfold zdP; rw [if_pos rfl]; omega, by unfold zdE; rw [if_pos rfl]; exact h2, fun i hi => ?_, fun t ht h => ?_⟩
      · unfold zdP at hi
        rw [if_pos rfl] at hi
        unfold zdW
        rw [if_pos rfl]
        show (if i < (11 - j) % 6 then qw i else qw (i + 1)) < 64
        split
        · exact h3 i (by omega)
        · exact h3 (i + 1) (by omega)
      · have := h4 t (by omega) h
        have ht0 : t / 6 = 0 := by omega
        rw [ht0] at this ⊢
        unfold zmany at this ⊢
        unfold zdP
        rw [if_pos rfl] at this ⊢
        rw [if_pos rfl]
        omega
    · have hk1 : (11 - j) / 6 = 1 := by omega
      rw [hk1] at hh ⊢
      unfold zmany at hh
      rw [if_neg (by decide)] at hh
      refine ⟨by unfold zdP; rw [if_neg (by decide)]; exact h1, by unfold zdE; rw [if_neg (by decide)]; omega, fun i hi => ?_, fun t ht h => ?_⟩
      · unfold zdP at hi
        rw [if_neg (by decide)] at hi
        unfold zdW
        rw [if_neg (by decide)]
        exact zwo_64 _ (by omega) _ (h3 i hi)
      · have := h4 t (by omega) h
        unfold zmany at this ⊢
        unfold zdP zdE
        rw [if_neg (show ¬ (1 = 0) by decide), if_neg (show ¬ (1 = 0) by decide)]
        by_cases ht0 : t / 6 = 0
        · rw [if_pos ht0] at this ⊢
          exact this
        · rw [if_neg ht0] at this ⊢
          omega
  · rw [if_neg g]
    exact ⟨h1, h2, h3, fun t ht h => h4 t (by omega) h⟩
theorem zlvI_n {s p e : Nat} {w : Nat → Nat} (hc : zCl p e w) (hb : zsb p e s) : ∀ j, j ≤ 12 → zlvI s p e w j := by
  intro j
  induction j with
  | zero => exact fun _ => zlvI_0 hc
  | succ j ih => exact fun hj => zlvI_s hb (by omega) (ih (by omega))
def zdn (n j : Nat) : Int32 := if j < n then nI (n - 1 - j) else -1
theorem zdn_s {n j : Nat} (hj : j < n) : zdn n j + (-1) = zdn n (j + 1) := by
  rw [zdn, zdn, if_pos hj]
  by_cases g : j + 1 < n
  · rw [if_pos g, nI_dec (by omega)]
    congr 1
  · rw [if_neg g, show n - 1 - j = 0 by omega]
    rfl
def zlvo (Q : zQ3) : Int32 := if Q.1 = 0 then 0 else if Q.2.1 = 0 then 0 else 1
section LV
variable {M : zM} {p e : Nat} {w : Nat → Nat}
theorem r_leaves (hR : zRr M 41 p e w) (hc : zCl p e w) {s : Nat} (hs : zss p e s) : ∃ M', f9_leaves 42 (nI s) M = some (zlvo (zlv s p e w 12), M') ∧ zRr M' 42 (zlv s p e w 12).1 (zlv s p e w 12).2.1 (zlv s p e w 12).2.2 := by
  obtain ⟨c1, c2, c3, c4, c5, c6⟩ := id hc
  have hsb := zss_sb hc hs
  have hlt := zsb_lt hsb
  obtain ⟨X1, x1, x2⟩ := r_copies (a := 42) (b := 41) (by decide) M
  rw [f9_leaves, x1, Option.bind_some]
  refine zloopP (F := fun f j x => f9_leaves_11 42 f (nI s) (zdn 12 j) x) (I := fun j x => zRr x 42 (zlv s p e w j).1 (zlv s p e w j).2.1 (zlv s p e w j).2.2) (P := fun o => ∃ M', o = some (zlvo (zlv s p e w 12), M') ∧ zRr M' 42 (zlv s p e w 12).1 (zlv s p e w 12).2.1 (zlv s p e w 12).2.2) 12 (by omega) (k0 := 0) (by omega) (fun f j x _ hj hx => Or.inl ?_) (fun f x hx => ⟨x, ?_, hx⟩) (x := X1) (hR.cp c2 x2)
  · obtain ⟨b1, b2, b3, b4⟩ := zlvI_n hc hsb j (by omega)
    have ev : zdn 12 j = nI (11 - j) := by rw [zdn, if_pos hj]
    show ∃ y, f9_leaves_11 42 (f + 1) (nI s) (zdn 12 j) x = _ ∧ _
    rw [f9_leaves_11, ev, if_neg (nI_pos (by omega)), r_has12 hlt (by omega), Option.bind_some, zlv]
    cases g : s.testBit (11 - j)
    · rw [if_pos (show nI (zi false) = 0 from rfl), f9_leaves_35, ← ev, zdn_s hj, if_neg (by decide)]
      exact ⟨x, rfl, hx⟩
    · have hh := b4 (11 - j) (by omega) (hsb _ g).2
      obtain ⟨y, y1, y2, y3⟩ := r_goes hx b1 b3 (kd := (11 - j) / 6) (i := (11 - j) % 6) (by omega) hh b2
      have e1 : nI (11 - j) / 6 = nI ((11 - j) / 6) := nI_div (d := 6) (by omega) (by omega) (by omega)
      have e2 : zrem (nI (11 - j)) 6 = nI ((11 - j) % 6) := nI_rem (d := 6) (by omega) (by omega) (by omega)
      rw [if_neg (show ¬ nI (zi true) = 0 by decide), e1, e2, y1, Option.bind_some, f9_leaves_35, ← ev, zdn_s hj, if_pos rfl]
      exact ⟨y, rfl, y2⟩
  · obtain ⟨b1, b2, b3, b4⟩ := zlvI_n hc hsb 12 (by omega)
    show f9_leaves_11 42 (f + 1) (nI s) (zdn 12 12) x = _
    rw [f9_leaves_11, if_pos (show zdn 12 12 < 0 by decide), hx.1, hx.2.1]
    generalize zlv s p e w 12 = Q at b1 b2
    rw [zlvo]
    by_cases g1 : Q.1 = 0
    · rw [if_pos g1, g1, if_pos (by decide)]
    · rw [if_neg g1, if_neg (nI_nle (by omega) (by omega))]
      by_cases g2 : Q.2.1 = 0
      · rw [if_pos g2, g2, if_pos (by decide)]
      · rw [if_neg g2, if_neg (nI_nle (by omega) (by omega))]
/-- a word without the ends of a set -/
def zxd (b x : Nat) : Nat → Nat
  | 0 => x
  | j + 1 => if b.testBit (5 - j) = true then zwo (zxd b x j) (5 - j) else zxd b x j
def zcn (b : Nat) : Nat → Nat
  | 0 => 0
  | j + 1 => zcn b j + (b.testBit (5 - j)).toNat
theorem zcn_6 : ∀ b, b < 64 → zcn b 6 = zbc b := by decide +kernel
theorem zxd_lt {b x : Nat} (hx : x < 64) : ∀ j, j ≤ 6 → zxd b x j < 64 := by
  intro j
  induction j with
  | zero => exact fun _ => hx
  | succ j ih =>
    intro hj
    rw [zxd]
    split
    · exact zwo_64 _ (by omega) _ (ih (by omega))
    · exact ih (by omega)
theorem zxd_hi {b x e : Nat} (hb : b < 2 ^ e) : ∀ j, j ≤ 6 - e → zxd b x j = x := by
  intro j
  induction j with
  | zero => exact fun _ => rfl
  | succ j ih =>
    intro hj
    have h1 : 2 ^ e ≤ 2 ^ (5 - j) := Nat.pow_le_pow_right (by omega) (by omega)
    rw [zxd, Nat.testBit_lt_two_pow (by omega), if_neg (by decide)]
    exact ih (by omega)
theorem zbit_hi (s i : Nat) : s.testBit (6 + i) = (s / 64).testBit i := by
  rw [show (64 : Nat) = 2 ^ 6 from rfl, Nat.testBit_div_two_pow, Nat.add_comm]
theorem zbit_lo {s i : Nat} (hi : i < 6) : s.testBit i = (s % 64).testBit i := by
  rw [show (64 : Nat) = 2 ^ 6 from rfl, Nat.testBit_mod_two_pow, decide_eq_true hi, Bool.true_and]
theorem zlv_6 (s p e : Nat) (w : Nat → Nat) : ∀ j, j ≤ 6 → zlv s p e w j = (p, e - zcn (s / 64) j, fun i => zxd (s / 64) (w i) j) := by
  intro j
  induction j with
  | zero => exact fun _ => rfl
  | succ j ih =>
    intro hj
    have e0 : 11 - j = 6 + (5 - j) := by omega
    have e1 : (11 - j) / 6 = 1 := by omega
    have e2 : (11 - j) % 6 = 5 - j := by omega
    have e3 : s.testBit (11 - j) = (s / 64).testBit (5 - j) := by rw [e0, zbit_hi]
    rw [zlv, ih (by omega), e1, e2, e3, zcn]
    cases g : (s / 64).testBit (5 - j)
    · rw [if_neg (by decide)]
      refine Prod.ext rfl (Prod.ext rfl ?_)
      funext i
      show _ = zxd (s / 64) (w i) (j + 1)
      rw [zxd, g, if_neg (by decide)]
    · rw [if_pos rfl]
      refine Prod.ext rfl (Prod.ext ?_ ?_)
      · show e - zcn (s / 64) j - 1 = e - (zcn (s / 64) j + 1)
        omega
      · funext i
        show zwo (zxd (s / 64) (w i) j) (5 - j) = zxd (s / 64) (w i) (j + 1)
        rw [zxd, g, if_pos rfl]
theorem zbt1 {b t : Nat} (hb : b < 4096) (ht : t < 12) : (zushr (nI b) (nI t)) &&& 1 = nI (zi (b.testBit t)) := by
  rw [nI_ushr (by omega) (by omega), zl1, nI_and, zb1]
theorem c_narrow (h : zWc M 1 p e w) (hc : zCl p e w) {b : Nat} (hb : b < 2 ^ e) : ∃ M', f1_narrow 1 (nI b) M = some M' ∧ M'.1 27 1 = nI (e - zbc b) ∧ ∀ i, i < p → M'.1 28 i = nI (zxd b (w i) 6) := by
  obtain ⟨c1, c2, c3, c4, c5, c6⟩ := id hc
  have he := zpe c4
  have hbc : zbc b ≤ e := by
    have key : ∀ e, e < 7 → ∀ b, b < 2 ^ e → zbc b ≤ e := by decide +kernel
    exact key e (by omega) b hb
  rw [f1_narrow, bc_n (by omega), Option.bind_some, h.2.1, nI_sub hbc]
  refine zloopP (F := fun f i x => f1_narrow_15 1 f (nI b) (nI i) x) (I := fun i x => zWc x 1 p e w ∧ x.1 27 1 = nI (e - zbc b) ∧ ∀ k, k < i → x.1 28 k = nI (zxd b (w k) 6)) (P := fun o => ∃ M', o = some M' ∧ M'.1 27 1 = nI (e - zbc b) ∧ ∀ i, i < p → M'.1 28 i = nI (zxd b (w i) 6)) p (by omega) (k0 := 0) (by omega) (fun f i x _ hi hx => Or.inl ?_) (fun f x hx => ⟨x, ?_, hx.2⟩) (x := zsi M 27 1 (nI (e - zbc b))) ⟨zWc_si h (by omega) (by omega), by simp [zsi1], fun k hk => absurd hk (by omega)⟩
  · obtain ⟨x1, x2, x3⟩ := hx
    have hcell : f7_cellsOf 1 0 (nI i) x = some (nI (w i)) := c_cells (kd := 0) x1 (by omega) (by omega)
    have inn : f1_narrow_39 1 (f1_narrow_73 1 (f1_narrow_15 1 f)) zfuel (nI b) (nI i) (nI (zxd b (w i) (6 - e))) (zdn 6 (6 - e)) x = f1_narrow_73 1 (f1_narrow_15 1 f) (nI b) (nI i) (nI (zxd b (w i) 6)) x := by
      refine zloopk (F := fun g j => f1_narrow_39 1 (f1_narrow_73 1 (f1_narrow_15 1 f)) g (nI b) (nI i) (nI (zxd b (w i) j)) (zdn 6 j) x) (6 - e) 6 (by omega) (by omega) (fun g j hj0 hj => ?_) (fun g => ?_)
      · have ev : zdn 6 j = nI (5 - j) := by rw [zdn, if_pos hj]
        have hx6 := zxd_lt (b := b) (hc.lt64 i) j (by omega)
        show f1_narrow_39 1 _ (g + 1) _ _ _ (zdn 6 j) x = _
        rw [f1_narrow_39, ev, if_neg (nI_pos (by omega)), zbt1 (by omega) (by omega), zxd]
        cases b.testBit (5 - j)
        · rw [if_pos (show nI (zi false) = 0 from rfl), f1_narrow_65, ← ev, zdn_s hj, if_neg (by decide)]
        · rw [if_neg (show ¬ nI (zi true) = 0 by decide), f8_without_n _ hx6 _ (by omega), Option.bind_some, f1_narrow_65, ← ev, zdn_s hj, if_pos rfl]
      · show f1_narrow_39 1 _ (g + 1) _ _ _ (zdn 6 6) x = _
        rw [f1_narrow_39, if_pos (show zdn 6 6 < 0 by decide)]
    refine ⟨zsi x 28 i (nI (zxd b (w i) 6)), ?_, zWc_si x1 (by omega) (by omega), by simp [zsi1, x2], fun k hk => ?_⟩
    · have e1 : nI e - 1 = zdn 6 (6 - e) := by
        rw [zdn, if_pos (by omega), show nI e - 1 = nI (e - 1) from nI_sub (b := 1) (by omega)]
        congr 1
        omega
      show f1_narrow_15 1 (f + 1) _ (nI i) x = _
      rw [f1_narrow_15, x1.1, if_neg (nI_ge hi (by omega)), hcell, Option.bind_some, x1.2.1, e1]
      rw [zxd_hi hb (6 - e) (Nat.le_refl _)] at inn
      rw [inn, f1_narrow_73, zpI_n (by omega) (by omega), Option.bind_some, nI_1]
    · rw [zsi1]
      by_cases g : k = i
      · rw [if_pos ⟨rfl, g⟩, g]
      · rw [if_neg (fun q => g q.2)]
        exact x3 k (by omega)
  · show f1_narrow_15 1 (f + 1) _ (nI p) x = _
    rw [f1_narrow_15, hx.1.1, if_pos (nI_le (Nat.le_refl _) (by omega))]
/-- words one behind the other, as one number -/
def zsq (w : Nat → Nat) (k : Nat) : Nat → Nat
  | 0 => 0
  | n + 1 => w k + 64 * zsq w (k + 1) n
theorem zsq_lt {w : Nat → Nat} : ∀ n k, (∀ i, k ≤ i → i < k + n → w i < 64) → zsq w k n < 64 ^ n := by
  intro n
  induction n with
  | zero => exact fun _ _ => Nat.zero_lt_one
  | succ n ih =>
    intro k h
    have h1 := h k (Nat.le_refl _) (by omega)
    have h2 := ih (k + 1) (fun i a b => h i (by omega) (by omega))
    rw [zsq, Nat.pow_succ]
    omega
theorem zsq_congr {w w' : Nat → Nat} {d : Nat} : ∀ n k, (∀ i, i < n → w (k + d + i) = w' (k + i)) → zsq w (k + d) n = zsq w' k n := by
  intro n
  induction n with
  | zero => exact fun _ _ => rfl
  | succ n ih =>
    intro k h
    rw [zsq, zsq, show w (k + d) = w' k from h 0 (by omega), show k + d + 1 = k + 1 + d by omega, ih (k + 1) (fun i hi => by
      have := h (i + 1) (by omega)
      rw [show k + 1 + d + i = k + d + (i + 1) by omega, show k + 1 + i = k + (i + 1) by omega]
      exact this)]
def zshX (Q : zQ3) : Nat := Q.1 + 8 * Q.2.1 + 64 * zsq Q.2.2 0 Q.1
/-- below the picks that are gone all is as it was -/
theorem zlv_lo (s p e : Nat) (w : Nat → Nat) : ∀ i, i ≤ 6 → ∀ j, j < 6 - i → (zlv s p e w (6 + i)).2.2 j = (zlv s p e w 6).2.2 j := by
  intro i
  induction i with
  | zero => exact fun _ j _ => rfl
  | succ i ih =>
    intro hi j hj
    have e1 : (11 - (6 + i)) / 6 = 0 := by omega
    have e2 : (11 - (6 + i)) % 6 = 5 - i := by omega
    show (zlv s p e w (6 + i + 1)).2.2 j = _
    rw [zlv, e1, e2]
    split
    · show zdW _ 0 (5 - i) j = _
      rw [zdW, if_pos rfl]
      show (if j < 5 - i then _ else _) = _
      rw [if_pos (by omega)]
      exact ih (by omega) j (by omega)
    · exact ih (by omega) j (by omega)
theorem zlv_e (s p e : Nat) (w : Nat → Nat) : ∀ i, i ≤ 6 → (zlv s p e w (6 + i)).2.1 = e - zcn (s / 64) 6 := by
  intro i
  induction i with
  | zero =>
    intro _
    show (zlv s p e w 6).2.1 = _
    rw [zlv_6 s p e w 6 (by omega)]
  | succ i ih =>
    intro hi
    have e1 : (11 - (6 + i)) / 6 = 0 := by omega
    show (zlv s p e w (6 + i + 1)).2.1 = _
    rw [zlv, e1]
    split
    · show zdE _ 0 = _
      rw [zdE, if_pos rfl]
      exact ih (by omega)
    · exact ih (by omega)
/-- no picks are gone ahead of those that there are -/
theorem zlv_p (s p e : Nat) (w : Nat → Nat) (hs : s % 64 < 2 ^ p) : ∀ i, i ≤ 6 - p → zlv s p e w (6 + i) = zlv s p e w 6 := by
  intro i
  induction i with
  | zero => exact fun _ => rfl
  | succ i ih =>
    intro hi
    have h1 : 2 ^ p ≤ 2 ^ (5 - i) := Nat.pow_le_pow_right (by omega) (by omega)
    have e0 : 11 - (6 + i) = 5 - i := by omega
    show zlv s p e w (6 + i + 1) = _
    rw [zlv, e0, zbit_lo (by omega), Nat.testBit_lt_two_pow (by omega), if_neg (by decide)]
    exact ih (by omega)
theorem c_shapeW (h : zWc M 1 p e w) (hc : zCl p e w) {a b : Nat} (ha : a < 2 ^ p) (hb : b < 2 ^ e) (h27 : M.1 27 1 = nI (e - zbc b)) (h28 : ∀ i, i < p → M.1 28 i = nI (zxd b (w i) 6)) : f1_shapeWithout 1 (nI a) M = some (lN (zshX (zlv (a + b * 64) p e w 12))) := by
  obtain ⟨c1, c2, c3, c4, c5, c6⟩ := id hc
  have hp := zpe c2
  have he := zpe c4
  have em : (a + b * 64) % 64 = a := by omega
  have ed : (a + b * 64) / 64 = b := by omega
  have hss : zss p e (a + b * 64) := ⟨by rw [em]; exact ha, by rw [ed]; exact hb⟩
  have hsb := zss_sb hc hss
  generalize hS : a + b * 64 = S at em ed hss hsb
  have hI := zlvI_n (w := w) hc hsb
  have q6 := zlv_6 S p e w 6 (by omega)
  have hst : zlv S p e w (6 + (6 - p)) = zlv S p e w 6 := zlv_p S p e w (by rw [em]; exact ha) (6 - p) (Nat.le_refl _)
  rw [f1_shapeWithout, h.1]
  have e1 : nI p - 1 = zdn 6 (6 - p) := by
    rw [zdn, if_pos (by omega), show nI p - 1 = nI (p - 1) from nI_sub (b := 1) (by omega)]
    congr 1
    omega
  -- the state behind i steps: k = 6 - i lie ahead
  have hge : ∀ i, 6 - p ≤ i → i ≤ 6 → 6 - i ≤ (zlv S p e w (6 + i)).1 := by
    intro i h1 h2
    by_cases g : 6 - i = 0
    · omega
    · have := (hI (6 + i) (by omega)).2.2.2 (5 - i) (by omega) (Or.inl ⟨by omega, by omega⟩)
      rw [show (5 - i) / 6 = 0 by omega, show (5 - i) % 6 = 5 - i by omega] at this
      unfold zmany at this
      rw [if_pos rfl] at this
      omega
  rw [e1, show f1_shapeWithout_13 1 zfuel (nI a) 0 0 (zdn 6 (6 - p)) M = f1_shapeWithout_13 1 zfuel (nI a) (lN (zsq (zlv S p e w (6 + (6 - p))).2.2 (6 - (6 - p)) ((zlv S p e w (6 + (6 - p))).1 - (6 - (6 - p))))) (nI ((zlv S p e w (6 + (6 - p))).1 - (6 - (6 - p)))) (zdn 6 (6 - p)) M by
    rw [hst, q6]
    simp only []
    rw [show p - (6 - (6 - p)) = 0 by omega]
    rfl]
  refine zloopk (F := fun f i => f1_shapeWithout_13 1 f (nI a) (lN (zsq (zlv S p e w (6 + i)).2.2 (6 - i) ((zlv S p e w (6 + i)).1 - (6 - i)))) (nI ((zlv S p e w (6 + i)).1 - (6 - i))) (zdn 6 i) M) (6 - p) 6 (by omega) (by omega) (fun f i hi0 hi => ?_) (fun f => ?_)
  · have ev : zdn 6 i = nI (5 - i) := by rw [zdn, if_pos hi]
    have hk := hge i hi0 (by omega)
    obtain ⟨b1, b2, b3, b4⟩ := hI (6 + i) (by omega)
    have elo := zlv_lo S p e w i (by omega) (5 - i) (by omega)
    have e0 : 11 - (6 + i) = 5 - i := by omega
    have e2 : (5 - i) / 6 = 0 := by omega
    have e3 : (5 - i) % 6 = 5 - i := by omega
    have hsl := zsq_lt ((zlv S p e w (6 + i)).1 - (6 - i)) (6 - i) (w := (zlv S p e w (6 + i)).2.2) (fun j h1 h2 => b3 j (by omega))
    have hpw : 64 ^ ((zlv S p e w (6 + i)).1 - (6 - i)) ≤ 64 ^ 6 := Nat.pow_le_pow_right (by omega) (by omega)
    show f1_shapeWithout_13 1 (f + 1) _ _ _ (zdn 6 i) M = f1_shapeWithout_13 1 f _ (lN (zsq (zlv S p e w (6 + i + 1)).2.2 (6 - (i + 1)) ((zlv S p e w (6 + i + 1)).1 - (6 - (i + 1))))) (nI ((zlv S p e w (6 + i + 1)).1 - (6 - (i + 1)))) (zdn 6 (i + 1)) M
    rw [f1_shapeWithout_13, ev, if_neg (nI_pos (by omega)), zbt1 (by omega) (by omega), zlv, e0, zbit_lo (s := S) (by omega), em, e2, e3]
    rw [q6] at elo
    simp only [] at elo
    rw [ed] at elo
    generalize zlv S p e w (6 + i) = Q at hk b1 b2 b3 elo hsl hpw
    obtain ⟨qp, qe, qw⟩ := Q
    simp only [] at hk b1 b2 b3 elo hsl hpw ⊢
    have hv := zxd_lt (b := b) (hc.lt64 (5 - i)) 6 (by omega)
    cases a.testBit (5 - i)
    · have e5 : zlshl (lN (zsq qw (6 - i) (qp - (6 - i)))) 6 = lN (zsq qw (6 - i) (qp - (6 - i)) * 2 ^ 6) := wb_shl _ (k := 6) (by omega)
      rw [if_pos (show nI (zi false) = 0 from rfl), zaI_n (by omega) (by omega), h28 _ (by omega), Option.bind_some, f1_shapeWithout_44, ← ev, zdn_s hi, if_neg (by decide), e5, nI_l (by omega), wb_or (by omega) (by omega), Nat.or_comm, zor_disj (by omega), nI_1]
      simp only []
      rw [show qp - (6 - (i + 1)) = qp - (6 - i) + 1 by omega, zsq, show 6 - (i + 1) = 5 - i by omega, show 5 - i + 1 = 6 - i by omega, elo, Nat.mul_comm 64]
    · rw [if_neg (show ¬ nI (zi true) = 0 by decide), f1_shapeWithout_44, ← ev, zdn_s hi, if_pos rfl]
      simp only []
      have ep : zdP qp 0 = qp - 1 := by rw [zdP, if_pos rfl]
      rw [ep, show qp - 1 - (6 - (i + 1)) = qp - (6 - i) by omega]
      have ez : zsq (zdW qw 0 (5 - i)) (6 - (i + 1)) (qp - (6 - i)) = zsq qw (6 - i) (qp - (6 - i)) := by
        have := zsq_congr (w := qw) (w' := zdW qw 0 (5 - i)) (d := 1) (qp - (6 - i)) (5 - i) (fun j hj => by
          rw [zdW, if_pos rfl]
          show _ = if 5 - i + j < 5 - i then _ else _
          rw [if_neg (by omega), show 5 - i + 1 + j = 5 - i + j + 1 by omega])
        rw [show 5 - i + 1 = 6 - i by omega] at this
        rw [this, show 6 - (i + 1) = 5 - i by omega]
      rw [ez]
  · obtain ⟨b1, b2, b3, b4⟩ := hI 12 (by omega)
    have ee := zlv_e S p e w 6 (by omega)
    rw [ed, zcn_6 b (by omega)] at ee
    have ee' : (zlv S p e w 12).2.1 = e - zbc b := ee
    have hsl := zsq_lt (zlv S p e w 12).1 0 (w := (zlv S p e w 12).2.2) (fun j h1 h2 => b3 j (by omega))
    have hpw : 64 ^ (zlv S p e w 12).1 ≤ 64 ^ 6 := Nat.pow_le_pow_right (by omega) b1
    show f1_shapeWithout_13 1 (f + 1) _ (lN (zsq (zlv S p e w 12).2.2 0 ((zlv S p e w 12).1 - 0))) (nI ((zlv S p e w 12).1 - 0)) (zdn 6 6) M = _
    rw [f1_shapeWithout_13, if_pos (show zdn 6 6 < 0 by decide), h27, ← ee', zshX, Nat.sub_zero]
    generalize zlv S p e w 12 = Q at b1 b2 hsl hpw
    obtain ⟨qp, qe, qw⟩ := Q
    simp only [] at b1 b2 hsl hpw ⊢
    have e5 : zlshl (lN (zsq qw 0 qp)) 6 = lN (zsq qw 0 qp * 2 ^ 6) := wb_shl _ (k := 6) (by omega)
    have e6 : zshl (nI qe) 3 = nI (qe * 2 ^ 3) := nI_shl (b := 3) (by omega) (by omega)
    rw [e5, e6, nI_l (by omega), nI_l (by omega), wb_or (by omega) (by omega), Nat.or_comm _ (qe * 2 ^ 3), zor_disj (by omega), wb_or (by omega) (by omega), Nat.or_comm _ qp]
    have e7 : ∀ X, qe * 2 ^ 3 + X * 2 ^ 6 = (qe + X * 2 ^ 3) * 2 ^ 3 := fun X => by omega
    rw [e7, zor_disj (by omega)]
    congr 2
    omega
end LV
