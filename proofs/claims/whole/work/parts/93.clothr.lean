/-! a cloth's text: the class's way and the reference's -/
def zrw (t : Nat → Nat) (d k : Nat) : Nat → Nat
  | 0 => 0
  | m + 1 => zrw t d k m + (if t (1 + k * d + m) = 35 then 1 else 0) * 2 ^ m
theorem zrw_lt (t : Nat → Nat) (d k m : Nat) : zrw t d k m < 2 ^ m := by
  induction m with
  | zero => simp [zrw]
  | succ m ih =>
    rw [zrw, Nat.pow_succ]
    have : (if t (1 + k * d + m) = 35 then 1 else 0) * 2 ^ m ≤ 1 * 2 ^ m := Nat.mul_le_mul_right _ (by split <;> omega)
    omega
def zgs (t : Nat → Nat) (p : Nat) : Prop := t p = 35 ∨ t p = 46
theorem zqr {q r d : Nat} (hr : r < d) : (q * d + r) / d = q ∧ (q * d + r) % d = r := by
  have h0 : 0 < d := by omega
  refine ⟨?_, ?_⟩
  · rw [Nat.mul_comm, Nat.mul_add_div h0, Nat.div_eq_of_lt hr, Nat.add_zero]
  · rw [Nat.mul_comm, Nat.mul_add_mod, Nat.mod_eq_of_lt hr]
def zcw (t : Nat → Nat) (d q r j : Nat) : Nat := if j < q then zrw t d j d else if j = q then zrw t d q r else 0
theorem zcw_s {t : Nat → Nat} {d q r j : Nat} : zcw t d q (r + 1) j = if j = q then zrw t d q (r + 1) else zcw t d q r j := by
  unfold zcw
  by_cases h1 : j < q
  · rw [if_pos h1, if_pos h1, if_neg (by omega)]
  · rw [if_neg h1, if_neg h1]
    by_cases h2 : j = q
    · rw [if_pos h2, if_pos h2]
    · rw [if_neg h2, if_neg h2, if_neg h2]
theorem zcw_n {t : Nat → Nat} {d q j : Nat} : zcw t d q d j = zcw t d (q + 1) 0 j := by
  unfold zcw
  by_cases h1 : j < q
  · rw [if_pos h1, if_pos (by omega)]
  · rw [if_neg h1]
    by_cases h2 : j = q
    · subst h2
      rw [if_pos rfl, if_pos (by omega)]
    · rw [if_neg h2, if_neg (by omega)]
      by_cases h3 : j = q + 1
      · rw [if_pos h3]
        rfl
      · rw [if_neg h3]
section CR
variable {M : zM} {n d : Nat} {t : Nat → Nat}
/-- what the class holds where it stands at a sign -/
def zci (x : zM) (n d p : Nat) (t : Nat → Nat) : Prop := zTx x n t ∧ ∃ q r, p = 1 + q * d + r ∧ r < d ∧ ∀ j, j < 12 → x.1 4 j = nI (zcw t d q r j)
theorem zdiv_n {a b : Nat} (ha : a < 2 ^ 31) (h0 : 0 < b) (hb : b < 2 ^ 31) : zdiv (nI a) (nI b) = some (nI (a / b)) := by
  rw [zdiv, if_neg (nI_ne0 h0 hb), nI_div ha h0 hb]
theorem zmod_n {a b : Nat} (ha : a < 2 ^ 31) (h0 : 0 < b) (hb : b < 2 ^ 31) : zmod (nI a) (nI b) = some (nI (a % b)) := by
  rw [zmod, if_neg (nI_ne0 h0 hb), nI_rem ha h0 hb]
theorem c_rd_step (hd1 : 1 ≤ d) (hd6 : d ≤ 6) {f p : Nat} {x : zM} (hp : p < n) (h6 : p ≤ 6 * d) (hg : zgs t p) (h : zci x n d p t) : ∃ y, f7_readFrom_29 3 (f + 1) (nI d) (nI p) x = f7_readFrom_29 3 f (nI d) (nI (p + 1)) y ∧ zci y n d (p + 1) t := by
  obtain ⟨hT, q, r, e, hr, hj⟩ := h
  obtain ⟨h1, h2, h3⟩ := id hT
  have hq : q < 6 := Nat.lt_of_mul_lt_mul_right (a := d) (by omega)
  obtain ⟨u1, u2⟩ := zqr (q := q) hr
  have ep : p - 1 = q * d + r := by omega
  have m1 : nI p - 1 = nI (p - 1) := nI_sub (b := 1) (by omega)
  have hz := zrw_lt t d q r
  have hz6 := zpw6 (n := r) (by omega)
  have e0 : zcw t d q r q = zrw t d q r := by
    rw [zcw, if_neg (by omega), if_pos rfl]
  have key : ∀ b, b = (if t p = 35 then 1 else 0) → ∃ y, f7_readFrom_97 3 (f7_readFrom_29 3 f) (nI d) (nI p) (nI q) (nI (zrw t d q r)) (nI (b * 2 ^ r)) x = f7_readFrom_29 3 f (nI d) (nI (p + 1)) y ∧ zci y n d (p + 1) t := by
    intro b hb
    have es : zrw t d q r + b * 2 ^ r = zrw t d q (r + 1) := by
      rw [zrw, hb, e]
    refine ⟨zsi x 4 q (nI (zrw t d q (r + 1))), ?_, ?_⟩
    · rw [f7_readFrom_97, nI_or, zor_disj hz, es, zpI_n (by omega) (by omega), Option.bind_some, nI_1]
    · refine ⟨hT.to (zsi_ne (by omega)) (zsi_ne (by omega)), ?_⟩
      have hx : ∀ j, j < 12 → (zsi x 4 q (nI (zrw t d q (r + 1)))).1 4 j = nI (zcw t d q (r + 1) j) := by
        intro j hj12
        rw [zsi1, zcw_s]
        by_cases g : j = q
        · rw [if_pos ⟨rfl, g⟩, if_pos g]
        · rw [if_neg (fun s => g s.2), if_neg g, hj j hj12]
      by_cases g : r + 1 < d
      · exact ⟨q, r + 1, by omega, g, hx⟩
      · have : r + 1 = d := by omega
        refine ⟨q + 1, 0, ?_, by omega, fun j hj12 => ?_⟩
        · rw [Nat.add_mul]
          omega
        · rw [hx j hj12, this, zcw_n]
  rw [f7_readFrom_29, h2, if_neg (nI_ge hp (by omega)), c_at hT hp, Option.bind_some, show (6 : Int32) * nI d = nI (6 * d) from nI_mul 6 d, if_neg (nI_nlt (by omega) (by omega))]
  have fin : f7_readFrom_68 3 (f7_readFrom_29 3 f) (nI d) (nI p) (nI (t p)) x = f7_readFrom_97 3 (f7_readFrom_29 3 f) (nI d) (nI p) (nI q) (nI (zrw t d q r)) (nI ((if t p = 35 then 1 else 0) * 2 ^ r)) x := by
    rw [f7_readFrom_68, m1, zdiv_n (by omega) (by omega) (by omega), Option.bind_some, ep, u1, zaI_n (by omega) (by omega), hj q (by omega), e0, Option.bind_some]
    rcases hg with g | g
    · rw [g, if_pos rfl, zmod_n (by omega) (by omega) (by omega), Option.bind_some, u2, if_pos (show nI 35 = 35 from rfl), zl1, nI_shl (by omega) (by omega)]
    · rw [g, if_neg (by decide), if_neg (by decide), Nat.zero_mul]
      rfl
  obtain ⟨y, y1, y2⟩ := key _ rfl
  refine ⟨y, ?_, y2⟩
  rcases hg with g | g
  · rw [← y1, ← fin, g, if_pos (show nI 35 = 35 from rfl)]
  · rw [← y1, ← fin, g, if_neg (show ¬ nI 46 = 35 by decide), if_pos (show nI 46 = 46 from rfl)]
theorem c_rd_to (hd1 : 1 ≤ d) (hd6 : d ≤ 6) {s : Nat} (hs1 : 1 ≤ s) (hs : s ≤ n) (hn : n ≤ 80) (hg : ∀ p, 1 ≤ p → p < s → p ≤ 6 * d ∧ zgs t p) {x : zM} (h : zci x n d 1 t) {P : Option (Int32 × zM) → Prop} (hP : ∀ f y, zci y n d s t → P (f7_readFrom_29 3 (f + 1) (nI d) (nI s) y)) : P (f7_readFrom_29 3 zfuel (nI d) (nI 1) x) :=
  zloopP (F := fun f p x => f7_readFrom_29 3 f (nI d) (nI p) x) (I := fun p x => zci x n d p t) (P := P) s (by omega) (k0 := 1) hs1 (fun f p x hp1 hp hx => Or.inl (c_rd_step hd1 hd6 (by omega) (hg p hp1 hp).1 (hg p hp1 hp).2 hx)) (fun f y hy => hP f y hy) h
/-- the first sign -/
def zw0 (n : Nat) (t : Nat → Nat) : Prop := 1 ≤ n ∧ 49 ≤ t 0 ∧ t 0 ≤ 54
theorem zdg1 : ∀ v, v < 256 → ¬ (49 ≤ v ∧ v ≤ 54) → (zdg v < 1 ∨ ¬ zdg v ≤ 6) := by decide +kernel
theorem c_rd_no (h : zTx M n t) (h0 : ¬ zw0 n t) : f7_readFrom 3 M = some (nI 0, M) := by
  have hn := h.1
  rw [f7_readFrom]
  by_cases g : n = 0
  · rw [show (0 : Int32) = nI 0 from rfl, c_digE h (by omega) (by omega), Option.bind_some, if_pos (by decide)]
  · rw [show f6_digit (0 : Int32) M = f6_digit (nI 0) M from rfl, c_dig h (by omega), Option.bind_some]
    rcases zdg1 (t 0) (h.2.2 0 (by omega)).1 (fun q => h0 ⟨by omega, q⟩) with g2 | g2
    · rw [if_pos g2]
      rfl
    · by_cases g3 : zdg (t 0) < 1
      · rw [if_pos g3]
        rfl
      · rw [if_neg g3, if_neg g2]
        rfl
theorem c_rd_start (h : zTx M n t) (h0 : zw0 n t) (hd : d = t 0 - 48) : ∃ x, f7_readFrom 3 M = f7_readFrom_29 3 zfuel (nI d) (nI 1) x ∧ zci x n d 1 t := by
  obtain ⟨g1, g2, g3⟩ := h0
  obtain ⟨x, x1, x2⟩ := c_fillI (3 + 1) 12 0 M (by omega)
  have o := o_J7_fill_53178 x1
  refine ⟨x, ?_, h.to (o.1 7 (by simp) (by simp)).1 (o.1 8 (by simp) (by simp)).1, 0, 0, by omega, by omega, fun j hj => ?_⟩
  · rw [f7_readFrom, show f6_digit (0 : Int32) M = f6_digit (nI 0) M from rfl, c_dig h (by omega), Option.bind_some, (show zdg (t 0) = nI d by rw [zdg, if_pos ⟨by omega, by omega⟩, hd]), if_neg (show ¬ nI d < 1 from nI_nlt (b := 1) (by omega) (by omega)), if_pos (show nI d ≤ 6 from nI_le (b := 6) (by omega) (by omega)), x1]
    rfl
  · rw [x2 j hj, zcw, if_neg (by omega)]
    split <;> rfl
/-- a fault at s -/
theorem c_rd_bad (h : zTx M n t) (h0 : zw0 n t) (hd : d = t 0 - 48) {s : Nat} (hs1 : 1 ≤ s) (hs : s ≤ n) (hg : ∀ p, 1 ≤ p → p < s → p ≤ 6 * d ∧ zgs t p) (hb : (s < n ∧ (6 * d < s ∨ ¬ zgs t s)) ∨ (s = n ∧ (n - 1 < d ∨ (n - 1) % d ≠ 0))) : ∃ M', f7_readFrom 3 M = some (nI s, M') := by
  have hn := h.1
  obtain ⟨g1, g2, g3⟩ := id h0
  obtain ⟨x, x1, x2⟩ := c_rd_start h h0 hd
  rw [x1]
  refine c_rd_to (by omega) (by omega) hs1 hs hn hg x2 (P := fun o => ∃ M', o = some (nI s, M')) (fun f y hy => ⟨y, ?_⟩)
  obtain ⟨hT, -⟩ := hy
  obtain ⟨q1, q2, q3⟩ := id hT
  rw [f7_readFrom_29, q2]
  rcases hb with ⟨b1, b2⟩ | ⟨b1, b2⟩
  · rw [if_neg (nI_ge b1 (by omega)), c_at hT b1, Option.bind_some, show (6 : Int32) * nI d = nI (6 * d) from nI_mul 6 d]
    by_cases b3 : 6 * d < s
    · rw [if_pos (nI_lt b3 (by omega))]
    · have b4 : ¬ zgs t s := b2.elim (fun q => absurd q b3) id
      have ht := (q3 s b1).1
      rw [if_neg (nI_nlt (by omega) (by omega)), if_neg (show ¬ nI (t s) = 35 from nI_ne (b := 35) (fun q => b4 (Or.inl q)) (by omega) (by omega)), if_neg (show ¬ nI (t s) = 46 from nI_ne (b := 46) (fun q => b4 (Or.inr q)) (by omega) (by omega))]
  · rw [b1, if_pos (nI_le (Nat.le_refl _) (by omega)), show nI n - 1 = nI (n - 1) from nI_sub (b := 1) (by omega)]
    by_cases b3 : n - 1 < d
    · rw [if_pos (nI_lt b3 (by omega))]
    · have b4 : (n - 1) % d ≠ 0 := b2.elim (fun q => absurd q b3) id
      have b5 := Nat.mod_lt (n - 1) (show 0 < d by omega)
      rw [if_neg (nI_nlt (by omega) (by omega)), zmod_n (by omega) (by omega) (by omega), Option.bind_some, if_neg (nI_ne0 (by omega) (by omega))]
/-- a cloth -/
def zctw (t : Nat → Nat) (d q : Nat) : Nat → Nat := zcw t d q 0
theorem zctw_C (hd1 : 1 ≤ d) (hd6 : d ≤ 6) {q : Nat} (hq1 : 1 ≤ q) (hq : q ≤ 6) : zCl q d (zctw t d q) := by
  refine ⟨hq1, hq, hd1, hd6, fun i hi => ?_, fun i hi => ?_⟩
  · rw [zctw, zcw, if_pos hi]
    exact zrw_lt t d i d
  · rw [zctw, zcw, if_neg (by omega)]
    split <;> rfl
theorem c_rd_ok (h : zTx M n t) (h0 : zw0 n t) (hd : d = t 0 - 48) {q : Nat} (hq1 : 1 ≤ q) (hq : q ≤ 6) (hn1 : n - 1 = q * d) (hg : ∀ p, 1 ≤ p → p < n → p ≤ 6 * d ∧ zgs t p) : ∃ M', f7_readFrom 3 M = some (-1, M') ∧ zWS M' 3 (q, d, zctw t d q, 0) := by
  have hn := h.1
  obtain ⟨g1, g2, g3⟩ := id h0
  obtain ⟨x, x1, x2⟩ := c_rd_start h h0 hd
  have hd1 : 1 ≤ d := by omega
  have hd6 : d ≤ 6 := by omega
  rw [x1]
  refine c_rd_to hd1 hd6 g1 (Nat.le_refl _) hn hg x2 (P := fun o => ∃ M', o = some (-1, M') ∧ zWS M' 3 (q, d, zctw t d q, 0)) (fun f y hy => ?_)
  obtain ⟨hT, q', r, e, hr, hj⟩ := hy
  obtain ⟨q1, q2, q3⟩ := id hT
  obtain ⟨u1, u2⟩ := zqr (q := q) (r := 0) (show 0 < d by omega)
  obtain ⟨v1, v2⟩ := zqr (q := q') hr
  have e1 : q' * d + r = q * d + 0 := by omega
  have eq : q' = q := by rw [← v1, e1, u1]
  have er : r = 0 := by rw [← v2, e1, u2]
  subst eq
  subst er
  have b3 : ¬ n - 1 < d := by
    have : 1 * d ≤ q' * d := Nat.mul_le_mul_right d hq1
    omega
  obtain ⟨M', z1, z2, z3⟩ := c_settle (M := zsi (zsi (zsi y 3 0 (nI q')) 3 1 (nI d)) 3 2 0) (k := 3) (p := q') (e := d) (w := zctw t d q') (by simp [zsi1]) (by simp [zsi1]) (fun i hi => by
    rw [zsi_ne (by omega), zsi_ne (by omega), zsi_ne (by omega)]
    exact hj i (by omega)) (zctw_C hd1 hd6 hq1 hq)
  refine ⟨M', ?_, z2, by rw [z3]; simp [zsi1]⟩
  rw [f7_readFrom_29, q2, if_pos (nI_le (Nat.le_refl _) (by omega)), show nI n - 1 = nI (n - 1) from nI_sub (b := 1) (by omega), if_neg (nI_nlt (by omega) (by omega)), zmod_n (by omega) (by omega) (by omega), Option.bind_some, hn1, show q' * d % d = 0 from by rw [Nat.mul_mod_left], if_pos (show nI 0 = 0 from rfl), zdiv_n (by omega) (by omega) (by omega), Option.bind_some, show q' * d / d = q' from Nat.mul_div_cancel _ (by omega), z1]
  rfl
end CR
