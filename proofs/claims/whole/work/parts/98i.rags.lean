/-! rags -/
def zrue (p2 e2 : Nat) (u : Nat → Nat) (Q : zQ3) : Bool := (Q.1 == p2) && ((Q.2.1 == e2) && zal (fun i => Q.2.2 i == u i) 0 p2)
theorem zrue_iff {p2 e2 : Nat} {u : Nat → Nat} {Q : zQ3} : zrue p2 e2 u Q = true ↔ Q.1 = p2 ∧ Q.2.1 = e2 ∧ ∀ i, i < p2 → Q.2.2 i = u i := by
  unfold zrue
  rw [Bool.and_eq_true, Bool.and_eq_true, beq_iff_eq, beq_iff_eq, zal_iff]
  constructor
  · rintro ⟨h1, h2, h3⟩
    exact ⟨h1, h2, fun i hi => by
      have := h3 i hi
      rw [Nat.zero_add] at this
      exact beq_iff_eq.mp this⟩
  · rintro ⟨h1, h2, h3⟩
    exact ⟨h1, h2, fun i hi => by
      rw [Nat.zero_add]
      exact beq_iff_eq.mpr (h3 i hi)⟩
theorem zsq_pad {w : Nat → Nat} : ∀ n k d, (∀ i, k + n ≤ i → w i = 0) → zsq w k (n + d) = zsq w k n := by
  intro n
  induction n with
  | zero =>
    intro k d h
    rw [Nat.zero_add]
    induction d generalizing k with
    | zero => rfl
    | succ d ih =>
      show w k + 64 * zsq w (k + 1) d = 0
      rw [h k (by omega), ih (k + 1) (fun i hi => h i (by omega))]
      rfl
  | succ n ih =>
    intro k d h
    rw [show n + 1 + d = (n + d) + 1 by omega, zsq, zsq, ih (k + 1) d (fun i hi => h i (by omega))]
theorem zsh_X {p e : Nat} {w : Nat → Nat} (hc : zCl p e w) : zshN p e w = zshX (p, e, w) := by
  have h6 : zsq w 0 (p + (6 - p)) = zsq w 0 p := zsq_pad p 0 (6 - p) (fun i hi => hc.2.2.2.2.2 i (by omega))
  have hp := hc.2.1
  rw [show p + (6 - p) = 6 by omega] at h6
  show zshN p e w = p + 8 * e + 64 * zsq w 0 p
  rw [← h6]
  show p + 8 * e + 64 * (w 0 + 64 * (w 1 + 64 * (w 2 + 64 * (w 3 + 64 * (w 4 + 64 * w 5))))) = p + 8 * e + 64 * (w 0 + 64 * (w 1 + 64 * (w 2 + 64 * (w 3 + 64 * (w 4 + 64 * (w 5 + 64 * 0))))))
  omega
theorem zsq_inj {w w' : Nat → Nat} : ∀ n k, (∀ i, k ≤ i → i < k + n → w i < 64 ∧ w' i < 64) → zsq w k n = zsq w' k n → ∀ i, k ≤ i → i < k + n → w i = w' i := by
  intro n
  induction n with
  | zero => exact fun k _ _ i h1 h2 => absurd h1 (by omega)
  | succ n ih =>
    intro k h q i h1 h2
    rw [zsq, zsq] at q
    obtain ⟨a1, a2⟩ := h k (by omega) (by omega)
    have e1 : w k = w' k := by omega
    have e2 : zsq w (k + 1) n = zsq w' (k + 1) n := by omega
    by_cases g : i = k
    · rw [g, e1]
    · exact ih (k + 1) (fun j b1 b2 => h j (by omega) (by omega)) e2 i (by omega) (by omega)
theorem zsq_ext {w w' : Nat → Nat} : ∀ n k, (∀ i, k ≤ i → i < k + n → w i = w' i) → zsq w k n = zsq w' k n := by
  intro n
  induction n with
  | zero => exact fun _ _ => rfl
  | succ n ih =>
    intro k h
    rw [zsq, zsq, h k (by omega) (by omega), ih (k + 1) (fun i a b => h i (by omega) (by omega))]
theorem zshX_inj {Q Q' : zQ3} (h1 : Q.1 ≤ 6) (h2 : Q.2.1 ≤ 6) (h3 : ∀ i, i < Q.1 → Q.2.2 i < 64) (g1 : Q'.1 ≤ 6) (g2 : Q'.2.1 ≤ 6) (g3 : ∀ i, i < Q'.1 → Q'.2.2 i < 64) : zshX Q = zshX Q' ↔ Q.1 = Q'.1 ∧ Q.2.1 = Q'.2.1 ∧ ∀ i, i < Q'.1 → Q.2.2 i = Q'.2.2 i := by
  unfold zshX
  constructor
  · intro q
    have e1 : Q.1 = Q'.1 := by omega
    have e2 : Q.2.1 = Q'.2.1 := by omega
    have e3 : zsq Q.2.2 0 Q.1 = zsq Q'.2.2 0 Q'.1 := by omega
    rw [e1] at e3
    exact ⟨e1, e2, fun i hi => zsq_inj Q'.1 0 (fun j _ hj => ⟨h3 j (by omega), g3 j (by omega)⟩) e3 i (by omega) (by omega)⟩
  · rintro ⟨e1, e2, e3⟩
    rw [e1, e2, zsq_ext Q'.1 0 (fun i _ hi => e3 i (by omega))]
def zctop (s : Nat) : Nat → Nat
  | 0 => 0
  | j + 1 => zctop s j + (s.testBit (11 - j)).toNat
theorem zctop_12a : ∀ a, a < 64 → ∀ b, b < 64 → zctop (64 * a + b) 12 = zbc (64 * a + b) := by decide +kernel
theorem zctop_12 {s : Nat} (h : s < 4096) : zctop s 12 = zbc s := by
  have := zctop_12a (s / 64) (by omega) (s % 64) (by omega)
  rwa [show 64 * (s / 64) + s % 64 = s by omega] at this
theorem zlv_cnt {s p e : Nat} {w : Nat → Nat} (hc : zCl p e w) (hb : zsb p e s) : ∀ j, j ≤ 12 → (zlv s p e w j).1 + (zlv s p e w j).2.1 + zctop s j = p + e := by
  intro j
  induction j with
  | zero => exact fun _ => rfl
  | succ j ih =>
    intro hj
    have q := ih (by omega)
    obtain ⟨b1, b2, b3, b4⟩ := zlvI_n hc hb j (by omega)
    rw [zlv, zctop]
    cases g : s.testBit (11 - j)
    · rw [if_neg (by decide)]
      exact q
    · rw [if_pos rfl]
      have hh := b4 (11 - j) (by omega) (hb _ g).2
      generalize zlv s p e w j = Q at q hh
      obtain ⟨qp, qe, qw⟩ := Q
      simp only [] at q hh ⊢
      unfold zmany at hh
      unfold zdP zdE
      show _ + _ + (_ + 1) = _
      by_cases k : (11 - j) / 6 = 0
      · rw [if_pos k] at hh
        rw [if_pos k, if_pos k]
        omega
      · rw [if_neg k] at hh
        rw [if_neg k, if_neg k]
        omega
/-- how many sets, and the first -/
def zrf (R : Nat → Bool) : Nat → zPr
  | 0 => (0, [])
  | n + 1 => if R n = true then ((zrf R n).1 + 1, if (zrf R n).1 = 0 then [(nI n).toInt64] else (zrf R n).2) else zrf R n
theorem zrf_le (R : Nat → Bool) : ∀ n, (zrf R n).1 ≤ n := by
  intro n
  induction n with
  | zero => exact Nat.le_refl 0
  | succ n ih =>
    rw [zrf]
    split
    · show (zrf R n).1 + 1 ≤ n + 1
      omega
    · omega
theorem zrf_skip {R : Nat → Bool} {m n : Nat} (hmn : m ≤ n) (h : ∀ x, m ≤ x → x < n → R x = false) : zrf R n = zrf R m := by
  induction n with
  | zero =>
    have : m = 0 := by omega
    rw [this]
  | succ n ih =>
    by_cases g : m = n + 1
    · rw [g]
    · rw [zrf, if_neg (by rw [h n (by omega) (by omega)]; decide)]
      exact ih (by omega) (fun x h1 h2 => h x h1 (by omega))
theorem zrf_mono {R : Nat → Bool} {m n : Nat} (hmn : m ≤ n) : (zrf R m).1 ≤ (zrf R n).1 := by
  induction n with
  | zero =>
    have : m = 0 := by omega
    rw [this]
    exact Nat.le_refl _
  | succ n ih =>
    by_cases g : m = n + 1
    · rw [g]
      exact Nat.le_refl _
    · have := ih (by omega)
      rw [zrf]
      split
      · show _ ≤ (zrf R n).1 + 1
        omega
      · exact this
def zsS (p e s : Nat) : Bool := s &&& zall p e == s
theorem zsS_t {p e s : Nat} (hp : p ≤ 6) (h : zss p e s) : zsS p e s = true := beq_iff_eq.mpr ((zss_iff hp).mp h)
theorem zsS_f {p e s : Nat} (hp : p ≤ 6) (h : ¬ zss p e s) : zsS p e s = false := beq_eq_false_iff_ne.mpr (fun q => h ((zss_iff hp).mpr q))
section RG
variable {M : zM} {p e p2 e2 : Nat} {w u : Nat → Nat}
def zrR (p e : Nat) (w : Nat → Nat) (p2 e2 : Nat) (u : Nat → Nat) (s : Nat) : Bool := zsS p e s && zrue p2 e2 u (zlv s p e w 12)
theorem zlv_ec {s : Nat} (hs : zss p e s) (he : e ≤ 6) : (zlv s p e w 12).2.1 = e - zbc (s / 64) := by
  have h6 := zpe he
  have := zlv_e s p e w 6 (by omega)
  rw [zcn_6 _ (by have := hs.2; omega)] at this
  exact this
theorem c_ragsWithout (h : zWc M 1 p e w) (h3 : zWc M 3 p2 e2 u) (hc : zCl p e w) (hc2 : zCl p2 e2 u) {b : Nat} (hb : b < 2 ^ e) (hr : zR8 M (zrf (zrR p e w p2 e2 u) (b * 64)).2) : ∃ M', f8_ragsWithout (nI b) (if nI (zrf (zrR p e w p2 e2 u) (b * 64)).1 = 0 then 1 else 0) M = some (nI ((zrf (zrR p e w p2 e2 u) ((b + 1) * 64)).1 - (zrf (zrR p e w p2 e2 u) (b * 64)).1), M') ∧ zR8 M' (zrf (zrR p e w p2 e2 u) ((b + 1) * 64)).2 := by
  obtain ⟨c1, c2, c3, c4, c5, c6⟩ := id hc
  have hp := zpe c2
  have he := zpe c4
  obtain ⟨M1, k1, k2, k3⟩ := c_narrow h hc hb
  have o1 := o_X1_narrow k1
  have hW1 : zWc M1 1 p e w := h.to (o1.1 1 (by simp) (by simp)).1 (o1.1 2 (by simp) (by simp)).1
  have hW3 : zWc M1 3 p2 e2 u := h3.to (o1.1 3 (by simp) (by simp)).1 (o1.1 4 (by simp) (by simp)).1
  have hr1 : zR8 M1 (zrf (zrR p e w p2 e2 u) (b * 64)).2 := zR8_to (o1.same rfl) hr
  have hout : ∀ x, b * 64 + 2 ^ p ≤ x → x < (b + 1) * 64 → zrR p e w p2 e2 u x = false := by
    intro x h1 h2
    rw [zrR, zsS_f c2 (fun q => ?_), Bool.false_and]
    have := q.1
    omega
  have hend : zrf (zrR p e w p2 e2 u) ((b + 1) * 64) = zrf (zrR p e w p2 e2 u) (b * 64 + 2 ^ p) := zrf_skip (by omega) hout
  rw [hend, f8_ragsWithout, k1, Option.bind_some, c_shape hW3 hc2, Option.bind_some]
  obtain ⟨T, hT⟩ : ∃ T, T = (zrf (zrR p e w p2 e2 u) (b * 64)).1 := ⟨_, rfl⟩
  have hTl := zrf_le (zrR p e w p2 e2 u) (b * 64)
  rw [← hT] at hTl ⊢
  rw [show f8_ragsWithout_26 zfuel (nI b) (if nI T = 0 then 1 else 0) (lN (zshN p2 e2 u)) 0 0 M1 = f8_ragsWithout_26 zfuel (nI b) (if nI T = 0 then 1 else 0) (lN (zshN p2 e2 u)) (nI ((zrf (zrR p e w p2 e2 u) (b * 64 + 0)).1 - T)) (nI 0) M1 by
    rw [Nat.add_zero, ← hT, Nat.sub_self]
    rfl]
  refine zloopP (F := fun f a x => f8_ragsWithout_26 f (nI b) (if nI T = 0 then 1 else 0) (lN (zshN p2 e2 u)) (nI ((zrf (zrR p e w p2 e2 u) (b * 64 + a)).1 - T)) (nI a) x) (I := fun a x => zWc x 1 p e w ∧ x.1 27 1 = nI (e - zbc b) ∧ (∀ i, i < p → x.1 28 i = nI (zxd b (w i) 6)) ∧ zR8 x (zrf (zrR p e w p2 e2 u) (b * 64 + a)).2) (P := fun o => ∃ M', o = some (nI ((zrf (zrR p e w p2 e2 u) (b * 64 + 2 ^ p)).1 - T), M') ∧ zR8 M' (zrf (zrR p e w p2 e2 u) (b * 64 + 2 ^ p)).2) (2 ^ p) (by omega) (k0 := 0) (by omega) (fun f a x _ ha hx => Or.inl ?_) (fun f x hx => ⟨x, ?_, hx.2.2.2⟩) (x := M1) ⟨hW1, k2, k3, hr1⟩
  · obtain ⟨x1, x2, x3, x4⟩ := hx
    have em : (a + b * 64) % 64 = a := by omega
    have ed : (a + b * 64) / 64 = b := by omega
    have hss : zss p e (a + b * 64) := ⟨by rw [em]; exact ha, by rw [ed]; exact hb⟩
    have hsb := zss_sb hc hss
    obtain ⟨b1, b2, b3, b4⟩ := zlvI_n hc hsb 12 (by omega)
    have hTm := zrf_mono (R := zrR p e w p2 e2 u) (show b * 64 ≤ b * 64 + a by omega)
    rw [← hT] at hTm
    have hZl := zrf_le (zrR p e w p2 e2 u) (b * 64 + a)
    have hRs : zrR p e w p2 e2 u (b * 64 + a) = zrue p2 e2 u (zlv (a + b * 64) p e w 12) := by
      rw [zrR, show b * 64 + a = a + b * 64 by omega, zsS_t c2 hss, Bool.true_and]
    have hlt2 := zshN_lt hc2
    have hltX : zshX (zlv (a + b * 64) p e w 12) < 2 ^ 62 := by
      have hsl := zsq_lt (zlv (a + b * 64) p e w 12).1 0 (w := (zlv (a + b * 64) p e w 12).2.2) (fun j h1 h2 => b3 j (by omega))
      have hpw : 64 ^ (zlv (a + b * 64) p e w 12).1 ≤ 64 ^ 6 := Nat.pow_le_pow_right (by omega) b1
      unfold zshX
      omega
    have hcmp : lg_cmp (lN (zshX (zlv (a + b * 64) p e w 12))) (lN (zshN p2 e2 u)) = 0 ↔ zrue p2 e2 u (zlv (a + b * 64) p e w 12) = true := by
      rw [lgc_eq, pk_lEQ (by omega) (by omega), zsh_X hc2, zrue_iff]
      exact zshX_inj b1 b2 b3 hc2.2.1 hc2.2.2.2.1 (fun i _ => hc2.lt64 i)
    have ez : zrf (zrR p e w p2 e2 u) (b * 64 + (a + 1)) = if zrR p e w p2 e2 u (b * 64 + a) = true then ((zrf (zrR p e w p2 e2 u) (b * 64 + a)).1 + 1, if (zrf (zrR p e w p2 e2 u) (b * 64 + a)).1 = 0 then [(nI (b * 64 + a)).toInt64] else (zrf (zrR p e w p2 e2 u) (b * 64 + a)).2) else zrf (zrR p e w p2 e2 u) (b * 64 + a) := rfl
    have st : f8_ragsWithout_26 (f + 1) (nI b) (if nI T = 0 then 1 else 0) (lN (zshN p2 e2 u)) (nI ((zrf (zrR p e w p2 e2 u) (b * 64 + a)).1 - T)) (nI a) x = (if zrue p2 e2 u (zlv (a + b * 64) p e w 12) = true then (if T = 0 ∧ (zrf (zrR p e w p2 e2 u) (b * 64 + a)).1 = 0 then (f3_tell (nI (b * 64 + a)).toInt64 x).bind fun M2 => f8_ragsWithout_26 f (nI b) (if nI T = 0 then 1 else 0) (lN (zshN p2 e2 u)) (nI ((zrf (zrR p e w p2 e2 u) (b * 64 + a)).1 - T + 1)) (nI (a + 1)) M2 else f8_ragsWithout_26 f (nI b) (if nI T = 0 then 1 else 0) (lN (zshN p2 e2 u)) (nI ((zrf (zrR p e w p2 e2 u) (b * 64 + a)).1 - T + 1)) (nI (a + 1)) x) else f8_ragsWithout_26 f (nI b) (if nI T = 0 then 1 else 0) (lN (zshN p2 e2 u)) (nI ((zrf (zrR p e w p2 e2 u) (b * 64 + a)).1 - T)) (nI (a + 1)) x) := by
      have r1 : zshl 1 (nI p) = nI (2 ^ p) := z1shl (by omega)
      have r2 : nI a ||| zshl (nI b) 6 = nI (b * 64 + a) := by
        rw [show zshl (nI b) 6 = nI (b * 2 ^ 6) from nI_shl (b := 6) (by omega) (by omega), nI_or, zor_disj (by omega), Nat.add_comm]
      rw [f8_ragsWithout_26, x1.1, r1, if_neg (nI_ge ha (by omega)), c_shapeW x1 hc ha hb x2 x3, Option.bind_some]
      by_cases g : zrue p2 e2 u (zlv (a + b * 64) p e w 12) = true
      · rw [if_pos (hcmp.mpr g), if_pos g]
        by_cases g0 : T = 0
        · rw [if_pos (show nI T = 0 by rw [g0]; rfl), if_neg (by decide)]
          by_cases g1 : (zrf (zrR p e w p2 e2 u) (b * 64 + a)).1 = 0
          · rw [if_pos (show nI ((zrf (zrR p e w p2 e2 u) (b * 64 + a)).1 - T) = 0 by rw [g1, g0]; rfl), r2, if_pos (show T = 0 ∧ (zrf (zrR p e w p2 e2 u) (b * 64 + a)).1 = 0 from ⟨g0, g1⟩)]
            congr 1
            funext M2
            rw [f8_ragsWithout_82, f8_ragsWithout_85, nI_1, nI_1]
          · rw [if_neg (show ¬ nI ((zrf (zrR p e w p2 e2 u) (b * 64 + a)).1 - T) = 0 from nI_ne0 (by omega) (by omega)), if_neg (show ¬ (T = 0 ∧ (zrf (zrR p e w p2 e2 u) (b * 64 + a)).1 = 0) from fun q => g1 q.2), f8_ragsWithout_82, f8_ragsWithout_85, nI_1, nI_1]
        · rw [if_neg (show ¬ nI T = 0 from nI_ne0 (by omega) (by omega)), if_pos rfl, if_neg (show ¬ (T = 0 ∧ (zrf (zrR p e w p2 e2 u) (b * 64 + a)).1 = 0) from fun q => g0 q.1), f8_ragsWithout_82, f8_ragsWithout_85, nI_1, nI_1]
      · rw [if_neg (fun q => g (hcmp.mp q)), if_neg g, f8_ragsWithout_85, nI_1]
    show ∃ y, _ = f8_ragsWithout_26 f (nI b) (if nI T = 0 then 1 else 0) (lN (zshN p2 e2 u)) (nI ((zrf (zrR p e w p2 e2 u) (b * 64 + (a + 1))).1 - T)) (nI (a + 1)) y ∧ zWc y 1 p e w ∧ y.1 27 1 = nI (e - zbc b) ∧ (∀ i, i < p → y.1 28 i = nI (zxd b (w i) 6)) ∧ zR8 y (zrf (zrR p e w p2 e2 u) (b * 64 + (a + 1))).2
    rw [st, ez, hRs]
    by_cases g : zrue p2 e2 u (zlv (a + b * 64) p e w 12) = true
    · rw [if_pos g, if_pos g]
      simp only []
      rw [show (zrf (zrR p e w p2 e2 u) (b * 64 + a)).1 + 1 - T = (zrf (zrR p e w p2 e2 u) (b * 64 + a)).1 - T + 1 by omega]
      by_cases g1 : (zrf (zrR p e w p2 e2 u) (b * 64 + a)).1 = 0
      · obtain ⟨N, n1, n2⟩ := c_tell (nI (b * 64 + a)).toInt64 x
        have oN := o_X3_tell n1
        rw [if_pos ⟨by omega, g1⟩, n1, Option.bind_some, if_pos g1]
        refine ⟨N, rfl, x1.to (oN.1 1 (by simp) (by simp)).1 (oN.1 2 (by simp) (by simp)).1, by rw [(oN.1 27 (by simp) (by simp)).1, x2], fun i hi => by rw [(oN.1 28 (by simp) (by simp)).1, x3 i hi], n2⟩
      · rw [if_neg (fun q => g1 q.2), if_neg g1]
        exact ⟨x, rfl, x1, x2, x3, x4⟩
    · rw [if_neg g, if_neg g]
      exact ⟨x, rfl, x1, x2, x3, x4⟩
  · have e1 : zshl 1 (nI p) = nI (2 ^ p) := z1shl (by omega)
    show f8_ragsWithout_26 (f + 1) _ _ _ _ (nI (2 ^ p)) x = _
    rw [f8_ragsWithout_26, hx.1.1, e1, if_pos (nI_le (Nat.le_refl _) (by omega))]
theorem zrR_end (hc : zCl p e w) : zrf (zrR p e w p2 e2 u) (2 ^ e * 64) = zrf (zrR p e w p2 e2 u) (zall p e + 1) := by
  have hp := zpe hc.2.1
  have he := zpe hc.2.2.2.1
  refine zrf_skip (by unfold zall; omega) (fun x h1 h2 => ?_)
  rw [zrR, zsS_f hc.2.1 (fun q => ?_), Bool.false_and]
  have := (zss_lt hc.2.1 hc.2.2.2.1 q).2
  omega
theorem c_rags (h : zWc M 1 p e w) (h3 : zWc M 3 p2 e2 u) (hc : zCl p e w) (hc2 : zCl p2 e2 u) (hr : zR8 M []) : ∃ M', f8_rags_40 zfuel 0 0 M = some (nI (zrf (zrR p e w p2 e2 u) (zall p e + 1)).1, M') ∧ zR8 M' (zrf (zrR p e w p2 e2 u) (zall p e + 1)).2 ∧ M'.1 7 = M.1 7 := by
  obtain ⟨c1, c2, c3, c4, c5, c6⟩ := id hc
  have hp := zpe c2
  have he := zpe c4
  have hq := hc2.2.2.2.1
  rw [← zrR_end hc]
  rw [show f8_rags_40 zfuel 0 0 M = f8_rags_40 zfuel (nI (zrf (zrR p e w p2 e2 u) (0 * 64)).1) (nI 0) M from rfl]
  refine zloopP (F := fun f b x => f8_rags_40 f (nI (zrf (zrR p e w p2 e2 u) (b * 64)).1) (nI b) x) (I := fun b x => zWc x 1 p e w ∧ zWc x 3 p2 e2 u ∧ zR8 x (zrf (zrR p e w p2 e2 u) (b * 64)).2 ∧ x.1 7 = M.1 7) (P := fun o => ∃ M', o = some (nI (zrf (zrR p e w p2 e2 u) (2 ^ e * 64)).1, M') ∧ zR8 M' (zrf (zrR p e w p2 e2 u) (2 ^ e * 64)).2 ∧ M'.1 7 = M.1 7) (2 ^ e) (by omega) (k0 := 0) (by omega) (fun f b x _ hb hx => Or.inl ?_) (fun f x hx => ⟨x, ?_, hx.2.2.1, hx.2.2.2⟩) (x := M) ⟨h, h3, by rw [Nat.zero_mul]; exact hr, rfl⟩
  · obtain ⟨x1, x2, x3, x4⟩ := hx
    have e1 : zshl 1 (nI e) = nI (2 ^ e) := z1shl (by omega)
    have key : ∀ e, e < 7 → ∀ b, b < 2 ^ e → zbc b ≤ e := by decide +kernel
    have hbc := key e (by omega) b hb
    have hmono := zrf_mono (R := zrR p e w p2 e2 u) (show b * 64 ≤ (b + 1) * 64 by omega)
    have hZl := zrf_le (zrR p e w p2 e2 u) ((b + 1) * 64)
    have st : f8_rags_40 (f + 1) (nI (zrf (zrR p e w p2 e2 u) (b * 64)).1) (nI b) x = if e - zbc b = e2 then ((f8_ragsWithout (nI b) (if nI (zrf (zrR p e w p2 e2 u) (b * 64)).1 = 0 then 1 else 0) x).bind fun p2' => f8_rags_92 (f8_rags_40 f) (nI (zrf (zrR p e w p2 e2 u) (b * 64)).1 + p2'.1) (nI b) p2'.2) else f8_rags_40 f (nI (zrf (zrR p e w p2 e2 u) (b * 64)).1) (nI (b + 1)) x := by
      rw [f8_rags_40, x1.2.1, e1, if_neg (nI_ge hb (by omega)), bc_n (by omega), Option.bind_some, nI_sub hbc, x2.2.1]
      by_cases g : e - zbc b = e2
      · rw [if_pos (by rw [g]), if_pos g]
      · rw [if_neg (nI_ne g (by omega) (by omega)), if_neg g, f8_rags_92, nI_1]
    show ∃ y, _ = f8_rags_40 f _ (nI (b + 1)) y ∧ _
    rw [st]
    by_cases g : e - zbc b = e2
    · obtain ⟨y, y1, y2⟩ := c_ragsWithout x1 x2 hc hc2 hb x3
      have oy := o_X8_ragsWithout y1
      rw [if_pos g, y1, Option.bind_some, f8_rags_92]
      simp only []
      rw [nI_add, nI_1, show (zrf (zrR p e w p2 e2 u) (b * 64)).1 + ((zrf (zrR p e w p2 e2 u) ((b + 1) * 64)).1 - (zrf (zrR p e w p2 e2 u) (b * 64)).1) = (zrf (zrR p e w p2 e2 u) ((b + 1) * 64)).1 by omega]
      exact ⟨y, rfl, x1.to (oy.1 1 (by simp) (by simp)).1 (oy.1 2 (by simp) (by simp)).1, x2.to (oy.1 3 (by simp) (by simp)).1 (oy.1 4 (by simp) (by simp)).1, y2, by rw [(oy.1 7 (by simp) (by simp)).1, x4]⟩
    · have hsk : zrf (zrR p e w p2 e2 u) ((b + 1) * 64) = zrf (zrR p e w p2 e2 u) (b * 64) := by
        refine zrf_skip (by omega) (fun x h1 h2 => ?_)
        rw [zrR]
        by_cases q : zss p e x
        · have hd : x / 64 = b := by omega
          have := zlv_ec (w := w) q c4
          rw [hd] at this
          have hz : zrue p2 e2 u (zlv x p e w 12) = false := by
            cases r : zrue p2 e2 u (zlv x p e w 12)
            · rfl
            · exact absurd ((zrue_iff.mp r).2.1) (by rw [this]; exact g)
          rw [hz, Bool.and_false]
        · rw [zsS_f c2 q, Bool.false_and]
      rw [if_neg g, hsk]
      exact ⟨x, rfl, x1, x2, x3, x4⟩
  · have e1 : zshl 1 (nI e) = nI (2 ^ e) := z1shl (by omega)
    show f8_rags_40 (f + 1) _ (nI (2 ^ e)) x = _
    rw [f8_rags_40, hx.1.2.1, e1, if_pos (nI_le (Nat.le_refl _) (by omega))]
/-- the reference -/
theorem r_isAs {Q : zQ3} (h2 : zRr M 42 Q.1 Q.2.1 Q.2.2) (h4 : zRr M 44 p2 e2 u) (hq1 : Q.1 ≤ 6) (hq2 : Q.2.1 ≤ 6) (hq3 : ∀ i, i < Q.1 → Q.2.2 i < 64) (hc2 : zCl p2 e2 u) : f9_isAs 42 44 M = some (nI (zi (zrue p2 e2 u Q))) := by
  have hp2 := hc2.2.1
  have he2 := hc2.2.2.2.1
  rw [f9_isAs, h2.1, h2.2.1, h4.1, h4.2.1]
  have no : ∀ f n, f9_isAs_30 42 44 (f + 1) 0 n M = some 0 := by
    intro f n
    rw [f9_isAs_30]
    by_cases g : M.1 42 6 ≤ n
    · rw [if_pos g]
      rfl
    · rw [if_neg g, if_pos rfl]
      rfl
  by_cases g1 : Q.1 = p2
  · rw [if_pos (by rw [g1])]
    by_cases g2 : Q.2.1 = e2
    · rw [if_pos (by rw [g2])]
      have ez : zrue p2 e2 u Q = zal (fun i => Q.2.2 i == u i) 0 p2 := by
        rw [zrue, beq_iff_eq.mpr g1, beq_iff_eq.mpr g2, Bool.true_and, Bool.true_and]
      rw [ez]
      refine zloopP (σ := Unit) (F := fun f i _ => f9_isAs_30 42 44 f (nI (zi (zal (fun i => Q.2.2 i == u i) 0 i))) (nI i) M) (I := fun _ _ => True) (P := fun o => o = some (nI (zi (zal (fun i => Q.2.2 i == u i) 0 p2)))) p2 (by omega) (k0 := 0) (by omega) (fun f i x _ hi _ => ?_) (fun f x _ => ?_) (x := ()) trivial
      · have hb1 := hq3 i (by omega)
        have hb2 := hc2.lt64 i
        cases hz : zal (fun i => Q.2.2 i == u i) 0 i
        · refine Or.inr ?_
          show f9_isAs_30 42 44 (f + 1) (nI (zi false)) (nI i) M = _
          rw [show nI (zi false) = 0 from rfl, no, zal_false hz (show i ≤ p2 by omega)]
          rfl
        · refine Or.inl ⟨(), ?_, trivial⟩
          have e1 : (if nI (Q.2.2 i) = nI (u i) then (1 : Int32) else 0) = nI (zi (zal (fun i => Q.2.2 i == u i) 0 (i + 1))) := by
            rw [zal, hz, Bool.true_and, Nat.zero_add]
            by_cases g : Q.2.2 i = u i
            · rw [if_pos (by rw [g]), beq_iff_eq.mpr g]
              rfl
            · rw [if_neg (nI_ne g (by omega) (by omega)), beq_eq_false_iff_ne.mpr g]
              rfl
          show f9_isAs_30 42 44 (f + 1) (nI (zi true)) (nI i) M = f9_isAs_30 42 44 f (nI (zi (zal (fun i => Q.2.2 i == u i) 0 (i + 1)))) (nI (i + 1)) M
          rw [f9_isAs_30, h2.1, g1, if_neg (nI_ge hi (by omega)), if_neg (show ¬ nI (zi true) = 0 by decide), zaI_n (by omega) (by omega), h2.2.2 i (by omega), Option.bind_some, zaI_n (by omega) (by omega), h4.2.2 i hi, Option.bind_some, e1, nI_1]
      · show f9_isAs_30 42 44 (f + 1) _ (nI p2) M = _
        rw [f9_isAs_30, h2.1, g1, if_pos (nI_le (Nat.le_refl _) (by omega)), zbl01]
        rfl
    · rw [if_neg (nI_ne g2 (by omega) (by omega)), show f9_isAs_30 42 44 zfuel 0 0 M = f9_isAs_30 42 44 (4999 + 1) 0 0 M from rfl, no, zrue, beq_eq_false_iff_ne.mpr g2, Bool.false_and, Bool.and_false]
      rfl
  · rw [if_neg (nI_ne g1 (by omega) (by omega)), show f9_isAs_30 42 44 zfuel 0 0 M = f9_isAs_30 42 44 (4999 + 1) 0 0 M from rfl, no, zrue, beq_eq_false_iff_ne.mpr g1, Bool.false_and]
    rfl
theorem r_rags (h : zRr M 41 p e w) (h4 : zRr M 44 p2 e2 u) (hc : zCl p e w) (hc2 : zCl p2 e2 u) (hr : zR9 M []) : ∃ M', f9_rags_34 zfuel (nI (zall p e)) 0 0 M = some (nI (zrf (zrR p e w p2 e2 u) (zall p e + 1)).1, M') ∧ zR9 M' (zrf (zrR p e w p2 e2 u) (zall p e + 1)).2 ∧ M'.1 39 7 = M.1 39 7 := by
  obtain ⟨c1, c2, c3, c4, c5, c6⟩ := id hc
  have hall := zall_lt hc
  have hp2 := hc2.2.1
  have he2 := hc2.2.2.2.1
  refine zloopP (F := fun f s x => f9_rags_34 f (nI (zall p e)) (nI (zrf (zrR p e w p2 e2 u) s).1) (nI s) x) (I := fun s x => zRr x 41 p e w ∧ zRr x 44 p2 e2 u ∧ zR9 x (zrf (zrR p e w p2 e2 u) s).2 ∧ x.1 39 7 = M.1 39 7) (P := fun o => ∃ M', o = some (nI (zrf (zrR p e w p2 e2 u) (zall p e + 1)).1, M') ∧ zR9 M' (zrf (zrR p e w p2 e2 u) (zall p e + 1)).2 ∧ M'.1 39 7 = M.1 39 7) (zall p e + 1) (by omega) (k0 := 0) (by omega) (fun f s x _ hs hx => Or.inl ?_) (fun f x hx => ⟨x, ?_, hx.2.2.1, hx.2.2.2⟩) (x := M) ⟨h, h4, hr, rfl⟩
  · obtain ⟨x1, x2, x3, x4⟩ := hx
    have hZl := zrf_le (zrR p e w p2 e2 u) s
    have ez : zrf (zrR p e w p2 e2 u) (s + 1) = if zrR p e w p2 e2 u s = true then ((zrf (zrR p e w p2 e2 u) s).1 + 1, if (zrf (zrR p e w p2 e2 u) s).1 = 0 then [(nI s).toInt64] else (zrf (zrR p e w p2 e2 u) s).2) else zrf (zrR p e w p2 e2 u) s := rfl
    have e116 : ∀ (b : Bool) (y : zM), b = zrR p e w p2 e2 u s → zRr y 41 p e w → zRr y 44 p2 e2 u → zR9 y (zrf (zrR p e w p2 e2 u) s).2 → y.1 39 7 = M.1 39 7 → ∃ z, f9_rags_116 (f9_rags_34 f) (nI (zall p e)) (nI (zrf (zrR p e w p2 e2 u) s).1) (nI s) (nI (zi b)) y = f9_rags_34 f (nI (zall p e)) (nI (zrf (zrR p e w p2 e2 u) (s + 1)).1) (nI (s + 1)) z ∧ zRr z 41 p e w ∧ zRr z 44 p2 e2 u ∧ zR9 z (zrf (zrR p e w p2 e2 u) (s + 1)).2 ∧ z.1 39 7 = M.1 39 7 := by
      intro b y hb y1 y2 y3 y4
      rw [ez, ← hb, f9_rags_116]
      cases b
      · rw [if_pos (show nI (zi false) = 0 from rfl), f9_rags_134, show f9_flag (nI (zi false)) = some (nI 0) from rfl, Option.bind_some, nI_add, nI_1, if_neg (by decide)]
        exact ⟨y, rfl, y1, y2, y3, y4⟩
      · have e134 : ∀ z, f9_rags_134 (f9_rags_34 f) (nI (zall p e)) (nI (zrf (zrR p e w p2 e2 u) s).1) (nI s) (nI (zi true)) z = f9_rags_34 f (nI (zall p e)) (nI ((zrf (zrR p e w p2 e2 u) s).1 + 1)) (nI (s + 1)) z := by
          intro z
          rw [f9_rags_134, show f9_flag (nI (zi true)) = some (nI 1) from rfl, Option.bind_some, nI_add, nI_1]
        rw [if_neg (show ¬ nI (zi true) = 0 by decide), if_pos rfl, e134]
        simp only []
        by_cases g : (zrf (zrR p e w p2 e2 u) s).1 = 0
        · have hnil : (zrf (zrR p e w p2 e2 u) s).2 = [] := by
            have key : ∀ n, (zrf (zrR p e w p2 e2 u) n).1 = 0 → (zrf (zrR p e w p2 e2 u) n).2 = [] := by
              intro n
              induction n with
              | zero => exact fun _ => rfl
              | succ n ih =>
                rw [zrf]
                split
                · intro q
                  have q' : (zrf (zrR p e w p2 e2 u) n).1 + 1 = 0 := q
                  omega
                · exact ih
            exact key s g
          rw [hnil] at y3
          obtain ⟨N, n1, n2⟩ := y3.add (by simp) (nI s).toInt64
          have oN := o_X9_enters n1
          rw [if_pos (by rw [g]; rfl), n1, Option.bind_some, e134, if_pos g]
          exact ⟨N, rfl, y1.to (oN.1 41 (by simp) (by simp)).1, y2.to (oN.1 44 (by simp) (by simp)).1, n2, by rw [oN.2 7 (by simp) (by simp), y4]⟩
        · rw [if_neg (nI_ne0 (by omega) (by omega)), if_neg g]
          exact ⟨y, rfl, y1, y2, y3, y4⟩
    show ∃ y, f9_rags_34 (f + 1) (nI (zall p e)) _ (nI s) x = _ ∧ _
    rw [f9_rags_34, if_neg (nI_nlt (by omega) (by omega)), nI_andn _ (by omega)]
    by_cases g : zss p e s
    · have hsb := zss_sb hc g
      have hlt := zsb_lt hsb
      obtain ⟨b1, b2, b3, b4⟩ := zlvI_n hc hsb 12 (by omega)
      have hcnt := zlv_cnt hc hsb 12 (by omega)
      rw [zctop_12 hlt] at hcnt
      have hRs : zrR p e w p2 e2 u s = zrue p2 e2 u (zlv s p e w 12) := by rw [zrR, zsS_t c2 g, Bool.true_and]
      have t1 : f9_threadsOf 41 x = some (nI (p + e)) := by rw [f9_threadsOf, x1.1, x1.2.1, nI_add]
      have t2 : f9_threadsOf 44 x = some (nI (p2 + e2)) := by rw [f9_threadsOf, x2.1, x2.2.1, nI_add]
      rw [if_pos (by rw [(zss_df c2).mpr g]; rfl), bc_n hlt, Option.bind_some, t1, Option.bind_some, t2, Option.bind_some, f9_rags_77]
      by_cases g2 : nI (zbc s) = nI (p + e) - nI (p2 + e2)
      · rw [if_pos g2, if_neg (by decide)]
        obtain ⟨y, y1, y2⟩ := r_leaves x1 hc g
        have oy := o_X9_leaves y1
        have yr1 := x1.to (oy.1 41 (by simp) (by simp)).1
        have yr2 := x2.to (oy.1 44 (by simp) (by simp)).1
        have yr3 : zR9 y (zrf (zrR p e w p2 e2 u) s).2 := zR9_to (oy.same rfl) x3
        have yr4 : y.1 39 7 = M.1 39 7 := by rw [oy.2 7 (by simp) (by simp), x4]
        rw [y1, Option.bind_some]
        simp only []
        by_cases g3 : zlvo (zlv s p e w 12) = 0
        · have hz : zrR p e w p2 e2 u s = false := by
            rw [hRs]
            cases r : zrue p2 e2 u (zlv s p e w 12)
            · rfl
            · obtain ⟨r1, r2, -⟩ := zrue_iff.mp r
              have := hc2.1
              have := hc2.2.2.1
              unfold zlvo at g3
              rw [if_neg (by omega), if_neg (by omega)] at g3
              exact absurd g3 (by decide)
          rw [if_pos g3]
          exact e116 false y hz.symm yr1 yr2 yr3 yr4
        · rw [if_neg g3, r_isAs y2 yr2 b1 b2 b3 hc2, Option.bind_some, zib]
          exact e116 _ y hRs.symm yr1 yr2 yr3 yr4
      · have hz : zrR p e w p2 e2 u s = false := by
          rw [hRs]
          cases r : zrue p2 e2 u (zlv s p e w 12)
          · rfl
          · obtain ⟨r1, r2, -⟩ := zrue_iff.mp r
            refine absurd ?_ g2
            rw [nI_sub (by omega)]
            congr 1
            omega
        rw [if_neg g2, if_pos rfl]
        exact e116 false x hz.symm x1 x2 x3 x4
    · have hd : zdf s (zall p e) ≤ s := zdf_le s _
      have hz : zrR p e w p2 e2 u s = false := by rw [zrR, zsS_f c2 g, Bool.false_and]
      rw [if_neg (nI_ne0 (Nat.pos_of_ne_zero (fun q => g ((zss_df c2).mp q))) (by omega)), f9_rags_77, if_pos rfl]
      exact e116 false x hz.symm x1 x2 x3 x4
  · show f9_rags_34 (f + 1) (nI (zall p e)) _ (nI (zall p e + 1)) x = _
    rw [f9_rags_34, if_pos (nI_lt (by omega) (by omega))]
end RG
theorem zP_rags_ok : zP_rags zInv := by
  intro c M hc h
  obtain ⟨n, t, hB⟩ := h.2.1
  obtain ⟨p, e, w, hA⟩ := h.1
  obtain ⟨hc1, hW, hR, hN⟩ := id hA
  rcases cl_pair n hB.1 t with ⟨s, hs, a8, a9⟩ | ⟨p2, e2, u, hC, a8, a9⟩
  · obtain ⟨M1, y8⟩ := a8 M (iBn_tx hB)
    obtain ⟨X, y9, y7⟩ := a9 _ (ztxr hB y8)
    have h8 : f8_rags M = some (-1 - nI s, zsi M1 7 1 0) := by
      rw [f8_rags, y8, Option.bind_some]
      simp only []
      rw [if_neg (nI_nm1 (by omega))]
    have h9 : f9_rags (zsi M1 7 1 0) = some (-1 - nI s, X) := by
      rw [f9_rags, y9, Option.bind_some]
      simp only []
      rw [if_neg (Int32.not_le.mpr (nI_neg1 (by omega)))]
    exact ⟨_, _, _, h8, h9, ztext h y8 y9 y7⟩
  · obtain ⟨M1, y8, w8⟩ := a8 M (iBn_tx hB)
    have oM := (o_X7_readFrom y8).trans (zOut.rf.si 7 1 0 (Or.inl (by simp)) : zOut [7] [] M1 (zsi M1 7 1 0))
    have hW1 : zWc (zsi (zsi M1 7 1 0) 9 1 0) 1 p e w := zWc_si (hW.to (oM.1 1 (by simp) (by simp)).1 (oM.1 2 (by simp) (by simp)).1) (by omega) (by omega)
    have hW3 : zWc (zsi (zsi M1 7 1 0) 9 1 0) 3 p2 e2 u := zWc_si (zWc_si w8.1 (by omega) (by omega)) (by omega) (by omega)
    obtain ⟨M2, k1, k2, k3⟩ := c_rags hW1 hW3 hc1 hC (zR8_nil (zsi M1 7 1 0))
    have h8 : f8_rags M = some (nI (zrf (zrR p e w p2 e2 u) (zall p e + 1)).1, M2) := by
      rw [f8_rags, y8, Option.bind_some]
      simp only []
      rw [if_pos trivial, show f3_clear (zsi M1 7 1 0) = some (zsi (zsi M1 7 1 0) 9 1 0) from rfl, Option.bind_some, k1]
    have o8 := o_X8_rags h8
    have tr : zTr (zsi M2 39 0 0) n t := by
      refine (iBn_tr hB).to ?_ ?_
      · rw [zsi1, if_neg (by decide), o8.2 7 (by simp) (by simp)]
      · rw [zsi_ne (by omega), (o8.1 43 (by simp) (by simp)).1]
    obtain ⟨X, y9, r9, y7⟩ := a9 _ tr
    have oX := (zOut.rf.si 39 0 0 (Or.inr ⟨rfl, by simp⟩) : zOut [] [0] M2 (zsi M2 39 0 0)).trans (o_X9_readsCloth y9)
    have hR1 : zRr X 41 p e w := hR.to (by rw [(oX.1 41 (by simp) (by simp)).1, (o8.1 41 (by simp) (by simp)).1])
    obtain ⟨X2, q1, q2, q7⟩ := r_rags (zRr_si hR1 (by decide) : zRr (zsi X 39 1 0) 41 p e w) (zRr_si r9 (by decide)) hc1 hC (zR9_nil X)
    have h9 : f9_rags M2 = some (nI (zrf (zrR p e w p2 e2 u) (zall p e + 1)).1, X2) := by
      rw [f9_rags, y9, Option.bind_some]
      simp only []
      rw [if_pos (by decide), r_all hR1 hc1, Option.bind_some, q1]
    have o9 := o_X9_rags h9
    refine ⟨_, _, _, h8, h9, zInv_to h (o8.trans o9) (Or.inl rfl) (Or.inr ⟨0, fun _ => 0, by omega, ?_, ?_, fun i hi => absurd hi (by omega)⟩) (Or.inr ⟨_, zR8_to (o9.same rfl) k2, q2⟩) (Or.inl rfl) (Or.inl rfl) (Or.inl rfl) (Or.inl rfl) (Or.inl rfl)⟩
    · rw [(o9.1 7 (by simp) (by simp)).1, k3]
      simp [zsi1, nI_0]
    · rw [q7, zsi1, if_neg (by decide), y7]
