/-! endures -/
theorem zbc_ct (s : Nat) : zbc s = zct s := by
  rw [zbc_sum]
  exact zsum_congr (fun i _ => Nat.toNat_testBit s i)
theorem zct_pw : ∀ t, t < 12 → zct (2 ^ t) = 1 := by decide +kernel
theorem zbc_rest {s t : Nat} (ht : t < 12) (h : s.testBit t = true) : zbc (zdf s (2 ^ t)) + 1 = zbc s := by
  rw [zbc_ct, zbc_ct]
  have e : s = zdf s (2 ^ t) ||| 2 ^ t := by
    apply Nat.eq_of_testBit_eq
    intro i
    rw [Nat.testBit_or, zdf_bit, Nat.testBit_two_pow]
    by_cases g : t = i
    · subst g
      rw [h, decide_eq_true rfl, Bool.or_true]
    · rw [decide_eq_false g, Bool.not_false, Bool.and_true, Bool.or_false]
  have q := zct_or (x := zdf s (2 ^ t)) (y := 2 ^ t) (fun i hi => by
    rw [zdf_bit] at hi
    revert hi
    cases s.testBit i <;> cases (2 ^ t).testBit i <;> decide)
  rw [← e, zct_pw t ht] at q
  omega
/-- the longest taking of a set, one by one -/
def zLs (h : Nat → Bool) (L : Nat → Nat) (s : Nat) : Nat → Nat
  | 0 => 0
  | t + 1 => if (s.testBit t && h (zdf s (2 ^ t))) = true then max (zLs h L s t) (L (zdf s (2 ^ t)) + 1) else zLs h L s t
def zLn (h : Nat → Bool) : Nat → Nat → Nat
  | 0 => fun _ => 0
  | n + 1 => fun s => if s = n then zLs h (zLn h n) n 12 else zLn h n s
def zLi (h : Nat → Bool) (s : Nat) : Nat := zLn h (s + 1) s
theorem zLn_st (h : Nat → Bool) {s : Nat} : ∀ n, s < n → zLn h n s = zLi h s := by
  intro n
  induction n with
  | zero => exact fun q => absurd q (by omega)
  | succ n ih =>
    intro hn
    by_cases g : s = n
    · subst g
      rfl
    · show (if s = n then _ else zLn h n s) = _
      rw [if_neg g]
      exact ih (by omega)
theorem zLs_congr {h : Nat → Bool} {L L' : Nat → Nat} {s : Nat} (hh : ∀ x, x < s → L x = L' x) : ∀ t, zLs h L s t = zLs h L' s t := by
  intro t
  induction t with
  | zero => rfl
  | succ t ih =>
    rw [zLs, zLs, ih]
    by_cases g : (s.testBit t && h (zdf s (2 ^ t))) = true
    · rw [if_pos g, if_pos g]
      have : s.testBit t = true := by
        revert g
        cases s.testBit t <;> simp
      rw [hh _ (zdf_lt this)]
    · rw [if_neg g, if_neg g]
theorem zLi_e (h : Nat → Bool) (s : Nat) : zLi h s = zLs h (zLi h) s 12 := by
  show (if s = s then zLs h (zLn h s) s 12 else _) = _
  rw [if_pos rfl]
  exact zLs_congr (fun x hx => zLn_st h s hx) 12
theorem zLs_ge {h : Nat → Bool} {L : Nat → Nat} {s : Nat} : ∀ n t, t < n → s.testBit t = true → h (zdf s (2 ^ t)) = true → L (zdf s (2 ^ t)) + 1 ≤ zLs h L s n := by
  intro n
  induction n with
  | zero => exact fun t ht => absurd ht (by omega)
  | succ n ih =>
    intro t ht h1 h2
    rw [zLs]
    by_cases g : t = n
    · subst g
      rw [if_pos (by rw [h1, h2]; rfl)]
      omega
    · have := ih t (by omega) h1 h2
      split <;> omega
theorem zLs_ex {h : Nat → Bool} {L : Nat → Nat} {s : Nat} : ∀ n, zLs h L s n = 0 ∨ ∃ t, t < n ∧ s.testBit t = true ∧ h (zdf s (2 ^ t)) = true ∧ zLs h L s n = L (zdf s (2 ^ t)) + 1 := by
  intro n
  induction n with
  | zero => exact Or.inl rfl
  | succ n ih =>
    rw [zLs]
    by_cases g : (s.testBit n && h (zdf s (2 ^ n))) = true
    · rw [if_pos g]
      have g1 : s.testBit n = true ∧ h (zdf s (2 ^ n)) = true := by simpa using g
      by_cases q : zLs h L s n ≤ L (zdf s (2 ^ n)) + 1
      · exact Or.inr ⟨n, by omega, g1.1, g1.2, by omega⟩
      · rcases ih with ih | ⟨t, h1, h2, h3, h4⟩
        · omega
        · exact Or.inr ⟨t, by omega, h2, h3, by omega⟩
    · rw [if_neg g]
      rcases ih with ih | ⟨t, h1, h2, h3, h4⟩
      · exact Or.inl ih
      · exact Or.inr ⟨t, by omega, h2, h3, h4⟩
theorem zLi_ge {h : Nat → Bool} {s t : Nat} (ht : t < 12) (h1 : s.testBit t = true) (h2 : h (zdf s (2 ^ t)) = true) : zLi h (zdf s (2 ^ t)) + 1 ≤ zLi h s := by
  rw [zLi_e h s]
  exact zLs_ge 12 t ht h1 h2
theorem zLi_ex (h : Nat → Bool) (s : Nat) : zLi h s = 0 ∨ ∃ t, t < 12 ∧ s.testBit t = true ∧ h (zdf s (2 ^ t)) = true ∧ zLi h s = zLi h (zdf s (2 ^ t)) + 1 := by
  have := zLs_ex (h := h) (L := zLi h) (s := s) 12
  rw [← zLi_e] at this
  exact this
theorem zLi_le (h : Nat → Bool) : ∀ n s, s < n → zLi h s ≤ zbc s := by
  intro n
  induction n with
  | zero => exact fun s hs => absurd hs (by omega)
  | succ n ih =>
    intro s hs
    rcases zLi_ex h s with g | ⟨t, h1, h2, h3, h4⟩
    · omega
    · have q1 := zdf_lt h2
      have q2 := ih (zdf s (2 ^ t)) (by omega)
      have q3 := zbc_rest h1 h2
      omega
theorem zLs_le (h : Nat → Bool) (s : Nat) (hs : s < 4096) : ∀ n, n ≤ 12 → zLs h (zLi h) s n ≤ 12 := by
  intro n hn
  rcases zLs_ex (h := h) (L := zLi h) (s := s) n with g | ⟨t, h1, h2, h3, h4⟩
  · omega
  · have q1 := zdf_lt h2
    have q2 := zLi_le h 4096 (zdf s (2 ^ t)) (by omega)
    have q3 := zbc_rest (by omega) h2
    have q4 := zbc_lt hs
    omega
/-- the least set of as few as one needs: none: 4096 -/
def zbe (P : Nat → Bool) : Nat → Nat
  | 0 => 4096
  | n + 1 => if P n = true ∧ (zbe P n = 4096 ∨ zbc n < zbc (zbe P n)) then n else zbe P n
theorem zbe_lt (P : Nat → Bool) : ∀ n, n ≤ 4096 → zbe P n = 4096 ∨ zbe P n < n := by
  intro n
  induction n with
  | zero => exact fun _ => Or.inl rfl
  | succ n ih =>
    intro hn
    rw [zbe]
    split
    · exact Or.inr (by omega)
    · rcases ih (by omega) with q | q
      · exact Or.inl q
      · exact Or.inr (by omega)
theorem zbe_skip {P : Nat → Bool} {m n : Nat} (hmn : m ≤ n) (h : ∀ x, m ≤ x → x < n → P x = false) : zbe P n = zbe P m := by
  induction n with
  | zero =>
    have : m = 0 := by omega
    rw [this]
  | succ n ih =>
    by_cases g : m = n + 1
    · rw [g]
    · rw [zbe, if_neg (fun q => by rw [h n (by omega) (by omega)] at q; exact absurd q.1 (by decide))]
      exact ih (by omega) (fun x h1 h2 => h x h1 (by omega))
def zeP (p e : Nat) (h : Nat → Bool) (s : Nat) : Bool := (s &&& zall p e == s) && !(h (zdf (zall p e) s))
section EN
variable {M : zM} {p e : Nat} {w : Nat → Nat}
theorem zss_co {s : Nat} (hp : p ≤ 6) : zss p e (zdf (zall p e) s) := by
  rw [zss_iff hp]
  apply Nat.eq_of_testBit_eq
  intro i
  rw [Nat.testBit_and, zdf_bit]
  cases s.testBit i <;> cases (zall p e).testBit i <;> rfl
theorem zxor_co {s : Nat} (hp : p ≤ 6) (hs : zss p e s) : zall p e ^^^ s = zdf (zall p e) s := by
  unfold zdf
  rw [Nat.and_comm, (zss_iff hp).mp hs]
theorem zsu_pred {k : Nat} (hp : p ≤ 6) (he : e ≤ 6) (hk : k + 1 < 2 ^ (p + e)) : (nI (zsu p (k + 1)) - 1) &&& nI (zall p e) = nI (zsu p k) := by
  have h1 := zpe hp
  have hpos := Nat.pos_of_ne_zero (zsu_pos (p := p) (k := k + 1) (by omega))
  have hs := zsu_ss (e := e) hp hk
  rw [show nI (zsu p (k + 1)) - 1 = nI (zsu p (k + 1) - 1) from nI_sub (b := 1) hpos, nI_and, zss_and hp]
  congr 1
  obtain ⟨s1, s2⟩ := zsu_ss (k := k) (e := e) hp (by omega)
  have m1 : k % 2 ^ p < 2 ^ p := Nat.mod_lt _ (by omega)
  have hd := Nat.div_add_mod k (2 ^ p)
  unfold zsu at s1 s2 ⊢
  generalize hA : k % 2 ^ p = a at m1 hd s1 s2
  generalize hB : k / 2 ^ p = b at hd s1 s2
  have s2' : b < 2 ^ e := by omega
  by_cases g : a + 1 < 2 ^ p
  · obtain ⟨v1, v2⟩ := zqr (q := b) g
    have ek : k + 1 = b * 2 ^ p + (a + 1) := by rw [Nat.mul_comm]; omega
    rw [ek, v1, v2, show (a + 1 + b * 64 - 1) % 64 = a by omega, show (a + 1 + b * 64 - 1) / 64 = b by omega, Nat.mod_eq_of_lt m1, Nat.mod_eq_of_lt s2']
  · have ek : k + 1 = (b + 1) * 2 ^ p + 0 := by rw [Nat.add_mul, Nat.mul_comm b]; omega
    obtain ⟨v1, v2⟩ := zqr (q := b + 1) (r := 0) (d := 2 ^ p) (by omega)
    have e63 : ∀ q, q < 7 → 63 % 2 ^ q = 2 ^ q - 1 := by decide
    rw [ek, v1, v2, show (0 + (b + 1) * 64 - 1) % 64 = 63 by omega, show (0 + (b + 1) * 64 - 1) / 64 = b by omega, e63 p (by omega), Nat.mod_eq_of_lt s2']
    omega
theorem c_markTakings {Q : Nat → Bool} (h24 : zTq M 24 p e (zHb p e w)) (h25 : zTq M 25 p e Q) (hp : p ≤ 6) (he : e ≤ 6) {s : Nat} (hs : zss p e s) : ∃ M', f0_markTakings (nI s) M = some M' ∧ zTq M' 24 p e (zHb p e w) ∧ ∃ Q', zTq M' 25 p e Q' ∧ (∀ x, Q x = true → Q' x = true) ∧ (∀ t, t < 12 → s.testBit t = true → zHb p e w (zdf s (2 ^ t)) = true → Q' (zdf s (2 ^ t)) = true) ∧ ∀ x, Q' x = true → Q x = true ∨ ∃ t, t < 12 ∧ s.testBit t = true ∧ zHb p e w (zdf s (2 ^ t)) = true ∧ x = zdf s (2 ^ t) := by
  have hlt := (zss_lt hp he hs).1
  rw [f0_markTakings]
  refine zloopP (F := fun f t x => f0_markTakings_2 f (nI s) (nI t) x) (I := fun n x => zTq x 24 p e (zHb p e w) ∧ ∃ Q', zTq x 25 p e Q' ∧ (∀ x, Q x = true → Q' x = true) ∧ (∀ t, t < n → s.testBit t = true → zHb p e w (zdf s (2 ^ t)) = true → Q' (zdf s (2 ^ t)) = true) ∧ ∀ x, Q' x = true → Q x = true ∨ ∃ t, t < 12 ∧ s.testBit t = true ∧ zHb p e w (zdf s (2 ^ t)) = true ∧ x = zdf s (2 ^ t)) (P := fun o => ∃ M', o = some M' ∧ zTq M' 24 p e (zHb p e w) ∧ ∃ Q', zTq M' 25 p e Q' ∧ (∀ x, Q x = true → Q' x = true) ∧ (∀ t, t < 12 → s.testBit t = true → zHb p e w (zdf s (2 ^ t)) = true → Q' (zdf s (2 ^ t)) = true) ∧ ∀ x, Q' x = true → Q x = true ∨ ∃ t, t < 12 ∧ s.testBit t = true ∧ zHb p e w (zdf s (2 ^ t)) = true ∧ x = zdf s (2 ^ t)) 12 (by omega) (k0 := 0) (by omega) (fun f n x _ hn hx => Or.inl ?_) (fun f x hx => ⟨x, ?_, hx⟩) (x := M) ⟨h24, Q, h25, fun _ q => q, fun t ht => absurd ht (by omega), fun _ q => Or.inl q⟩
  · obtain ⟨x1, Q', x2, x3, x4, x5⟩ := hx
    have hr := zss_rest (t := n) hp hs
    show ∃ y, f0_markTakings_2 (f + 1) (nI s) (nI n) x = _ ∧ _
    rw [f0_markTakings_2, if_neg (show ¬ (12 : Int32) ≤ nI n from nI_ge (b := 12) (by omega) (by omega)), nI_rest hlt hn]
    cases g : s.testBit n
    · rw [zdf_id g, if_pos rfl, f0_markTakings_40, nI_1]
      refine ⟨x, rfl, x1, Q', x2, x3, fun t ht h1 h2 => ?_, x5⟩
      by_cases g2 : t = n
      · rw [g2, g] at h1
        exact absurd h1 (by decide)
      · exact x4 t (by omega) h1 h2
    · have hd := zdf_lt g
      rw [if_neg (nI_ne (by omega) (by omega) (by omega)), c_isIn x1 hp he hr, Option.bind_some]
      cases hb : zHb p e w (zdf s (2 ^ n))
      · rw [if_pos (show nI (zi false) = 0 from rfl), f0_markTakings_40, nI_1]
        refine ⟨x, rfl, x1, Q', x2, x3, fun t ht h1 h2 => ?_, x5⟩
        by_cases g2 : t = n
        · rw [g2, hb] at h2
          exact absurd h2 (by decide)
        · exact x4 t (by omega) h1 h2
      · obtain ⟨y, y1, y2, y3, y4⟩ := c_mark x2 hp he hr
        rw [if_neg (show ¬ nI (zi true) = 0 by decide), y1, Option.bind_some, f0_markTakings_40, nI_1]
        refine ⟨y, rfl, x1.to (y4 24 (by omega)), _, y2, fun z hz => by rw [x3 z hz, Bool.true_or], fun t ht h1 h2 => ?_, fun z hz => ?_⟩
        · by_cases g2 : t = n
          · rw [g2, decide_eq_true rfl, Bool.or_true]
          · rw [x4 t (by omega) h1 h2, Bool.true_or]
        · by_cases g2 : z = zdf s (2 ^ n)
          · exact Or.inr ⟨n, hn, g, hb, g2⟩
          · rw [decide_eq_false g2, Bool.or_false] at hz
            exact x5 z hz
  · show f0_markTakings_2 (f + 1) (nI s) (nI 12) x = _
    rw [f0_markTakings_2, if_pos (by decide)]
theorem zmin_n {a b : Nat} (ha : a < 2 ^ 31) (hb : b < 2 ^ 31) : zmin (nI a) (nI b) = nI (min a b) := by
  unfold zmin
  by_cases g : b < a
  · rw [if_pos (nI_lt g ha), Nat.min_eq_right (by omega)]
  · rw [if_neg (nI_nlt (by omega) hb), Nat.min_eq_left (by omega)]
theorem zHb_ne0 {s : Nat} (h : zHb p e w s = true) : s ≠ 0 := (of_decide_eq_true h).1
theorem zLi_in {s : Nat} (hp : p ≤ 6) (hs : zss p e s) (t : Nat) (_ht : t < 12) : zhb p e w (zdf s (2 ^ t)) = zHb p e w (zdf s (2 ^ t)) := zhb_in hp (zss_rest hp hs)
theorem c_longest2 (hT : zTq M 24 p e (zHb p e w)) (hc : zCl p e w) : ∃ M', f0_longestTaking (nI (zall p e)) M = some (nI (if zhb p e w (zall p e) = true then zLi (zhb p e w) (zall p e) else 0), M') := by
  obtain ⟨c1, c2, c3, c4, c5, c6⟩ := id hc
  have hN : 2 ^ (p + e) ≤ 2 ^ 12 := Nat.pow_le_pow_right (by omega) (by omega)
  have hN1 := Nat.two_pow_pos (p + e)
  have hal := zsu_last (e := e) c2
  have hass : zss p e (zall p e) := by
    rw [← hal]
    exact zsu_ss c2 (by omega)
  have hall := zall_lt (w := w) hc
  have hbA := zbc_lt hall
  rw [f0_longestTaking, c_isIn hT c2 c4 hass, Option.bind_some, zhb_in c2 hass]
  cases hb : zHb p e w (zall p e)
  · exact ⟨M, by rw [if_pos (show nI (zi false) = 0 from rfl)]; rfl⟩
  · obtain ⟨M1, k1, k2⟩ := c_fillJ 25 64 0 M (by omega)
    have o1 := o_J7_fill_d0a16 k1
    obtain ⟨M2, k3, k4, k5, k6⟩ := c_mark (zTq_0 (p := p) (e := e) k2) c2 c4 hass
    rw [if_neg (show ¬ nI (zi true) = 0 by decide), k1, Option.bind_some, k3, Option.bind_some, bc_n hall, Option.bind_some, if_pos rfl]
    rw [show f0_longestTaking_39 zfuel (nI (zall p e)) (nI (zbc (zall p e))) (nI (zall p e)) 0 M2 = f0_longestTaking_39 zfuel (nI (zall p e)) (nI (zbc (zall p e))) (nI (zsu p (2 ^ (p + e) - 1 - 0))) (nI 0) M2 by rw [Nat.sub_zero, hal]; rfl]
    generalize hH : zhb p e w = h
    have hin : ∀ s t, zss p e s → h (zdf s (2 ^ t)) = zHb p e w (zdf s (2 ^ t)) := by
      intro s t hs
      rw [← hH]
      exact zhb_in c2 (zss_rest c2 hs)
    refine zloopP (σ := Nat × zM) (F := fun f j y => f0_longestTaking_39 f (nI (zall p e)) (nI y.1) (nI (zsu p (2 ^ (p + e) - 1 - j))) (nI j) y.2) (I := fun j y => j < 2 ^ (p + e) ∧ y.1 ≤ 12 ∧ zTq y.2 24 p e (zHb p e w) ∧ ∃ Q, zTq y.2 25 p e Q ∧ (∀ s, Q s = true → zss p e s ∧ s ≠ 0 ∧ zbc (zall p e) + zLi h s ≤ zLi h (zall p e) + zbc s) ∧ zbc (zall p e) ≤ y.1 + zLi h (zall p e) ∧ (y.1 + zLi h (zall p e) ≤ zbc (zall p e) ∨ ∃ s, s ≤ zsu p (2 ^ (p + e) - 1 - j) ∧ Q s = true ∧ zbc (zall p e) + zLi h s = zLi h (zall p e) + zbc s)) (P := fun o => ∃ M', o = some (nI (zLi h (zall p e)), M')) (2 ^ (p + e)) (by omega) (k0 := 0) (by omega) (fun f j y _ hj hx => ?_) (fun f x hx => absurd hx.1 (by omega)) (x := (zbc (zall p e), M2)) ⟨hN1, by omega, hT.to (by rw [k6 24 (by omega), (o1.1 24 (by simp) (by simp)).2]), _, k4, fun s hs => ?_, by omega, Or.inr ⟨zall p e, by rw [Nat.sub_zero, hal]; exact Nat.le_refl _, by rw [decide_eq_true rfl, Bool.or_true], by omega⟩⟩
    · obtain ⟨fw, x⟩ := y
      obtain ⟨-, y1, y2, Q, y3, y4, y5, y6⟩ := hx
      simp only [] at y1 y2 y3 y5 y6
      have n1 : ¬ (4096 : Int32) ≤ nI j := nI_ge (b := 4096) (by omega) (by omega)
      by_cases gl : j + 1 < 2 ^ (p + e)
      · obtain ⟨k, hk⟩ : ∃ k, 2 ^ (p + e) - 1 - j = k + 1 := ⟨2 ^ (p + e) - 1 - j - 1, by omega⟩
        have hk' : 2 ^ (p + e) - 1 - (j + 1) = k := by omega
        rw [hk] at y6
        have hss := zsu_ss (p := p) (e := e) (k := k + 1) c2 (by omega)
        have hlt := (zss_lt c2 c4 hss).1
        have hs0 := zsu_pos (p := p) (k := k + 1) (by omega)
        have o76 : ∀ v y, f0_longestTaking_76 (f0_longestTaking_39 f) (nI (zall p e)) v (nI (zsu p (k + 1))) (nI j) y = f0_longestTaking_39 f (nI (zall p e)) v (nI (zsu p k)) (nI (j + 1)) y := by
          intro v y
          rw [f0_longestTaking_76, zsu_pred c2 c4 (by omega), nI_1]
        have bel : ∀ s, zss p e s → s ≤ zsu p (k + 1) → s ≠ zsu p (k + 1) → s ≤ zsu p k := fun s h1 h2 h3 => (zsu_below c2 h1).mp (by omega)
        refine Or.inl ?_
        show ∃ z, f0_longestTaking_39 (f + 1) (nI (zall p e)) (nI fw) (nI (zsu p (2 ^ (p + e) - 1 - j))) (nI j) x = _ ∧ _
        rw [hk, f0_longestTaking_39, if_neg n1, if_neg (nI_ne0 (by omega) (by omega)), c_isIn y3 c2 c4 hss, Option.bind_some]
        cases hq : Q (zsu p (k + 1))
        · rw [if_pos (show nI (zi false) = 0 from rfl), o76]
          refine ⟨(fw, x), by simp only [hk'], gl, y1, y2, Q, y3, y4, y5, ?_⟩
          rcases y6 with y6 | ⟨s, s1, s2, s3⟩
          · exact Or.inl y6
          · refine Or.inr ⟨s, ?_, s2, s3⟩
            rw [hk']
            refine bel s (y4 s s2).1 s1 (fun q => ?_)
            rw [q, hq] at s2
            exact absurd s2 (by decide)
        · have hbs := zbc_lt hlt
          obtain ⟨-, -, hI1⟩ := y4 _ hq
          obtain ⟨z, z1, z2, Q', z3, z4, z5, z6⟩ := c_markTakings y2 y3 c2 c4 hss
          rw [if_neg (show ¬ nI (zi true) = 0 by decide), bc_n hlt, Option.bind_some, z1, Option.bind_some, o76, zmin_n (by omega) (by omega)]
          refine ⟨(min fw (zbc (zsu p (k + 1))), z), by simp only [hk'], gl, by simp only []; omega, z2, Q', z3, fun s hs => ?_, by simp only []; omega, ?_⟩
          · rcases z6 s hs with q | ⟨t, t1, t2, t3, t4⟩
            · exact y4 s q
            · subst t4
              have q1 := zLi_ge (h := h) t1 t2 (by rw [hin _ _ hss]; exact t3)
              have q2 := zbc_rest t1 t2
              exact ⟨zss_rest c2 hss, zHb_ne0 t3, by omega⟩
          · rw [hk']
            rcases y6 with y6 | ⟨s, s1, s2, s3⟩
            · exact Or.inl (by simp only []; omega)
            · by_cases g : s = zsu p (k + 1)
              · subst g
                rcases zLi_ex h (zsu p (k + 1)) with q | ⟨t, t1, t2, t3, t4⟩
                · exact Or.inl (by simp only []; omega)
                · have q2 := zbc_rest t1 t2
                  have q3 := zdf_lt t2
                  rw [hin _ _ hss] at t3
                  exact Or.inr ⟨zdf (zsu p (k + 1)) (2 ^ t), bel _ (zss_rest c2 hss) (by omega) (by omega), z5 t t1 t2 t3, by omega⟩
              · exact Or.inr ⟨s, bel s (y4 s s2).1 s1 g, z4 s s2, s3⟩
      · have ej : 2 ^ (p + e) - 1 - j = 0 := by omega
        rw [ej, zsu_0] at y6
        have hfw : fw + zLi h (zall p e) = zbc (zall p e) := by
          rcases y6 with y6 | ⟨s, s1, s2, s3⟩
          · omega
          · exact absurd (show s = 0 by omega) (y4 s s2).2.1
        refine Or.inr ⟨x, ?_⟩
        show f0_longestTaking_39 (f + 1) (nI (zall p e)) (nI fw) (nI (zsu p (2 ^ (p + e) - 1 - j))) (nI j) x = _
        rw [ej, zsu_0, f0_longestTaking_39, if_neg n1, if_pos (show nI 0 = 0 from rfl), f0_longestTaking_88, bc_n hall, Option.bind_some, nI_sub (by omega), show zbc (zall p e) - fw = zLi h (zall p e) by omega]
    · rw [Bool.false_or] at hs
      have := of_decide_eq_true hs
      subst this
      exact ⟨hass, zHb_ne0 hb, by omega⟩
end EN
