/-! odds -/
theorem zlmod_n {a b : Nat} (ha : a < 2 ^ 63) (h0 : 0 < b) (hb : b < 2 ^ 63) : zlmod (lN a) (lN b) = some (lN (a % b)) := by
  rw [zlmod, if_neg (fun q => by
    have q' : lN b = lN 0 := q
    rw [pk_lEQ hb (by decide)] at q'
    omega)]
  exact congrArg some (pk_lRem ha h0 hb)
theorem zldiv_n {a b : Nat} (ha : a < 2 ^ 63) (h0 : 0 < b) (hb : b < 2 ^ 63) : zldiv (lN a) (lN b) = some (lN (a / b)) := by
  rw [zldiv, if_neg (fun q => by
    have q' : lN b = lN 0 := q
    rw [pk_lEQ hb (by decide)] at q'
    omega)]
  exact congrArg some (pk_lDiv ha h0 hb)
theorem lg0 {b : Nat} (hb : b < 2 ^ 63) : lg_cmp (lN b) 0 = 0 ↔ b = 0 := by
  rw [lgc_eq]
  exact pk_lEQ (b := 0) hb (by decide)
theorem zgcd_s (a b : Nat) : Nat.gcd b (a % b) = Nat.gcd a b := by
  rw [Nat.gcd_comm b, ← Nat.gcd_rec, Nat.gcd_comm]
theorem zgc_half {a b k : Nat} (hb : b < 2 ^ (k + 1)) (hb0 : 0 < b) (h0 : 0 < a % b) : b % (a % b) < 2 ^ k := by
  have h1 : a % b < b := Nat.mod_lt _ hb0
  have h2 := Nat.mod_lt b h0
  have h3 := Nat.div_add_mod b (a % b)
  have h4 : 1 ≤ b / (a % b) := (Nat.le_div_iff_mul_le h0).mpr (by omega)
  have h5 : (a % b) * 1 ≤ (a % b) * (b / (a % b)) := Nat.mul_le_mul_left _ h4
  rw [Nat.pow_succ] at hb
  omega
theorem r_common : ∀ (k f a b : Nat), b < 2 ^ k → 2 * k + 1 ≤ f → a < 2 ^ 63 → b < 2 ^ 63 → f9_common f (lN a) (lN b) = some (lN (Nat.gcd a b)) := by
  intro k
  induction k with
  | zero =>
    intro f a b h1 h2 h3 h4
    have : b = 0 := by
      have : b < 1 := h1
      omega
    subst this
    obtain ⟨f, rfl⟩ : ∃ g, f = g + 1 := ⟨f - 1, by omega⟩
    rw [f9_common, if_pos ((lg0 h4).mpr rfl), Nat.gcd_zero_right]
  | succ k ih =>
    intro f a b h1 h2 h3 h4
    obtain ⟨f, rfl⟩ : ∃ g, f = g + 1 + 1 := ⟨f - 2, by omega⟩
    rw [f9_common]
    by_cases g : b = 0
    · rw [if_pos ((lg0 h4).mpr g), g, Nat.gcd_zero_right]
    · have hm := Nat.mod_lt a (show 0 < b by omega)
      rw [if_neg (fun q => g ((lg0 h4).mp q)), zlmod_n h3 (by omega) h4, Option.bind_some, f9_common, ← zgcd_s a b]
      by_cases g2 : a % b = 0
      · rw [if_pos ((lg0 (by omega)).mpr g2), g2, Nat.gcd_zero_right]
        rfl
      · have hm2 := Nat.mod_lt b (show 0 < a % b by omega)
        rw [if_neg (fun q => g2 ((lg0 (by omega)).mp q)), zlmod_n h4 (by omega) (by omega), Option.bind_some, ih f _ _ (zgc_half h1 (by omega) (by omega)) (by omega) (by omega) (by omega), zgcd_s]
        rfl
theorem c_common : ∀ (k f t a b : Nat), b < 2 ^ k → 2 * k + 1 ≤ f → t + 2 * k + 1 ≤ 200 → a < 2 ^ 63 → b < 2 ^ 63 → f8_commonDivisor_9 f (lN a) (lN b) (nI t) = some (lN (Nat.gcd a b)) := by
  intro k
  induction k with
  | zero =>
    intro f t a b h1 h2 h5 h3 h4
    have : b = 0 := by
      have : b < 1 := h1
      omega
    subst this
    obtain ⟨f, rfl⟩ : ∃ g, f = g + 1 := ⟨f - 1, by omega⟩
    rw [f8_commonDivisor_9, if_neg (show ¬ (200 : Int32) ≤ nI t from nI_ge (b := 200) (by omega) (by omega)), if_pos ((lg0 h4).mpr rfl), Nat.gcd_zero_right, f8_commonDivisor_45]
  | succ k ih =>
    intro f t a b h1 h2 h5 h3 h4
    obtain ⟨f, rfl⟩ : ∃ g, f = g + 1 + 1 := ⟨f - 2, by omega⟩
    rw [f8_commonDivisor_9, if_neg (show ¬ (200 : Int32) ≤ nI t from nI_ge (b := 200) (by omega) (by omega))]
    by_cases g : b = 0
    · rw [if_pos ((lg0 h4).mpr g), g, Nat.gcd_zero_right, f8_commonDivisor_45]
    · have hm := Nat.mod_lt a (show 0 < b by omega)
      rw [if_neg (fun q => g ((lg0 h4).mp q)), zlmod_n h3 (by omega) h4, Option.bind_some, nI_1, f8_commonDivisor_9, if_neg (show ¬ (200 : Int32) ≤ nI (t + 1) from nI_ge (b := 200) (by omega) (by omega)), ← zgcd_s a b]
      by_cases g2 : a % b = 0
      · rw [if_pos ((lg0 (by omega)).mpr g2), g2, Nat.gcd_zero_right, f8_commonDivisor_45]
      · have hm2 := Nat.mod_lt b (show 0 < a % b by omega)
        rw [if_neg (fun q => g2 ((lg0 (by omega)).mp q)), zlmod_n h4 (by omega) (by omega), Option.bind_some, nI_1, ih f (t + 1 + 1) _ _ (zgc_half h1 (by omega) (by omega)) (by omega) (by omega) (by omega) (by omega), zgcd_s]
theorem c_power {b n : Nat} (hb : b < 100) (hn : n < 100) : f8_power (nI b) (nI n) = some (lN (b ^ n)) := by
  rw [f8_power]
  refine zloop0 (F := fun f k => f8_power_5 f (nI b) (nI n) (lN (b ^ k)) (nI k)) n (by omega) (fun f k hk => ?_) (fun f => ?_)
  · show f8_power_5 (f + 1) _ _ _ (nI k) = _
    rw [f8_power_5, if_neg (nI_ge hk (by omega)), nI_l (by omega), lN_mul, nI_1, Nat.pow_succ]
  · show f8_power_5 (f + 1) _ _ _ (nI n) = _
    rw [f8_power_5, if_pos (nI_le (Nat.le_refl _) (by omega))]
/-- the weight of a set -/
def zfa (A v s t : Nat) : Nat := if A.testBit t = true then (if s.testBit t = true then 10 - v else v) else 1
def zpr (A v s : Nat) : Nat → Nat
  | 0 => 1
  | n + 1 => zpr A v s n * zfa A v s n
theorem zpr_le {A v s : Nat} (hv : v ≤ 10) : ∀ n, zpr A v s n ≤ 10 ^ n := by
  intro n
  induction n with
  | zero => exact Nat.le_refl _
  | succ n ih =>
    have : zfa A v s n ≤ 10 := by
      unfold zfa
      split
      · split <;> omega
      · omega
    rw [zpr, Nat.pow_succ]
    exact Nat.mul_le_mul ih this
theorem zpr_0 {A v s m : Nat} (h : zpr A v s m = 0) : ∀ d, zpr A v s (m + d) = 0 := by
  intro d
  induction d with
  | zero => exact h
  | succ d ih =>
    show zpr A v s (m + d) * _ = 0
    rw [ih, Nat.zero_mul]
theorem zpr_pw {A v s : Nat} (hs : ∀ t, s.testBit t = true → A.testBit t = true) : ∀ n, zpr A v s n = (10 - v) ^ (zsum (fun t => (s.testBit t).toNat) n) * v ^ (zsum (fun t => (A.testBit t && !(s.testBit t)).toNat) n) := by
  intro n
  induction n with
  | zero => rfl
  | succ n ih =>
    rw [zpr, ih, zsum, zsum, Nat.pow_add, Nat.pow_add, zfa]
    cases g : s.testBit n
    · cases g2 : A.testBit n
      · rw [if_neg (by decide)]
        simp
      · rw [if_pos rfl, if_neg (by decide)]
        simp [Nat.mul_assoc]
    · rw [hs n g, if_pos rfl, if_pos rfl]
      simp [Nat.mul_assoc, Nat.mul_comm, Nat.mul_left_comm]
theorem zbc_all : ∀ p, p < 7 → ∀ e, e < 7 → zbc (zall p e) = p + e := by decide +kernel
theorem zss_bits {p e s : Nat} (hp : p ≤ 6) (hs : zss p e s) : ∀ t, s.testBit t = true → (zall p e).testBit t = true := by
  intro t ht
  have := (zss_iff hp).mp hs
  rw [← this, Nat.testBit_and] at ht
  revert ht
  cases (zall p e).testBit t <;> simp
theorem zbc_split {p e s : Nat} (hp : p ≤ 6) (he : e ≤ 6) (hs : zss p e s) : zbc s + zsum (fun t => ((zall p e).testBit t && !(s.testBit t)).toNat) 12 = p + e := by
  rw [← zbc_all p (by omega) e (by omega), zbc_sum, zbc_sum, ← zsum_add]
  apply zsum_congr
  intro i _
  have := zss_bits hp hs i
  revert this
  cases s.testBit i <;> cases (zall p e).testBit i <;> simp
/-- of so many threads left -/
def zwt (v T l : Nat) : Nat := (10 - v) ^ l * v ^ (T - l)
theorem zpr_12 {p e v s : Nat} (hp : p ≤ 6) (he : e ≤ 6) (hs : zss p e s) : zpr (zall p e) v s 12 = zwt v (p + e) (zbc s) := by
  have := zbc_split hp he hs
  rw [zpr_pw (zss_bits hp hs), zwt, zbc_sum]
  rw [zbc_sum] at this
  congr 2
  omega
theorem zsum_delta {a F : Nat → Nat} {l0 : Nat} : ∀ m, zsum (fun l => (a l + if l0 = l then 1 else 0) * F l) m = zsum (fun l => a l * F l) m + if l0 < m then F l0 else 0 := by
  intro m
  induction m with
  | zero => rfl
  | succ m ih =>
    rw [zsum, zsum, ih, Nat.add_mul]
    by_cases g : l0 = m
    · subst g
      rw [if_neg (by omega), if_pos rfl, if_pos (by omega)]
      omega
    · rw [if_neg g]
      by_cases g2 : l0 < m
      · rw [if_pos g2, if_pos (by omega)]
        omega
      · rw [if_neg g2, if_neg (by omega)]
        omega
def zGs (p e : Nat) (w : Nat → Nat) (v s : Nat) : Nat := if zhb p e w s = true then zwt v (p + e) (zbc s) else 0
theorem zregroup {p e : Nat} {w : Nat → Nat} (hp : p ≤ 6) (he : e ≤ 6) (v : Nat) : ∀ n, zsum (zGs p e w v) n = zsum (fun l => zcnt (zPk p e w l) n * zwt v (p + e) l) (p + e + 1) := by
  intro n
  induction n with
  | zero =>
    rw [show zsum (zGs p e w v) 0 = zsum (fun _ => 0) (p + e + 1) from by
      show 0 = _
      generalize p + e + 1 = m
      induction m with
      | zero => rfl
      | succ m ih => exact ih]
    exact zsum_congr (fun i _ => (Nat.zero_mul _).symm)
  | succ n ih =>
    rw [zsum, ih, zGs]
    by_cases g : zhb p e w n = true
    · have g1 : zss p e n := by
        by_cases q : zss p e n
        · exact q
        · rw [zhb_out hp q] at g
          exact absurd g (by decide)
      have g2 : zHb p e w n = true := by rw [← zhb_in hp g1]; exact g
      have hl := zbc_split hp he g1
      have e1 : ∀ l, zcnt (zPk p e w l) (n + 1) = zcnt (zPk p e w l) n + if zbc n = l then 1 else 0 := by
        intro l
        show zcnt _ n + @ite _ _ (Classical.propDecidable _) 1 0 = _
        congr 1
        by_cases q : zbc n = l
        · rw [if_pos q, if_pos ⟨q, (zss_iff hp).mp g1, g2⟩]
        · rw [if_neg q, if_neg (fun r => q r.1)]
      rw [if_pos g, zsum_congr (g := fun l => zcnt (zPk p e w l) (n + 1) * zwt v (p + e) l) (g' := fun l => (zcnt (zPk p e w l) n + if zbc n = l then 1 else 0) * zwt v (p + e) l) (fun l _ => by rw [e1 l]), zsum_delta, if_pos (by omega)]
    · have e1 : ∀ l, zcnt (zPk p e w l) (n + 1) = zcnt (zPk p e w l) n := by
        intro l
        show zcnt _ n + @ite _ _ (Classical.propDecidable _) 1 0 = _
        rw [if_neg (fun r => g (by rw [zhb_in hp ((zss_iff hp).mpr r.2.1)]; exact r.2.2))]
        rfl
      rw [if_neg g, zsum_congr (g := fun l => zcnt (zPk p e w l) (n + 1) * zwt v (p + e) l) (g' := fun l => zcnt (zPk p e w l) n * zwt v (p + e) l) (fun l _ => by rw [e1 l])]
      rfl
section OD
variable {M : zM} {p e : Nat} {w : Nat → Nat}
def zup (p e : Nat) (w : Nat → Nat) (v : Nat) : Nat := zsum (zGs p e w v) (zall p e + 1)
theorem zup_eq (hc : zCl p e w) (v : Nat) : zsum (fun l => zcnt (zPk p e w l) 4096 * zwt v (p + e) l) (p + e + 1) = zup p e w v := by
  have hall := zall_lt hc
  rw [zup, zregroup hc.2.1 hc.2.2.2.1]
  apply zsum_congr
  intro l _
  rw [zcnt_skip' (P := zPk p e w l) (show zall p e + 1 ≤ 4096 by omega) (fun x h1 h2 q => by
    have := (zss_lt hc.2.1 hc.2.2.2.1 ((zss_iff hc.2.1).mpr q.2.1)).2
    omega)]
theorem zwt_le {v T l : Nat} (hv : v ≤ 10) (hT : T ≤ 12) (hl : l ≤ T) : zwt v T l ≤ 10 ^ 12 := by
  have h1 : (10 - v) ^ l ≤ 10 ^ l := Nat.pow_le_pow_left (by omega) l
  have h2 : v ^ (T - l) ≤ 10 ^ (T - l) := Nat.pow_le_pow_left hv _
  have h3 : 10 ^ l * 10 ^ (T - l) = 10 ^ T := by rw [← Nat.pow_add]; congr 1; omega
  have h4 : 10 ^ T ≤ 10 ^ 12 := Nat.pow_le_pow_right (by omega) hT
  have h5 := Nat.mul_le_mul h1 h2
  unfold zwt
  omega
theorem zup_le (hc : zCl p e w) {v : Nat} (hv : v ≤ 10) (n : Nat) (hn : n ≤ 4096) : zsum (zGs p e w v) n < 2 ^ 52 := by
  have := zsum_le (g := zGs p e w v) (b := 10 ^ 12) (n := n) (fun s hs => by
    unfold zGs
    by_cases g : zhb p e w s = true
    · have g1 : zss p e s := by
        by_cases q : zss p e s
        · exact q
        · rw [zhb_out hc.2.1 q] at g
          exact absurd g (by decide)
      have := zbc_split hc.2.1 hc.2.2.2.1 g1
      have h1 := hc.2.1
      have h2 := hc.2.2.2.1
      rw [if_pos g]
      exact zwt_le hv (by omega) (by omega)
    · rw [if_neg g]
      exact Nat.zero_le _)
  have h2 : n * 10 ^ 12 ≤ 4096 * 10 ^ 12 := Nat.mul_le_mul_right _ hn
  omega
theorem c_odds (hT : zTab M p e w) (hW : zWc M 1 p e w) (hc : zCl p e w) {v : Nat} (hv : v ≤ 10) {r : Option (Int32 × zM)} (hr : ((f3_tell_ (lN (zup p e w v / Nat.gcd (zup p e w v) (10 ^ (p + e)))) (lN (10 ^ (p + e) / Nat.gcd (zup p e w v) (10 ^ (p + e)))) M).bind fun M5 => some (0, M5)) = r) : f8_odds_36 zfuel (nI v) (nI (p + e)) 0 0 M = r := by
  obtain ⟨c1, c2, c3, c4, c5, c6⟩ := id hc
  have hall := zall_lt hc
  have hT10 : 10 ^ (p + e) ≤ 10 ^ 12 := Nat.pow_le_pow_right (by omega) (by omega)
  have hT0 : 0 < 10 ^ (p + e) := Nat.pow_pos (by omega)
  have hup : zup p e w v < 2 ^ 52 := zup_le hc hv _ (by omega)
  have hg0 : 0 < Nat.gcd (zup p e w v) (10 ^ (p + e)) := Nat.gcd_pos_of_pos_right _ hT0
  have hgl : Nat.gcd (zup p e w v) (10 ^ (p + e)) ≤ 10 ^ (p + e) := Nat.gcd_le_right _ hT0
  refine zloop0 (F := fun f l => f8_odds_36 f (nI v) (nI (p + e)) (lN (zsum (fun l => zcnt (zPk p e w l) 4096 * zwt v (p + e) l) l)) (nI l) M) (p + e + 1) (by omega) (fun f l hl => ?_) (fun f => ?_)
  · have hb : f0_holdingOf (nI l) M = some (nI (zcnt (zPk p e w l) 4096)) := by
      have q := hT.2 l (by omega)
      rw [f0_holdingOf, if_neg (nI_pos (by omega)), if_neg (show ¬ (13 : Int32) ≤ nI l from nI_ge (b := 13) (by omega) (by omega)), zaI_n (by omega) (by omega), q]
      rfl
    have hcn : ∀ n, zcnt (zPk p e w l) n ≤ n := by
      intro n
      induction n with
      | zero => exact Nat.le_refl _
      | succ n ih =>
        show zcnt _ n + @ite _ _ (Classical.propDecidable _) 1 0 ≤ _
        split <;> omega
    have hcn2 := hcn 4096
    show f8_odds_36 (f + 1) _ _ _ (nI l) M = _
    rw [f8_odds_36, if_neg (nI_nlt (by omega) (by omega)), hb, Option.bind_some, show (10 : Int32) - nI v = nI (10 - v) from nI_sub (a := 10) (by omega), c_power (by omega) (by omega), Option.bind_some, nI_sub (by omega), c_power (by omega) (by omega), Option.bind_some, nI_l (by omega), lN_mul, lN_mul, lN_add, nI_1, Nat.mul_assoc]
    rfl
  · show f8_odds_36 (f + 1) _ _ _ (nI (p + e + 1)) M = _
    have ecd : f8_commonDivisor (lN (zup p e w v)) (lN (10 ^ (p + e))) = some (lN (Nat.gcd (zup p e w v) (10 ^ (p + e)))) := by
      rw [f8_commonDivisor]
      have q := c_common 52 5000 0 (10 ^ (p + e)) (zup p e w v) hup (by omega) (by omega) (by omega) (by omega)
      rw [Nat.gcd_comm] at q
      exact q
    have epw : f8_power 10 (nI (p + e)) = some (lN (10 ^ (p + e))) := c_power (b := 10) (by omega) (by omega)
    rw [f8_odds_36, if_pos (nI_lt (by omega) (by omega)), zup_eq hc, epw, Option.bind_some, ecd, Option.bind_some, if_neg (show ¬ lg_cmp (lN (Nat.gcd (zup p e w v) (10 ^ (p + e)))) 0 ≤ 0 from Int32.not_le.mpr ((lgc_gt _ _).mpr ((pk_lLT (a := 0) (by omega) (by omega)).mpr hg0))), zldiv_n (by omega) hg0 (by omega), Option.bind_some, zldiv_n (by omega) hg0 (by omega), Option.bind_some]
    exact hr
/-- the reference: the weight of one set -/
theorem r_wt {K : Int32 → Int32 → Int64 → Int64 → Int32 → Int64 → zM → Option (Int32 × zM)} {A v s : Nat} (hA : A < 4096) (hv : v ≤ 10) (hs : s < 4096) {v3 v5 : Int64} (b : Bool) : f9_odds_90 K zfuel (nI v) (nI A) v3 v5 (nI s) (lN (zi b)) 0 M = K (nI v) (nI A) v3 v5 (nI s) (lN (zi b * zpr A v s 12)) M := by
  rw [show f9_odds_90 K zfuel (nI v) (nI A) v3 v5 (nI s) (lN (zi b)) 0 M = f9_odds_90 K zfuel (nI v) (nI A) v3 v5 (nI s) (lN (zi b * zpr A v s 0)) (nI 0) M by rw [zpr, Nat.mul_one]; rfl]
  have hbd : ∀ n, n ≤ 12 → zi b * zpr A v s n < 2 ^ 63 := by
    intro n hn
    have h1 := zpr_le (A := A) (s := s) hv n
    have h2 : 10 ^ n ≤ 10 ^ 12 := Nat.pow_le_pow_right (by omega) hn
    have h3 : zi b * zpr A v s n ≤ 1 * zpr A v s n := Nat.mul_le_mul_right _ (by cases b <;> decide)
    omega
  refine zloopP (σ := Unit) (F := fun f t _ => f9_odds_90 K f (nI v) (nI A) v3 v5 (nI s) (lN (zi b * zpr A v s t)) (nI t) M) (I := fun _ _ => True) (P := fun o => o = K (nI v) (nI A) v3 v5 (nI s) (lN (zi b * zpr A v s 12)) M) 12 (by omega) (k0 := 0) (by omega) (fun f t u _ ht _ => ?_) (fun f u _ => ?_) (x := ()) trivial
  · have hb := hbd t (by omega)
    by_cases g0 : zi b * zpr A v s t = 0
    · refine Or.inr ?_
      have e12 : zi b * zpr A v s 12 = 0 := by
        rcases Nat.mul_eq_zero.mp g0 with q | q
        · rw [q, Nat.zero_mul]
        · have := zpr_0 q (12 - t)
          rw [show t + (12 - t) = 12 by omega] at this
          rw [this, Nat.mul_zero]
      show f9_odds_90 K (f + 1) _ _ _ _ _ _ (nI t) M = _
      rw [f9_odds_90, if_neg (show ¬ (12 : Int32) ≤ nI t from nI_ge (b := 12) (by omega) (by omega)), g0, e12, if_pos (by decide)]
    · refine Or.inl ⟨(), ?_, trivial⟩
      show f9_odds_90 K (f + 1) _ _ _ _ _ _ (nI t) M = f9_odds_90 K f _ _ _ _ _ (lN (zi b * zpr A v s (t + 1))) (nI (t + 1)) M
      rw [f9_odds_90, if_neg (show ¬ (12 : Int32) ≤ nI t from nI_ge (b := 12) (by omega) (by omega)), if_neg (show ¬ lg_cmp (lN (zi b * zpr A v s t)) 0 ≤ 0 from Int32.not_le.mpr ((lgc_gt _ _).mpr ((pk_lLT (a := 0) (by omega) hb).mpr (Nat.pos_of_ne_zero g0)))), r_has12 hA ht, Option.bind_some, zpr, zfa, ← Nat.mul_assoc]
      cases A.testBit t
      · rw [if_pos (show nI (zi false) = 0 from rfl), if_neg (by decide), f9_odds_139, nI_1, show (1 : Int64) = lN 1 from rfl, lN_mul]
      · rw [if_neg (show ¬ nI (zi true) = 0 by decide), if_pos rfl, r_has12 hs ht, Option.bind_some]
        cases s.testBit t
        · rw [if_pos (show nI (zi false) = 0 from rfl), if_neg (by decide), f9_odds_139, nI_1, nI_l (by omega), lN_mul]
        · rw [if_neg (show ¬ nI (zi true) = 0 by decide), if_pos rfl, f9_odds_139, nI_1, show (10 : Int32) - nI v = nI (10 - v) from nI_sub (a := 10) (by omega), nI_l (by omega), lN_mul]
  · show f9_odds_90 K (f + 1) _ _ _ _ _ _ (nI 12) M = _
    rw [f9_odds_90, if_pos (by decide)]
theorem zGs_e (hc : zCl p e w) {v s : Nat} : zi (zhb p e w s) * zpr (zall p e) v s 12 = zGs p e w v s := by
  unfold zGs
  by_cases g : zhb p e w s = true
  · have g1 : zss p e s := by
      by_cases q : zss p e s
      · exact q
      · rw [zhb_out hc.2.1 q] at g
        exact absurd g (by decide)
    rw [if_pos g, g, zpr_12 hc.2.1 hc.2.2.2.1 g1]
    exact Nat.one_mul _
  · have : zhb p e w s = false := by simpa using g
    rw [if_neg g, this]
    exact Nat.zero_mul _
theorem zhb_0 (hp : p ≤ 6) : zhb p e w 0 = false := by
  rw [zhb_in hp ⟨by have := Nat.two_pow_pos p; omega, by have := Nat.two_pow_pos e; omega⟩]
  exact decide_eq_false (fun q => q.1 rfl)
theorem r_odds68 (hc : zCl p e w) (h56 : ∀ j, j ≤ zall p e → M.1 56 j = nI (zi (zhb p e w j))) {v : Nat} (hv : v ≤ 10) {r : Option (Int32 × zM)} (hr : ((f9_enters (lN (zup p e w v / Nat.gcd (zup p e w v) (10 ^ (p + e)))) (zsi M 39 1 0)).bind fun M3 => (f9_enters (lN (10 ^ (p + e) / Nat.gcd (zup p e w v) (10 ^ (p + e)))) M3).bind fun M5 => some (0, M5)) = r) : f9_odds_68 zfuel (nI v) (nI (zall p e)) 0 (lN (10 ^ (p + e))) 1 M = r := by
  obtain ⟨c1, c2, c3, c4, c5, c6⟩ := id hc
  have hall := zall_lt hc
  have hT10 : 10 ^ (p + e) ≤ 10 ^ 12 := Nat.pow_le_pow_right (by omega) (by omega)
  have hT0 : 0 < 10 ^ (p + e) := Nat.pow_pos (by omega)
  have hup : zup p e w v < 2 ^ 52 := zup_le hc hv _ (by omega)
  have hg0 : 0 < Nat.gcd (zup p e w v) (10 ^ (p + e)) := Nat.gcd_pos_of_pos_right _ hT0
  have hgl : Nat.gcd (zup p e w v) (10 ^ (p + e)) ≤ 10 ^ (p + e) := Nat.gcd_le_right _ hT0
  have e1 : zsum (zGs p e w v) 1 = 0 := by
    show 0 + zGs p e w v 0 = 0
    rw [zGs, if_neg (by rw [zhb_0 c2]; decide)]
  have h1 : 1 ≤ zall p e + 1 := by omega
  rw [show f9_odds_68 zfuel (nI v) (nI (zall p e)) 0 (lN (10 ^ (p + e))) 1 M = f9_odds_68 zfuel (nI v) (nI (zall p e)) (lN (zsum (zGs p e w v) 1)) (lN (10 ^ (p + e))) (nI 1) M by rw [e1]; rfl]
  refine zloopk (F := fun f s => f9_odds_68 f (nI v) (nI (zall p e)) (lN (zsum (zGs p e w v) s)) (lN (10 ^ (p + e))) (nI s) M) 1 (zall p e + 1) h1 (by omega) (fun f s hs1 hs => ?_) (fun f => ?_)
  · have ef : f9_flag (nI (zi (zhb p e w s))) = some (nI (zi (zhb p e w s))) := by cases zhb p e w s <;> rfl
    have hz : zi (zhb p e w s) < 2 := by cases zhb p e w s <;> decide
    show f9_odds_68 (f + 1) _ _ _ _ (nI s) M = _
    rw [f9_odds_68, if_neg (nI_nlt (by omega) (by omega)), zaI_n (by omega) (by omega), h56 s (by omega), Option.bind_some, ef, Option.bind_some, nI_l (by omega), r_wt hall hv (by omega), zGs_e hc, f9_odds_148, lN_add, nI_1]
    rfl
  · have ec : f9_common 200 (lN (zup p e w v)) (lN (10 ^ (p + e))) = some (lN (Nat.gcd (zup p e w v) (10 ^ (p + e)))) := r_common 40 200 _ _ (by omega) (by omega) (by omega) (by omega)
    show f9_odds_68 (f + 1) _ _ (lN (zup p e w v)) _ (nI (zall p e + 1)) M = _
    rw [f9_odds_68, if_pos (nI_lt (by omega) (by omega)), ec, Option.bind_some, zldiv_n (by omega) hg0 (by omega), Option.bind_some, zldiv_n (by omega) hg0 (by omega)]
    exact hr
theorem r_odds39 (hR : zRr M 41 p e w) (hc : zCl p e w) {v : Int32} {A : Int32} : f9_odds_39 zfuel v A 0 1 0 M = f9_odds_68 zfuel v A 0 (lN (10 ^ (p + e))) 1 M := by
  obtain ⟨c1, c2, c3, c4, c5, c6⟩ := id hc
  have et : f9_threadsOf 41 M = some (nI (p + e)) := by rw [f9_threadsOf, hR.1, hR.2.1, nI_add]
  refine zloop0 (F := fun f k => f9_odds_39 f v A 0 (lN (10 ^ k)) (nI k) M) (p + e) (by omega) (fun f k hk => ?_) (fun f => ?_)
  · show f9_odds_39 (f + 1) _ _ _ _ (nI k) M = _
    rw [f9_odds_39, et, Option.bind_some, if_neg (nI_ge hk (by omega)), show (10 : Int64) = lN 10 from rfl, lN_mul, nI_1, Nat.pow_succ]
  · show f9_odds_39 (f + 1) _ _ _ _ (nI (p + e)) M = _
    rw [f9_odds_39, et, Option.bind_some, if_pos (nI_le (Nat.le_refl _) (by omega))]
end OD
theorem zP_odds_ok : zP_odds zInv := by
  intro c M v hc h
  obtain ⟨p, e, w, hA⟩ := h.1
  obtain ⟨hc1, hW, hR, hN⟩ := id hA
  have hp6 := hc1.2.1
  have he6 := hc1.2.2.2.1
  have hall := zall_lt (w := w) hc1
  have out : f8_odds v M = some (-1, M) → f9_in v.toInt64 0 10 = some 0 → ∃ (r : Int32) (M1 M2 : zM), f8_odds v M = some (r, M1) ∧ f9_odds v M1 = some (r, M2) ∧ zInv (c + 1) M2 := by
    intro h8 hi
    refine ⟨_, _, zsi M 39 0 0, h8, ?_, zInv_to h (S := []) (s := [0]) (zOut.rf.si 39 0 0 (Or.inr ⟨rfl, by simp⟩)) (Or.inl rfl) (Or.inl rfl) (Or.inl rfl) (Or.inl rfl) (Or.inl rfl) (Or.inl rfl) (Or.inl rfl) (Or.inl rfl)⟩
    rw [f9_odds, hi]
    rfl
  rcases pk_ix v (n := 11) (by omega) with hv | hv | ⟨n, hn, rfl⟩
  · exact out (by rw [f8_odds, if_pos hv]) (in_neg (n := 10) (by omega) hv)
  · have g := zix_big (by omega) hv
    exact out (by rw [f8_odds, if_neg g.1, if_neg (show ¬ v ≤ 10 from (g.2 10 (by omega)).1)]) (in_big (n := 10) (by omega) hv)
  obtain ⟨M1, k1, k2, k3⟩ := c_tabulate hW hc1 h.2.2.2.2.2.2.2
  have o1 := o_X0_tabulate k1
  have hW1 : zWc M1 1 p e w := hW.to (o1.1 1 (by simp) (by simp)).1 (o1.1 2 (by simp) (by simp)).1
  obtain ⟨M3, k5, k6⟩ := c_tell2 (lN (zup p e w n / Nat.gcd (zup p e w n) (10 ^ (p + e)))) (lN (10 ^ (p + e) / Nat.gcd (zup p e w n) (10 ^ (p + e)))) M1
  have o3 := o_X3_tell_ k5
  have h8 : f8_odds (nI n) M = some (0, M3) := by
    rw [f8_odds, if_neg (nI_pos (by omega)), if_pos (show nI n ≤ 10 from nI_le (b := 10) (by omega) (by omega)), k1, Option.bind_some, f7_threads, hW1.1, hW1.2.1, nI_add, Option.bind_some]
    exact c_odds k2 hW1 hc1 (by omega) (by rw [k5]; rfl)
  have o8 := o_X8_odds h8
  have t8 : zTab M3 p e w := zTab_to k2 (o3.1 24 (by simp) (by simp)).2 (o3.1 26 (by simp) (by simp)).1
  have v8 : M3.2 21 5 = lN (zshN p e w) := by rw [(o3.1 21 (by simp) (by simp)).2, k3]
  have hR0 : zRr (zsi M3 39 0 0) 41 p e w := zRr_si (hR.to (o8.1 41 (by simp) (by simp)).1) (by decide)
  obtain ⟨X1, y1, y2⟩ := r_laysHangs hR0 hc1
  have oX := o_X9_laysHangs y1
  have hR1 := hR0.to (oX.1 41 (by simp) (by simp)).1
  obtain ⟨X2, q1, q2⟩ := r_tell (lN (zup p e w n / Nat.gcd (zup p e w n) (10 ^ (p + e)))) X1
  obtain ⟨X3, q3, q4⟩ := q2.add (by simp) (lN (10 ^ (p + e) / Nat.gcd (zup p e w n) (10 ^ (p + e))))
  have h9 : f9_odds (nI n) M3 = some (0, X3) := by
    have q : f9_in (nI n).toInt64 0 10 = some 1 := in_ok (n := 10) (by omega) (by omega)
    rw [f9_odds, q, Option.bind_some, if_neg (by decide), y1, Option.bind_some, r_all hR1 hc1, Option.bind_some, r_odds39 hR1 hc1]
    exact r_odds68 hc1 y2 (by omega) (by rw [q1, Option.bind_some, q3]; rfl)
  have o9 := o_X9_odds h9
  exact ⟨_, _, _, h8, h9, zInv_to h (o8.trans o9) (Or.inl rfl) (Or.inl rfl) (Or.inr ⟨_, zR8_to (o9.same rfl) k6, q4⟩) (Or.inl rfl) (Or.inl rfl) (Or.inl rfl) (Or.inl rfl) (Or.inr (Or.inr ⟨p, e, w, hc1, by rw [(o9.1 21 (by simp) (by simp)).2, v8], zTab_to t8 (o9.1 24 (by simp) (by simp)).2 (o9.1 26 (by simp) (by simp)).1⟩))⟩
