/-! repeats -/
def zal (g : Nat → Bool) (k : Nat) : Nat → Bool
  | 0 => true
  | n + 1 => zal g k n && g (k + n)
def zrpg (p e : Nat) (w : Nat → Nat) (kd n i : Nat) : Bool := decide (zth p e w kd i = zth p e w kd (i - n))
def zrp (p e : Nat) (w : Nat → Nat) (kd n : Nat) : Bool := zal (zrpg p e w kd n) n (zmany p e kd - n)
theorem zrp_least {p e : Nat} {w : Nat → Nat} (hc : zCl p e w) (kd : Nat) : ∃ r, 1 ≤ r ∧ r ≤ zmany p e kd ∧ zrp p e w kd r = true ∧ ∀ j, 1 ≤ j → j < r → zrp p e w kd j = false := by
  have hm := zmany_le hc kd
  have ex : ∃ r, 1 ≤ r ∧ zrp p e w kd r = true := ⟨zmany p e kd, hm.1, by unfold zrp; rw [Nat.sub_self]; rfl⟩
  obtain ⟨r, ⟨h1, h2⟩, h3⟩ := pk_least _ ex
  refine ⟨r, h1, ?_, h2, fun j hj hjr => ?_⟩
  · rcases Nat.lt_or_ge (zmany p e kd) r with g | g
    · exact absurd ⟨hm.1, by unfold zrp; rw [Nat.sub_self]; rfl⟩ (h3 _ g)
    · exact g
  · cases q : zrp p e w kd j
    · rfl
    · exact absurd ⟨hj, q⟩ (h3 j hjr)
section RP
variable {M : zM} {k p e : Nat} {w : Nat → Nat}
theorem c_repeat (h : zWc M k p e w) (hc : zCl p e w) {kd r : Nat} (hk : kd < 2) (h1 : 1 ≤ r) (h2 : r ≤ zmany p e kd) (h3 : zrp p e w kd r = true) (h4 : ∀ j, 1 ≤ j → j < r → zrp p e w kd j = false) : f7_repeatOf k (nI kd) M = some (nI r) := by
  have hm := zmany_le hc kd
  have inner : ∀ (K : Int32 → Int32 → Int32 → zM → Option Int32) (n : Nat), 1 ≤ n → n ≤ zmany p e kd → f7_repeatOf_16 k K zfuel (nI kd) (nI n) 1 (nI n) M = K (nI kd) (nI n) (nI (zi (zrp p e w kd n))) M := by
    intro K n hn1 hn2
    refine (zloopk (F := fun f i => f7_repeatOf_16 k K f (nI kd) (nI n) (nI (zi (zal (zrpg p e w kd n) n (i - n)))) (nI i) M) n (zmany p e kd) hn2 (by omega) (r := K (nI kd) (nI n) (nI (zi (zrp p e w kd n))) M) (fun f i hi0 hi => ?_) (fun f => ?_) |> (fun q => by
      rw [Nat.sub_self] at q
      exact q))
    · show f7_repeatOf_16 k K (f + 1) _ _ _ (nI i) M = _
      have b1 := zth_lt64 hc kd i
      have b2 := zth_lt64 hc kd (i - n)
      rw [f7_repeatOf_16, c_size h hk, Option.bind_some, if_neg (nI_ge hi (by omega)), show i + 1 - n = (i - n) + 1 by omega, zal, show n + (i - n) = i by omega]
      cases zal (zrpg p e w kd n) n (i - n)
      · rw [if_pos (show nI (zi false) = 0 from rfl), f7_repeatOf_54, nI_1]
        rfl
      · rw [if_neg (show ¬ nI (zi true) = 0 by decide), c_cells h hk (by omega), Option.bind_some, nI_sub hi0, c_cells h hk (by omega), Option.bind_some, f7_repeatOf_54, nI_1, Bool.true_and, zrpg]
        by_cases g : zth p e w kd i = zth p e w kd (i - n)
        · rw [if_pos (by rw [g]), decide_eq_true g]
          rfl
        · rw [if_neg (nI_ne g (by omega) (by omega)), decide_eq_false g]
          rfl
    · show f7_repeatOf_16 k K (f + 1) _ _ _ (nI (zmany p e kd)) M = _
      rw [f7_repeatOf_16, c_size h hk, Option.bind_some, if_pos (nI_le (Nat.le_refl _) (by omega))]
      rfl
  rw [f7_repeatOf]
  refine zloopk (F := fun f n => f7_repeatOf_2 k f (nI kd) (nI n) M) 1 r h1 (by omega) (fun f n hn0 hn => ?_) (fun f => ?_)
  · show f7_repeatOf_2 k (f + 1) _ (nI n) M = _
    rw [f7_repeatOf_2, c_size h hk, Option.bind_some, if_neg (nI_ge (by omega) (by omega)), inner _ n hn0 (by omega), h4 n hn0 hn, f7_repeatOf_61, if_pos (show nI (zi false) = 0 from rfl), nI_1]
  · show f7_repeatOf_2 k (f + 1) _ (nI r) M = _
    rw [f7_repeatOf_2, c_size h hk, Option.bind_some]
    by_cases g : zmany p e kd ≤ r
    · rw [if_pos (nI_le g (by omega)), Option.bind_some, show zmany p e kd = r by omega]
    · rw [if_neg (nI_ge (by omega) (by omega)), inner _ r h1 h2, h3, f7_repeatOf_61, if_neg (show ¬ nI (zi true) = 0 by decide)]
theorem r_repeat (h : zRr M k p e w) (hc : zCl p e w) {kd r : Nat} (hk : kd < 2) (h1 : 1 ≤ r) (h2 : r ≤ zmany p e kd) (h3 : zrp p e w kd r = true) (h4 : ∀ j, 1 ≤ j → j < r → zrp p e w kd j = false) : f9_repeatsOf k (nI kd) M = some (nI r) := by
  have hm := zmany_le hc kd
  have inner : ∀ (K : Int32 → Int32 → Int32 → zM → Option Int32) (n : Nat), 1 ≤ n → n ≤ zmany p e kd → f9_repeatsOf_13 k K zfuel (nI kd) (nI n) 1 (nI n) M = K (nI kd) (nI n) (nI (zi (zrp p e w kd n))) M := by
    intro K n hn1 hn2
    refine (zloopk (F := fun f i => f9_repeatsOf_13 k K f (nI kd) (nI n) (nI (zi (zal (zrpg p e w kd n) n (i - n)))) (nI i) M) n (zmany p e kd) hn2 (by omega) (r := K (nI kd) (nI n) (nI (zi (zrp p e w kd n))) M) (fun f i hi0 hi => ?_) (fun f => ?_) |> (fun q => by
      rw [Nat.sub_self] at q
      exact q))
    · show f9_repeatsOf_13 k K (f + 1) _ _ _ (nI i) M = _
      have b1 := zth_lt64 hc kd i
      have b2 := zth_lt64 hc kd (i - n)
      rw [f9_repeatsOf_13, r_many h hk, Option.bind_some, if_neg (nI_ge hi (by omega)), show i + 1 - n = (i - n) + 1 by omega, zal, show n + (i - n) = i by omega]
      cases zal (zrpg p e w kd n) n (i - n)
      · rw [if_pos (show nI (zi false) = 0 from rfl), f9_repeatsOf_51, nI_1]
        rfl
      · rw [if_neg (show ¬ nI (zi true) = 0 by decide), r_bits h hc hk hi, Option.bind_some, nI_sub hi0, r_bits h hc hk (by omega), Option.bind_some, f9_repeatsOf_51, nI_1, Bool.true_and, zrpg]
        by_cases g : zth p e w kd i = zth p e w kd (i - n)
        · rw [if_pos (by rw [g]), decide_eq_true g]
          rfl
        · rw [if_neg (nI_ne g (by omega) (by omega)), decide_eq_false g]
          rfl
    · show f9_repeatsOf_13 k K (f + 1) _ _ _ (nI (zmany p e kd)) M = _
      rw [f9_repeatsOf_13, r_many h hk, Option.bind_some, if_pos (nI_le (Nat.le_refl _) (by omega))]
      rfl
  rw [f9_repeatsOf]
  refine (zloopk (F := fun f n => f9_repeatsOf_4 k f (nI kd) (nI (min n r)) (if n ≤ r then 0 else 1) M) 1 (r + 1) (by omega) (by omega) (r := some (nI r)) (fun f n hn0 hn => ?_) (fun f => ?_) |> (fun q => by
    rw [show min 1 r = 1 by omega, if_pos h1] at q
    exact q))
  · show f9_repeatsOf_4 k (f + 1) _ (nI (min n r)) _ M = _
    rw [if_pos (show n ≤ r by omega), show min n r = n by omega, f9_repeatsOf_4, if_pos rfl, inner _ n hn0 (by omega), f9_repeatsOf_58]
    by_cases g : n = r
    · subst g
      rw [h3, show min (n + 1) n = n by omega, if_neg (show ¬ n + 1 ≤ n by omega), if_neg (show ¬ nI (zi true) = 0 by decide)]
      show (f9_flag (nI 0)).bind _ = _
      rw [show f9_flag (nI 0) = some (nI 0) from rfl, Option.bind_some, nI_add]
      rfl
    · rw [h4 n hn0 (by omega), show min (n + 1) r = n + 1 by omega, if_pos (show n + 1 ≤ r by omega), if_pos (show nI (zi false) = 0 from rfl)]
      show (f9_flag (nI 1)).bind _ = _
      rw [show f9_flag (nI 1) = some (nI 1) from rfl, Option.bind_some, nI_add]
      rfl
  · show f9_repeatsOf_4 k (f + 1) _ (nI (min (r + 1) r)) _ M = _
    rw [if_neg (show ¬ r + 1 ≤ r by omega), show min (r + 1) r = r by omega, f9_repeatsOf_4, if_neg (by decide)]
end RP
theorem zP_repeats_ok : zP_repeats zInv := by
  intro c M hc h
  obtain ⟨p, e, w, hA⟩ := h.1
  obtain ⟨hc1, hW, hR, hN⟩ := id hA
  obtain ⟨r0, a1, a2, a3, a4⟩ := zrp_least hc1 0
  obtain ⟨r1, b1, b2, b3, b4⟩ := zrp_least hc1 1
  obtain ⟨M1, k1, k2⟩ := c_tell (nI r1).toInt64 M
  have o1 := o_X3_tell k1
  have q0 : f7_repeatOf 1 0 M1 = some (nI r0) := c_repeat (hW.to (o1.1 1 (by simp) (by simp)).1 (o1.1 2 (by simp) (by simp)).1) hc1 (kd := 0) (by omega) a1 a2 a3 a4
  have q1 : f7_repeatOf 1 1 M = some (nI r1) := c_repeat hW hc1 (kd := 1) (by omega) b1 b2 b3 b4
  have h8 : f8_repeats M = some (nI r0, M1) := by
    rw [f8_repeats, q1, Option.bind_some, k1, Option.bind_some, q0]
    rfl
  have o8 := o_X8_repeats h8
  have hR1 : zRr (zsi (zsi M1 39 0 0) 39 1 0) 41 p e w := zRr_si (zRr_si (hR.to (o8.1 41 (by simp) (by simp)).1) (by omega)) (by omega)
  obtain ⟨M2, y1, y2⟩ := r_tell (nI r1).toInt64 (zsi M1 39 0 0)
  have o2 := o_X9_enters y1
  have s1 : f9_repeatsOf 41 1 (zsi (zsi M1 39 0 0) 39 1 0) = some (nI r1) := r_repeat hR1 hc1 (kd := 1) (by omega) b1 b2 b3 b4
  have s0 : f9_repeatsOf 41 0 M2 = some (nI r0) := r_repeat (hR1.to (o2.1 41 (by simp) (by simp)).1) hc1 (kd := 0) (by omega) a1 a2 a3 a4
  have h9 : f9_repeats M1 = some (nI r0, M2) := by
    rw [f9_repeats, s1, Option.bind_some, y1, Option.bind_some, s0]
    rfl
  exact ⟨_, _, _, h8, h9, zq h o8 (o_X9_repeats h9) k2 y2 rfl rfl⟩
