/-! sheds, hangs, falls -/
def zsh (p e : Nat) (w : Nat → Nat) : Nat → Nat
  | 0 => zall p e
  | k + 1 => zdf (zsh p e w k) (zlos p e w (zsh p e w k))
theorem zlos_sub (p e : Nat) (w : Nat → Nat) (s i : Nat) (h : (zlos p e w s).testBit i = true) : s.testBit i = true := by
  unfold zlos at h
  split at h
  · simp at h
  · rw [zorb_bit] at h
    simp only [Bool.and_eq_true, zlob] at h
    exact h.2.1
theorem zsh_sb {p e : Nat} {w : Nat → Nat} (hc : zCl p e w) : ∀ k, zsb p e (zsh p e w k) := by
  intro k
  induction k with
  | zero => exact zall_sb hc
  | succ k ih =>
    intro t ht
    rw [zsh, zdf_bit] at ht
    exact ih t (by simp at ht; exact ht.1)
theorem zsh_ct {p e : Nat} {w : Nat → Nat} (hc : zCl p e w) : ∀ k, (∀ j, j < k → zlos p e w (zsh p e w j) ≠ 0) → zct (zsh p e w k) + k ≤ 12 := by
  intro k
  induction k with
  | zero =>
    intro _
    have := zct_le (zsh p e w 0)
    omega
  | succ k ih =>
    intro h
    have ihk := ih (fun j hj => h j (by omega))
    have h0 := h k (by omega)
    have hl := zlos_lt p e w (zsh p e w k)
    have c1 : zct (zdf (zsh p e w k) (zlos p e w (zsh p e w k)) ||| zlos p e w (zsh p e w k)) = zct (zdf (zsh p e w k) (zlos p e w (zsh p e w k))) + zct (zlos p e w (zsh p e w k)) := zct_or (fun i hi => by
      rw [zdf_bit] at hi
      simp at hi
      simpa using hi.2)
    have c2 : zdf (zsh p e w k) (zlos p e w (zsh p e w k)) ||| zlos p e w (zsh p e w k) = zsh p e w k := by
      apply Nat.eq_of_testBit_eq
      intro i
      rw [Nat.testBit_or, zdf_bit]
      have := zlos_sub p e w (zsh p e w k) i
      cases hq : (zlos p e w (zsh p e w k)).testBit i
      · simp
      · rw [this hq]
        rfl
    have c3 : zct (zlos p e w (zsh p e w k)) ≠ 0 := fun q => h0 (zct_0 hl q)
    rw [c2] at c1
    rw [zsh]
    omega
theorem zsh_end {p e : Nat} {w : Nat → Nat} (hc : zCl p e w) : ∃ k, k ≤ 12 ∧ zlos p e w (zsh p e w k) = 0 ∧ ∀ j, j < k → zlos p e w (zsh p e w j) ≠ 0 := by
  have ex : ∃ k, zlos p e w (zsh p e w k) = 0 := by
    by_cases h : ∀ j, j < 13 → zlos p e w (zsh p e w j) ≠ 0
    · have := zsh_ct hc 13 h
      omega
    · obtain ⟨j, hj⟩ := Classical.not_forall.mp h
      obtain ⟨hj1, hj2⟩ := Classical.not_imp.mp hj
      exact ⟨j, Classical.not_not.mp hj2⟩
  obtain ⟨k, h1, h2⟩ := pk_least _ ex
  have := zsh_ct hc k h2
  exact ⟨k, by omega, h1, h2⟩
theorem zand64 (u v : Nat) : u * 64 &&& v * 64 = (u &&& v) * 64 := by
  apply Nat.eq_of_testBit_eq
  intro i
  rw [Nat.testBit_and, show u * 64 = 2 ^ 6 * u by omega, show v * 64 = 2 ^ 6 * v by omega, show (u &&& v) * 64 = 2 ^ 6 * (u &&& v) by omega, Nat.testBit_two_pow_mul, Nat.testBit_two_pow_mul, Nat.testBit_two_pow_mul, Nat.testBit_and]
  by_cases h : 6 ≤ i <;> simp [h]
theorem zand4032 : ∀ a, a < 64 → ∀ b, b < 64 → (64 * a + b) &&& 4032 = a * 64 := by decide +kernel
theorem r_looseAmong {M : zM} {p e : Nat} {w : Nat → Nat} (hc : zCl p e w) {s t : Nat} (hs : s < 4096) (ht : t < 12) (hT : M.1 54 t = nI (zbel p e w t)) : f9_isLooseAmong (nI t) (nI s) M = some (nI (zi (decide (zthw p e w t &&& zcr1 s t = 0) || decide (zthw p e w t &&& zcr1 s t = zcr1 s t)))) := by
  have hb := zbel_lt hc t
  rw [f9_isLooseAmong, zaI_n ht (by omega), hT, Option.bind_some, Option.bind_some]
  obtain ⟨a, b, ha, hb', e'⟩ := z64 hs
  have key : ∀ (X Y : Nat), X < 4096 → Y < 4096 → (X = 0 ↔ zthw p e w t &&& zcr1 s t = 0) → (X = Y ↔ zthw p e w t &&& zcr1 s t = zcr1 s t) → (if nI X = 0 then some (1 : Int32) else some (if nI X = nI Y then (1 : Int32) else 0)) = some (nI (zi (decide (zthw p e w t &&& zcr1 s t = 0) || decide (zthw p e w t &&& zcr1 s t = zcr1 s t)))) := by
    intro X Y hX hY e1 e2
    by_cases g1 : X = 0
    · rw [if_pos (by rw [g1]; rfl), decide_eq_true (e1.mp g1)]
      rfl
    · rw [if_neg (nI_ne0 (by omega) (by omega)), decide_eq_false (fun q => g1 (e1.mpr q))]
      by_cases g2 : X = Y
      · rw [if_pos (by rw [g2]), decide_eq_true (e2.mp g2)]
        rfl
      · rw [if_neg (nI_ne g2 (by omega) (by omega)), decide_eq_false (fun q => g2 (e2.mpr q))]
        rfl
  by_cases g : t < 6
  · have e1 : zbel p e w t = w t * 64 := by unfold zbel; rw [if_pos g]
    have e2 : s &&& 4032 = s / 64 * 64 := by rw [e', zand4032 a ha b hb']; omega
    have e3 : zthw p e w t = w t := by unfold zthw; rw [if_pos g]
    have e4 : zcr1 s t = s / 64 := by unfold zcr1; rw [if_pos g]
    have b1 : w t &&& s / 64 < 64 := Nat.lt_of_le_of_lt Nat.and_le_right (by omega)
    rw [if_neg (show ¬ (6 : Int32) ≤ nI t from nI_ge (b := 6) (by omega) (by omega)), show (4032 : Int32) = nI 4032 from rfl, nI_and, nI_and, e1, e2, zand64]
    refine key _ _ (by omega) (by omega) ?_ ?_
    · rw [e3, e4]; omega
    · rw [e3, e4]; omega
  · have e1 : zbel p e w t = zcol p e w (t - 6) := by unfold zbel; rw [if_neg g]
    have e2 : s &&& 63 = s % 64 := Nat.and_two_pow_sub_one_eq_mod _ 6
    have e3 : zthw p e w t = zcol p e w (t - 6) := by unfold zthw; rw [if_neg g]
    have e4 : zcr1 s t = s % 64 := by unfold zcr1; rw [if_neg g]
    have b1 : zcol p e w (t - 6) &&& s % 64 < 64 := Nat.lt_of_le_of_lt Nat.and_le_right (by omega)
    rw [if_pos (show (6 : Int32) ≤ nI t from nI_le (a := 6) (by omega) (by omega)), show (63 : Int32) = nI 63 from rfl, nI_and, nI_and, e1, e2]
    refine key _ _ (by omega) (by omega) ?_ ?_
    · rw [e3, e4]
    · rw [e3, e4]
theorem r_has12 {s t : Nat} (hs : s < 4096) (ht : t < 12) : f9_has (nI s) (nI t) = some (nI (zi (s.testBit t))) := by
  rw [f9_has, nI_shr (by omega) (by omega), zl1, nI_and, zb1]
  cases s.testBit t <;> rfl
theorem zP_sheds_ok : zP_sheds zInv := by
  intro c M hc h
  obtain ⟨p, e, w, hA⟩ := h.1
  obtain ⟨hc1, hW, hR, hN⟩ := id hA
  obtain ⟨ke, hke, hz, hnz⟩ := zsh_end hc1
  have hlt : ∀ k, zsh p e w k < 4096 := fun k => zsb_lt (zsh_sb hc1 k)
  obtain ⟨M1, k1, k2⟩ := c_tell2 (nI (zsh p e w ke)).toInt64 (nI ke).toInt64 M
  have h8 : f8_sheds M = some (nI (zbc (zsh p e w ke)), M1) := by
    rw [f8_sheds, c_all hW hc1, Option.bind_some, c_looseIn hW hc1 (zall_lt hc1), Option.bind_some]
    refine zloop0 (F := fun f n => f8_sheds_19 f (nI (zsh p e w n)) (nI n) (nI (zlos p e w (zsh p e w n))) M) ke (by omega) (fun f n hn => ?_) (fun f => ?_)
    · show f8_sheds_19 (f + 1) _ (nI n) _ M = _
      have hl := zlos_lt p e w (zsh p e w n)
      have h0 := hnz n hn
      have ea := nI_andn (zlos p e w (zsh p e w n)) (show zsh p e w n < 2 ^ 32 by have := hlt n; omega)
      rw [f8_sheds_19, if_neg (nI_ne0 (by omega) (by omega)), if_neg (show ¬ (12 : Int32) < nI n from nI_nlt (a := 12) (by omega) (by omega)), ea]
      have := c_looseIn hW hc1 (hlt (n + 1))
      rw [zsh] at this
      rw [this, Option.bind_some, nI_1]
      rfl
    · show f8_sheds_19 (f + 1) _ (nI ke) _ M = _
      rw [f8_sheds_19, if_pos (by rw [hz]; rfl), f8_sheds_50, k1, Option.bind_some, bc_n (hlt ke)]
      rfl
  have o8 := o_X8_sheds h8
  have hR1 : zRr (zsi M1 39 0 0) 41 p e w := zRr_si (hR.to (o8.1 41 (by simp) (by simp)).1) (by omega)
  obtain ⟨X0, u1, u2⟩ := r_lays hR1 hc1 (by omega)
  have oX := o_X9_laysAbove u1
  obtain ⟨X1, y1, y2⟩ := r_tell (nI (zsh p e w ke)).toInt64 X0
  obtain ⟨X2, y3, y4⟩ := y2.add (by simp) (nI ke).toInt64
  have inner : ∀ (K : Int32 → Int32 → Int32 → zM → Option (Int32 × zM)) (k : Nat) (v2 : Int32), f9_sheds_56 K zfuel (nI (zsh p e w k)) v2 0 (if (nI (zsh p e w k) &&& 63) = 0 then (0 : Int32) else (if (zshr (nI (zsh p e w k)) 6) = 0 then (0 : Int32) else 1)) 0 X0 = K (nI (zsh p e w k)) v2 (nI (zlos p e w (zsh p e w k))) X0 := by
    intro K k v2
    have hs := hlt k
    have h63 : zsh p e w k &&& 63 = zsh p e w k % 64 := Nat.and_two_pow_sub_one_eq_mod _ 6
    have hboth : (if (nI (zsh p e w k) &&& 63) = 0 then (0 : Int32) else (if (zshr (nI (zsh p e w k)) 6) = 0 then (0 : Int32) else 1)) = (if zsh p e w k % 64 = 0 ∨ zsh p e w k / 64 = 0 then 0 else 1) := by
      rw [show (63 : Int32) = nI 63 from rfl, nI_and, h63, show (6 : Int32) = nI 6 from rfl, nI_shr (by omega) (by omega), show (2 : Nat) ^ 6 = 64 from rfl]
      by_cases g1 : zsh p e w k % 64 = 0
      · rw [if_pos (by rw [g1]; rfl), if_pos (Or.inl g1)]
      · rw [if_neg (nI_ne0 (by omega) (by omega))]
        by_cases g2 : zsh p e w k / 64 = 0
        · rw [if_pos (by rw [g2]; rfl), if_pos (Or.inr g2)]
        · rw [if_neg (nI_ne0 (by omega) (by omega)), if_neg (by omega)]
    rw [hboth]
    by_cases g : zsh p e w k % 64 = 0 ∨ zsh p e w k / 64 = 0
    · rw [if_pos g]
      show f9_sheds_56 K (4999 + 1) _ _ _ _ _ X0 = _
      rw [f9_sheds_56, if_neg (by decide), if_pos rfl, zlos, if_pos g]
      rfl
    · rw [if_neg g]
      have ez : zlos p e w (zsh p e w k) = zorb (zlob p e w (zsh p e w k)) 12 := by rw [zlos, if_neg g]
      rw [ez]
      refine zloop0 (F := fun f n => f9_sheds_56 K f (nI (zsh p e w k)) v2 (nI (zorb (zlob p e w (zsh p e w k)) n)) 1 (nI n) X0) 12 (by omega) (fun f n hn => ?_) (fun f => ?_)
      · show f9_sheds_56 K (f + 1) _ _ _ _ (nI n) X0 = _
        have hp := zpw12 hn
        have o97 : ∀ s0 s1, f9_sheds_97 (f9_sheds_56 K f) (nI (zsh p e w k)) v2 1 (nI n) s0 s1 X0 = f9_sheds_56 K f (nI (zsh p e w k)) v2 (s0 ||| s1) 1 (nI (n + 1)) X0 := by
          intro s0 s1
          rw [f9_sheds_97, nI_1]
        rw [f9_sheds_56, if_neg (show ¬ (12 : Int32) ≤ nI n from nI_ge (b := 12) (by omega) (by omega)), if_neg (by decide), r_has12 hs hn, Option.bind_some, zorb]
        cases hb : (zsh p e w k).testBit n
        · have : zlob p e w (zsh p e w k) n = false := by unfold zlob; rw [hb]; rfl
          rw [if_pos (show nI (zi false) = 0 from rfl), o97, this, zl0, nI_or]
          simp
        · have hh := (zsh_sb hc1 k n hb).2
          have : zlob p e w (zsh p e w k) n = (decide (zthw p e w n &&& zcr1 (zsh p e w k) n = 0) || decide (zthw p e w n &&& zcr1 (zsh p e w k) n = zcr1 (zsh p e w k) n)) := by unfold zlob; rw [hb]; rfl
          rw [if_neg (show ¬ nI (zi true) = 0 by decide), r_looseAmong hc1 hs hn (u2 n hn hh).1, Option.bind_some, o97, ← this]
          cases zlob p e w (zsh p e w k) n
          · rw [if_pos (show nI (zi false) = 0 from rfl), zl0, nI_or]
            simp
          · rw [if_neg (show ¬ nI (zi true) = 0 by decide), nI_or1 n hn]
            simp
      · show f9_sheds_56 K (f + 1) _ _ _ _ (nI 12) X0 = _
        rw [f9_sheds_56, if_pos (by decide)]
  have h9 : f9_sheds M1 = some (nI (zbc (zsh p e w ke)), X2) := by
    rw [f9_sheds, u1, Option.bind_some, r_all (hR1.to (oX.1 41 (by simp) (by simp)).1) hc1, Option.bind_some]
    have m0 : min 0 ke = 0 := by omega
    refine (show f9_sheds_25 zfuel (nI (zall p e)) 0 1 X0 = f9_sheds_25 zfuel (nI (zsh p e w (min 0 ke))) (nI (min 0 ke)) (if 0 ≤ ke then 1 else 0) X0 by rw [m0, if_pos (Nat.zero_le _)]; rfl).trans ?_
    refine zloop0 (F := fun f n => f9_sheds_25 f (nI (zsh p e w (min n ke))) (nI (min n ke)) (if n ≤ ke then 1 else 0) X0) (ke + 1) (by omega) (fun f n hn => ?_) (fun f => ?_)
    · show f9_sheds_25 (f + 1) _ _ _ X0 = _
      rw [if_pos (by omega), f9_sheds_25, if_neg (by decide), inner, f9_sheds_106, show min n ke = n by omega]
      have hs := hlt n
      have hl := zlos_lt p e w (zsh p e w n)
      rw [nI_andn _ (by omega)]
      by_cases g : n = ke
      · subst g
        rw [hz, if_pos (show nI 0 = 0 from rfl), show min (n + 1) n = n by omega, if_neg (show ¬ n + 1 ≤ n by omega)]
        have : zdf (zsh p e w n) 0 = zsh p e w n := by simp [zdf]
        rw [this]
        show f9_sheds_25 f _ (nI n + nI 0) _ X0 = _
        rw [nI_add]
        rfl
      · have h0 := hnz n (by omega)
        rw [if_neg (nI_ne0 (by omega) (by omega)), show min (n + 1) ke = n + 1 by omega, if_pos (show n + 1 ≤ ke by omega), zsh]
        show f9_sheds_25 f _ (nI n + nI 1) _ X0 = _
        rw [nI_add]
    · show f9_sheds_25 (f + 1) _ _ _ X0 = _
      rw [if_neg (show ¬ ke + 1 ≤ ke by omega), show min (ke + 1) ke = ke by omega, f9_sheds_25, if_pos rfl, y1, Option.bind_some, y3, Option.bind_some, bc_n (hlt ke)]
      rfl
  exact ⟨_, _, _, h8, h9, zq h o8 (o_X9_sheds h9) k2 y4 rfl rfl⟩
