/-! loose, sheds, spares, hangs, falls -/
def zorb (g : Nat → Bool) : Nat → Nat
  | 0 => 0
  | n + 1 => zorb g n ||| (if g n = true then 2 ^ n else 0)
theorem zorb_bit (g : Nat → Bool) (n i : Nat) : (zorb g n).testBit i = (decide (i < n) && g i) := by
  induction n with
  | zero => simp [zorb]
  | succ n ih =>
    rw [zorb, Nat.testBit_or, ih]
    by_cases hi : i = n
    · subst hi
      cases hg : g i
      · simp
      · simp [Nat.testBit_two_pow]
    · have e : (if g n = true then 2 ^ n else 0).testBit i = false := by
        cases hg : g n
        · simp
        · rw [if_pos rfl, Nat.testBit_two_pow]
          simp [Ne.symm hi]
      rw [e, Bool.or_false]
      congr 1
      simp
      omega
theorem zorb_lt (g : Nat → Bool) (n : Nat) : zorb g n < 2 ^ n := Nat.lt_pow_two_of_testBit _ (fun i hi => by
  rw [zorb_bit]
  simp [show ¬ i < n by omega])
theorem zorb_congr {g g' : Nat → Bool} {n : Nat} (h : ∀ i, i < n → g i = g' i) : zorb g n = zorb g' n := by
  induction n with
  | zero => rfl
  | succ n ih => rw [zorb, zorb, ih (fun i hi => h i (by omega)), h n (by omega)]
def zthw (p e : Nat) (w : Nat → Nat) (t : Nat) : Nat := if t < 6 then w t else zcol p e w (t - 6)
def zcr1 (s t : Nat) : Nat := if t < 6 then s / 64 else s % 64
def zlob (p e : Nat) (w : Nat → Nat) (s t : Nat) : Bool := s.testBit t && (decide (zthw p e w t &&& zcr1 s t = 0) || decide (zthw p e w t &&& zcr1 s t = zcr1 s t))
def zlos (p e : Nat) (w : Nat → Nat) (s : Nat) : Nat := if s % 64 = 0 ∨ s / 64 = 0 then 0 else zorb (zlob p e w s) 12
theorem zlos_lt (p e : Nat) (w : Nat → Nat) (s : Nat) : zlos p e w s < 4096 := by
  unfold zlos
  split
  · omega
  · exact zorb_lt _ 12
theorem zpw12 {t : Nat} (h : t < 12) : 2 ^ t ≤ 2048 := by
  have : 2 ^ t ≤ 2 ^ 11 := Nat.pow_le_pow_right (by omega) (by omega)
  omega
theorem zb1 (s t : Nat) : s / 2 ^ t &&& 1 = zi (s.testBit t) := by
  rw [Nat.and_one_is_mod, zdv]
  rfl
theorem nI_or1 {x : Nat} (t : Nat) (ht : t < 12) : nI x ||| zshl 1 (nI t) = nI (x ||| 2 ^ t) := by
  have := zpw12 ht
  rw [zl1, nI_shl (by omega) (by omega), nI_or, Nat.one_mul]
theorem zcells {M : zM} {k p e : Nat} {w : Nat → Nat} (h : zWc M k p e w) {t : Nat} (ht : t < 12) : M.1 (k + 1) t = nI (zthw p e w t) := by
  unfold zthw
  by_cases g : t < 6
  · rw [if_pos g]
    exact h.2.2.1 t g
  · rw [if_neg g]
    have := h.2.2.2 (t - 6) (by omega)
    rw [show 6 + (t - 6) = t by omega] at this
    exact this
theorem zthw_lt {p e : Nat} {w : Nat → Nat} (hc : zCl p e w) (t : Nat) : zthw p e w t < 64 := by
  unfold zthw
  split
  · exact hc.lt64 _
  · exact zcol_lt64 hc _
section LS
variable {M : zM} {p e : Nat} {w : Nat → Nat}
theorem c_looseIn {k : Nat} (h : zWc M k p e w) (hc : zCl p e w) {s : Nat} (hs : s < 4096) : f7_looseIn k (nI s) M = some (nI (zlos p e w s)) := by
  have h63 : s &&& 63 = s % 64 := Nat.and_two_pow_sub_one_eq_mod s 6
  rw [f7_looseIn, show (63 : Int32) = nI 63 from rfl, nI_and, h63, zl6, nI_ushr (by omega) (by omega), show (2 : Nat) ^ 6 = 64 from rfl, zlos]
  by_cases g1 : s % 64 = 0
  · rw [if_pos (by rw [g1]; rfl), if_pos (Or.inl g1)]
    rfl
  rw [if_neg (nI_ne0 (by omega) (by omega))]
  by_cases g2 : s / 64 = 0
  · rw [if_pos (by rw [g2]; rfl), if_pos (Or.inr g2)]
    rfl
  rw [if_neg (nI_ne0 (by omega) (by omega)), if_neg (by omega)]
  refine zloop0 (F := fun f n => f7_looseIn_27 k f (nI s) (nI (zorb (zlob p e w s) n)) (nI (s % 64)) (nI (s / 64)) (nI n) M) 12 (by omega) (fun f n hn => ?_) (fun f => ?_)
  · show f7_looseIn_27 k (f + 1) _ _ _ _ (nI n) M = _
    have hcr : (if (6 : Int32) ≤ nI n then nI (s % 64) else nI (s / 64)) = nI (zcr1 s n) := by
      unfold zcr1
      by_cases g : n < 6
      · rw [if_pos g, if_neg (show ¬ (6 : Int32) ≤ nI n from nI_ge (b := 6) (by omega) (by omega))]
      · rw [if_neg g, if_pos (show (6 : Int32) ≤ nI n from nI_le (a := 6) (by omega) (by omega))]
    have hcl : zcr1 s n < 64 := by unfold zcr1; split <;> omega
    have hal : zthw p e w n &&& zcr1 s n < 64 := Nat.lt_of_le_of_lt Nat.and_le_right hcl
    have o89 : ∀ v2, f7_looseIn_89 k (f7_looseIn_27 k f) (nI s) v2 (nI (s % 64)) (nI (s / 64)) (nI n) M = f7_looseIn_27 k f (nI s) v2 (nI (s % 64)) (nI (s / 64)) (nI (n + 1)) M := by
      intro v2
      rw [f7_looseIn_89, nI_1]
    rw [f7_looseIn_27, if_neg (show ¬ (12 : Int32) ≤ nI n from nI_ge (b := 12) (by omega) (by omega)), zaI_n hn (by omega), zcells h hn, Option.bind_some, nI_ushr (by omega) (by omega), zl1, nI_and, zb1, hcr, nI_and, zorb]
    cases hb : s.testBit n
    · have : zlob p e w s n = false := by unfold zlob; rw [hb]; rfl
      rw [if_pos (show nI (zi false) = 0 from rfl), o89, this]
      simp
    · rw [if_neg (show ¬ nI (zi true) = 0 by decide)]
      by_cases g3 : zthw p e w n &&& zcr1 s n = 0
      · have : zlob p e w s n = true := by unfold zlob; rw [hb, decide_eq_true g3]; rfl
        rw [if_pos (by rw [g3]; rfl), f7_looseIn_82, nI_or1 n hn, o89, this, if_pos rfl]
      · rw [if_neg (nI_ne0 (by omega) (by omega))]
        by_cases g4 : zthw p e w n &&& zcr1 s n = zcr1 s n
        · have : zlob p e w s n = true := by unfold zlob; rw [hb, decide_eq_true g4]; simp
          rw [if_pos (by rw [g4]), f7_looseIn_82, nI_or1 n hn, o89, this, if_pos rfl]
        · have : zlob p e w s n = false := by unfold zlob; rw [hb, decide_eq_false g3, decide_eq_false g4]; rfl
          rw [if_neg (nI_ne g4 (by omega) (by omega)), o89, this]
          simp
  · show f7_looseIn_27 k (f + 1) _ _ _ _ (nI 12) M = _
    rw [f7_looseIn_27, if_pos (by decide)]
theorem zall_dm (hc : zCl p e w) : zall p e % 64 = 2 ^ p - 1 ∧ zall p e / 64 = 2 ^ e - 1 := by
  have := zfull_lt hc.2.1
  unfold zall
  omega
theorem zhas_n (t : Nat) (ht : t < 12) : zhas p e t ↔ t % 6 < zmany p e (t / 6) := by
  unfold zhas zmany
  by_cases h : t < 6
  · rw [if_pos (by omega), show t % 6 = t by omega]
    omega
  · rw [if_neg (by omega), show t % 6 = t - 6 by omega]
    omega
theorem zlob_all (hc : zCl p e w) {t : Nat} (ht : t < 12) : zlob p e w (zall p e) t = (decide (t % 6 < zmany p e (t / 6)) && decide (zlo p e w (t / 6) (t % 6) = 1)) := by
  have hd := zall_dm hc
  unfold zlob
  by_cases hh : zhas p e t
  · rw [(zall_has hc ht).mpr hh, decide_eq_true ((zhas_n t ht).mp hh)]
    rcases hh with ⟨h1, h2⟩ | ⟨h1, h2⟩
    · have e1 : zthw p e w t = w t := by unfold zthw; rw [if_pos h1]
      have e2 : zcr1 (zall p e) t = 2 ^ e - 1 := by unfold zcr1; rw [if_pos h1, hd.2]
      have e3 : zth p e w (t / 6) (t % 6) = w t := by
        rw [show t / 6 = 0 by omega, show t % 6 = t by omega]
        rfl
      have e4 : zmany p e (1 - t / 6) = e := by rw [show t / 6 = 0 by omega]; rfl
      rw [e1, e2, Nat.and_two_pow_sub_one_eq_mod, Nat.mod_eq_of_lt (hc.2.2.2.2.1 t h2), zlo, e3, e4]
      by_cases g1 : w t = 0
      · simp [g1]
      · by_cases g2 : w t = 2 ^ e - 1 <;> simp [g1, g2]
    · have e1 : zthw p e w t = zcol p e w (t - 6) := by unfold zthw; rw [if_neg (by omega)]
      have e2 : zcr1 (zall p e) t = 2 ^ p - 1 := by unfold zcr1; rw [if_neg (by omega), hd.1]
      have e3 : zth p e w (t / 6) (t % 6) = zcol p e w (t - 6) := by
        rw [show t / 6 = 1 by omega, show t % 6 = t - 6 by omega]
        rfl
      have e4 : zmany p e (1 - t / 6) = p := by rw [show t / 6 = 1 by omega]; rfl
      rw [e1, e2, Nat.and_two_pow_sub_one_eq_mod, Nat.mod_eq_of_lt (zcol_lt p e w _), zlo, e3, e4]
      by_cases g1 : zcol p e w (t - 6) = 0
      · simp [g1]
      · by_cases g2 : zcol p e w (t - 6) = 2 ^ p - 1 <;> simp [g1, g2]
  · have : (zall p e).testBit t = false := by
      cases q : (zall p e).testBit t
      · rfl
      · exact absurd ((zall_has hc ht).mp q) hh
    rw [this, decide_eq_false (fun q => hh ((zhas_n t ht).mpr q))]
    rfl
end LS
theorem zP_loose_ok : zP_loose zInv := by
  intro c M hc h
  obtain ⟨p, e, w, hA⟩ := h.1
  obtain ⟨hc1, hW, hR, hN⟩ := id hA
  have hl := zall_lt hc1
  have ez : zlos p e w (zall p e) = zorb (zlob p e w (zall p e)) 12 := by
    have hd := zall_dm hc1
    have h1 : 2 ≤ 2 ^ p := Nat.pow_le_pow_right (n := 2) (i := 1) (by omega) hc1.1
    have h2 : 2 ≤ 2 ^ e := Nat.pow_le_pow_right (n := 2) (i := 1) (by omega) hc1.2.2.1
    rw [zlos, if_neg (by omega)]
  have cz := c_looseIn hW hc1 hl
  rw [ez] at cz
  have hz := zorb_lt (zlob p e w (zall p e)) 12
  generalize hZ : zorb (zlob p e w (zall p e)) 12 = Z at cz hz
  obtain ⟨M1, k1, k2⟩ := c_tell2 (nI (zbc (Z % 64))).toInt64 (nI (zbc (Z / 64))).toInt64 M
  have h63 : Z &&& 63 = Z % 64 := Nat.and_two_pow_sub_one_eq_mod _ 6
  have h8 : f8_loose M = some (nI (Z), M1) := by
    rw [f8_loose, c_all hW hc1, Option.bind_some, cz, Option.bind_some, show (63 : Int32) = nI 63 from rfl, nI_and, h63, bc_n (by omega), Option.bind_some, zl6, nI_ushr (by omega) (by omega), show (2 : Nat) ^ 6 = 64 from rfl, bc_n (by omega), Option.bind_some, k1]
    rfl
  have o8 := o_X8_loose h8
  have hR1 : zRr (zsi M1 39 0 0) 41 p e w := zRr_si (hR.to (o8.1 41 (by simp) (by simp)).1) (by omega)
  have key : ∃ M2, f9_loose M1 = some (nI (Z), M2) ∧ zR9 M2 [(nI (zbc (Z % 64))).toInt64, (nI (zbc (Z / 64))).toInt64] := by
    rw [f9_loose]
    refine zloopP (F := fun f n (x : Unit) => f9_loose_9 f (nI (zorb (zlob p e w (zall p e)) n)) (nI n) (zsi M1 39 0 0)) (I := fun _ _ => True) (P := fun o => ∃ M2, o = some (nI Z, M2) ∧ zR9 M2 [(nI (zbc (Z % 64))).toInt64, (nI (zbc (Z / 64))).toInt64]) 12 (by omega) (k0 := 0) (by omega) (fun f n x _ hn _ => Or.inl ⟨(), ?_, trivial⟩) (fun f x _ => ?_) (x := ()) trivial
    · show f9_loose_9 (f + 1) _ (nI n) (zsi M1 39 0 0) = _
      have hd : nI n / 6 = nI (n / 6) := nI_div (d := 6) (by omega) (by omega) (by omega)
      have hr : zrem (nI n) 6 = nI (n % 6) := nI_rem (d := 6) (by omega) (by omega) (by omega)
      have o56 : ∀ s0 : Int32, (if s0 = 0 then (0 : Int32) else zshl 1 (nI n)) = nI (if zlob p e w (zall p e) n = true then 2 ^ n else 0) → f9_loose_56 (f9_loose_9 f) (nI (zorb (zlob p e w (zall p e)) n)) (nI n) s0 (zsi M1 39 0 0) = f9_loose_9 f (nI (zorb (zlob p e w (zall p e)) (n + 1))) (nI (n + 1)) (zsi M1 39 0 0) := by
        intro s0 hs0
        rw [f9_loose_56, hs0, nI_or, nI_1, zorb]
      rw [f9_loose_9, if_neg (show ¬ (12 : Int32) ≤ nI n from nI_ge (b := 12) (by omega) (by omega)), hd, hr]
      by_cases hh : n % 6 < zmany p e (n / 6)
      · rw [r_thr_yes hR1 hc1 (by omega) hh, Option.bind_some, if_neg (by decide), r_loose1 hR1 hc1 (by omega) hh, Option.bind_some]
        have hp := zpw12 hn
        rcases zlo_01 p e w (n / 6) (n % 6) with g | g
        · rw [g, if_pos (show nI 0 = 0 from rfl)]
          refine o56 0 ?_
          rw [zlob_all hc1 hn, g]
          simp
          rfl
        · rw [g, if_neg (show ¬ nI 1 = 0 by decide)]
          refine o56 1 ?_
          rw [zlob_all hc1 hn, g, decide_eq_true hh, if_neg (by decide), zl1, nI_shl (by omega) (by omega), Nat.one_mul]
          rfl
      · have hno : f9_isThread 41 (nI (n / 6)) (nI (n % 6)) (zsi M1 39 0 0) = some 0 := r_thr_no hR1 hc1 (fun q => hh ((zVd_n hc1 (by omega) (by omega)).mp q))
        rw [hno, Option.bind_some, if_pos rfl]
        refine o56 0 ?_
        rw [zlob_all hc1 hn, decide_eq_false hh]
        rfl
    · obtain ⟨X, y1, y2⟩ := r_tell (nI (zbc (Z % 64))).toInt64 (zsi M1 39 0 0)
      obtain ⟨X', y3, y4⟩ := y2.add (by simp) (nI (zbc (Z / 64))).toInt64
      refine ⟨X', ?_, y4⟩
      show f9_loose_9 (f + 1) (nI (zorb (zlob p e w (zall p e)) 12)) (nI 12) (zsi M1 39 0 0) = _
      rw [hZ, f9_loose_9, if_pos (by decide), show (63 : Int32) = nI 63 from rfl, nI_and, h63, bc_n (by omega), Option.bind_some, y1, Option.bind_some, zl6, nI_shr (by omega) (by omega), show (2 : Nat) ^ 6 = 64 from rfl, bc_n (by omega), Option.bind_some, y3]
      rfl
  obtain ⟨M2, h9, r9⟩ := key
  exact ⟨_, _, _, h8, h9, zq h o8 (o_X9_loose h9) k2 r9 rfl rfl⟩
theorem zP_spares_ok : zP_spares zInv := by
  intro c M hc h
  obtain ⟨p, e, w, hA⟩ := h.1
  obtain ⟨hc1, hW, hR, hN⟩ := id hA
  have hl := zall_lt hc1
  have hsub : ∀ t, zsb p e (zdf (zall p e) (2 ^ t)) := fun t i hi => by
    rw [zdf_bit] at hi
    exact zall_sb hc1 i (by simp at hi; exact hi.1)
  generalize hG : (fun t => (zall p e).testBit t && zHb p e w (zdf (zall p e) (2 ^ t))) = G
  have hGt : ∀ t, G t = ((zall p e).testBit t && zHb p e w (zdf (zall p e) (2 ^ t))) := fun t => by rw [← hG]
  have hz := zorb_lt G 12
  obtain ⟨M0, t1, t2⟩ := c_tie hW hc1 (by omega)
  have hT : zTC M0 22 23 p e w := fun t ht _ => t2 t ht
  obtain ⟨M1, k1, k2⟩ := c_tell (nI (zbc (zorb G 12))).toInt64 M0
  have h8 : f8_spares M = some (nI (zorb G 12), M1) := by
    rw [f8_spares, c_all hW hc1, Option.bind_some, t1, Option.bind_some]
    refine zloop0 (F := fun f n => f8_spares_23 f (nI (zall p e)) (nI (zorb G n)) (nI n) M0) 12 (by omega) (fun f n hn => ?_) (fun f => ?_)
    · show f8_spares_23 (f + 1) _ _ (nI n) M0 = _
      have hp := zpw12 hn
      have o60 : ∀ v2, f8_spares_60 (f8_spares_23 f) (nI (zall p e)) v2 (nI n) M0 = f8_spares_23 f (nI (zall p e)) v2 (nI (n + 1)) M0 := by
        intro v2
        rw [f8_spares_60, nI_1]
      rw [f8_spares_23, if_neg (show ¬ (12 : Int32) ≤ nI n from nI_ge (b := 12) (by omega) (by omega)), zl1, nI_shl (by omega) (by omega), Nat.one_mul, nI_and, nI_xor, zorb, hGt n]
      have eand : zall p e &&& 2 ^ n = if (zall p e).testBit n = true then 2 ^ n else 0 := by
        apply Nat.eq_of_testBit_eq
        intro i
        rw [Nat.testBit_and, Nat.testBit_two_pow]
        by_cases g : n = i
        · subst g
          cases (zall p e).testBit n
          · simp
          · simp [Nat.testBit_two_pow]
        · cases (zall p e).testBit n
          · simp [g]
          · simp [Nat.testBit_two_pow, g]
      cases hb : (zall p e).testBit n
      · have e0 : zall p e &&& 2 ^ n = 0 := by rw [eand, hb]; rfl
        rw [e0, if_pos (show nI 0 = 0 from rfl), o60]
        simp
      · have exor : zall p e ^^^ 2 ^ n = zdf (zall p e) (2 ^ n) := by
          unfold zdf
          rw [eand, hb, if_pos rfl]
        have e1 : zall p e &&& 2 ^ n = 2 ^ n := by rw [eand, hb]; rfl
        have hpp := Nat.two_pow_pos n
        rw [e1, if_neg (nI_ne0 (by omega) (by omega)), exor, c_tog hT hc1 (hsub n), Option.bind_some]
        cases hh : zHb p e w (zdf (zall p e) (2 ^ n))
        · rw [if_pos (show nI (zi false) = 0 from rfl), o60]
          simp
        · rw [if_neg (show ¬ nI (zi true) = 0 by decide), nI_or, o60]
          simp
    · show f8_spares_23 (f + 1) _ _ (nI 12) M0 = _
      rw [f8_spares_23, if_pos (by decide), bc_n hz, Option.bind_some, k1]
      rfl
  have o8 := o_X8_spares h8
  have hR1 : zRS (zsi M1 39 0 0) 41 (p, e, w, M.1 1 2) := ⟨zRr_si (hR.to (o8.1 41 (by simp) (by simp)).1) (by omega), by simp [zsi1, (o8.1 41 (by simp) (by simp)).1, hN]⟩
  obtain ⟨X0, u1, u2⟩ := r_lays hR1.1 hc1 (by omega)
  have oX := o_X9_laysAbove u1
  obtain ⟨X1, y1, y2⟩ := r_tell (nI (zbc (zorb G 12))).toInt64 X0
  have h9 : f9_spares M1 = some (nI (zorb G 12), X1) := by
    rw [f9_spares, u1, Option.bind_some, r_all (hR1.1.to (oX.1 41 (by simp) (by simp)).1) hc1, Option.bind_some]
    refine zloop0 (F := fun f n => f9_spares_25 f (nI (zall p e)) (nI (zorb G n)) (nI n) X0) 12 (by omega) (fun f n hn => ?_) (fun f => ?_)
    · show f9_spares_25 (f + 1) _ _ (nI n) X0 = _
      have hp := zpw12 hn
      have o61 : ∀ s0 s1, f9_spares_61 (f9_spares_25 f) (nI (zall p e)) (nI n) s0 s1 X0 = f9_spares_25 f (nI (zall p e)) (s0 ||| s1) (nI (n + 1)) X0 := by
        intro s0 s1
        rw [f9_spares_61, nI_1]
      have hhas : f9_has (nI (zall p e)) (nI n) = some (nI (zi ((zall p e).testBit n))) := by
        rw [f9_has, nI_shr (by omega) (by omega), zl1, nI_and, zb1]
        cases (zall p e).testBit n <;> rfl
      rw [f9_spares_25, if_neg (show ¬ (12 : Int32) ≤ nI n from nI_ge (b := 12) (by omega) (by omega)), hhas, Option.bind_some, zorb, hGt n]
      cases hb : (zall p e).testBit n
      · rw [if_pos (show nI (zi false) = 0 from rfl), o61, zl0, nI_or]
        simp
      · rw [if_neg (show ¬ nI (zi true) = 0 by decide), z1shl hn, nI_andn _ (by omega), r_tog (fun t ht hh => u2 t ht hh) hc1 (hsub n), Option.bind_some]
        cases hh : zHb p e w (zdf (zall p e) (2 ^ n))
        · rw [if_pos (show nI (zi false) = 0 from rfl), o61, zl0, nI_or]
          simp
        · rw [if_neg (show ¬ nI (zi true) = 0 by decide), o61, nI_or]
          simp
    · show f9_spares_25 (f + 1) _ _ (nI 12) X0 = _
      rw [f9_spares_25, if_pos (by decide), bc_n hz, Option.bind_some, y1]
      rfl
  exact ⟨_, _, _, h8, h9, zq h o8 (o_X9_spares h9) k2 y2 rfl rfl⟩
