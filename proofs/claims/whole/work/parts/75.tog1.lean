/-! whether a set hangs together, on both sides -/
theorem zreach_lone {tb : Nat → Nat} {s f : Nat} (hf : f < 12) (h : tb f &&& s = 0) : zreach tb s f = 2 ^ f := by
  have h2 := (zbc_pw f hf).2
  have hp := Nat.two_pow_pos f
  have e1 : zri tb s f 1 = (2 ^ f, 0) := by
    show (if (zri tb s f 0).2 = 0 then _ else _) = _
    have e0 : zri tb s f 0 = (2 ^ f, 2 ^ f) := rfl
    rw [e0, if_neg (by show 2 ^ f ≠ 0; omega)]
    simp only [h2, h]
    have : zdf 0 (2 ^ f) = 0 := by simp [zdf]
    rw [this]
    simp
  have := zri_stay (tb := tb) (s := s) (f := f) (k := 1) (by rw [e1]) 11
  unfold zreach
  rw [show 12 = 1 + 11 from rfl, this, e1]
theorem zreach_self {tb : Nat → Nat} {f : Nat} : zreach tb (2 ^ f) f = 2 ^ f := by
  have := zri_full (tb := tb) (s := 2 ^ f) (f := f) (k := 0) rfl 12
  unfold zreach
  simpa using this
section TG
variable {M : zM} {p e s : Nat} {w : Nat → Nat}
theorem zmul64 (x : Nat) {s : Nat} (h : s < 64) : x * 64 &&& s = 0 := by
  apply Nat.eq_of_testBit_eq
  intro i
  rw [Nat.testBit_and, Nat.zero_testBit]
  by_cases hi : i < 6
  · have : (x * 64).testBit i = false := by
      rw [show x * 64 = 2 ^ 6 * x by omega, Nat.testBit_two_pow_mul]
      simp [show ¬ 6 ≤ i by omega]
    rw [this]
    rfl
  · have : s.testBit i = false := Nat.testBit_lt_two_pow (Nat.lt_of_lt_of_le h (Nat.pow_le_pow_right (n := 2) (i := 6) (by omega) (by omega)))
    rw [this, Bool.and_false]
theorem c_tog (hT : zTC M 22 23 p e w) (hc : zCl p e w) (hs : zsb p e s) : f0_areTogether (nI s) M = some (nI (zi (zHb p e w s))) := by
  have hlt := zsb_lt hs
  have hb := zbc_lt hlt
  rw [f0_areTogether, bc_n hlt, Option.bind_some]
  by_cases h0 : s = 0
  · subst h0
    rfl
  obtain ⟨l1, l2, l3, l4, l5, l6⟩ := zlow_n hlt h0
  have lbit := zlow_bit hlt h0
  have lhas := (hs _ lbit).2
  by_cases h1 : zbc s = 1
  · have e1 : s = 2 ^ zlow s := by
      obtain ⟨a, b, ha, hb', e⟩ := z64 hlt
      rw [e] at h1 ⊢
      exact zbc_1 a ha b hb' h1
    have q : ∀ tb, zreach tb s (zlow s) = s := by
      intro tb
      have := zreach_self (tb := tb) (f := zlow s)
      rw [← e1] at this
      exact this
    rw [if_pos (show nI (zbc s) = 1 by rw [h1]; rfl)]
    have : zHb p e w s = true := by
      unfold zHb
      exact decide_eq_true ⟨h0, q _, q _⟩
    rw [this]
    rfl
  rw [if_neg (show ¬ nI (zbc s) = 1 from nI_ne (b := 1) h1 (by omega) (by omega)), show (63 : Int32) = nI 63 from rfl, nI_and, zl6, nI_ushr (by omega) (by omega)]
  have lone : ∀ tb : Nat → Nat, tb (zlow s) &&& s = 0 → ¬ zreach tb s (zlow s) = s := by
    intro tb hz q
    rw [zreach_lone l4 hz] at q
    rw [← q] at h1
    exact h1 (zbc_pw _ l4).1
  have h63 : s &&& 63 = s % 64 := Nat.and_two_pow_sub_one_eq_mod s 6
  by_cases h2 : s &&& 63 = 0
  · rw [if_pos (by rw [h2]; rfl)]
    have : zHb p e w s = false := by
      unfold zHb
      apply decide_eq_false
      rintro ⟨-, q, -⟩
      refine lone _ ?_ q
      have hz6 : 6 ≤ zlow s := by
        rcases Nat.lt_or_ge (zlow s) 6 with g | g
        · have : (s &&& 63).testBit (zlow s) = true := by
            rw [Nat.testBit_and, lbit, show (63 : Nat) = 2 ^ 6 - 1 from rfl, Nat.testBit_two_pow_sub_one]
            simp [g]
          rw [h2] at this
          simp at this
        · exact g
      have hz := zcol_lt64 hc (zlow s - 6)
      unfold zbel
      rw [if_neg (by omega), Nat.and_comm]
      have : s = s / 64 * 64 := by omega
      exact (congrArg (fun x => x &&& zcol p e w (zlow s - 6)) this).trans (zmul64 _ hz)
    rw [this]
    rfl
  rw [if_neg (nI_ne0 (by omega) (by omega))]
  by_cases h3 : s / 2 ^ 6 = 0
  · rw [if_pos (by rw [h3]; rfl)]
    have : zHb p e w s = false := by
      unfold zHb
      apply decide_eq_false
      rintro ⟨-, q, -⟩
      refine lone _ ?_ q
      have h64 : s < 64 := by
        rcases Nat.lt_or_ge s 64 with g | g
        · exact g
        · have : 1 ≤ s / 2 ^ 6 := by show 1 ≤ s / 64; omega
          omega
      have hz6 : zlow s < 6 := by
        rcases Nat.lt_or_ge (zlow s) 6 with g | g
        · exact g
        · rw [Nat.testBit_lt_two_pow (Nat.lt_of_lt_of_le h64 (Nat.pow_le_pow_right (n := 2) (i := 6) (by omega) g))] at lbit
          cases lbit
      unfold zbel
      rw [if_pos hz6]
      exact zmul64 _ h64
    rw [this]
    rfl
  rw [if_neg (nI_ne0 (by omega) (by have : s / 2 ^ 6 ≤ s := Nat.div_le_self _ _; omega)), l6]
  have b1 : ∀ t, t < 12 → (t = zlow s ∨ s.testBit t = true) → M.1 22 t = nI (zbel p e w t) := by
    intro t ht hh
    rcases hh with rfl | hh
    · exact (hT _ ht lhas).1
    · exact (hT _ ht (hs t hh).2).1
  have b2 : ∀ t, t < 12 → (t = zlow s ∨ s.testBit t = true) → M.1 23 t = nI (zabv p e w t) := by
    intro t ht hh
    rcases hh with rfl | hh
    · exact (hT _ ht lhas).2
    · exact (hT _ ht (hs t hh).2).2
  have r1 := zreach_lt (tb := zbel p e w) hlt l4
  have r2 := zreach_lt (tb := zabv p e w) hlt l4
  rw [c_reached b1 (fun t _ => zbel_lt hc t) hlt l4, Option.bind_some]
  by_cases g1 : zreach (zbel p e w) s (zlow s) = s
  · rw [if_pos (by rw [g1]), c_reached b2 (fun t _ => zabv_lt hc t) hlt l4, Option.bind_some]
    by_cases g2 : zreach (zabv p e w) s (zlow s) = s
    · have : zHb p e w s = true := by
        unfold zHb
        exact decide_eq_true ⟨h0, g1, g2⟩
      rw [if_pos (by rw [g2]), this]
      rfl
    · have : zHb p e w s = false := by
        unfold zHb
        exact decide_eq_false (fun q => g2 q.2.2)
      rw [if_neg (nI_ne g2 (by omega) (by omega)), this]
      rfl
  · have : zHb p e w s = false := by
      unfold zHb
      exact decide_eq_false (fun q => g1 q.2.1)
    rw [if_neg (nI_ne g1 (by omega) (by omega)), this]
    rfl
theorem r_tog (hT : zTC M 54 55 p e w) (hc : zCl p e w) (hs : zsb p e s) : f9_isHanging (nI s) M = some (nI (zi (zHb p e w s))) := by
  have hlt := zsb_lt hs
  rw [f9_isHanging]
  by_cases h0 : s = 0
  · subst h0
    rfl
  obtain ⟨l1, l2, l3, l4, l5, l6⟩ := zlow_n hlt h0
  have lbit := zlow_bit hlt h0
  have lhas := (hs _ lbit).2
  have b1 : ∀ t, t < 12 → (t = zlow s ∨ s.testBit t = true) → M.1 54 t = nI (zbel p e w t) := by
    intro t ht hh
    rcases hh with rfl | hh
    · exact (hT _ ht lhas).1
    · exact (hT _ ht (hs t hh).2).1
  have b2 : ∀ t, t < 12 → (t = zlow s ∨ s.testBit t = true) → M.1 55 t = nI (zabv p e w t) := by
    intro t ht hh
    rcases hh with rfl | hh
    · exact (hT _ ht lhas).2
    · exact (hT _ ht (hs t hh).2).2
  have r1 := zreach_lt (tb := zbel p e w) hlt l4
  have r2 := zreach_lt (tb := zabv p e w) hlt l4
  rw [if_neg (nI_ne0 (by omega) (by omega)), l3, Option.bind_some, r_reach b1 (fun t _ => zbel_lt hc t) hlt l4, Option.bind_some]
  by_cases g1 : zreach (zbel p e w) s (zlow s) = s
  · rw [if_pos (by rw [g1]), r_reach b2 (fun t _ => zabv_lt hc t) hlt l4, Option.bind_some]
    by_cases g2 : zreach (zabv p e w) s (zlow s) = s
    · have : zHb p e w s = true := by
        unfold zHb
        exact decide_eq_true ⟨h0, g1, g2⟩
      rw [if_pos (by rw [g2]), this]
      rfl
    · have : zHb p e w s = false := by
        unfold zHb
        exact decide_eq_false (fun q => g2 q.2.2)
      rw [if_neg (nI_ne g2 (by omega) (by omega)), this]
      rfl
  · have : zHb p e w s = false := by
      unfold zHb
      exact decide_eq_false (fun q => g1 q.2.1)
    rw [if_neg (nI_ne g1 (by omega) (by omega)), this]
    rfl
theorem zall_sb (hc : zCl p e w) : zsb p e (zall p e) := by
  intro t ht
  have hl := zall_lt hc
  have h12 : t < 12 := by
    rcases Nat.lt_or_ge t 12 with g | g
    · exact g
    · rw [zbit12 hl g] at ht
      cases ht
  exact ⟨h12, (zall_has hc h12).mp ht⟩
theorem zall_or {p e : Nat} (hp : p ≤ 6) : 2 ^ p - 1 ||| (2 ^ e - 1) * 2 ^ 6 = zall p e := by
  have := (zfull_lt hp)
  rw [zor_disj (by omega)]
  rfl
theorem c_all {k : Nat} (h : zWc M k p e w) (hc : zCl p e w) : f7_all k M = some (nI (zall p e)) := by
  have h1 := (zfull_lt hc.2.2.2.1)
  have q1 : f7_fullOf k 1 M = some (nI (2 ^ p - 1)) := c_full h hc (kd := 1) (by omega)
  have q2 : f7_fullOf k 0 M = some (nI (2 ^ e - 1)) := c_full h hc (kd := 0) (by omega)
  rw [f7_all, q1, Option.bind_some, q2, Option.bind_some, zl6, nI_shl (by omega) (by omega), nI_or, zall_or hc.2.1]
theorem r_all {a : Nat} (h : zRr M a p e w) (hc : zCl p e w) : f9_allOf a M = some (nI (zall p e)) := by
  have h1 := (zfull_lt hc.2.2.2.1)
  rw [f9_allOf, h.1, h.2.1, r_full hc.2.1, Option.bind_some, r_full hc.2.2.2.1, Option.bind_some, zl6, nI_shl (by omega) (by omega), nI_or, zall_or hc.2.1]
theorem zbl01 (b : Bool) : zbl (nI (zi b)) = some (nI (zi b)) := by
  cases b
  · rfl
  · rfl
def zHbS (S : zS4) : Bool := zHb S.1 S.2.1 S.2.2.1 (zall S.1 S.2.1)
theorem c_isTog {k : Nat} {S : zS4} (h : zWS M k S) (hc : zSC S) (hk : k < 20) : ∃ M', f0_isTogether k M = some (nI (zi (zHbS S)), M') := by
  obtain ⟨M', h1, h2⟩ := c_tie h.1 hc hk
  have o := o_X0_tie h1
  have hW := h.1.to (o.1 k (by simp; omega) (by omega)).1 (o.1 (k + 1) (by simp; omega) (by omega)).1
  refine ⟨M', ?_⟩
  rw [f0_isTogether, h1, Option.bind_some, c_all hW hc, Option.bind_some, c_tog (fun t ht _ => h2 t ht) hc (zall_sb hc), Option.bind_some, zbl01]
  rfl
theorem r_doesHang {a : Nat} {S : zS4} (h : zRS M a S) (hc : zSC S) (ha : a < 50) (ha2 : a ≠ 39) : ∃ M', f9_doesHang a M = some (nI (zi (zHbS S)), M') ∧ zTC M' 54 55 S.1 S.2.1 S.2.2.1 := by
  obtain ⟨M', h1, h2⟩ := r_lays h.1 hc ha
  have o := o_X9_laysAbove h1
  have hR := h.1.to (o.1 a (by simp; omega) ha2).1
  refine ⟨M', ?_, h2⟩
  rw [f9_doesHang, h1, Option.bind_some, r_all hR hc, Option.bind_some, r_tog h2 hc (zall_sb hc), Option.bind_some, zbl01]
  rfl
end TG
