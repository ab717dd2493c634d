/-! hangs, falls -/
/-- left, layers, the uppermost one, behind t threads looked at -/
def zly (p e : Nat) (w : Nat → Nat) (t : Nat) : Nat := zreach (zbel p e w) (zall p e) t &&& zreach (zabv p e w) (zall p e) t
def zhg (p e : Nat) (w : Nat → Nat) : Nat → Nat × Nat × Nat
  | 0 => (zall p e, 0, 0)
  | t + 1 => if (zhg p e w t).1.testBit t = true then (zdf (zhg p e w t).1 (zly p e w t), (zhg p e w t).2.1 + 1, if zreach (zbel p e w) (zall p e) t = zall p e then zly p e w t else (zhg p e w t).2.2) else zhg p e w t
section HG
variable {p e : Nat} {w : Nat → Nat}
theorem zhg_s1 {t : Nat} (h : (zhg p e w t).1.testBit t = true) : zhg p e w (t + 1) = (zdf (zhg p e w t).1 (zly p e w t), (zhg p e w t).2.1 + 1, if zreach (zbel p e w) (zall p e) t = zall p e then zly p e w t else (zhg p e w t).2.2) := by rw [zhg, if_pos h]
theorem zhg_s0 {t : Nat} (h : ¬ (zhg p e w t).1.testBit t = true) : zhg p e w (t + 1) = zhg p e w t := by rw [zhg, if_neg h]
theorem zly_e (t : Nat) : zreach (zbel p e w) (zall p e) t &&& zreach (zabv p e w) (zall p e) t = zly p e w t := by rw [zly]
theorem zreach_has {tb : Nat → Nat} {s f : Nat} : ∀ k, (zri tb s f k).1.testBit f = true := by
  intro k
  induction k with
  | zero =>
    show (2 ^ f).testBit f = true
    rw [Nat.testBit_two_pow]
    simp
  | succ k ih =>
    rw [zri]
    split
    · exact ih
    · dsimp only
      rw [Nat.testBit_or, ih]
      rfl
theorem zly_self (t : Nat) : (zly p e w t).testBit t = true := by
  unfold zly zreach
  rw [Nat.testBit_and, zreach_has, zreach_has]
  rfl
theorem zhg_sub (t : Nat) : ∀ i, (zhg p e w t).1.testBit i = true → (zall p e).testBit i = true ∧ t ≤ i := by
  induction t with
  | zero => intro i hi; rw [zhg] at hi; exact ⟨hi, Nat.zero_le _⟩
  | succ t ih =>
    intro i hi
    by_cases hn : (zhg p e w t).1.testBit t = true
    · rw [zhg_s1 hn] at hi
      dsimp only at hi
      rw [zdf_bit] at hi
      simp at hi
      obtain ⟨h1, h2⟩ := hi
      obtain ⟨h3, h4⟩ := ih i h1
      refine ⟨h3, ?_⟩
      rcases Nat.lt_or_ge t i with g | g
      · exact g
      · have : i = t := by omega
        subst this
        rw [zly_self] at h2
        cases h2
    · rw [zhg_s0 hn] at hi
      obtain ⟨h3, h4⟩ := ih i hi
      refine ⟨h3, ?_⟩
      rcases Nat.lt_or_ge t i with g | g
      · exact g
      · have : i = t := by omega
        subst this
        exact absurd hi hn
theorem zhg_skip {t : Nat} : ∀ j, (∀ i, t ≤ i → i < t + j → (zhg p e w t).1.testBit i = false) → zhg p e w (t + j) = zhg p e w t := by
  intro j
  induction j with
  | zero => intro _; rfl
  | succ j ih =>
    intro h
    have e1 := ih (fun i h1 h2 => h i h1 (by omega))
    rw [← Nat.add_assoc, zhg_s0 (by rw [e1, h (t + j) (by omega) (by omega)]; decide), e1]
theorem zhg_lt (hc : zCl p e w) (t : Nat) : (zhg p e w t).1 < 4096 := zlt4096 (fun i hi => by
  cases q : (zhg p e w t).1.testBit i
  · rfl
  · have := (zhg_sub t i q).1
    rw [zbit12 (zall_lt hc) hi] at this
    cases this)
theorem zhg_12 (hc : zCl p e w) : (zhg p e w 12).1 = 0 := by
  apply Nat.eq_of_testBit_eq
  intro i
  rw [Nat.zero_testBit]
  cases q : (zhg p e w 12).1.testBit i
  · rfl
  · obtain ⟨h1, h2⟩ := zhg_sub 12 i q
    rw [zbit12 (zall_lt hc) h2] at h1
    cases h1
theorem zhg_le (t : Nat) : (zhg p e w t).2.1 ≤ t := by
  induction t with
  | zero => rw [zhg]; exact Nat.le_refl _
  | succ t ih =>
    by_cases hn : (zhg p e w t).1.testBit t = true
    · rw [zhg_s1 hn]
      dsimp only
      omega
    · rw [zhg_s0 hn]
      omega
theorem zly_lt (hc : zCl p e w) {t : Nat} (ht : t < 12) : zly p e w t < 4096 := Nat.lt_of_le_of_lt Nat.and_le_right (zreach_lt (zall_lt hc) ht)
theorem zhg_up (hc : zCl p e w) : ∀ t, t ≤ 12 → (zhg p e w t).2.2 < 4096 := by
  intro t
  induction t with
  | zero => intro _; rw [zhg]; dsimp only; omega
  | succ t ih =>
    intro h
    by_cases hn : (zhg p e w t).1.testBit t = true
    · rw [zhg_s1 hn]
      dsimp only
      split
      · exact zly_lt hc (by omega)
      · exact ih (by omega)
    · rw [zhg_s0 hn]
      exact ih (by omega)
theorem tb_all {M : zM} {a b : Nat} (hc : zCl p e w) (hT : zTC M a b p e w) {f : Nat} (hf : f < 12) (hb : (zall p e).testBit f = true) : (∀ t, t < 12 → (t = f ∨ (zall p e).testBit t = true) → M.1 a t = nI (zbel p e w t)) ∧ ∀ t, t < 12 → (t = f ∨ (zall p e).testBit t = true) → M.1 b t = nI (zabv p e w t) := by
  refine ⟨fun t ht hh => (hT t ht ?_).1, fun t ht hh => (hT t ht ?_).2⟩
  · rcases hh with rfl | hh
    · exact (zall_has hc hf).mp hb
    · exact (zall_has hc ht).mp hh
  · rcases hh with rfl | hh
    · exact (zall_has hc hf).mp hb
    · exact (zall_has hc ht).mp hh
end HG
theorem zP_hangs_ok : zP_hangs zInv := by
  intro c M hc h
  obtain ⟨p, e, w, hA⟩ := h.1
  obtain ⟨hc1, hW, hR, hN⟩ := id hA
  have hl := zall_lt hc1
  have hle := zhg_le (p := p) (e := e) (w := w) 12
  have hup := zhg_up hc1 12 (Nat.le_refl _)
  obtain ⟨M0, t1, t2⟩ := c_tie hW hc1 (by omega)
  have hT : zTC M0 22 23 p e w := fun t ht _ => t2 t ht
  obtain ⟨M1, k1, k2⟩ := c_tell2 (nI (zhg p e w 12).2.1).toInt64 (nI (zhg p e w 12).2.2).toInt64 M0
  have h8 : f8_hangs M = some (nI (zi (decide ((zhg p e w 12).2.1 = 1))), M1) := by
    rw [f8_hangs, c_all hW hc1, Option.bind_some, t1, Option.bind_some]
    have fin : ∀ t, t ≤ 12 → (zhg p e w t).1 = 0 → f8_hangs_110 (nI (zhg p e w t).2.1) (nI (zhg p e w t).2.2) M0 = some (nI (zi (decide ((zhg p e w 12).2.1 = 1))), M1) := by
      intro t ht h0
      have := zhg_skip (p := p) (e := e) (w := w) (t := t) (12 - t) (fun i _ _ => by rw [h0, Nat.zero_testBit])
      rw [show t + (12 - t) = 12 by omega] at this
      rw [← this, f8_hangs_110, k1, Option.bind_some]
      by_cases g : (zhg p e w 12).2.1 = 1
      · rw [decide_eq_true g, if_pos (by rw [g]; rfl)]
        rfl
      · rw [decide_eq_false g, if_neg (show ¬ nI (zhg p e w 12).2.1 = 1 from nI_ne (b := 1) g (by omega) (by omega))]
        rfl
    refine (show f8_hangs_29 zfuel (nI (zall p e)) (nI (zall p e)) 0 0 0 M0 = f8_hangs_29 zfuel (nI (zall p e)) (nI (zhg p e w 0).1) (nI (zhg p e w 0).2.1) (nI (zhg p e w 0).2.2) (nI 0) M0 by rw [zhg]; rfl).trans ?_
    refine zloopP (F := fun f j (x : Nat) => f8_hangs_29 f (nI (zall p e)) (nI (zhg p e w x).1) (nI (zhg p e w x).2.1) (nI (zhg p e w x).2.2) (nI j) M0) (I := fun j x => j ≤ x ∧ x ≤ 12) (P := fun o => o = some (nI (zi (decide ((zhg p e w 12).2.1 = 1))), M1)) 12 (by omega) (k0 := 0) (by omega) (fun f j x _ hj hx => ?_) (fun f x hx => ?_) (x := 0) ⟨Nat.le_refl _, by omega⟩
    · obtain ⟨x1, x2⟩ := hx
      have e12 : ¬ (12 : Int32) ≤ nI j := nI_ge (b := 12) (by omega) (by omega)
      have hlt := zhg_lt hc1 x
      by_cases h0 : (zhg p e w x).1 = 0
      · refine Or.inr ?_
        show f8_hangs_29 (f + 1) _ _ _ _ (nI j) M0 = _
        rw [f8_hangs_29, if_neg e12, if_pos (by rw [h0]; rfl)]
        exact fin x x2 h0
      · obtain ⟨l1, l2, l3, l4, l5, l6⟩ := zlow_n hlt h0
        have lb := zlow_bit hlt h0
        obtain ⟨lall, lx⟩ := zhg_sub x _ lb
        have sk := zhg_skip (p := p) (e := e) (w := w) (t := x) (zlow (zhg p e w x).1 - x) (fun i h1 h2 => zlow_min hlt (by omega) (by omega))
        rw [show x + (zlow (zhg p e w x).1 - x) = zlow (zhg p e w x).1 by omega] at sk
        refine Or.inl ⟨zlow (zhg p e w x).1 + 1, ?_, by omega, by omega⟩
        obtain ⟨b1, b2⟩ := tb_all hc1 hT l4 lall
        have r1 := zreach_lt (tb := zbel p e w) hl l4
        have r2 := zreach_lt (tb := zabv p e w) hl l4
        show f8_hangs_29 (f + 1) _ _ _ _ (nI j) M0 = f8_hangs_29 f _ (nI (zhg p e w (zlow (zhg p e w x).1 + 1)).1) (nI (zhg p e w (zlow (zhg p e w x).1 + 1)).2.1) (nI (zhg p e w (zlow (zhg p e w x).1 + 1)).2.2) (nI (j + 1)) M0
        rw [f8_hangs_29, if_neg e12, if_neg (nI_ne0 (by omega) (by omega)), l6, c_reached b1 (fun t _ => zbel_lt hc1 t) hl l4, Option.bind_some, c_reached b2 (fun t _ => zabv_lt hc1 t) hl l4, Option.bind_some, nI_and, zly_e, nI_andn _ (by omega), nI_1, nI_1, zhg_s1 (by rw [sk]; exact lb), sk]
        dsimp only
        have ei : (if nI (zreach (zbel p e w) (zall p e) (zlow (zhg p e w x).1)) = nI (zall p e) then nI (zly p e w (zlow (zhg p e w x).1)) else nI (zhg p e w x).2.2) = nI (if zreach (zbel p e w) (zall p e) (zlow (zhg p e w x).1) = zall p e then zly p e w (zlow (zhg p e w x).1) else (zhg p e w x).2.2) := by
          by_cases g : zreach (zbel p e w) (zall p e) (zlow (zhg p e w x).1) = zall p e
          · rw [if_pos g, if_pos (by rw [g])]
          · rw [if_neg g, if_neg (nI_ne g (by omega) (by omega))]
        rw [ei]
    · obtain ⟨x1, x2⟩ := hx
      have : x = 12 := by omega
      subst this
      show f8_hangs_29 (f + 1) _ _ _ _ (nI 12) M0 = _
      rw [f8_hangs_29, if_pos (by decide)]
      exact fin 12 (Nat.le_refl _) (zhg_12 hc1)
  have o8 := o_X8_hangs h8
  have hR1 : zRr (zsi M1 39 0 0) 41 p e w := zRr_si (hR.to (o8.1 41 (by simp) (by simp)).1) (by omega)
  obtain ⟨X0, u1, u2⟩ := r_lays hR1 hc1 (by omega)
  have hTr : zTC X0 54 55 p e w := u2
  have oX := o_X9_laysAbove u1
  obtain ⟨X1, y1, y2⟩ := r_tell (nI (zhg p e w 12).2.1).toInt64 X0
  obtain ⟨X2, y3, y4⟩ := y2.add (by simp) (nI (zhg p e w 12).2.2).toInt64
  have h9 : f9_hangs M1 = some (nI (zi (decide ((zhg p e w 12).2.1 = 1))), X2) := by
    rw [f9_hangs, u1, Option.bind_some, r_all (hR1.to (oX.1 41 (by simp) (by simp)).1) hc1, Option.bind_some]
    refine (show f9_hangs_31 zfuel (nI (zall p e)) 0 0 0 0 X0 = f9_hangs_31 zfuel (nI (zall p e)) (nI (zhg p e w 0).2.1) (nI (zhg p e w 0).2.2) (nI 0) (nI 0) X0 by rw [zhg]; rfl).trans ?_
    refine zloopP (F := fun f t (x : Nat) => f9_hangs_31 f (nI (zall p e)) (nI (zhg p e w t).2.1) (nI (zhg p e w t).2.2) (nI x) (nI t) X0) (I := fun t x => x < 4096 ∧ zdf (zall p e) x = (zhg p e w t).1) (P := fun o => o = some (nI (zi (decide ((zhg p e w 12).2.1 = 1))), X2)) 12 (by omega) (k0 := 0) (by omega) (fun f t x _ ht hx => Or.inl ?_) (fun f x hx => ?_) (x := 0) ⟨by omega, by rw [zhg]; simp [zdf]⟩
    · obtain ⟨x1, x2⟩ := hx
      have e12 : ¬ (12 : Int32) ≤ nI t := nI_ge (b := 12) (by omega) (by omega)
      have hlt := zhg_lt hc1 t
      have o106 : ∀ v2 v3 v4, f9_hangs_106 (f9_hangs_31 f) (nI (zall p e)) v2 v3 v4 (nI t) X0 = f9_hangs_31 f (nI (zall p e)) v2 v3 v4 (nI (t + 1)) X0 := by
        intro v2 v3 v4
        rw [f9_hangs_106, nI_1]
      have start : f9_hangs_31 (f + 1) (nI (zall p e)) (nI (zhg p e w t).2.1) (nI (zhg p e w t).2.2) (nI x) (nI t) X0 = (if nI (zi ((zhg p e w t).1.testBit t)) = 0 then f9_hangs_106 (f9_hangs_31 f) (nI (zall p e)) (nI (zhg p e w t).2.1) (nI (zhg p e w t).2.2) (nI x) (nI t) X0 else (f9_reach (nI t) (nI (zall p e)) 54 X0).bind fun x2 => (f9_reach (nI t) (nI (zall p e)) 55 X0).bind fun x3 => (f9_reach (nI t) (nI (zall p e)) 54 X0).bind fun x4 => f9_hangs_106 (f9_hangs_31 f) (nI (zall p e)) (nI (zhg p e w t).2.1 + 1) (if x4 = nI (zall p e) then (x2 &&& x3) else nI (zhg p e w t).2.2) (nI x ||| (x2 &&& x3)) (nI t) X0) := by
        rw [f9_hangs_31, if_neg e12, nI_andn _ (by omega), x2, r_has12 hlt ht, Option.bind_some]
      cases hb : (zhg p e w t).1.testBit t
      · refine ⟨x, ?_, x1, ?_⟩
        · show f9_hangs_31 (f + 1) _ _ _ _ (nI t) X0 = f9_hangs_31 f _ (nI (zhg p e w (t + 1)).2.1) (nI (zhg p e w (t + 1)).2.2) _ _ X0
          rw [start, hb, if_pos (show nI (zi false) = 0 from rfl), o106, zhg_s0 (by rw [hb]; decide)]
        · rw [zhg_s0 (by rw [hb]; decide), x2]
      · obtain ⟨lall, -⟩ := zhg_sub t t hb
        obtain ⟨b1, b2⟩ := tb_all hc1 hTr ht lall
        have r1 := zreach_lt (tb := zbel p e w) hl ht
        have r2 := zreach_lt (tb := zabv p e w) hl ht
        refine ⟨x ||| zly p e w t, ?_, ?_, ?_⟩
        · show f9_hangs_31 (f + 1) _ _ _ _ (nI t) X0 = f9_hangs_31 f _ (nI (zhg p e w (t + 1)).2.1) (nI (zhg p e w (t + 1)).2.2) _ _ X0
          rw [start, hb, if_neg (show ¬ nI (zi true) = 0 by decide), r_reach b1 (fun t _ => zbel_lt hc1 t) hl ht, Option.bind_some, r_reach b2 (fun t _ => zabv_lt hc1 t) hl ht, Option.bind_some, Option.bind_some, o106, nI_and, zly_e, nI_or, nI_1, zhg_s1 hb]
          dsimp only
          have ei : (if nI (zreach (zbel p e w) (zall p e) t) = nI (zall p e) then nI (zly p e w t) else nI (zhg p e w t).2.2) = nI (if zreach (zbel p e w) (zall p e) t = zall p e then zly p e w t else (zhg p e w t).2.2) := by
            by_cases g : zreach (zbel p e w) (zall p e) t = zall p e
            · rw [if_pos g, if_pos (by rw [g])]
            · rw [if_neg g, if_neg (nI_ne g (by omega) (by omega))]
          rw [ei]
        · exact Nat.or_lt_two_pow (n := 12) x1 (zly_lt hc1 ht)
        · rw [zhg_s1 hb]
          dsimp only
          rw [← x2]
          apply Nat.eq_of_testBit_eq
          intro i
          rw [zdf_bit, zdf_bit, zdf_bit, Nat.testBit_or]
          cases (zall p e).testBit i <;> cases x.testBit i <;> cases (zly p e w t).testBit i <;> rfl
    · show f9_hangs_31 (f + 1) _ _ _ _ (nI 12) X0 = _
      rw [f9_hangs_31, if_pos (by decide), y1, Option.bind_some, y3, Option.bind_some]
      by_cases g : (zhg p e w 12).2.1 = 1
      · rw [decide_eq_true g, if_pos (by rw [g]; rfl)]
        rfl
      · rw [decide_eq_false g, if_neg (show ¬ nI (zhg p e w 12).2.1 = 1 from nI_ne (b := 1) g (by omega) (by omega))]
        rfl
  exact ⟨_, _, _, h8, h9, zq h o8 (o_X9_hangs h9) k2 y4 rfl rfl⟩
