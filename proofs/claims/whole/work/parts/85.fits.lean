/-! fits: the threads that fit all that was told -/
def zso (p e : Nat) (w : Nat → Nat) (a b t : Nat) : Bool := if a = 0 then decide (t / 6 = b) else if a = 1 then decide (b ≤ zbc (zth p e w (t / 6) (t % 6))) else if a = 2 then decide (b ≤ zchg (zmany p e (1 - t / 6)) (zth p e w (t / 6) (t % 6))) else if a = 3 then decide (zlo p e w (t / 6) (t % 6) = b) else decide (t % 6 ≤ b)
theorem zchg_lt : ∀ n, n < 7 → ∀ v, v < 64 → zchg n v < 10 := by decide +kernel
theorem zle01 {x b : Nat} (hx : x < 1000) (hb : b < 1000) : (if nI x < nI b then (0 : Int32) else 1) = nI (zi (decide (b ≤ x))) := by
  by_cases g : x < b
  · rw [if_pos (nI_lt g (by omega)), decide_eq_false (by omega)]
    rfl
  · rw [if_neg (nI_nlt (by omega) (by omega)), decide_eq_true (by omega)]
    rfl
theorem zeq01 {x b : Nat} (hx : x < 1000) (hb : b < 1000) : (if nI x = nI b then (1 : Int32) else 0) = nI (zi (decide (x = b))) := by
  by_cases g : x = b
  · rw [if_pos (by rw [g]), decide_eq_true g]
    rfl
  · rw [if_neg (nI_ne g (by omega) (by omega)), decide_eq_false g]
    rfl
section FS
variable {M : zM} {p e : Nat} {w : Nat → Nat}
theorem c_isSo {k : Nat} (h : zWc M k p e w) (hc : zCl p e w) {a b t : Nat} (ha : a < 5) (hb : b ≤ 6) (h3 : a = 3 → b ≤ 1) (ht : t < 12) (hh : t % 6 < zmany p e (t / 6)) : f5_isSo (nI a) (nI b) k (nI (t / 6)) (nI (t % 6)) M = some (nI (zi (zso p e w a b t))) := by
  have hz := zth_lt64 hc (t / 6) (t % 6)
  have hm := zmany_le hc (1 - t / 6)
  have hcg := zchg_lt (zmany p e (1 - t / 6)) (by omega) _ hz
  have hbc := zbc_lt (s := zth p e w (t / 6) (t % 6)) (by omega)
  rcases (show a = 0 ∨ a = 1 ∨ a = 2 ∨ a = 3 ∨ a = 4 by omega) with rfl | rfl | rfl | rfl | rfl
  · show some (if nI (t / 6) = nI b then (1 : Int32) else 0) = _
    rw [zeq01 (by omega) (by omega)]
    rfl
  · show ((f7_cellsOf k (nI (t / 6)) (nI (t % 6)) M).bind fun x1 => (fJ6_bitCount x1).bind fun x2 => some (if x2 < nI b then (0 : Int32) else 1)) = _
    rw [c_cells h (by omega) (by omega), Option.bind_some, bc_n (by omega), Option.bind_some, zle01 (by omega) (by omega)]
    rfl
  · show ((f7_changesOf k (nI (t / 6)) (nI (t % 6)) M).bind fun x1 => some (if x1 < nI b then (0 : Int32) else 1)) = _
    rw [c_changes h hc (by omega) (by omega), Option.bind_some, zle01 (by omega) (by omega)]
    rfl
  · show ((f7_isLoose k (nI (t / 6)) (nI (t % 6)) M).bind fun x1 => some (if x1 = (if nI b = 1 then (1 : Int32) else 0) then (1 : Int32) else 0)) = _
    have hb1 := h3 rfl
    rw [c_loose1 h hc (by omega) hh, Option.bind_some]
    have hl := zlo_01 p e w (t / 6) (t % 6)
    have e1 : (if nI b = 1 then (1 : Int32) else 0) = nI b := by
      rcases (show b = 0 ∨ b = 1 by omega) with rfl | rfl <;> rfl
    rw [e1, zeq01 (by omega) (by omega)]
    rfl
  · show some (if nI b < nI (t % 6) then (0 : Int32) else 1) = _
    rw [zle01 (by omega) (by omega)]
    rfl
theorem r_isSo (h : zRr M 41 p e w) (hc : zCl p e w) {a b t : Nat} (ha : a < 5) (hb : b ≤ 6) (h3 : a = 3 → b ≤ 1) (ht : t < 12) (hh : t % 6 < zmany p e (t / 6)) : f9_isSo (nI t) (nI a) (nI b) M = some (nI (zi (zso p e w a b t))) := by
  have hz := zth_lt64 hc (t / 6) (t % 6)
  have hm := zmany_le hc (1 - t / 6)
  have hcg := zchg_lt (zmany p e (1 - t / 6)) (by omega) _ hz
  have hbc := zbc_lt (s := zth p e w (t / 6) (t % 6)) (by omega)
  have hl := zlo_01 p e w (t / 6) (t % 6)
  rw [f9_isSo, zl6, nI_div (by omega) (by omega) (by omega), nI_rem (by omega) (by omega) (by omega), r_bits h hc (by omega) hh, Option.bind_some]
  rcases (show a = 0 ∨ a = 1 ∨ a = 2 ∨ a = 3 ∨ a = 4 by omega) with rfl | rfl | rfl | rfl | rfl
  · show some (if nI (t / 6) = nI b then (1 : Int32) else 0) = _
    rw [zeq01 (by omega) (by omega)]
    rfl
  · show ((fJ6_bitCount (nI (zth p e w (t / 6) (t % 6)))).bind fun x2 => some (if x2 < nI b then (0 : Int32) else 1)) = _
    rw [bc_n (by omega), Option.bind_some, zle01 (by omega) (by omega)]
    rfl
  · show ((f9_cellsOf 41 (nI (t / 6)) M).bind fun x2 => (f9_changesOf (nI (zth p e w (t / 6) (t % 6))) x2).bind fun x3 => some (if x3 < nI b then (0 : Int32) else 1)) = _
    rw [r_cells h (by omega), Option.bind_some, r_changes (M := M) (a := 0) hc, Option.bind_some, zle01 (by omega) (by omega)]
    rfl
  · show ((f9_isLoose 41 (nI (t / 6)) (nI (t % 6)) M).bind fun x2 => (f9_flag x2).bind fun x3 => some (if x3 = nI b then (1 : Int32) else 0)) = _
    rw [r_loose1 h hc (by omega) hh, Option.bind_some]
    have e : f9_flag (nI (zlo p e w (t / 6) (t % 6))) = some (nI (zlo p e w (t / 6) (t % 6))) := by
      rcases hl with g | g <;> rw [g] <;> rfl
    rw [e, Option.bind_some, zeq01 (by omega) (by omega)]
    rfl
  · show some (if nI b < nI (t % 6) then (0 : Int32) else 1) = _
    rw [zle01 (by omega) (by omega)]
    rfl
/-- of a set those of which a tale is so -/
def zts (p e : Nat) (w : Nat → Nat) (s a b : Nat) : Nat := zorb (fun t => s.testBit t && zso p e w a b t) 12
theorem zts_sb {s a b : Nat} (hs : zsb p e s) : zsb p e (zts p e w s a b) := by
  intro t ht
  unfold zts at ht
  rw [zorb_bit] at ht
  simp at ht
  exact hs t ht.2.1
theorem zsb_h {s t : Nat} (hs : zsb p e s) (ht : s.testBit t = true) : t < 12 ∧ t % 6 < zmany p e (t / 6) := by
  obtain ⟨h1, h2⟩ := hs t ht
  exact ⟨h1, (zhas_n t h1).mp h2⟩
theorem c_those {k : Nat} (h : zWc M k p e w) (hc : zCl p e w) {s a b : Nat} (hs : zsb p e s) (ha : a < 5) (hb : b ≤ 6) (h3 : a = 3 → b ≤ 1) : f5_those (nI s) (nI a) (nI b) k M = some (nI (zts p e w s a b)) := by
  have hlt := zsb_lt hs
  rw [f5_those]
  refine zloop0 (F := fun f n => f5_those_6 k f (nI s) (nI a) (nI b) (nI (zorb (fun t => s.testBit t && zso p e w a b t) n)) (nI n) M) 12 (by omega) (fun f n hn => ?_) (fun f => ?_)
  · show f5_those_6 k (f + 1) _ _ _ _ (nI n) M = _
    have o50 : ∀ v4, f5_those_50 k (f5_those_6 k f) (nI s) (nI a) (nI b) v4 (nI n) M = f5_those_6 k f (nI s) (nI a) (nI b) v4 (nI (n + 1)) M := by
      intro v4
      rw [f5_those_50, nI_1]
    rw [f5_those_6, if_neg (show ¬ (12 : Int32) ≤ nI n from nI_ge (b := 12) (by omega) (by omega)), nI_ushr (by omega) (by omega), zl1, nI_and, zb1, zorb]
    cases hbit : s.testBit n
    · rw [if_pos (show nI (zi false) = 0 from rfl), o50]
      simp
    · obtain ⟨g1, g2⟩ := zsb_h hs hbit
      rw [if_neg (show ¬ nI (zi true) = 0 by decide), show (6 : Int32) = nI 6 from rfl, nI_div (by omega) (by omega) (by omega), nI_rem (by omega) (by omega) (by omega), c_isSo h hc ha hb h3 hn g2, Option.bind_some]
      cases hso : zso p e w a b n
      · rw [if_pos (show nI (zi false) = 0 from rfl), o50]
        simp
      · have hp := zpw12 hn
        rw [if_neg (show ¬ nI (zi true) = 0 by decide), nI_shl (by omega) (by omega), nI_or, Nat.one_mul, o50]
        simp
  · show f5_those_6 k (f + 1) _ _ _ _ (nI 12) M = _
    rw [f5_those_6, if_pos (by decide)]
    rfl
def zft (p e : Nat) (w : Nat → Nat) (a b : Nat → Nat) : Nat → Nat
  | 0 => zall p e
  | n + 1 => zts p e w (zft p e w a b n) (a n) (b n)
theorem zft_sb (hc : zCl p e w) (a b : Nat → Nat) (n : Nat) : zsb p e (zft p e w a b n) := by
  induction n with
  | zero => exact zall_sb hc
  | succ n ih => exact zts_sb ih
theorem zft_bit (hc : zCl p e w) (a b : Nat → Nat) (n t : Nat) (ht : t < 12) : (zft p e w a b n).testBit t = ((zall p e).testBit t && zal (fun j => zso p e w (a j) (b j) t) 0 n) := by
  induction n with
  | zero =>
    rw [zft, zal, Bool.and_true]
  | succ n ih =>
    rw [zft, zts, zorb_bit, ih, zal, Nat.zero_add, decide_eq_true ht, Bool.true_and, Bool.and_assoc]
theorem c_fitting {k n : Nat} {a b : Nat → Nat} (h : zWc M k p e w) (hc : zCl p e w) (hn : n ≤ 12) (h0 : M.1 30 2 = nI n) (hab : ∀ i, i < n → a i < 5 ∧ b i ≤ 6 ∧ (a i = 3 → b i ≤ 1) ∧ M.1 31 i = nI (a i) ∧ M.1 32 i = nI (b i)) : f5_fitting k M = some (nI (zft p e w a b n)) := by
  rw [f5_fitting, c_all h hc, Option.bind_some]
  refine zloop0 (F := fun f i => f5_fitting_7 k f (nI (zft p e w a b i)) (nI i) M) n (by omega) (fun f i hi => ?_) (fun f => ?_)
  · show f5_fitting_7 k (f + 1) _ (nI i) M = _
    obtain ⟨q1, q2, q3, q4, q5⟩ := hab i hi
    rw [f5_fitting_7, h0, if_neg (nI_ge hi (by omega)), zaI_n (by omega) (by omega), q4, Option.bind_some, zaI_n (by omega) (by omega), q5, Option.bind_some, c_those h hc (zft_sb hc a b i) q1 q2 q3, Option.bind_some, nI_1]
    rfl
  · show f5_fitting_7 k (f + 1) _ (nI n) M = _
    rw [f5_fitting_7, h0, if_pos (nI_le (Nat.le_refl _) (by omega))]
/-- the reference, thread by thread -/
def zfr2 (p e : Nat) (w : Nat → Nat) (a b : Nat → Nat) (n t j : Nat) : Nat := zorb (fun i => (zall p e).testBit i && (if i < t then zal (fun j => zso p e w (a j) (b j) i) 0 n else if i = t then zal (fun j => zso p e w (a j) (b j) i) 0 j else true)) 12
theorem zal_false {g : Nat → Bool} {k j n : Nat} (h : zal g k j = false) (hjn : j ≤ n) : zal g k n = false := by
  induction n with
  | zero =>
    have : j = 0 := by omega
    rw [this] at h
    exact h
  | succ n ih =>
    by_cases g2 : j = n + 1
    · rw [← g2]
      exact h
    · rw [zal, ih (by omega)]
      rfl
theorem r_fitting {n : Nat} {a b : Nat → Nat} (h : zRr M 41 p e w) (hc : zCl p e w) (hn : n ≤ 12) (h0 : M.1 39 32 = nI n) (hab : ∀ i, i < n → a i < 5 ∧ b i ≤ 6 ∧ (a i = 3 → b i ≤ 1) ∧ M.1 60 i = nI (a i) ∧ M.1 61 i = nI (b i)) : f9_fitting M = some (nI (zft p e w a b n)) := by
  have hl := zall_lt hc
  have hlt : ∀ t j, zfr2 p e w a b n t j < 4096 := fun t j => zorb_lt _ 12
  have st0 : zfr2 p e w a b n 0 0 = zall p e := by
    apply Nat.eq_of_testBit_eq
    intro i
    unfold zfr2
    rw [zorb_bit]
    by_cases hi : i < 12
    · rw [decide_eq_true hi, Bool.true_and, if_neg (show ¬ i < 0 by omega)]
      by_cases g : i = 0
      · rw [if_pos g, zal, Bool.and_true]
      · rw [if_neg g, Bool.and_true]
    · rw [decide_eq_false hi, zbit12 hl (by omega)]
      rfl
  have ste : zfr2 p e w a b n 12 0 = zft p e w a b n := by
    apply Nat.eq_of_testBit_eq
    intro i
    unfold zfr2
    rw [zorb_bit]
    by_cases hi : i < 12
    · rw [decide_eq_true hi, Bool.true_and, if_pos hi, zft_bit hc a b n i hi]
    · rw [decide_eq_false hi, zbit12 (zsb_lt (zft_sb hc a b n)) (by omega)]
      rfl
  have bitt : ∀ t j, t < 12 → (zfr2 p e w a b n t j).testBit t = ((zall p e).testBit t && zal (fun j => zso p e w (a j) (b j) t) 0 j) := by
    intro t j ht
    unfold zfr2
    rw [zorb_bit, decide_eq_true ht, Bool.true_and, if_neg (show ¬ t < t by omega), if_pos rfl]
  have stop : ∀ t j, t < 12 → j ≤ n → ((zfr2 p e w a b n t j).testBit t = false ∨ j = n) → zfr2 p e w a b n t j = zfr2 p e w a b n (t + 1) 0 := by
    intro t j ht hj hf
    unfold zfr2
    apply zorb_congr
    intro i hi
    by_cases g1 : i < t
    · rw [if_pos g1, if_pos (show i < t + 1 by omega)]
    · rw [if_neg g1]
      by_cases g2 : i = t
      · subst g2
        rw [if_pos rfl, if_pos (show i < i + 1 by omega)]
        rcases hf with hf | hf
        · rw [bitt i j ht] at hf
          cases hA : (zall p e).testBit i
          · rfl
          · rw [hA, Bool.true_and] at hf
            rw [hf, zal_false hf hj]
        · rw [hf]
      · rw [if_neg g2, if_neg (show ¬ i < t + 1 by omega)]
        by_cases g3 : i = t + 1
        · rw [if_pos g3, zal]
        · rw [if_neg g3]
  have step : ∀ t j, t < 12 → (zfr2 p e w a b n t j).testBit t = true → zfr2 p e w a b n t (j + 1) = if zso p e w (a j) (b j) t = true then zfr2 p e w a b n t j else zdf (zfr2 p e w a b n t j) (2 ^ t) := by
    intro t j ht hb
    rw [bitt t j ht] at hb
    simp at hb
    apply Nat.eq_of_testBit_eq
    intro i
    have e1 : (zfr2 p e w a b n t (j + 1)).testBit i = (decide (i < 12) && ((zall p e).testBit i && (if i < t then zal (fun j => zso p e w (a j) (b j) i) 0 n else if i = t then zal (fun j => zso p e w (a j) (b j) i) 0 (j + 1) else true))) := by unfold zfr2; rw [zorb_bit]
    have e0 : (zfr2 p e w a b n t j).testBit i = (decide (i < 12) && ((zall p e).testBit i && (if i < t then zal (fun j => zso p e w (a j) (b j) i) 0 n else if i = t then zal (fun j => zso p e w (a j) (b j) i) 0 j else true))) := by unfold zfr2; rw [zorb_bit]
    by_cases g : i = t
    · subst g
      rw [e1, decide_eq_true ht, if_neg (show ¬ i < i by omega), if_pos rfl, zal, Nat.zero_add, hb.1, hb.2]
      by_cases hs : zso p e w (a j) (b j) i = true
      · rw [if_pos hs, e0, decide_eq_true ht, if_neg (show ¬ i < i by omega), if_pos rfl, hb.1, hb.2, hs]
        rfl
      · have : zso p e w (a j) (b j) i = false := by simpa using hs
        rw [if_neg hs, zdf_bit, Nat.testBit_two_pow, this]
        simp
    · have e2 : (zfr2 p e w a b n t (j + 1)).testBit i = (zfr2 p e w a b n t j).testBit i := by rw [e1, e0, if_neg g, if_neg g]
      rw [e2]
      split
      · rfl
      · rw [zdf_bit, Nat.testBit_two_pow]
        simp [Ne.symm g]
  rw [f9_fitting, r_all h hc, Option.bind_some, ← ste, ← st0]
  refine zloop0 (F := fun f t => f9_fitting_10 f (nI (zfr2 p e w a b n t 0)) (nI t) M) 12 (by omega) (fun f t ht => ?_) (fun f => ?_)
  · show f9_fitting_10 (f + 1) _ (nI t) M = _
    have inner : f9_fitting_18 (f9_fitting_72 (f9_fitting_10 f)) zfuel (nI (zfr2 p e w a b n t 0)) (nI t) 0 M = f9_fitting_10 f (nI (zfr2 p e w a b n (t + 1) 0)) (nI (t + 1)) M := by
      refine zloopP (F := fun g j (x : Unit) => f9_fitting_18 (f9_fitting_72 (f9_fitting_10 f)) g (nI (zfr2 p e w a b n t j)) (nI t) (nI j) M) (I := fun _ _ => True) (P := fun o => o = f9_fitting_10 f (nI (zfr2 p e w a b n (t + 1) 0)) (nI (t + 1)) M) n (by omega) (k0 := 0) (by omega) (fun g j x _ hj _ => ?_) (fun g x _ => ?_) (x := ()) trivial
      · cases hb : (zfr2 p e w a b n t j).testBit t
        · refine Or.inr ?_
          show f9_fitting_18 _ (g + 1) _ (nI t) (nI j) M = _
          rw [f9_fitting_18, h0, if_neg (nI_ge hj (by omega)), r_has12 (hlt t j) ht, hb, Option.bind_some, if_pos (show nI (zi false) = 0 from rfl), f9_fitting_72, nI_1, stop t j ht (by omega) (Or.inl hb)]
        · refine Or.inl ⟨(), ?_, trivial⟩
          have hA : (zall p e).testBit t = true := by
            have := bitt t j ht
            rw [hb] at this
            simp at this
            exact this.1
          obtain ⟨-, hh⟩ := zsb_h (zall_sb hc) hA
          obtain ⟨q1, q2, q3, q4, q5⟩ := hab j hj
          have hlt' := hlt t j
          show f9_fitting_18 _ (g + 1) _ (nI t) (nI j) M = f9_fitting_18 _ g (nI (zfr2 p e w a b n t (j + 1))) (nI t) (nI (j + 1)) M
          rw [f9_fitting_18, h0, if_neg (nI_ge hj (by omega)), r_has12 hlt' ht, hb, Option.bind_some, if_neg (show ¬ nI (zi true) = 0 by decide), zaI_n (by omega) (by omega), q4, Option.bind_some, zaI_n (by omega) (by omega), q5, Option.bind_some, r_isSo h hc q1 q2 q3 ht hh, Option.bind_some, nI_1, step t j ht hb]
          cases hs : zso p e w (a j) (b j) t
          · rw [if_pos (show nI (zi false) = 0 from rfl), if_neg (by decide), z1shl ht, nI_andn _ (by omega)]
          · rw [if_neg (show ¬ nI (zi true) = 0 by decide), if_pos rfl, nI_m1, nI_and, Nat.and_two_pow_sub_one_eq_mod, Nat.mod_eq_of_lt (by omega)]
      · show f9_fitting_18 _ (g + 1) _ (nI t) (nI n) M = _
        rw [f9_fitting_18, h0, if_pos (nI_le (Nat.le_refl _) (by omega)), f9_fitting_72, nI_1, stop t n ht (Nat.le_refl _) (Or.inr rfl)]
    rw [f9_fitting_10, if_neg (show ¬ (12 : Int32) ≤ nI t from nI_ge (b := 12) (by omega) (by omega))]
    exact inner
  · show f9_fitting_10 (f + 1) _ (nI 12) M = _
    rw [f9_fitting_10, if_pos (by decide)]
end FS
theorem zP_fits_ok : zP_fits zInv := by
  intro c M hc h
  obtain ⟨p, e, w, hA⟩ := h.1
  obtain ⟨hc1, hW, hR, hN⟩ := id hA
  obtain ⟨n, a, b, d1, d2, d3, d4⟩ := h.2.2.2.1
  have hlt := zsb_lt (zft_sb hc1 a b n)
  have c1 := c_fitting hW hc1 d1 d2 (fun i hi => ⟨(d4 i hi).1, (d4 i hi).2.1, (d4 i hi).2.2.1, (d4 i hi).2.2.2.1, (d4 i hi).2.2.2.2.1⟩)
  obtain ⟨M1, k1, k2⟩ := c_tell (nI (zbc (zft p e w a b n))).toInt64 M
  have h8 : f8_fits M = some (nI (zft p e w a b n), M1) := by
    rw [f8_fits, c1, Option.bind_some, bc_n hlt, Option.bind_some, k1]
    rfl
  have o8 := o_X8_fits h8
  have o0 : zOut [] [0] M1 (zsi M1 39 0 0) := zOut.rf.si 39 0 0 (Or.inr ⟨rfl, by simp⟩)
  have oa := o8.trans o0
  have r1 := r_fitting (M := zsi M1 39 0 0) (hR.to (oa.1 41 (by simp) (by simp)).1) hc1 d1 (by rw [oa.2 32 (by simp) (by simp), d3]) (fun i hi => ⟨(d4 i hi).1, (d4 i hi).2.1, (d4 i hi).2.2.1, by rw [(oa.1 60 (by simp) (by simp)).1]; exact (d4 i hi).2.2.2.2.2.1, by rw [(oa.1 61 (by simp) (by simp)).1]; exact (d4 i hi).2.2.2.2.2.2⟩)
  obtain ⟨M2, y1, y2⟩ := r_tell (nI (zbc (zft p e w a b n))).toInt64 (zsi M1 39 0 0)
  have h9 : f9_fits M1 = some (nI (zft p e w a b n), M2) := by
    rw [f9_fits, r1, Option.bind_some, bc_n hlt, Option.bind_some, y1]
    rfl
  exact ⟨_, _, _, h8, h9, zq h o8 (o_X9_fits h9) k2 y2 rfl rfl⟩
