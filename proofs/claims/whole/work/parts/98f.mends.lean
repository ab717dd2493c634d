/-! mends -/
theorem zfW_inv (u : Nat → Nat) (a b : Nat) : zfW (zfW u a b) a b = u := by
  funext j
  unfold zfW
  by_cases g : j = a
  · rw [if_pos g, if_pos rfl, Nat.xor_assoc, Nat.xor_self, Nat.xor_zero, g]
  · rw [if_neg g, if_neg g]
theorem zxb1 (x b j : Nat) : (x ^^^ 2 ^ b) / 2 ^ j % 2 = if j = b then 1 - x / 2 ^ j % 2 else x / 2 ^ j % 2 := by
  rw [zdv, zdv, Nat.testBit_xor, Nat.testBit_two_pow]
  by_cases g : j = b
  · rw [if_pos g, decide_eq_true g.symm]
    cases x.testBit j <;> rfl
  · rw [if_neg g, decide_eq_false (fun q => g q.symm)]
    cases x.testBit j <;> rfl
section MN
variable {M : zM} {p e : Nat} {w u : Nat → Nat}
theorem zfW_col_o {a b j : Nat} (h : j ≠ b) : zcol p e (zfW u a b) j = zcol p e u j := by
  unfold zcol
  split
  · apply zcolp_congr
    intro t _
    unfold zfW
    by_cases g : t = a
    · rw [if_pos g, zxb1, if_neg h, g]
    · rw [if_neg g]
  · rfl
theorem zfW_col {a b : Nat} (ha : a < p) (hb : b < e) : zcol p e (zfW u a b) b = zcol p e u b ^^^ 2 ^ a := by
  have h1 := zcol_lt p e (zfW u a b) b
  have h2 := zcol_lt p e u b
  have h3 : zcol p e u b ^^^ 2 ^ a < 2 ^ p := Nat.xor_lt_two_pow h2 (Nat.pow_lt_pow_right (by omega) ha)
  apply Nat.eq_of_testBit_eq
  intro i
  by_cases hi : i < p
  · have q1 := zcol_bit (e := e) (w := zfW u a b) hb hi
    have q2 := zcol_bit (e := e) (w := u) hb hi
    have q3 := zxb1 (zcol p e u b) a i
    have q4 : zfW u a b i / 2 ^ b % 2 = if i = a then 1 - u i / 2 ^ b % 2 else u i / 2 ^ b % 2 := by
      unfold zfW
      by_cases g : i = a
      · rw [if_pos g, if_pos g, zxb1, if_pos rfl, g]
      · rw [if_neg g, if_neg g]
    have q5 : zcol p e (zfW u a b) b / 2 ^ i % 2 = (zcol p e u b ^^^ 2 ^ a) / 2 ^ i % 2 := by
      rw [q1, q3, q2, q4]
      have : u i / 2 ^ b % 2 < 2 := Nat.mod_lt _ (by omega)
      split <;> omega
    rw [zdv, zdv] at q5
    revert q5
    cases (zcol p e (zfW u a b) b).testBit i <;> cases (zcol p e u b ^^^ 2 ^ a).testBit i <;> simp
  · have e1 : 2 ^ p ≤ 2 ^ i := Nat.pow_le_pow_right (by omega) (by omega)
    rw [Nat.testBit_lt_two_pow (by omega), Nat.testBit_lt_two_pow (by omega)]
def zTww (x : zM) (p e : Nat) (u : Nat → Nat) : Prop := ∀ t, t < 12 → x.1 22 t = nI (zbel p e u t) ∧ x.1 23 t = nI (zabv p e u t)
theorem zx64 (x b : Nat) : (x * 64) ^^^ 2 ^ (6 + b) = (x ^^^ 2 ^ b) * 64 := by
  have h1 : 2 ^ (6 + b) = 2 ^ b * 64 := by rw [Nat.pow_add, Nat.mul_comm]
  rw [h1]
  have q : ∀ z : Nat, z * 64 = z <<< 6 := fun z => by rw [Nat.shiftLeft_eq]
  rw [q, q, q, ← Nat.shiftLeft_xor_distrib]
theorem c_turn (hT : zTww M p e u) (hc : zCl p e u) {a b : Nat} (ha : a < p) (hb : b < e) : ∃ M', f0_turn (nI a) (nI b) M = some M' ∧ zTww M' p e (zfW u a b) := by
  obtain ⟨c1, c2, c3, c4, c5, c6⟩ := id hc
  have e1 : zshl 1 ((6 : Int32) + nI b) = nI (2 ^ (6 + b)) := by
    rw [show (6 : Int32) + nI b = nI (6 + b) from nI_add 6 b]
    exact z1shl (by omega)
  have e2 : zshl 1 (nI a) = nI (2 ^ a) := z1shl (by omega)
  obtain ⟨t1, t2⟩ := hT a (by omega)
  obtain ⟨t3, t4⟩ := hT (6 + b) (by omega)
  have hua := c5 a ha
  have hcb := zcol_lt p e u b
  have v1 : zbel p e u a ^^^ 2 ^ (6 + b) = zbel p e (zfW u a b) a := by
    rw [zbel, zbel, if_pos (by omega), if_pos (by omega), zx64, zfW, if_pos rfl]
  have hfa : u a ^^^ 2 ^ b < 2 ^ e := Nat.xor_lt_two_pow hua (Nat.pow_lt_pow_right (by omega) hb)
  have v2 : zabv p e u a ^^^ 2 ^ (6 + b) = zabv p e (zfW u a b) a := by
    rw [zabv, zabv, if_pos (by omega), if_pos (by omega), zx64, zfW, if_pos rfl, ← zxor_c e (by omega) _ hua, ← zxor_c e (by omega) _ hfa, Nat.xor_assoc, Nat.xor_comm (2 ^ e - 1), ← Nat.xor_assoc]
  have v3 : zbel p e u (6 + b) ^^^ 2 ^ a = zbel p e (zfW u a b) (6 + b) := by
    rw [zbel, zbel, if_neg (by omega), if_neg (by omega), show 6 + b - 6 = b by omega, zfW_col ha hb]
  have v4 : zabv p e u (6 + b) ^^^ 2 ^ a = zabv p e (zfW u a b) (6 + b) := by
    have hcf := zcol_lt p e (zfW u a b) b
    rw [zabv, zabv, if_neg (by omega), if_neg (by omega), show 6 + b - 6 = b by omega, ← zxor_c p (by omega) _ hcb, ← zxor_c p (by omega) _ hcf, zfW_col ha hb, Nat.xor_assoc, Nat.xor_comm (2 ^ p - 1), ← Nat.xor_assoc]
  refine ⟨zsi (zsi (zsi (zsi M 22 a (nI (zbel p e (zfW u a b) a))) 23 a (nI (zabv p e (zfW u a b) a))) 22 (6 + b) (nI (zbel p e (zfW u a b) (6 + b)))) 23 (6 + b) (nI (zabv p e (zfW u a b) (6 + b))), ?_, fun t ht => ?_⟩
  · have r2 : (zsi M 22 a (nI (zbel p e (zfW u a b) a))).1 23 a = nI (zabv p e u a) := by rw [zsi_ne (by omega), t2]
    have r3 : (zsi (zsi M 22 a (nI (zbel p e (zfW u a b) a))) 23 a (nI (zabv p e (zfW u a b) a))).1 22 (6 + b) = nI (zbel p e u (6 + b)) := by
      rw [zsi_ne (by omega), zsi1, if_neg (by omega), t3]
    have r4 : (zsi (zsi (zsi M 22 a (nI (zbel p e (zfW u a b) a))) 23 a (nI (zabv p e (zfW u a b) a))) 22 (6 + b) (nI (zbel p e (zfW u a b) (6 + b)))).1 23 (6 + b) = nI (zabv p e u (6 + b)) := by
      rw [zsi_ne (by omega), zsi1, if_neg (by omega), zsi_ne (by omega), t4]
    rw [f0_turn, e1, e2, zaI_n (by omega) (by omega), t1, Option.bind_some, nI_xor, v1, zpI_n (by omega) (by omega), Option.bind_some, zaI_n (by omega) (by omega), r2, Option.bind_some, nI_xor, v2, zpI_n (by omega) (by omega), Option.bind_some, show (6 : Int32) + nI b = nI (6 + b) from nI_add 6 b, zaI_n (by omega) (by omega), r3, Option.bind_some, nI_xor, v3, zpI_n (by omega) (by omega), Option.bind_some, zaI_n (by omega) (by omega), r4, Option.bind_some, nI_xor, v4, zpI_n (by omega) (by omega), Option.bind_some]
  · obtain ⟨s1, s2⟩ := hT t ht
    by_cases g1 : t = a
    · subst g1
      have n1 : ¬ t = 6 + b := by omega
      simp [zsi1, n1]
    · by_cases g2 : t = 6 + b
      · subst g2
        simp [zsi1]
      · have n1 : zbel p e (zfW u a b) t = zbel p e u t := by
          unfold zbel
          by_cases g : t < 6
          · rw [if_pos g, if_pos g, zfW, if_neg g1]
          · rw [if_neg g, if_neg g, zfW_col_o (by omega)]
        have n2 : zabv p e (zfW u a b) t = zabv p e u t := by
          unfold zabv
          by_cases g : t < 6
          · rw [if_pos g, if_pos g, zfW, if_neg g1]
          · rw [if_neg g, if_neg g, zfW_col_o (by omega)]
        rw [n1, n2]
        simp [zsi1, g1, g2, s1, s2]
/-- by the turn of a cell it hangs together -/
def zvc (p e c : Nat) : Bool := decide (c / 6 < p) && decide (c % 6 < e)
def zmg (p e : Nat) (u : Nat → Nat) (c : Nat) : Bool := zvc p e c && zHb p e (zfW u (c / 6) (c % 6)) (zall p e)
theorem c_crs (h : zWc M 1 p e w) (hc : zCl p e w) {c : Nat} (hcl : c < 36) : f7_crosses 1 (nI c / 6) (zrem (nI c) 6) M = some (nI (zi (zvc p e c))) := by
  have e1 : nI c / 6 = nI (c / 6) := nI_div (d := 6) (by omega) (by omega) (by omega)
  have e2 : zrem (nI c) 6 = nI (c % 6) := nI_rem (d := 6) (by omega) (by omega) (by omega)
  rw [e1, e2]
  by_cases g : c / 6 < p ∧ c % 6 < e
  · rw [c_cross_yes h hc g.1 g.2, zvc, decide_eq_true g.1, decide_eq_true g.2]
    rfl
  · have hz : zvc p e c = false := by
      rw [zvc]
      by_cases g1 : c / 6 < p
      · rw [decide_eq_false (fun q => g ⟨g1, q⟩), Bool.and_false]
      · rw [decide_eq_false g1, Bool.false_and]
    rw [hz, c_cross_no h hc (fun q => g ⟨?_, ?_⟩)]
    · rfl
    · exact (zVd_n hc (a := 0) (by omega) (by omega)).mp q.1
    · exact (zVd_n hc (a := 1) (by omega) (by omega)).mp q.2
theorem zvc_t {c : Nat} (h : zvc p e c = true) : c / 6 < p ∧ c % 6 < e := by
  unfold zvc at h
  rw [Bool.and_eq_true] at h
  exact ⟨of_decide_eq_true h.1, of_decide_eq_true h.2⟩
theorem zTww_C (h : zTww M p e u) : zTC M 22 23 p e u := fun t ht _ => h t ht
theorem c_mending (h : zWc M 1 p e w) (hc : zCl p e w) (hT : zTww M p e u) (hu : zCl p e u) {from0 : Nat} (hf : from0 ≤ 6 * p) : ∃ M', zTww M' p e u ∧ ((∃ c, from0 ≤ c ∧ c < 36 ∧ zmg p e u c = true ∧ (∀ i, from0 ≤ i → i < c → zmg p e u i = false) ∧ f8_mendingCell (nI from0) (nI (zall p e)) M = some (nI c, M')) ∨ ((∀ i, from0 ≤ i → i < 36 → zmg p e u i = false) ∧ f8_mendingCell (nI from0) (nI (zall p e)) M = some (-1, M'))) := by
  obtain ⟨c1, c2, c3, c4, c5, c6⟩ := id hc
  rw [f8_mendingCell]
  refine zloopP (F := fun f c x => f8_mendingCell_2 f (nI (zall p e)) (nI c) x) (I := fun c x => zTww x p e u ∧ zWc x 1 p e w ∧ ∀ i, from0 ≤ i → i < c → zmg p e u i = false) (P := fun o => ∃ M', zTww M' p e u ∧ ((∃ c, from0 ≤ c ∧ c < 36 ∧ zmg p e u c = true ∧ (∀ i, from0 ≤ i → i < c → zmg p e u i = false) ∧ o = some (nI c, M')) ∨ ((∀ i, from0 ≤ i → i < 36 → zmg p e u i = false) ∧ o = some (-1, M')))) (6 * p) (by omega) (k0 := from0) hf (fun f c x hc0 hcl hx => ?_) (fun f x hx => ⟨x, hx.1, Or.inr ⟨fun i h1 h2 => ?_, ?_⟩⟩) (x := M) ⟨hT, h, fun i h1 h2 => absurd h1 (by omega)⟩
  · obtain ⟨x1, x2, x3⟩ := hx
    have e6 : (6 : Int32) * x.1 1 0 = nI (6 * p) := by
      rw [x2.1]
      exact nI_mul 6 p
    have e1 : nI c / 6 = nI (c / 6) := nI_div (d := 6) (by omega) (by omega) (by omega)
    have e2 : zrem (nI c) 6 = nI (c % 6) := nI_rem (d := 6) (by omega) (by omega) (by omega)
    have st : f8_mendingCell_2 (f + 1) (nI (zall p e)) (nI c) x = if nI (zi (zvc p e c)) = 0 then f8_mendingCell_2 f (nI (zall p e)) (nI (c + 1)) x else (f0_turn (nI (c / 6)) (nI (c % 6)) x).bind fun M2 => (f0_areTogether (nI (zall p e)) M2).bind fun x3 => (f0_turn (nI (c / 6)) (nI (c % 6)) M2).bind fun M4 => if x3 = 0 then f8_mendingCell_2 f (nI (zall p e)) (nI (c + 1)) M4 else some (nI c, M4) := by
      rw [f8_mendingCell_2, e6, if_neg (nI_ge hcl (by omega)), c_crs x2 hc (by omega), Option.bind_some, e1, e2]
      simp only [f8_mendingCell_81, nI_1]
    by_cases hv : zvc p e c = true
    · obtain ⟨v1, v2⟩ := zvc_t hv
      have huf := zCl_f hu v1 v2
      obtain ⟨y, y1, y2⟩ := c_turn x1 hu v1 v2
      obtain ⟨z, z1, z2⟩ := c_turn y2 huf v1 v2
      rw [zfW_inv] at z2
      have o := (o_X0_turn y1).trans (o_X0_turn z1)
      have zW : zWc z 1 p e w := x2.to (o.1 1 (by simp) (by simp)).1 (o.1 2 (by simp) (by simp)).1
      rw [hv, if_neg (show ¬ nI (zi true) = 0 by decide), y1, Option.bind_some, c_tog (zTww_C y2) huf (zall_sb huf), Option.bind_some, z1, Option.bind_some] at st
      have hm : zmg p e u c = zHb p e (zfW u (c / 6) (c % 6)) (zall p e) := by rw [zmg, hv, Bool.true_and]
      cases hb : zHb p e (zfW u (c / 6) (c % 6)) (zall p e)
      · rw [hb, if_pos (show nI (zi false) = 0 from rfl)] at st
        refine Or.inl ⟨z, st, z2, zW, fun i h1 h2 => ?_⟩
        by_cases g : i = c
        · rw [g, hm, hb]
        · exact x3 i h1 (by omega)
      · rw [hb, if_neg (show ¬ nI (zi true) = 0 by decide)] at st
        exact Or.inr ⟨z, z2, Or.inl ⟨c, hc0, by omega, by rw [hm, hb], x3, st⟩⟩
    · have hv' : zvc p e c = false := by simpa using hv
      rw [hv', if_pos (show nI (zi false) = 0 from rfl)] at st
      refine Or.inl ⟨x, st, x1, x2, fun i h1 h2 => ?_⟩
      by_cases g : i = c
      · rw [g, zmg, hv', Bool.false_and]
      · exact x3 i h1 (by omega)
  · by_cases g : i < 6 * p
    · exact hx.2.2 i h1 g
    · rw [zmg, zvc, decide_eq_false (show ¬ i / 6 < p by omega), Bool.false_and, Bool.false_and]
  · have e6 : (6 : Int32) * x.1 1 0 = nI (6 * p) := by
      rw [hx.2.1.1]
      exact nI_mul 6 p
    show f8_mendingCell_2 (f + 1) (nI (zall p e)) (nI (6 * p)) x = _
    rw [f8_mendingCell_2, e6, if_pos (nI_le (Nat.le_refl _) (by omega))]
end MN
