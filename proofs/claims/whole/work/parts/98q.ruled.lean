section RJ
variable {x : zM}
theorem zmC.po {b0 : Bool} {l : List Bool} (h : zmC x (b0 :: l)) {y : zM} (h1 : y.1 16 5 = nI (l.length - 1)) (h2 : y.1 19 = x.1 19) : zmC y l := by
  refine ⟨h1, fun k c hi => ?_⟩
  have := h.2 (k + 1) c (by simpa using hi)
  rw [List.length_cons, show l.length + 1 - 1 - (k + 1) = l.length - 1 - k by have := (List.getElem?_eq_some_iff.mp hi).1; omega] at this
  rw [h2]
  exact this
theorem zmC.hd {b0 b1 : Bool} {l : List Bool} (h : zmC x (b0 :: l)) {y : zM} (h1 : y.1 16 5 = x.1 16 5) (h2 : y.1 19 l.length = nI (zi b1)) (h3 : ∀ i, i < l.length → y.1 19 i = x.1 19 i) : zmC y (b1 :: l) := by
  refine ⟨h1.trans h.1, fun k c hi => ?_⟩
  have hk := (List.getElem?_eq_some_iff.mp hi).1
  rw [List.length_cons] at hk
  cases k with
  | zero =>
    have e : b1 = c := by simpa using hi
    rw [← e]
    exact h2
  | succ k =>
    have := h.2 (k + 1) c (by simpa using hi)
    rw [List.length_cons] at this ⊢
    rw [h3 _ (by omega)]
    exact this
theorem zi_nar (b : Bool) : vp_nar .boolean (nI (zi b)) = nI (zi b) := by cases b <;> rfl
theorem c_join {st : zL5} {p s : Nat} (h : zcM x st p) (hw : st.2.2.2.2 = false) (hp : p < 40) (hs : s < 256) : (∃ st' y, zstJ s st = some st' ∧ f4_takesJoin 16 (nI s) x = some (1, y) ∧ zcM y st' (p + 1)) ∨ (zstJ s st = none ∧ ∃ y, f4_takesJoin 16 (nI s) x = some (0, y)) := by
  obtain ⟨o, l, dg, cm, wt⟩ := st
  simp only [] at hw
  subst hw
  obtain ⟨⟨w1, w2, w3, w4, w5, w6⟩, hO, hW, hC, h7, h6⟩ := h
  simp only [] at w1 w2 w3 w4 w5 w6 hO hW hC h7 h6
  have w6' := w6 trivial
  have h6' := h6 trivial
  unfold zstJ
  simp only []
  obtain ⟨b0, cm, rfl⟩ : ∃ b c, cm = b :: c := by
    cases cm with
    | nil => exact absurd w2 (by decide)
    | cons b c => exact ⟨b, c, rfl⟩
  have ecl : (b0 :: cm).length = cm.length + 1 := rfl
  rw [ecl] at w2 w3 w4
  by_cases g1 : 48 ≤ s ∧ s ≤ 57
  · rw [if_pos g1]
    by_cases g2 : 3 ≤ dg
    · rw [if_pos g2]
      refine Or.inr ⟨rfl, x, ?_⟩
      rw [f4_takesJoin, if_neg (show ¬ nI s < 48 from nI_nlt (b := 48) g1.1 (by omega)), if_neg (show ¬ (57 : Int32) < nI s from nI_nlt (a := 57) g1.2 (by omega)), h6', if_pos (show (3 : Int32) ≤ nI dg from nI_le (a := 3) g2 (by omega))]
    · rw [if_neg g2]
      obtain ⟨o, z, rfl⟩ : ∃ o' z, o = o' ++ [z] := ⟨o.dropLast, o.getLast w6'.1, (List.dropLast_concat_getLast w6'.1).symm⟩
      rw [List.dropLast_concat, List.getLastD_concat]
      have eol : (o ++ [z]).length = o.length + 1 := by simp
      rw [eol] at w1
      have ez : x.1 17 o.length = nI z := hO.2 o.length z (by simp)
      have e1 : x.1 16 1 = nI (o.length + 1) := by rw [hO.1, eol]
      refine Or.inl ⟨_, zsi (zsi x 17 o.length (nI (10 * z + (s - 48)))) 16 6 (nI (dg + 1)), rfl, ?_, ⟨?_, w2, w3, w4, w5, fun _ => ⟨by simp, show dg + 1 ≤ 3 by omega⟩⟩, ⟨?_, ?_⟩, hW.to (by simp [zsi1]) (by rw [zsi_ne (by omega), zsi_ne (by omega)]), hC.to (by simp [zsi1]) (by rw [zsi_ne (by omega), zsi_ne (by omega)]), by simpa [zsi1] using h7, fun _ => by simp [zsi1]⟩
      · have ev : ((10 : Int32) * nI z + nI s) - 48 = nI (10 * z + (s - 48)) := by
          rw [show (10 : Int32) * nI z = nI (10 * z) from nI_mul 10 z, nI_add, show nI (10 * z + s) - 48 = nI (10 * z + s - 48) from nI_sub (b := 48) (by omega)]
          congr 1
          omega
        rw [f4_takesJoin, if_neg (show ¬ nI s < 48 from nI_nlt (b := 48) g1.1 (by omega)), if_neg (show ¬ (57 : Int32) < nI s from nI_nlt (a := 57) g1.2 (by omega)), h6', if_neg (show ¬ (3 : Int32) ≤ nI dg from nI_ge (b := 3) (by omega) (by omega)), e1, if_pos (show (1 : Int32) ≤ nI (o.length + 1) from nI_le (a := 1) (by omega) (by omega)), show nI (o.length + 1) - 1 = nI o.length from nI_sub (a := o.length + 1) (b := 1) (by omega), zaI_n (by omega) (by omega), Option.bind_some, zpI_n (by omega) (by omega), Option.bind_some, ez, ev, zsi_ne (by omega), h6', nI_1]
      · show (o ++ [10 * z + (s - 48)]).length + l.length ≤ p + 1
        rw [List.length_append]
        show o.length + 1 + _ ≤ _
        omega
      · show (zsi (zsi x 17 o.length (nI (10 * z + (s - 48)))) 16 6 (nI (dg + 1))).1 16 1 = nI (o ++ [10 * z + (s - 48)]).length
        rw [List.length_append, zsi1, if_neg (by omega), zsi_ne (by omega), e1]
        rfl
      · intro i c hi
        show (zsi (zsi x 17 o.length (nI (10 * z + (s - 48)))) 16 6 (nI (dg + 1))).1 17 i = nI c
        rw [zsi_ne (by omega), zsi1]
        have hi' : (o ++ [10 * z + (s - 48)])[i]? = some c := hi
        by_cases g : i = o.length
        · rw [if_pos ⟨rfl, g⟩]
          rw [g, List.getElem?_append_right (Nat.le_refl _), Nat.sub_self] at hi'
          have : 10 * z + (s - 48) = c := by simpa using hi'
          rw [this]
        · rw [if_neg (fun q => g q.2)]
          have hl := (List.getElem?_eq_some_iff.mp hi').1
          rw [List.length_append] at hl
          have hl2 : i < o.length := by
            have : i < o.length + 1 := hl
            omega
          rw [List.getElem?_append_left hl2] at hi'
          exact hO.2 i c (by rw [List.getElem?_append_left hl2]; exact hi')
  · rw [if_neg g1]
    have e72 : f4_takesJoin 16 (nI s) x = f4_takesJoin_72 16 (nI s) x := by
      rw [f4_takesJoin]
      by_cases q1 : 48 ≤ s
      · rw [if_neg (show ¬ nI s < 48 from nI_nlt (b := 48) q1 (by omega)), if_pos (show (57 : Int32) < nI s from nI_lt (a := 57) (by omega) (by omega))]
      · rw [if_pos (show nI s < 48 from nI_lt (b := 48) (by omega) (by omega))]
    rw [e72]
    have h5 : x.1 16 5 = nI cm.length := hC.1
    by_cases g2 : s = 41
    · subst g2
      rw [if_pos rfl, ecl]
      by_cases g3 : cm.length + 1 ≤ 1
      · rw [if_pos g3]
        refine Or.inr ⟨rfl, x, ?_⟩
        rw [f4_takesJoin_72, if_pos (show nI 41 = 41 from rfl), h5, if_neg (show ¬ (1 : Int32) ≤ nI cm.length from nI_ge (b := 1) (by omega) (by omega))]
      · rw [if_neg g3]
        obtain ⟨y, y1, y2, y3, y4, y5⟩ := c_release (b := 1) (by omega) l o zfuel x (by have : zfuel = 5000 := rfl; omega) hO hW (by omega) (fun c hc => (w5 c hc).1)
        obtain ⟨r1, r2, r3, r4⟩ := zrel_len 1 l o
        have r4' := r4 (by omega)
        have rt := zrel_top 1 l o
        generalize hz : zrel 1 o l = Z at y2 y3 r1 r2 r3 r4' rt ⊢
        obtain ⟨o', l'⟩ := Z
        simp only [] at y2 y3 r1 r2 r3 r4' rt ⊢
        obtain ⟨c0, l', rfl⟩ : ∃ c r, l' = c :: r := by
          cases l' with
          | nil =>
            have : zcnt4 [] = 0 := rfl
            omega
          | cons c r => exact ⟨c, r, rfl⟩
        have hc0 := rt c0 l' rfl
        have hc0' := (w5 c0 (r3 c0 List.mem_cons_self)).2
        have ell : (c0 :: l').length = l'.length + 1 := rfl
        rw [ell] at r1
        have ec0 : c0 = 1040 := by omega
        have r5 : zcnt4 (c0 :: l') = 1 + zcnt4 l' := by rw [zcnt4, if_pos ec0]
        have ey3 : y.1 16 3 = nI (l'.length + 1) := y3.1
        have ey5 : y.1 16 5 = nI cm.length := by rw [y5 5 (by omega) (by omega), h5]
        have em : nI (l'.length + 1) - 1 = nI l'.length := nI_sub (a := l'.length + 1) (b := 1) (by omega)
        have em5 : nI cm.length - 1 = nI (cm.length - 1) := nI_sub (b := 1) (by omega)
        refine Or.inl ⟨_, zsi (zsi (zsi y 16 3 (nI l'.length)) 16 5 (nI (cm.length - 1))) 16 6 3, rfl, ?_, ⟨?_, ?_, ?_, ?_, ?_, fun _ => ⟨fun q => w6'.1 (r2 q), Nat.le_refl _⟩⟩, y2.to (by simp [zsi1]) (by rw [zsi_ne (by omega), zsi_ne (by omega), zsi_ne (by omega)]), y3.po (by simp [zsi1]) (by rw [zsi_ne (by omega), zsi_ne (by omega), zsi_ne (by omega)]), hC.po (by simp [zsi1]) (by rw [zsi_ne (by omega), zsi_ne (by omega), zsi_ne (by omega), y4 19 (by omega) (by omega)]), ?_, fun _ => by simp [zsi1]; rfl⟩
        · rw [f4_takesJoin_72, if_pos (show nI 41 = 41 from rfl), h5, if_pos (show (1 : Int32) ≤ nI cm.length from nI_le (a := 1) (by omega) (by omega)), f4_release, show (1 : Int32) = nI 1 from rfl, y1, Option.bind_some, ey3, show nI 1 = 1 from rfl, em, show (zsi y 16 3 (nI l'.length)).1 16 5 = nI cm.length by rw [zsi1, if_neg (by omega)]; exact ey5, em5]
        · show o'.length + l'.length ≤ p + 1
          omega
        · show 1 ≤ cm.length
          omega
        · show cm.length ≤ 5
          omega
        · show zcnt4 l' + 1 = cm.length
          omega
        · exact fun c hc => w5 c (r3 c (List.mem_cons_of_mem _ hc))
        · show _ = nI (zi false)
          rw [zsi1, if_neg (by omega), zsi1, if_neg (by omega), zsi1, if_neg (by omega), y5 7 (by omega) (by omega)]
          exact h7
    · rw [if_neg g2]
      have i2 : ¬ nI s = 41 := nI_ne (b := 41) g2 (by omega) (by omega)
      have eb : f4_bindingOf (1000 + nI s) = some (nI (zbi (1000 + s))) := by rw [show (1000 : Int32) + nI s = nI (1000 + s) from nI_add 1000 s]; exact zbi_e _ (by omega)
      have hbl := zbi_lt (1000 + s)
      by_cases g3 : zbi (1000 + s) = 0
      · rw [if_pos g3]
        refine Or.inr ⟨rfl, x, ?_⟩
        rw [f4_takesJoin_72, if_neg i2, eb, Option.bind_some, g3, if_pos (show nI 0 = 0 from rfl)]
      · rw [if_neg g3]
        have ehd : (b0 :: cm).headD false = b0 := rfl
        have etl : (b0 :: cm).tail = cm := rfl
        rw [ehd, etl]
        have e19 : x.1 19 cm.length = nI (zi b0) := by
          have := hC.2 0 b0 rfl
          rw [ecl] at this
          simpa using this
        by_cases g4 : zbi (1000 + s) = 1 ∧ b0 = true
        · rw [if_pos g4]
          refine Or.inr ⟨rfl, x, ?_⟩
          rw [f4_takesJoin_72, if_neg i2, eb, Option.bind_some, if_neg (show ¬ nI (zbi (1000 + s)) = 0 from nI_ne (b := 0) g3 (by omega) (by omega)), if_pos (by rw [g4.1]; rfl), h5, zaI_n (by omega) (by omega), Option.bind_some, e19, g4.2, if_neg (by decide)]
        · rw [if_neg g4]
          generalize hB : zbi (1000 + s) = B at *
          obtain ⟨y, y1, y2, y3, y4, y5⟩ := c_release (b := B) hbl l o zfuel (zsi x 19 cm.length (nI (zi (b0 || B == 1)))) (by have : zfuel = 5000 := rfl; omega) (hO.to (by rw [zsi_ne (by omega)]) (zsi_ne (by omega))) (hW.to (by rw [zsi_ne (by omega)]) (zsi_ne (by omega))) (by omega) (fun c hc => (w5 c hc).1)
          obtain ⟨r1, r2, r3, r4⟩ := zrel_len B l o
          have r4' := r4 (by omega)
          generalize hz : zrel B o l = Z at y2 y3 r1 r2 r3 r4' ⊢
          obtain ⟨o', l'⟩ := Z
          simp only [] at y2 y3 r1 r2 r3 r4' ⊢
          obtain ⟨z, z1, z2, z3, z4⟩ := y3.pu (by omega) (1000 + s)
          have h152 : f4_takesJoin_152 16 (nI s) (nI B) x = some (1, zsi z 16 7 1) := by
            have ev : (if nI (zi b0) = 0 then (if nI B = 1 then (1 : Int32) else 0) else 1) = nI (zi (b0 || B == 1)) := by
              cases b0 with
              | false =>
                rw [if_pos (show nI (zi false) = 0 from rfl), Bool.false_or]
                by_cases q : B = 1
                · rw [q]
                  rfl
                · rw [if_neg (show ¬ nI B = 1 from nI_ne (b := 1) q (by omega) (by omega)), show (B == 1) = false by simpa using q]
                  rfl
              | true => rfl
            rw [f4_takesJoin_152, h5, zaI_n (by omega) (by omega), Option.bind_some, e19, zpZ_n (by omega) (by omega), Option.bind_some, ev, zi_nar, f4_release, y1, Option.bind_some, show (1000 : Int32) + nI s = nI (1000 + s) from nI_add 1000 s, z1, Option.bind_some]
          refine Or.inl ⟨_, zsi z 16 7 1, rfl, ?_, ⟨?_, w2, w3, ?_, ?_, fun q => Bool.noConfusion (show true = false from q)⟩, y2.to ?_ ?_, z2.to (by simp [zsi1]) (zsi_ne (by omega)), hC.hd ?_ ?_ ?_, ?_, fun q => Bool.noConfusion (show true = false from q)⟩
          · rw [f4_takesJoin_72, if_neg i2, eb, Option.bind_some, if_neg (show ¬ nI B = 0 from nI_ne (b := 0) g3 (by omega) (by omega))]
            by_cases q : B = 1
            · have qb : b0 = false := by
                cases b0 with
                | false => rfl
                | true => exact absurd ⟨q, rfl⟩ g4
              rw [if_pos (by rw [q]; rfl), h5, zaI_n (by omega) (by omega), Option.bind_some, e19, qb, if_pos (show nI (zi false) = 0 from rfl)]
              exact h152
            · rw [if_neg (show ¬ nI B = 1 from nI_ne (b := 1) q (by omega) (by omega))]
              exact h152
          · show o'.length + (l'.length + 1) ≤ p + 1
            omega
          · show zcnt4 ((1000 + s) :: l') + 1 = cm.length + 1
            rw [zcnt4, if_neg (show ¬ 1000 + s = 1040 from fun q => g3 (by rw [← hB, q]; rfl)), r4']
            omega
          · intro c hc
            rcases List.mem_cons.mp hc with q | q
            · subst q
              exact ⟨by omega, Or.inr (by omega)⟩
            · exact w5 c (r3 c q)
          · rw [zsi1, if_neg (by omega), z4 1 (by omega)]
          · rw [zsi_ne (by omega), z3 17 (by omega) (by omega)]
          · rw [zsi1, if_neg (by omega), z4 5 (by omega), y5 5 (by omega) (by omega), zsi_ne (by omega)]
          · rw [zsi_ne (by omega), z3 19 (by omega) (by omega), y4 19 (by omega) (by omega), zsi1, if_pos ⟨rfl, rfl⟩]
          · intro i hi
            rw [zsi_ne (by omega), z3 19 (by omega) (by omega), y4 19 (by omega) (by omega), zsi1, if_neg (by omega)]
          · show _ = nI (zi true)
            rw [zsi1, if_pos ⟨rfl, rfl⟩]
            rfl
end RJ
