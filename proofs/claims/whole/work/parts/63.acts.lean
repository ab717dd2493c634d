/-! the reference's own acts; what class and reference do about undo behind an act -/
theorem c_noted_neg {M : zM} {r : Int32} (hr : r < 0) (s : Int64) (t : Int32) : f8_noted r s t M = some (r, M) := by
  rw [f8_noted, if_pos hr]
theorem r_counted_neg {M : zM} {r : Int32} (hr : r < 0) : f9_counted r M = some (r, M) := by
  rw [f9_counted, if_neg (show ¬ 0 ≤ r from fun q => Int32.not_lt.mpr q hr)]
theorem zact {c : Nat} {M : zM} (h : zInv c M) {p e : Nat} {w : Nat → Nat} (hA : iA M p e w) {f8 f9 op8 op9 : zM → Option (Int32 × zM)} (h8 : f8 M = (f7_shape 1 M).bind fun x1 => (op8 M).bind fun p2 => (f8_noted p2.1 x1 (p2.2.1 1 2) p2.2).bind fun p3 => some (p3.1, p3.2)) (h9 : ∀ X, f9 X = (f9_putsBy (zsi X 39 0 0)).bind fun M1 => (op9 M1).bind fun p2 => (f9_counted p2.1 p2.2).bind fun p3 => some (p3.1, p3.2))
    (ho : (∃ r, r < 0 ∧ op8 M = some (r, M) ∧ ∀ X, zRr X 41 p e w → ∃ X', op9 X = some (r, X') ∧ zRr X' 41 p e w ∧ X'.1 41 8 = X.1 41 8 ∧ zOut [41, 42] [] X X') ∨ (∃ n p' e' w' M8, n < 2 ^ 31 ∧ op8 M = some (nI n, M8) ∧ zCl p' e' w' ∧ zWc M8 1 p' e' w' ∧ M8.1 1 2 = M.1 1 2 ∧ zOut [1, 2] [] M M8 ∧ ∀ X, zRr X 41 p e w → ∃ X', op9 X = some (nI n, X') ∧ zRr X' 41 p' e' w' ∧ X'.1 41 8 = X.1 41 8 ∧ zOut [41, 42] [] X X')) : ∃ (r : Int32) (M1 M2 : zM), f8 M = some (r, M1) ∧ f9 M1 = some (r, M2) ∧ zInv (c + 1) M2 := by
  obtain ⟨hc, hW, hR, hN⟩ := id hA
  obtain ⟨n, hn, f1, f2, f3⟩ := h.2.2.2.2.2.1
  rcases ho with ⟨r, hr, q1, q2⟩ | ⟨m, p', e', w', M8, hm, q1, hc', hW', hN', o1, q2⟩
  · have e8 : f8 M = some (r, M) := by
      rw [h8, c_shape hW hc, Option.bind_some, q1, Option.bind_some, c_noted_neg hr]
      rfl
    obtain ⟨X1, y1, y2, y3⟩ := r_puts (M := zsi M 39 0 0) hn (by simp [zsi1, f2])
    have oX := o_X9_putsBy y1
    have m41 : X1.1 41 = M.1 41 := by
      rw [(oX.1 41 (by simp) (by simp)).1]
      funext j
      simp [zsi1]
    obtain ⟨X2, z1, z2, z3, z4⟩ := q2 X1 (by simp only [zRr, m41]; exact hR)
    have e9 : f9 M = some (r, X2) := by
      rw [h9, y1, Option.bind_some, z1, Option.bind_some, r_counted_neg hr]
      rfl
    have o0 : zOut [] [0] M (zsi M 39 0 0) := zOut.rf.si 39 0 0 (Or.inr ⟨rfl, by simp⟩)
    have oo := (o0.trans oX).trans z4
    have r1 := (oo.1 1 (by simp) (by simp)).1
    have r2 := (oo.1 2 (by simp) (by simp)).1
    refine ⟨_, _, _, e8, e9, zInv_to h oo (Or.inr ⟨p, e, w, hc, ?_, z2, ?_⟩) (Or.inl rfl) (Or.inl rfl) (Or.inl rfl) (Or.inl rfl) (Or.inr ⟨n, hn, ?_, ?_, fun i hi => ?_⟩) (Or.inl rfl) (Or.inl rfl)⟩
    · simp only [zWc, r1, r2]
      exact hW
    · rw [z3, m41, r1, hN]
    · rw [(oo.1 33 (by simp) (by simp)).1, f1]
    · rw [oo.2 18 (by simp) (by simp), f2]
    · rw [(oo.1 34 (by simp) (by simp)).2, (oo.1 35 (by simp) (by simp)).1]
      obtain ⟨p', e', w', g1, g2, g3, g4, g5, g6⟩ := f3 i hi
      have q49 : ∀ j, j < 9 → X2.1 49 (9 * i + j) = M.1 49 (9 * i + j) := by
        intro j hj
        rw [(z4.1 49 (by simp) (by simp)).1, y2 i j hi hj]
        simp [zsi1]
      refine ⟨p', e', w', g1, g2, ?_, ?_, ?_, fun j hj => ?_⟩
      · show _ = X2.1 49 (9 * i + 8)
        rw [q49 8 (by omega)]; exact g3
      · show X2.1 49 (9 * i + 6) = _
        rw [q49 6 (by omega)]; exact g4
      · show X2.1 49 (9 * i + 7) = _
        rw [q49 7 (by omega)]; exact g5
      · show X2.1 49 (9 * i + j) = _
        rw [q49 j (by have := g1.2.1; omega)]; exact g6 j hj
  · have k33 : M8.1 33 2 = nI n := by rw [(o1.1 33 (by simp) (by simp)).1, f1]
    obtain ⟨M9, u1, u2, u3⟩ := c_push hn k33 (lN (zshN p e w)) (M8.1 1 2)
    have o2 := o_X2_push u1
    have e8 : f8 M = some (nI m, M9) := by
      rw [h8, c_shape hW hc, Option.bind_some, q1, Option.bind_some, f8_noted, if_neg (nI_pos hm), u1]
      rfl
    have oc := o1.trans o2
    have k18 : M9.1 39 18 = nI n := by rw [oc.2 18 (by simp) (by simp), f2]
    obtain ⟨X1, y1, y2, y3⟩ := r_puts (M := zsi M9 39 0 0) hn (by simp [zsi1, k18])
    have oX := o_X9_putsBy y1
    have m41' : M9.1 41 = M.1 41 := (oc.1 41 (by simp) (by simp)).1
    have m41 : X1.1 41 = M.1 41 := by
      rw [(oX.1 41 (by simp) (by simp)).1, ← m41']
      funext j
      simp [zsi1]
    obtain ⟨X2, z1, z2, z3, z4⟩ := q2 X1 (by simp only [zRr, m41]; exact hR)
    have k18' : X2.1 39 18 = nI n := by
      rw [z4.2 18 (by simp) (by simp), oX.2 18 (by simp) (by simp)]
      simp [zsi1, k18]
    obtain ⟨X3, v1, v2, v3⟩ := r_adds hn k18' (nI m)
    have o3 := o_X9_adds v1
    have e9 : f9 M9 = some (nI m, X3) := by
      rw [h9, y1, Option.bind_some, z1, Option.bind_some, f9_counted, if_pos (nI_pos' hm), v1]
      rfl
    have o0 : zOut [] [0] M9 (zsi M9 39 0 0) := zOut.rf.si 39 0 0 (Or.inr ⟨rfl, by simp⟩)
    have or := ((o0.trans oX).trans z4).trans o3
    have oo := oc.trans or
    have r1 := (or.1 1 (by simp) (by simp)).1
    have r2 := (or.1 2 (by simp) (by simp)).1
    have r1' := (o2.1 1 (by simp) (by simp)).1
    have r2' := (o2.1 2 (by simp) (by simp)).1
    have r41 := (o3.1 41 (by simp) (by simp)).1
    refine ⟨_, _, _, e8, e9, zInv_to h oo (Or.inr ⟨p', e', w', hc', ?_, ?_, ?_⟩) (Or.inl rfl) (Or.inl rfl) (Or.inl rfl) (Or.inl rfl) (Or.inr (iF_add hA h.2.2.2.2.2.1 ?_ ?_)) (Or.inl rfl) (Or.inl rfl)⟩
    · simp only [zWc, r1, r2, r1', r2']
      exact hW'
    · simp only [zRr, r41]
      exact z2
    · rw [r41, z3, m41, r1, r1', hN', hN]
    · intro n' hn' g
      have : n' = n := by
        rw [f1, nI_eq (by omega) (by omega)] at g
        exact g.symm
      subst this
      rw [(or.1 33 (by simp) (by simp)).1, (or.1 34 (by simp) (by simp)).2, (or.1 35 (by simp) (by simp)).1]
      refine ⟨u2, fun i hi => ?_⟩
      rw [(u3 i hi).1, (u3 i hi).2, hN', (o1.1 34 (by simp) (by simp)).2, (o1.1 35 (by simp) (by simp)).1]
      exact ⟨rfl, rfl⟩
    · intro n' hn' g
      have : n' = n := by
        rw [f2, nI_eq (by omega) (by omega)] at g
        exact g.symm
      subst this
      refine ⟨v2, fun i j hi hj => ?_⟩
      have m49 : M9.1 49 = M.1 49 := (oc.1 49 (by simp) (by simp)).1
      rw [v3 i j hi hj, (z4.1 49 (by simp) (by simp)).1]
      have hz : zmi n' = n' + 1 ∧ n' < 15 ∨ zmi n' = 15 ∧ n' = 15 := by unfold zmi; split <;> omega
      by_cases hl : i + 1 = zmi n'
      · rw [if_pos hl]
        have : zsf n' i = n' := by unfold zsf; split <;> omega
        rw [this, y3 j hj]
        simp [zsi1, m41']
      · rw [if_neg hl]
        have : zsf n' i < n' := by unfold zsf; split <;> omega
        rw [y2 _ j this hj]
        simp [zsi1, m49]
