/-! nights, later -/
theorem zNn_succ (t : List Nat) (n : Nat) (S : zS4) : zNn t (n + 1) S = zN1 t (zNn t n S) := rfl
section CN
variable {M : zM} {S : zS4} {t : List Nat}
/-- the class: n nights of its own cloth, and what is told of them -/
theorem c_passN (ht : zCc M 11 t) (h : zWS M 1 S) (hc : zSC S) {n : Nat} (hn : n < 100) : ∃ M', f8_passNights (nI n) M = some (nI ((zNn t n S).1 + (zNn t n S).2.1), M') ∧ zWS M' 1 (zNn t n S) ∧ zR8 M' [(nI S.1 - nI (zNn t n S).1).toInt64, (nI S.2.1 - nI (zNn t n S).2.1).toInt64] := by
  rw [f8_passNights, h.1.1, h.1.2.1]
  refine zloopP (F := fun f j x => f8_passNights_19 f (nI n) (nI S.1) (nI S.2.1) (nI j) x) (I := fun j x => zWS x 1 (zNn t j S) ∧ zCc x 11 t) (P := fun o => ∃ M', o = some (nI ((zNn t n S).1 + (zNn t n S).2.1), M') ∧ zWS M' 1 (zNn t n S) ∧ zR8 M' [(nI S.1 - nI (zNn t n S).1).toInt64, (nI S.2.1 - nI (zNn t n S).2.1).toInt64]) n (by omega) (k0 := 0) (by omega) (fun f j x _ hj hx => Or.inl ?_) (fun f x hx => ?_) ⟨h, ht⟩
  · obtain ⟨x1, x2⟩ := hx
    have hC := zNn_C (t := t) hc j
    obtain ⟨y, y1, y2⟩ := c_gS x2 x1 hC (by omega) (by omega)
    obtain ⟨z, z1, z2, z3⟩ := c_pass (t := t) (x1.to (y2 1 (by omega)) (y2 2 (by omega))) hC (by omega)
    refine ⟨z, ?_, z2, x2.to (by rw [z3 11 (by omega) (by omega) (by omega), y2 11 (by omega)]) (by rw [z3 12 (by omega) (by omega) (by omega), y2 12 (by omega)])⟩
    show f8_passNights_19 (f + 1) _ _ _ (nI j) x = _
    rw [f8_passNights_19, if_neg (nI_ge hj (by omega)), y1, Option.bind_some]
    simp only []
    rw [z1, Option.bind_some, nI_1]
  · obtain ⟨x1, x2⟩ := hx
    obtain ⟨M', k1, k2⟩ := c_tell2 (nI S.1 - x.1 1 0).toInt64 (nI S.2.1 - x.1 1 1).toInt64 x
    have o := o_X3_tell_ k1
    have r1 := (o.1 1 (by simp) (by simp)).1
    have r2 := (o.1 2 (by simp) (by simp)).1
    rw [x1.1.1, x1.1.2.1] at k2
    refine ⟨M', ?_, x1.to r1 r2, k2⟩
    show f8_passNights_19 (f + 1) _ _ _ (nI n) x = _
    rw [f8_passNights_19, if_pos (nI_le (Nat.le_refl _) (by omega)), k1, Option.bind_some, f7_threads, r1, x1.1.1, x1.1.2.1, nI_add]
    rfl
end CN
theorem zP_nights_ok : zP_nights zInv := by
  intro c M v hc h
  obtain ⟨p, e, w, hA⟩ := h.1
  obtain ⟨hc1, hW, hR, hN⟩ := id hA
  obtain ⟨t, tc, tr⟩ := iE_c h.2.2.2.2.1
  obtain ⟨n6, hn6, f1, f2, f3⟩ := h.2.2.2.2.2.1
  have hC : zSC (p, e, w, M.1 1 2) := hc1
  have fin0 : zInv (c + 1) (zsi M 39 0 0) := zInv_to h (S := []) (s := [0]) (zOut.rf.si 39 0 0 (Or.inr ⟨rfl, by simp⟩)) (Or.inl rfl) (Or.inl rfl) (Or.inl rfl) (Or.inl rfl) (Or.inl rfl) (Or.inl rfl) (Or.inl rfl) (Or.inl rfl)
  have out : (v < 0 ∨ nI 61 ≤ v) → ∃ (r : Int32) (M1 M2 : zM), f8_nights v M = some (r, M1) ∧ f9_nights v M1 = some (r, M2) ∧ zInv (c + 1) M2 := by
    intro hv
    refine ⟨-1, M, zsi M 39 0 0, ?_, ?_, fin0⟩
    · rw [f8_nights]
      rcases hv with hv | hv
      · rw [if_pos hv]
      · have g := zix_big (by omega) hv
        rw [if_neg g.1, if_neg (show ¬ v ≤ 60 from (g.2 60 (by omega)).1)]
    · have q : f9_in v.toInt64 0 60 = some 0 := by
        rcases hv with hv | hv
        · exact in_neg (n := 60) (by omega) hv
        · exact in_big (n := 60) (by omega) hv
      rw [f9_nights, q]
      rfl
  rcases pk_ix v (n := 61) (by omega) with hv | hv | ⟨n, hn, rfl⟩
  · exact out (Or.inl hv)
  · exact out (Or.inr hv)
  obtain ⟨M2, u1, u2, u3⟩ := c_push hn6 f1 (lN (zshN p e w)) (M.1 1 2)
  have o2 := o_X2_push u1
  have tc2 := tc.to (o2.1 11 (by simp) (by simp)).1 (o2.1 12 (by simp) (by simp)).1
  have hW2 : zWS M2 1 (p, e, w, M.1 1 2) := ⟨hW.to (o2.1 1 (by simp) (by simp)).1 (o2.1 2 (by simp) (by simp)).1, by rw [(o2.1 1 (by simp) (by simp)).1]⟩
  obtain ⟨M3, y1, y2, y3⟩ := c_passN tc2 hW2 hC (n := n) (by omega)
  have h8 : f8_nights (nI n) M = some (nI ((zNn t n (p, e, w, M.1 1 2)).1 + (zNn t n (p, e, w, M.1 1 2)).2.1), M3) := by
    rw [f8_nights, if_neg (nI_pos (by omega)), if_pos (show nI n ≤ 60 from nI_le (b := 60) (by omega) (by omega)), c_shape hW hc1, Option.bind_some, u1, Option.bind_some, y1]
    rfl
  have o3 := o_X8_passNights y1
  have o8 := o_X8_nights h8
  have m41 := (o8.1 41 (by simp) (by simp)).1
  have k18 : M3.1 39 18 = nI n6 := by rw [o8.2 18 (by simp) (by simp), f2]
  -- the reference
  obtain ⟨X1, a1, a2, a3⟩ := r_puts (M := zsi M3 39 0 0) hn6 (by simp [zsi1, k18])
  have oX := o_X9_putsBy a1
  have x41 : X1.1 41 = M.1 41 := by
    rw [(oX.1 41 (by simp) (by simp)).1, ← m41]
    funext j
    simp [zsi1]
  have hR1 : zRS X1 41 (p, e, w, M.1 1 2) := ⟨hR.to x41, by rw [x41, hN]⟩
  have tr1 : zCr X1 t := tr.to (by rw [oX.2 14 (by simp) (by simp)]; simp [zsi1, o8.2 14 (by simp) (by simp)]) (by rw [(oX.1 45 (by simp) (by simp)).1]; funext j; simp [zsi1, (o8.1 45 (by simp) (by simp)).1])
  obtain ⟨X2, b1, b2⟩ := r_nights tr1 hR1 hC (by omega) (by omega) (n := n) (by omega)
  have oX2 := o_X9_goesOn b1
  have hC' := zNn_C (t := t) hC n
  obtain ⟨X3, d1, d2⟩ := r_tell ((nI p - nI (zNn t n (p, e, w, M.1 1 2)).1).toInt64) X2
  have oX3 := o_X9_enters d1
  obtain ⟨X4, g1, g2⟩ := d2.add (by simp) ((nI e - nI (zNn t n (p, e, w, M.1 1 2)).2.1).toInt64)
  have oX4 := o_X9_enters g1
  have s41 : X3.1 41 = X2.1 41 := by
    rw [(oX3.1 41 (by simp) (by simp)).1]
    funext j
    simp [zsi1]
  have s41' : X4.1 41 = X2.1 41 := by rw [(oX4.1 41 (by simp) (by simp)).1, s41]
  have q18 : X4.1 39 18 = nI n6 := by
    rw [oX4.2 18 (by simp) (by simp), oX3.2 18 (by simp) (by simp)]
    simp only [zsi1]
    rw [if_neg (by omega), oX2.2 18 (by simp) (by simp), oX.2 18 (by simp) (by simp)]
    simp [zsi1, k18]
  obtain ⟨X5, p1, p2, p3⟩ := r_adds hn6 q18 (nI ((zNn t n (p, e, w, M.1 1 2)).1 + (zNn t n (p, e, w, M.1 1 2)).2.1))
  have oX5 := o_X9_adds p1
  have h9 : f9_nights (nI n) M3 = some (nI ((zNn t n (p, e, w, M.1 1 2)).1 + (zNn t n (p, e, w, M.1 1 2)).2.1), X5) := by
    have q : f9_in (nI n).toInt64 0 60 = some 1 := in_ok (n := 60) (by omega) (by omega)
    have e6 : (zsi X2 39 1 0).1 41 6 = nI (zNn t n (p, e, w, M.1 1 2)).1 := by simp [zsi1, b2.1.1]
    rw [f9_nights, q, Option.bind_some, if_neg (by decide), a1, Option.bind_some, b1, Option.bind_some, hR1.1.1, hR1.1.2.1, e6, d1, Option.bind_some, s41, b2.1.2.1, g1, Option.bind_some, f9_threadsOf, s41', b2.1.1, b2.1.2.1, nI_add, Option.bind_some, p1]
    rfl
  have o9 := o_X9_nights h9
  have r1 := (o9.1 1 (by simp) (by simp)).1
  have r2 := (o9.1 2 (by simp) (by simp)).1
  have f41 : X5.1 41 = X2.1 41 := by rw [(oX5.1 41 (by simp) (by simp)).1, s41']
  refine ⟨_, _, _, h8, h9, zInv_to h (o8.trans o9) (Or.inr ⟨_, _, _, hC', y2.1.to r1 r2, b2.1.to f41, by rw [f41, b2.2, r1, y2.2]⟩) (Or.inl rfl) (Or.inr ⟨_, zR8_to (o9.same rfl) y3, zR9_to (oX5.same rfl) g2⟩) (Or.inl rfl) (Or.inl rfl) (Or.inr (iF_add hA h.2.2.2.2.2.1 ?_ ?_)) (Or.inl rfl) (Or.inl rfl)⟩
  · intro n' hn' g
    have : n' = n6 := by
      rw [f1, nI_eq (by omega) (by omega)] at g
      exact g.symm
    subst this
    rw [(o9.1 33 (by simp) (by simp)).1, (o9.1 34 (by simp) (by simp)).2, (o9.1 35 (by simp) (by simp)).1, (o3.1 33 (by simp) (by simp)).1, (o3.1 34 (by simp) (by simp)).2, (o3.1 35 (by simp) (by simp)).1]
    exact ⟨u2, u3⟩
  · intro n' hn' g
    have : n' = n6 := by
      rw [f2, nI_eq (by omega) (by omega)] at g
      exact g.symm
    subst this
    refine ⟨p2, fun i j hi hj => ?_⟩
    have m49 : M3.1 49 = M.1 49 := (o8.1 49 (by simp) (by simp)).1
    have x49 : X4.1 49 = X1.1 49 := by
      rw [(oX4.1 49 (by simp) (by simp)).1, (oX3.1 49 (by simp) (by simp)).1, ← (oX2.1 49 (by simp) (by simp)).1]
      funext j
      simp [zsi1]
    rw [p3 i j hi hj, x49]
    have hz : zmi n' = n' + 1 ∧ n' < 15 ∨ zmi n' = 15 ∧ n' = 15 := by unfold zmi; split <;> omega
    by_cases hl : i + 1 = zmi n'
    · rw [if_pos hl]
      have : zsf n' i = n' := by unfold zsf; split <;> omega
      rw [this, a3 j hj]
      simp [zsi1, m41]
    · rw [if_neg hl]
      have : zsf n' i < n' := by unfold zsf; split <;> omega
      rw [a2 _ j this hj]
      simp [zsi1, m49]
