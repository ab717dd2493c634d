/-! falls -/
theorem zP_falls_ok : zP_falls zInv := by
  intro c M hc h
  obtain ⟨p, e, w, hA⟩ := h.1
  obtain ⟨t, tc, tr⟩ := iE_c h.2.2.2.2.1
  obtain ⟨hC, hW, hR⟩ := iA_S hA
  generalize (p, e, w, M.1 1 2) = S at hC hW hR
  obtain ⟨M1, k1, k2⟩ := c_become (a := 3) hW (by omega)
  have o1 := o_X7_become k1
  have tc1 : zCc M1 11 t := tc.to (o1.1 11 (by simp) (by simp)).1 (o1.1 12 (by simp) (by simp)).1
  have r1 : M1.1 9 = M.1 9 ∧ M1.2 10 = M.2 10 := ⟨(o1.1 9 (by simp) (by simp)).1, (o1.1 10 (by simp) (by simp)).2⟩
  -- a night of the class, where it hangs together
  have cst : ∀ f j (x : zM), j ≤ 60 → zHbS (zNn t j S) = true → (zWS x 3 (zNn t j S) ∧ zCc x 11 t ∧ x.1 9 = M.1 9 ∧ x.2 10 = M.2 10) → ∃ y, f8_falls_13 (f + 1) (nI j) x = f8_falls_13 f (nI (j + 1)) y ∧ (zWS y 3 (zNn t (j + 1) S) ∧ zCc y 11 t ∧ y.1 9 = M.1 9 ∧ y.2 10 = M.2 10) := by
    rintro f j x hj hb ⟨x1, x2, x3, x4⟩
    have hCj := zNn_C (t := t) hC j
    obtain ⟨y, y1⟩ := c_isTog x1 hCj (by omega)
    have oy := o_X0_isTogether y1
    obtain ⟨z, z1, z2⟩ := c_gS (x2.to (oy.1 11 (by simp) (by simp)).1 (oy.1 12 (by simp) (by simp)).1) (x1.to (oy.1 3 (by simp) (by simp)).1 (oy.1 4 (by simp) (by simp)).1) hCj (by omega) (by omega)
    have oz := o_X4_goesOf z1
    have oyz := oy.trans oz
    obtain ⟨u, u1, u2, u3⟩ := c_pass (t := t) (x1.to (oyz.1 3 (by simp) (by simp)).1 (oyz.1 4 (by simp) (by simp)).1) hCj (by omega)
    have ou := o_X7_passNight u1
    have oa := oyz.trans ou
    refine ⟨u, ?_, u2, x2.to (oa.1 11 (by simp) (by simp)).1 (oa.1 12 (by simp) (by simp)).1, by rw [(oa.1 9 (by simp) (by simp)).1, x3], by rw [(oa.1 10 (by simp) (by simp)).2, x4]⟩
    rw [f8_falls_13, if_neg (show ¬ (60 : Int32) < nI j from nI_nlt (a := 60) (by omega) (by omega)), y1, Option.bind_some, hb]
    simp only []
    rw [if_neg (show ¬ nI (zi true) = 0 by decide), z1, Option.bind_some]
    simp only []
    rw [u1, Option.bind_some, nI_1]
  -- a night of the reference
  have rst : ∀ (M0 : zM) f j (x : zM), j ≤ 60 → zHbS (zNn t j S) = true → (zRS x 42 (zNn t j S) ∧ zCr x t ∧ x.1 39 1 = M0.1 39 1 ∧ x.2 40 = M0.2 40) → ∃ y, f9_falls_18 (f + 1) (nI j) x = f9_falls_18 f (nI (j + 1)) y ∧ (zRS y 42 (zNn t (j + 1) S) ∧ zCr y t ∧ y.1 39 1 = M0.1 39 1 ∧ y.2 40 = M0.2 40) := by
    rintro M0 f j x hj hb ⟨x1, x2, x3, x4⟩
    have hCj := zNn_C (t := t) hC j
    obtain ⟨y, y1, -⟩ := r_doesHang x1 hCj (by omega) (by omega)
    have oy := o_X9_doesHang y1
    obtain ⟨z, z1, z2, z3⟩ := r_gS (x2.to (oy.2 14 (by simp) (by simp)) (oy.1 45 (by simp) (by simp)).1) (x1.to (oy.1 42 (by simp) (by simp)).1) hCj (by omega) (by omega)
    have oz := o_X9_nightGoes z1
    have oa := oy.trans oz
    refine ⟨z, ?_, z2, x2.to (oa.2 14 (by simp) (by simp)) (oa.1 45 (by simp) (by simp)).1, by rw [oa.2 1 (by simp) (by simp), x3], by rw [(oa.1 40 (by simp) (by simp)).2, x4]⟩
    rw [f9_falls_18, if_neg (show ¬ (60 : Int32) < nI j from nI_nlt (a := 60) (by omega) (by omega)), y1, Option.bind_some, hb]
    simp only []
    rw [if_neg (show ¬ nI (zi true) = 0 by decide), z1, Option.bind_some, nI_1]
  by_cases ex : ∃ n, n ≤ 60 ∧ zHbS (zNn t n S) = false
  · obtain ⟨n0, ⟨hn0, hf0⟩, hmin⟩ := pk_least _ ex
    have htrue : ∀ j, j < n0 → zHbS (zNn t j S) = true := by
      intro j hj
      cases q : zHbS (zNn t j S)
      · exact absurd ⟨by omega, q⟩ (hmin j hj)
      · rfl
    rcases hS' : zNn t n0 S with ⟨p', e', w', nt'⟩
    have cl : ∃ M2, f8_falls_13 zfuel 0 M1 = some (nI n0, M2) ∧ zR8 M2 [(nI (p' + e')).toInt64] := by
      refine zloopP (F := fun f j x => f8_falls_13 f (nI j) x) (I := fun j x => zWS x 3 (zNn t j S) ∧ zCc x 11 t ∧ x.1 9 = M.1 9 ∧ x.2 10 = M.2 10) (P := fun o => ∃ M2, o = some (nI n0, M2) ∧ zR8 M2 [(nI (p' + e')).toInt64]) n0 (by omega) (k0 := 0) (by omega) (fun f j x _ hj hx => Or.inl (cst f j x (by omega) (htrue j hj) hx)) (fun f x hx => ?_) (x := M1) ⟨k2, tc1, r1⟩
      obtain ⟨x1, x2, x3, x4⟩ := hx
      obtain ⟨y, y1⟩ := c_isTog x1 (zNn_C (t := t) hC n0) (by omega)
      have oy := o_X0_isTogether y1
      have yW := x1.to (oy.1 3 (by simp) (by simp)).1 (oy.1 4 (by simp) (by simp)).1
      rw [hS'] at yW
      obtain ⟨z, z1, z2⟩ := c_tell (nI (p' + e')).toInt64 y
      refine ⟨z, ?_, z2⟩
      show f8_falls_13 (f + 1) (nI n0) x = _
      rw [f8_falls_13, if_neg (show ¬ (60 : Int32) < nI n0 from nI_nlt (a := 60) (by omega) (by omega)), y1, Option.bind_some, hf0]
      simp only []
      rw [if_pos (show nI (zi false) = 0 from rfl), f7_threads, yW.1.1, yW.1.2.1, nI_add, Option.bind_some, z1]
      rfl
    obtain ⟨M2, cl1, cl2⟩ := cl
    have h8 : f8_falls M = some (nI n0, M2) := by rw [f8_falls, k1, Option.bind_some, cl1]
    have o8 := o_X8_falls h8
    have o0 : zOut [] [0] M2 (zsi M2 39 0 0) := zOut.rf.si 39 0 0 (Or.inr ⟨rfl, by simp⟩)
    have oa := o8.trans o0
    obtain ⟨X1, a1, a2⟩ := r_copyS (hR.to (oa.1 41 (by simp) (by simp)).1) hC
    have oX1 := o_X9_copies a1
    have ob := oa.trans oX1
    have tr1 : zCr X1 t := tr.to (ob.2 14 (by simp) (by simp)) (ob.1 45 (by simp) (by simp)).1
    have rl : ∃ X2, f9_falls_18 zfuel 0 X1 = some (nI n0, X2) ∧ zR9 X2 [(nI (p' + e')).toInt64] := by
      refine zloopP (F := fun f j x => f9_falls_18 f (nI j) x) (I := fun j x => zRS x 42 (zNn t j S) ∧ zCr x t ∧ x.1 39 1 = X1.1 39 1 ∧ x.2 40 = X1.2 40) (P := fun o => ∃ X2, o = some (nI n0, X2) ∧ zR9 X2 [(nI (p' + e')).toInt64]) n0 (by omega) (k0 := 0) (by omega) (fun f j x _ hj hx => Or.inl (rst X1 f j x (by omega) (htrue j hj) hx)) (fun f x hx => ?_) (x := X1) ⟨a2, tr1, rfl, rfl⟩
      obtain ⟨x1, x2, x3, x4⟩ := hx
      obtain ⟨y, y1, -⟩ := r_doesHang x1 (zNn_C (t := t) hC n0) (by omega) (by omega)
      have oy := o_X9_doesHang y1
      have o39 : zOut [] [1] y (zsi y 39 1 0) := zOut.rf.si 39 1 0 (Or.inr ⟨rfl, by simp⟩)
      have yR := x1.to ((oy.trans o39).1 42 (by simp) (by simp)).1
      rw [hS'] at yR
      obtain ⟨z, z1, z2⟩ := r_tell (nI (p' + e')).toInt64 y
      refine ⟨z, ?_, z2⟩
      show f9_falls_18 (f + 1) (nI n0) x = _
      rw [f9_falls_18, if_neg (show ¬ (60 : Int32) < nI n0 from nI_nlt (a := 60) (by omega) (by omega)), y1, Option.bind_some, hf0]
      simp only []
      rw [if_pos (show nI (zi false) = 0 from rfl), f9_threadsOf, yR.1.1, yR.1.2.1, nI_add, Option.bind_some, z1]
      rfl
    obtain ⟨X2, rl1, rl2⟩ := rl
    have h9 : f9_falls M2 = some (nI n0, X2) := by rw [f9_falls, a1, Option.bind_some, rl1]
    exact ⟨_, _, _, h8, h9, zq h o8 (o_X9_falls h9) cl2 rl2 rfl rfl⟩
  · have htrue : ∀ j, j ≤ 60 → zHbS (zNn t j S) = true := by
      intro j hj
      cases q : zHbS (zNn t j S)
      · exact absurd ⟨j, hj, q⟩ ex
      · rfl
    obtain ⟨L, hL8, hL9⟩ := h.2.2.1
    have cl : ∃ M2, f8_falls_13 zfuel 0 M1 = some (-2, M2) ∧ M2.1 9 = M.1 9 ∧ M2.2 10 = M.2 10 := by
      refine zloopP (F := fun f j x => f8_falls_13 f (nI j) x) (I := fun j x => zWS x 3 (zNn t j S) ∧ zCc x 11 t ∧ x.1 9 = M.1 9 ∧ x.2 10 = M.2 10) (P := fun o => ∃ M2, o = some (-2, M2) ∧ M2.1 9 = M.1 9 ∧ M2.2 10 = M.2 10) 61 (by omega) (k0 := 0) (by omega) (fun f j x _ hj hx => Or.inl (cst f j x (by omega) (htrue j (by omega)) hx)) (fun f x hx => ⟨x, ?_, hx.2.2⟩) (x := M1) ⟨k2, tc1, r1⟩
      show f8_falls_13 (f + 1) (nI 61) x = _
      rw [f8_falls_13, if_pos (by decide)]
    obtain ⟨M2, cl1, cl2, cl3⟩ := cl
    have h8 : f8_falls M = some (-2, M2) := by rw [f8_falls, k1, Option.bind_some, cl1]
    have o8 := o_X8_falls h8
    have o0 : zOut [] [0] M2 (zsi M2 39 0 0) := zOut.rf.si 39 0 0 (Or.inr ⟨rfl, by simp⟩)
    have oa := o8.trans o0
    obtain ⟨X1, a1, a2⟩ := r_copyS (hR.to (oa.1 41 (by simp) (by simp)).1) hC
    have oX1 := o_X9_copies a1
    have ob := oa.trans oX1
    have tr1 : zCr X1 t := tr.to (ob.2 14 (by simp) (by simp)) (ob.1 45 (by simp) (by simp)).1
    have rl : ∃ X2, f9_falls_18 zfuel 0 X1 = some (-2, X2) ∧ X2.1 39 1 = X1.1 39 1 ∧ X2.2 40 = X1.2 40 := by
      refine zloopP (F := fun f j x => f9_falls_18 f (nI j) x) (I := fun j x => zRS x 42 (zNn t j S) ∧ zCr x t ∧ x.1 39 1 = X1.1 39 1 ∧ x.2 40 = X1.2 40) (P := fun o => ∃ X2, o = some (-2, X2) ∧ X2.1 39 1 = X1.1 39 1 ∧ X2.2 40 = X1.2 40) 61 (by omega) (k0 := 0) (by omega) (fun f j x _ hj hx => Or.inl (rst X1 f j x (by omega) (htrue j (by omega)) hx)) (fun f x hx => ⟨x, ?_, hx.2.2⟩) (x := X1) ⟨a2, tr1, rfl, rfl⟩
      show f9_falls_18 (f + 1) (nI 61) x = _
      rw [f9_falls_18, if_pos (by decide)]
    obtain ⟨X2, rl1, rl2, rl3⟩ := rl
    have h9 : f9_falls M2 = some (-2, X2) := by rw [f9_falls, a1, Option.bind_some, rl1]
    have o9 := o_X9_falls h9
    refine ⟨_, _, _, h8, h9, zq h o8 o9 (L := L) ?_ ?_ rfl rfl⟩
    · simp only [zR8, cl2, cl3]
      exact hL8
    · simp only [zR9, rl2, rl3, ob.2 1 (by simp) (by simp), (ob.1 40 (by simp) (by simp)).2]
      exact hL9
