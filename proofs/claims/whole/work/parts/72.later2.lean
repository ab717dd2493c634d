/-! later -/
theorem c_become {M : zM} {a b : Nat} {S : zS4} (h : zWS M b S) (hab : a ≠ b ∧ a ≠ b + 1 ∧ a + 1 ≠ b) : ∃ M', f7_become a b M = some M' ∧ zWS M' a S := by
  obtain ⟨h1, h2, h3⟩ := hab
  refine ⟨_, rfl, ⟨?_, ?_, fun i hi => ?_, fun j hj => ?_⟩, ?_⟩
  · simp only [zcpI]
    rw [if_neg (by omega)]
    simp [zsi1, h.1.1]
  · simp only [zcpI]
    rw [if_neg (by omega)]
    simp [zsi1, h1, Ne.symm h1, h.1.2.1]
  · simp only [zcpI, if_true]
    rw [pk_cpy_in (by omega) (by omega)]
    simp only [zsi1]
    rw [if_neg (by omega), if_neg (by omega), if_neg (by omega), show 0 + (i - 0) = i by omega]
    exact h.1.2.2.1 i hi
  · simp only [zcpI, if_true]
    rw [pk_cpy_in (by omega) (by omega)]
    simp only [zsi1]
    rw [if_neg (by omega), if_neg (by omega), if_neg (by omega), show 0 + (6 + j - 0) = 6 + j by omega]
    exact h.1.2.2.2 j hj
  · simp only [zcpI]
    rw [if_neg (by omega)]
    simp [zsi1, h1, Ne.symm h1, h.2]
def zwl (w : Nat → Nat) (n : Nat) : List Int64 := (List.range n).map fun i => (nI (w i)).toInt64
theorem zwl_succ (w : Nat → Nat) (n : Nat) : zwl w (n + 1) = zwl w n ++ [(nI (w n)).toInt64] := by
  unfold zwl
  rw [List.range_succ, List.map_append]
  rfl
theorem zwl_len (w : Nat → Nat) (n : Nat) : (zwl w n).length = n := by simp [zwl]
theorem r_copyS {M : zM} {S : zS4} (h : zRS M 41 S) (hc : zSC S) : ∃ M', f9_copies 42 41 M = some M' ∧ zRS M' 42 S := by
  obtain ⟨M', h1, h2⟩ := r_copies (a := 42) (b := 41) (by omega) M
  exact ⟨M', h1, h.1.cp hc.2.1 h2, by rw [h2 8 (by omega)]; exact h.2⟩
theorem iA_S {M : zM} {p e : Nat} {w : Nat → Nat} (h : iA M p e w) : zSC (p, e, w, M.1 1 2) ∧ zWS M 1 (p, e, w, M.1 1 2) ∧ zRS M 41 (p, e, w, M.1 1 2) := ⟨h.1, ⟨h.2.1, rfl⟩, h.2.2.1, h.2.2.2⟩
/-- a question: what class and reference answer, and both rows -/
theorem zq {c : Nat} {M M1 M2 : zM} {S s S' s' : List Nat} {L : List Int64} (h : zInv c M) (o8 : zOut S s M M1) (o9 : zOut S' s' M1 M2) (r8 : zR8 M1 L) (r9 : zR9 M2 L) (d1 : zdis [9, 10] [] S' s' = true) (d2 : zdis [1, 2, 41, 30, 31, 32, 60, 61, 11, 12, 45, 33, 34, 35, 49, 37, 38, 64, 65, 66, 7, 8, 43, 21, 24, 26] [32, 14, 18, 5, 7] (S ++ S') (s ++ s') = true) : zInv (c + 1) M2 := by
  have o := o8.trans o9
  have hs := o.same d2
  have sub : ∀ P p : List Nat, (∀ k, k ∈ P → k ∈ [1, 2, 41, 30, 31, 32, 60, 61, 11, 12, 45, 33, 34, 35, 49, 37, 38, 64, 65, 66, 7, 8, 43, 21, 24, 26]) → (∀ k, k ∈ p → k ∈ [32, 14, 18, 5, 7]) → zsame P p M M2 := fun P p h1 h2 => ⟨fun k hk => hs.1 k (h1 k hk), fun j hj => hs.2 j (h2 j hj)⟩
  obtain ⟨⟨p, e, w, hA⟩, ⟨n, t, hB⟩, hC, ⟨m, a, b, hD⟩, hE, hF, hG, hH⟩ := h
  exact ⟨⟨p, e, w, iA_to (sub _ _ (by simp) (by simp)) hA⟩, ⟨n, t, iBn_to (sub _ _ (by simp) (by simp)) hB⟩, ⟨L, zR8_to (o9.same d1) r8, r9⟩, ⟨m, a, b, iDn_to (sub _ _ (by simp) (by simp)) hD⟩, iE_to (sub _ _ (by simp) (by simp)) hE, iF_to (sub _ _ (by simp) (by simp)) hF, iG_to (sub _ _ (by simp) (by simp)) hG, iH_to (sub _ _ (by simp) (by simp)) hH⟩
theorem zP_later_ok : zP_later zInv := by
  intro c M v hc h
  obtain ⟨p, e, w, hA⟩ := h.1
  obtain ⟨t, tc, tr⟩ := iE_c h.2.2.2.2.1
  obtain ⟨hC, hW, hR⟩ := iA_S hA
  have fin0 : zInv (c + 1) (zsi M 39 0 0) := zInv_to h (S := []) (s := [0]) (zOut.rf.si 39 0 0 (Or.inr ⟨rfl, by simp⟩)) (Or.inl rfl) (Or.inl rfl) (Or.inl rfl) (Or.inl rfl) (Or.inl rfl) (Or.inl rfl) (Or.inl rfl) (Or.inl rfl)
  have out : (v < 0 ∨ nI 61 ≤ v) → ∃ (r : Int32) (M1 M2 : zM), f8_later v M = some (r, M1) ∧ f9_later v M1 = some (r, M2) ∧ zInv (c + 1) M2 := by
    intro hv
    refine ⟨-1, M, zsi M 39 0 0, ?_, ?_, fin0⟩
    · rw [f8_later]
      rcases hv with hv | hv
      · rw [if_pos hv]
      · have g := zix_big (by omega) hv
        rw [if_neg g.1, if_neg (show ¬ v ≤ 60 from (g.2 60 (by omega)).1)]
    · have q : f9_in v.toInt64 0 60 = some 0 := by
        rcases hv with hv | hv
        · exact in_neg (n := 60) (by omega) hv
        · exact in_big (n := 60) (by omega) hv
      rw [f9_later, q]
      rfl
  rcases pk_ix v (n := 61) (by omega) with hv | hv | ⟨n, hn, rfl⟩
  · exact out (Or.inl hv)
  · exact out (Or.inr hv)
  generalize (p, e, w, M.1 1 2) = S at hC hW hR
  have hC' := zNn_C (t := t) hC n
  rcases hS' : zNn t n S with ⟨p', e', w', nt'⟩
  have hC2 : zSC (p', e', w', nt') := by rw [← hS']; exact hC'
  have hp6 : p' ≤ 6 := hC2.2.1
  obtain ⟨M1, k1, k2⟩ := c_become (a := 3) hW (by omega)
  have o1 := o_X7_become k1
  -- the class's nights
  have cl : ∃ M2, f8_later_25 zfuel (nI n) 0 M1 = some (nI (p' + e'), M2) ∧ zR8 M2 ((nI p').toInt64 :: (nI e').toInt64 :: zwl w' p') := by
    refine zloopP (F := fun f j x => f8_later_25 f (nI n) (nI j) x) (I := fun j x => zWS x 3 (zNn t j S) ∧ zCc x 11 t) (P := fun o => ∃ M2, o = some (nI (p' + e'), M2) ∧ zR8 M2 ((nI p').toInt64 :: (nI e').toInt64 :: zwl w' p')) n (by omega) (k0 := 0) (by omega) (fun f j x _ hj hx => Or.inl ?_) (fun f x hx => ?_) (x := M1) ⟨k2, tc.to (o1.1 11 (by simp) (by simp)).1 (o1.1 12 (by simp) (by simp)).1⟩
    · obtain ⟨x1, x2⟩ := hx
      have hC := zNn_C (t := t) hC j
      obtain ⟨y, y1, y2⟩ := c_gS x2 x1 hC (by omega) (by omega)
      obtain ⟨z, z1, z2, z3⟩ := c_pass (t := t) (x1.to (y2 3 (by omega)) (y2 4 (by omega))) hC (by omega)
      refine ⟨z, ?_, z2, x2.to (by rw [z3 11 (by omega) (by omega) (by omega), y2 11 (by omega)]) (by rw [z3 12 (by omega) (by omega) (by omega), y2 12 (by omega)])⟩
      show f8_later_25 (f + 1) _ (nI j) x = _
      rw [f8_later_25, if_neg (nI_ge hj (by omega)), y1, Option.bind_some]
      simp only []
      rw [z1, Option.bind_some, nI_1]
    · obtain ⟨x1, x2⟩ := hx
      rw [hS'] at x1
      obtain ⟨y, y1, y2⟩ := c_tell2 (x.1 3 0).toInt64 (x.1 3 1).toInt64 x
      have oy := o_X3_tell_ y1
      have w3 := x1.to (oy.1 3 (by simp) (by simp)).1 (oy.1 4 (by simp) (by simp)).1
      have e25 : f8_later_25 (f + 1) (nI n) (nI n) x = f8_later_79 zfuel 0 y := by
        rw [f8_later_25, if_pos (nI_le (Nat.le_refl _) (by omega)), y1, Option.bind_some]
      rw [e25]
      rw [x1.1.1, x1.1.2.1] at y2
      refine zloopP (F := fun f j x => f8_later_79 f (nI j) x) (I := fun j x => zWS x 3 (p', e', w', nt') ∧ zR8 x ((nI p').toInt64 :: (nI e').toInt64 :: zwl w' j)) (P := fun o => ∃ M2, o = some (nI (p' + e'), M2) ∧ zR8 M2 ((nI p').toInt64 :: (nI e').toInt64 :: zwl w' p')) p' (by omega) (k0 := 0) (by omega) (fun f j x _ hj hx => Or.inl ?_) (fun f x hx => ?_) (x := y) ⟨w3, y2⟩
      · obtain ⟨x1, x2⟩ := hx
        obtain ⟨z, z1, z2⟩ := x2.add (by simp [zwl_len]; omega) (nI (w' j)).toInt64
        have oz := o_X3_add z1
        refine ⟨z, ?_, x1.to (oz.1 3 (by simp) (by simp)).1 (oz.1 4 (by simp) (by simp)).1, by rw [zwl_succ]; exact z2⟩
        show f8_later_79 (f + 1) (nI j) x = _
        have hcl : f7_cellsOf 3 0 (nI j) x = some (nI (w' j)) := c_cells x1.1 (kd := 0) (by omega) (by omega)
        rw [f8_later_79, x1.1.1, if_neg (nI_ge hj (by omega)), hcl, Option.bind_some, z1, Option.bind_some, nI_1]
      · obtain ⟨x1, x2⟩ := hx
        refine ⟨x, ?_, x2⟩
        show f8_later_79 (f + 1) (nI p') x = _
        rw [f8_later_79, x1.1.1, if_pos (nI_le (Nat.le_refl _) (by omega)), f7_threads, x1.1.1, x1.1.2.1, nI_add]
        rfl
  obtain ⟨M2, cl1, cl2⟩ := cl
  have h8 : f8_later (nI n) M = some (nI (p' + e'), M2) := by
    rw [f8_later, if_neg (nI_pos (by omega)), if_pos (show nI n ≤ 60 from nI_le (b := 60) (by omega) (by omega)), k1, Option.bind_some, cl1]
  have o8 := o_X8_later h8
  -- the reference
  have o0 : zOut [] [0] M2 (zsi M2 39 0 0) := zOut.rf.si 39 0 0 (Or.inr ⟨rfl, by simp⟩)
  have oa := o8.trans o0
  obtain ⟨X1, a1, a2⟩ := r_copyS (hR.to (oa.1 41 (by simp) (by simp)).1) hC
  have oX1 := o_X9_copies a1
  have ob := oa.trans oX1
  have tr1 : zCr X1 t := tr.to (ob.2 14 (by simp) (by simp)) (ob.1 45 (by simp) (by simp)).1
  obtain ⟨X2, b1, b2⟩ := r_nights tr1 a2 hC (by omega) (by omega) (n := n) (by omega)
  rw [hS'] at b2
  obtain ⟨X3, d1, d2⟩ := r_tell ((nI p').toInt64) X2
  have oX3 := o_X9_enters d1
  obtain ⟨X4, g1, g2⟩ := d2.add (by simp) ((nI e').toInt64)
  have oX4 := o_X9_enters g1
  have o39 : zOut [] [1] X2 (zsi X2 39 1 0) := zOut.rf.si 39 1 0 (Or.inr ⟨rfl, by simp⟩)
  have oc := (o39.trans oX3).trans oX4
  have s42 : X3.1 42 = X2.1 42 := ((o39.trans oX3).1 42 (by simp) (by simp)).1
  have rl : ∃ X5, f9_later_70 zfuel 0 X4 = some (nI (p' + e'), X5) ∧ zR9 X5 ((nI p').toInt64 :: (nI e').toInt64 :: zwl w' p') := by
    refine zloopP (F := fun f j x => f9_later_70 f (nI j) x) (I := fun j x => zRS x 42 (p', e', w', nt') ∧ zR9 x ((nI p').toInt64 :: (nI e').toInt64 :: zwl w' j)) (P := fun o => ∃ X5, o = some (nI (p' + e'), X5) ∧ zR9 X5 ((nI p').toInt64 :: (nI e').toInt64 :: zwl w' p')) p' (by omega) (k0 := 0) (by omega) (fun f j x _ hj hx => Or.inl ?_) (fun f x hx => ?_) (x := X4) ⟨b2.to (oc.1 42 (by simp) (by simp)).1, g2⟩
    · obtain ⟨x1, x2⟩ := hx
      obtain ⟨z, z1, z2⟩ := x2.add (by simp [zwl_len]; omega) (nI (w' j)).toInt64
      have oz := o_X9_enters z1
      refine ⟨z, ?_, x1.to (oz.1 42 (by simp) (by simp)).1, by rw [zwl_succ]; exact z2⟩
      show f9_later_70 (f + 1) (nI j) x = _
      rw [f9_later_70, x1.1.1, if_neg (nI_ge hj (by omega)), zaI_n (by omega) (by omega), x1.1.2.2 j hj, Option.bind_some, z1, Option.bind_some, nI_1]
    · obtain ⟨x1, x2⟩ := hx
      refine ⟨x, ?_, x2⟩
      show f9_later_70 (f + 1) (nI p') x = _
      rw [f9_later_70, x1.1.1, if_pos (nI_le (Nat.le_refl _) (by omega)), f9_threadsOf, x1.1.1, x1.1.2.1, nI_add]
      rfl
  obtain ⟨X5, rl1, rl2⟩ := rl
  have h9 : f9_later (nI n) M2 = some (nI (p' + e'), X5) := by
    have q : f9_in (nI n).toInt64 0 60 = some 1 := in_ok (n := 60) (by omega) (by omega)
    have e6 : (zsi X2 39 1 0).1 42 6 = nI p' := by simp [zsi1, b2.1.1]
    rw [f9_later, q, Option.bind_some, if_neg (by decide), a1, Option.bind_some, b1, Option.bind_some, e6, d1, Option.bind_some, s42, b2.1.2.1, g1, Option.bind_some, rl1]
  exact ⟨_, _, _, h8, h9, zq h o8 (o_X9_later h9) cl2 rl2 rfl rfl⟩
