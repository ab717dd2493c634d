/-! undo, keep, again -/
theorem c_fillJ (a n0 : Nat) (v : Int64) (M : zM) (hn : n0 < 4999) : ∃ M', fJ7_fillJ a n0 v M = some M' ∧ ∀ i, i < n0 → M'.2 a i = v := by
  rw [fJ7_fillJ, show Int32.ofNat n0 = nI n0 from rfl]
  refine zloopP (F := fun f n x => fJ7_fillJ_6 a n0 f v (nI n) (nI n0) x) (I := fun n x => ∀ i, i < n → x.2 a i = v) (P := fun o => ∃ M', o = some M' ∧ ∀ i, i < n0 → M'.2 a i = v) n0 hn (k0 := 0) (by omega) (fun f n x _ hn2 hx => Or.inl ⟨zsj x a n v, ?_, fun i hi => ?_⟩) (fun f x hx => ⟨x, ?_, hx⟩) (fun i hi => by omega)
  · show fJ7_fillJ_6 a n0 (f + 1) v (nI n) (nI n0) x = _
    rw [fJ7_fillJ_6]
    simp (disch := omega) only [zl0, zl1, zl2, zl3, zl4, zl5, zl6, zl7, zl8, zl9, zl10, zl11, zl12, nI_add, nI_sub, nI_mul, zaI_n, zaJ_n, zpI_n, zpJ_n, Option.bind_some, nI_le, nI_ge, nI_lt, nI_nlt, nI_ne, ↓reduceIte, if_true, if_false]
  · rw [zsj2]
    by_cases hin : i = n
    · simp [hin]
    · rw [if_neg (by omega)]
      exact hx i (by omega)
  · show fJ7_fillJ_6 a n0 (f + 1) v (nI n0) (nI n0) x = _
    rw [fJ7_fillJ_6]
    simp (disch := omega) only [zl0, zl1, zl2, zl3, zl4, zl5, zl6, zl7, zl8, zl9, zl10, zl11, zl12, nI_add, nI_sub, nI_mul, zaI_n, zaJ_n, zpI_n, zpJ_n, Option.bind_some, nI_le, nI_ge, nI_lt, nI_nlt, nI_ne, ↓reduceIte, if_true, if_false]
theorem c_fillI (a n0 : Nat) (v : Int32) (M : zM) (hn : n0 < 4999) : ∃ M', fJ7_fillI a n0 v M = some M' ∧ ∀ i, i < n0 → M'.1 a i = v := by
  rw [fJ7_fillI, show Int32.ofNat n0 = nI n0 from rfl]
  refine zloopP (F := fun f n x => fJ7_fillI_5 a n0 f v (nI n) (nI n0) x) (I := fun n x => ∀ i, i < n → x.1 a i = v) (P := fun o => ∃ M', o = some M' ∧ ∀ i, i < n0 → M'.1 a i = v) n0 hn (k0 := 0) (by omega) (fun f n x _ hn2 hx => Or.inl ⟨zsi x a n v, ?_, fun i hi => ?_⟩) (fun f x hx => ⟨x, ?_, hx⟩) (fun i hi => by omega)
  · show fJ7_fillI_5 a n0 (f + 1) v (nI n) (nI n0) x = _
    rw [fJ7_fillI_5]
    simp (disch := omega) only [zl0, zl1, zl2, zl3, zl4, zl5, zl6, zl7, zl8, zl9, zl10, zl11, zl12, nI_add, nI_sub, nI_mul, zaI_n, zaJ_n, zpI_n, zpJ_n, Option.bind_some, nI_le, nI_ge, nI_lt, nI_nlt, nI_ne, ↓reduceIte, if_true, if_false]
  · rw [zsi1]
    by_cases hin : i = n
    · simp [hin]
    · rw [if_neg (by omega)]
      exact hx i (by omega)
  · show fJ7_fillI_5 a n0 (f + 1) v (nI n0) (nI n0) x = _
    rw [fJ7_fillI_5]
    simp (disch := omega) only [zl0, zl1, zl2, zl3, zl4, zl5, zl6, zl7, zl8, zl9, zl10, zl11, zl12, nI_add, nI_sub, nI_mul, zaI_n, zaJ_n, zpI_n, zpJ_n, Option.bind_some, nI_le, nI_ge, nI_lt, nI_nlt, nI_ne, ↓reduceIte, if_true, if_false]
theorem c_empty (a n0 : Nat) (M : zM) (hn : n0 < 4999) : ∃ M', f2_empty a n0 M = some M' ∧ M'.1 a 2 = 0 ∧ ∀ i, i < n0 → M'.2 (a + 1) i = 0 := by
  obtain ⟨M', h1, h2⟩ := c_fillJ (a + 1) n0 0 (zsi M a 2 0) hn
  have o := o_J7_fill_d0a16 h1
  refine ⟨M', by rw [f2_empty, h1]; rfl, ?_, h2⟩
  by_cases h9 : a = 39
  · subst h9
    rw [o.2 2 (by simp) (by simp)]
    simp [zsi1]
  · rw [(o.1 a (by simp) h9).1]
    simp [zsi1]
theorem c_bring {M : zM} {a n0 i p e : Nat} {w : Nat → Nat} (hc : zCl p e w) (hi : i < n0) (hn : n0 < 4999) (ha : 1 < a) (hs : M.2 (a + 1) i = lN (zshN p e w)) : ∃ M', f2_bringBack a n0 (nI i) 1 M = some M' ∧ zWc M' 1 p e w ∧ M'.1 1 2 = M.1 (a + 2) i := by
  have q : f2_holds a n0 (nI i) M = some 1 := by
    rw [f2_holds, show Int32.ofNat n0 = nI n0 from rfl, if_neg (nI_pos (by omega)), if_neg (nI_ge hi (by omega)), zaJ_n hi (by omega), hs, Option.bind_some, if_neg]
    rw [lgc_eq]
    exact zsh_ne0 hc
  obtain ⟨M', h1, h2, h3⟩ := c_takeShape hc M 1
  have o := o_X7_takeShape h1
  have e : M'.1 (a + 2) i = M.1 (a + 2) i := by
    by_cases h9 : a + 2 = 39
    · rw [h9, o.2 i (by simp) (by simp)]
    · rw [(o.1 (a + 2) (by simp; omega) h9).1]
  refine ⟨zsi M' 1 2 (M.1 (a + 2) i), ?_, ⟨?_, ?_, fun j hj => ?_, fun j hj => ?_⟩, by simp [zsi1]⟩
  · rw [f2_bringBack, q, Option.bind_some, if_neg (by decide), zaJ_n hi (by omega), hs, Option.bind_some, h1, Option.bind_some, zaI_n hi (by omega), e]
    rfl
  · simp [zsi1, h2.1]
  · simp [zsi1, h2.2.1]
  · simpa [zsi1] using h2.2.2.1 j hj
  · simpa [zsi1] using h2.2.2.2 j hj
theorem zP_undo_ok : zP_undo zInv := by
  intro c M hc h
  obtain ⟨p, e, w, hA⟩ := h.1
  obtain ⟨n, hn, f1, f2, f3⟩ := h.2.2.2.2.2.1
  have e18 : (zsi M 39 0 0).1 39 18 = nI n := by simp [zsi1, f2]
  by_cases h0 : n = 0
  · subst h0
    have h8 : f8_undo M = some (-1, M) := by rw [f8_undo, f1, if_pos nI_0]
    have h9 : f9_undo M = some (-1, zsi M 39 0 0) := by rw [f9_undo, e18, if_pos nI_0]
    refine ⟨_, _, _, h8, h9, zInv_to h (S := []) (s := [0]) (zOut.rf.si 39 0 0 (Or.inr ⟨rfl, by simp⟩)) (Or.inl rfl) (Or.inl rfl) (Or.inl rfl) (Or.inl rfl) (Or.inl rfl) (Or.inl rfl) (Or.inl rfl) (Or.inl rfl)⟩
  · obtain ⟨m, rfl⟩ : ∃ m, n = m + 1 := ⟨n - 1, by omega⟩
    obtain ⟨p', e', w', g1, g2, g3, g4, g5, g6⟩ := f3 m (by omega)
    have hs : (zsi M 33 2 (nI m)).2 34 m = lN (zshN p' e' w') := by rw [zsi2]; exact g2
    obtain ⟨M1, k1, k2, k3⟩ := c_bring (M := zsi M 33 2 (nI m)) (a := 33) (n0 := 15) g1 (by omega) (by omega) (by omega) hs
    have o1 := o_X2_bringBack k1
    have e33 : M1.1 33 2 = nI m := by
      rw [(o1.1 33 (by simp) (by simp)).1]
      simp [zsi1]
    have h8 : f8_undo M = some (nI m, M1) := by
      rw [f8_undo, f1, if_neg (nI_ne0 (by omega) (by omega)), nI_pred, show (zsi M 33 2 (nI m)).1 33 2 = nI m by simp [zsi1], k1, Option.bind_some, e33]
    have o8 := o_X8_undo h8
    have m39 : M1.1 39 18 = nI (m + 1) := by rw [o8.2 18 (by simp) (by simp), f2]
    have m49 : M1.1 49 = M.1 49 := (o8.1 49 (by simp) (by simp)).1
    have key : ∃ M2, f9_undo M1 = some (nI m, M2) ∧ M2.1 39 18 = nI m ∧ ∀ j, j < 9 → M2.1 41 j = M.1 49 (9 * m + j) := by
      have q1 : (zsi M1 39 0 0).1 39 18 = nI (m + 1) := by simp [zsi1, m39]
      rw [f9_undo, q1, if_neg (nI_ne0 (by omega) (by omega)), nI_pred]
      refine zloopP (F := fun f j x => f9_undo_26 f (nI j) x) (I := fun j x => x.1 39 18 = nI m ∧ (∀ i, x.1 49 i = M.1 49 i) ∧ ∀ i, i < j → x.1 41 i = M.1 49 (9 * m + i)) (P := fun o => ∃ M2, o = some (nI m, M2) ∧ M2.1 39 18 = nI m ∧ ∀ j, j < 9 → M2.1 41 j = M.1 49 (9 * m + j)) 9 (by omega) (k0 := 0) (by omega) (fun f j x _ hj hx => Or.inl ?_) (fun f x hx => ?_) ⟨by simp [zsi1], fun i => by simp [zsi1, m49], fun i hi => by omega⟩
      · obtain ⟨x1, x2, x3⟩ := hx
        refine ⟨zsi x 41 j (M.1 49 (9 * m + j)), ?_, by simp [zsi1, x1], fun i => by simp [zsi1, x2], fun i hi => ?_⟩
        · show f9_undo_26 (f + 1) (nI j) x = _
          rw [f9_undo_26]
          simp (disch := omega) only [zl0, zl1, zl2, zl3, zl4, zl5, zl6, zl7, zl8, zl9, zl10, zl11, zl12, nI_add, nI_sub, nI_mul, zaI_n, zaJ_n, zpI_n, zpJ_n, Option.bind_some, nI_le, nI_ge, nI_lt, nI_nlt, nI_ne, ↓reduceIte, if_true, if_false, x1, x2]
        · rw [zsi1]
          by_cases hij : i = j
          · simp [hij]
          · rw [if_neg (by omega)]
            exact x3 i (by omega)
      · obtain ⟨x1, x2, x3⟩ := hx
        refine ⟨x, ?_, x1, x3⟩
        show f9_undo_26 (f + 1) (nI 9) x = _
        rw [f9_undo_26, if_pos (by decide), x1]
    obtain ⟨M2, h9, z1, z2⟩ := key
    have o9 := o_X9_undo h9
    have q1 := (o9.1 1 (by simp) (by simp)).1
    have q2 := (o9.1 2 (by simp) (by simp)).1
    refine ⟨_, _, _, h8, h9, zInv_to h (o8.trans o9) (Or.inr ⟨p', e', w', g1, ?_, ⟨?_, ?_, fun i hi => ?_⟩, ?_⟩) (Or.inl rfl) (Or.inl rfl) (Or.inl rfl) (Or.inl rfl) (Or.inr ⟨m, by omega, ?_, z1, fun i hi => ?_⟩) (Or.inl rfl) (Or.inl rfl)⟩
    · simp only [zWc, q1, q2]
      exact k2
    · rw [z2 6 (by omega)]; exact g4
    · rw [z2 7 (by omega)]; exact g5
    · rw [z2 i (by have := g1.2.1; omega)]; exact g6 i hi
    · rw [z2 8 (by omega), q1, k3]
      simp only [zsi1]
      exact g3.symm
    · rw [(o9.1 33 (by simp) (by simp)).1, e33]
    · have r1 := (o8.1 34 (by simp) (by simp)).2
      have r2 := (o8.1 35 (by simp) (by simp)).1
      have r3 := (o9.1 34 (by simp) (by simp)).2
      have r4 := (o9.1 35 (by simp) (by simp)).1
      have r5 := (o9.1 49 (by simp) (by simp)).1
      rw [r3, r4, r5, r1, r2, m49]
      exact f3 i (by omega)
theorem c_putk {M : zM} {i : Nat} (hi : i < 3) (s : Int64) (t : Int32) : f2_put 36 3 (nI i) s t M = some (zsi (zsj M 37 i s) 38 i t) := by
  rw [f2_put, show Int32.ofNat 3 = nI 3 from rfl]
  simp (disch := omega) only [zl0, zl1, zl2, zl3, zl4, zl5, zl6, zl7, zl8, zl9, zl10, zl11, zl12, nI_add, nI_sub, nI_mul, zaI_n, zaJ_n, zpI_n, zpJ_n, Option.bind_some, nI_le, nI_ge, nI_lt, nI_nlt, nI_ne, ↓reduceIte, if_true, if_false]
theorem zP_keep_ok : zP_keep zInv := by
  intro c M v hc h
  obtain ⟨p, e, w, hA⟩ := h.1
  obtain ⟨hc1, hW, hR, hN⟩ := id hA
  obtain ⟨ch, hch, g1, g2⟩ := h.2.2.2.2.2.2.1
  have no : (v < 0 ∨ nI 3 ≤ v) → f8_keep v M = some (0, M) ∧ f9_keep v M = some (0, zsi M 39 0 0) := by
    intro hv
    constructor
    · rw [f8_keep]
      rcases hv with hv | hv
      · rw [if_pos hv]
      · rw [if_neg (zix_big (by omega) hv).1, if_neg (show ¬ v < 3 from Int32.not_lt.mpr hv)]
    · have q : f9_in v.toInt64 0 2 = some 0 := by
        rcases hv with hv | hv
        · exact in_neg (n := 2) (by omega) hv
        · exact in_big (n := 2) (by omega) hv
      rw [f9_keep, q]
      rfl
  have out : (v < 0 ∨ nI 3 ≤ v) → ∃ (r : Int32) (M1 M2 : zM), f8_keep v M = some (r, M1) ∧ f9_keep v M1 = some (r, M2) ∧ zInv (c + 1) M2 := by
    intro hv
    obtain ⟨h8, h9⟩ := no hv
    exact ⟨_, _, _, h8, h9, zInv_to h (S := []) (s := [0]) (zOut.rf.si 39 0 0 (Or.inr ⟨rfl, by simp⟩)) (Or.inl rfl) (Or.inl rfl) (Or.inl rfl) (Or.inl rfl) (Or.inl rfl) (Or.inl rfl) (Or.inl rfl) (Or.inl rfl)⟩
  rcases pk_ix v (n := 3) (by omega) with hv | hv | ⟨j, hj, rfl⟩
  · exact out (Or.inl hv)
  · exact out (Or.inr hv)
  have h8 : f8_keep (nI j) M = some (1, zsi (zsj M 37 j (lN (zshN p e w))) 38 j (M.1 1 2)) := by
    rw [f8_keep, if_neg (nI_pos (by omega)), show (3 : Int32) = nI 3 from rfl, if_pos (nI_lt hj (by omega)), c_shape hW hc1, Option.bind_some, c_putk hj]
    rfl
  have o8 := o_X8_keep h8
  generalize hM1 : zsi (zsj M 37 j (lN (zshN p e w))) 38 j (M.1 1 2) = M1 at h8 o8
  have r41 := (o8.1 41 (by simp) (by simp)).1
  have r5 : M1.1 39 5 = nI ch := by rw [o8.2 5 (by simp) (by simp), g1]
  have r64 := (o8.1 64 (by simp) (by simp)).1
  have r65 := (o8.1 65 (by simp) (by simp)).1
  have r66 := (o8.1 66 (by simp) (by simp)).1
  have m37 : ∀ i, M1.2 37 i = if i = j then lN (zshN p e w) else M.2 37 i := by
    intro i
    rw [← hM1]
    simp [zsi2, zsj2]
  have m38 : ∀ i, M1.1 38 i = if i = j then M.1 1 2 else M.1 38 i := by
    intro i
    rw [← hM1]
    simp [zsi1, zsj1]
  have key : ∃ M2, f9_keep (nI j) M1 = some (1, M2) ∧ (∀ i, M2.1 64 i = if i = j then 1 else M.1 64 i) ∧ (∀ i, M2.1 65 i = if i = j then nI ch else M.1 65 i) ∧ M2.1 39 5 = nI ch ∧ ∀ i k, i < 3 → k < 9 → M2.1 66 (9 * i + k) = if i = j then M.1 41 k else M.1 66 (9 * i + k) := by
    have q : f9_in (nI j).toInt64 0 2 = some 1 := in_ok (n := 2) (by omega) (by omega)
    have q1 : vp_nar .boolean 1 = 1 := by decide
    rw [f9_keep, q, Option.bind_some, if_neg (by decide), zpZ_n (by omega) (by omega), q1, Option.bind_some, zpI_n (by omega) (by omega), Option.bind_some]
    refine zloopP (F := fun f k x => f9_keep_38 f (nI j) (nI k) x) (I := fun k x => (∀ i, x.1 64 i = if i = j then 1 else M.1 64 i) ∧ (∀ i, x.1 65 i = if i = j then nI ch else M.1 65 i) ∧ x.1 39 5 = nI ch ∧ (∀ i, x.1 41 i = M.1 41 i) ∧ ∀ i k', i < 3 → k' < 9 → x.1 66 (9 * i + k') = if i = j ∧ k' < k then M.1 41 k' else M.1 66 (9 * i + k')) (P := fun o => ∃ M2, o = some (1, M2) ∧ (∀ i, M2.1 64 i = if i = j then 1 else M.1 64 i) ∧ (∀ i, M2.1 65 i = if i = j then nI ch else M.1 65 i) ∧ M2.1 39 5 = nI ch ∧ ∀ i k, i < 3 → k < 9 → M2.1 66 (9 * i + k) = if i = j then M.1 41 k else M.1 66 (9 * i + k)) 9 (by omega) (k0 := 0) (by omega) (fun f k x _ hk hx => Or.inl ?_) (fun f x hx => ?_) ⟨fun i => by simp [zsi1, r64], fun i => by simp [zsi1, r65, r5], by simp [zsi1, r5], fun i => by simp [zsi1, r41], fun i k hi hk => by simp [zsi1, r66]⟩
    · obtain ⟨x1, x2, x3, x4, x5⟩ := hx
      refine ⟨zsi x 66 (9 * j + k) (M.1 41 k), ?_, fun i => by simp [zsi1, x1], fun i => by simp [zsi1, x2], by simp [zsi1, x3], fun i => by simp [zsi1, x4], fun i k' hi hk' => ?_⟩
      · show f9_keep_38 (f + 1) (nI j) (nI k) x = _
        rw [f9_keep_38]
        simp (disch := omega) only [zl0, zl1, zl2, zl3, zl4, zl5, zl6, zl7, zl8, zl9, zl10, zl11, zl12, nI_add, nI_sub, nI_mul, zaI_n, zaJ_n, zpI_n, zpJ_n, Option.bind_some, nI_le, nI_ge, nI_lt, nI_nlt, nI_ne, ↓reduceIte, if_true, if_false, x4]
      · rw [zsi1]
        by_cases hi2 : i = j ∧ k' = k
        · obtain ⟨rfl, rfl⟩ := hi2
          simp
        · rw [if_neg (by omega), x5 i k' hi hk']
          by_cases hl : i = j ∧ k' < k
          · rw [if_pos hl, if_pos (by omega)]
          · rw [if_neg hl, if_neg (by omega)]
    · obtain ⟨x1, x2, x3, x4, x5⟩ := hx
      refine ⟨x, ?_, x1, x2, x3, fun i k hi hk => ?_⟩
      · show f9_keep_38 (f + 1) (nI j) (nI 9) x = _
        rw [f9_keep_38, if_pos (by decide)]
      · rw [x5 i k hi hk]
        by_cases hl : i = j
        · rw [if_pos hl, if_pos ⟨hl, hk⟩]
        · rw [if_neg hl, if_neg (fun q => hl q.1)]
  obtain ⟨M2, h9, z1, z2, z3, z4⟩ := key
  have o9 := o_X9_keep h9
  refine ⟨_, _, _, h8, h9, zInv_to h (o8.trans o9) (Or.inl rfl) (Or.inl rfl) (Or.inl rfl) (Or.inl rfl) (Or.inl rfl) (Or.inl rfl) (Or.inr ⟨ch, by omega, z3, fun i hi => ?_⟩) (Or.inl rfl)⟩
  rw [(o9.1 37 (by simp) (by simp)).2, (o9.1 38 (by simp) (by simp)).1, m37, m38, z1, z2]
  by_cases hij : i = j
  · subst hij
    simp only [if_true]
    refine Or.inr ⟨trivial, trivial, p, e, w, hc1, rfl, ?_, ?_, ?_, fun j' hj' => ?_⟩
    · show _ = M2.1 66 (9 * i + 8)
      rw [z4 i 8 hi (by omega), if_pos rfl, hN]
    · show M2.1 66 (9 * i + 6) = _
      rw [z4 i 6 hi (by omega), if_pos rfl, hR.1]
    · show M2.1 66 (9 * i + 7) = _
      rw [z4 i 7 hi (by omega), if_pos rfl, hR.2.1]
    · show M2.1 66 (9 * i + j') = _
      rw [z4 i j' hi (by have := hc1.2.1; omega), if_pos rfl, hR.2.2 j' hj']
  · simp only [if_neg hij]
    rcases g2 i hi with q | ⟨q1, q2, p', e', w', u1, u2, u3, u4, u5, u6⟩
    · exact Or.inl q
    · refine Or.inr ⟨q1, q2, p', e', w', u1, u2, ?_, ?_, ?_, fun j' hj' => ?_⟩
      · show _ = M2.1 66 (9 * i + 8)
        rw [z4 i 8 hi (by omega), if_neg hij]
        exact u3
      · show M2.1 66 (9 * i + 6) = _
        rw [z4 i 6 hi (by omega), if_neg hij]
        exact u4
      · show M2.1 66 (9 * i + 7) = _
        rw [z4 i 7 hi (by omega), if_neg hij]
        exact u5
      · show M2.1 66 (9 * i + j') = _
        rw [z4 i j' hi (by have := u1.2.1; omega), if_neg hij]
        exact u6 j' hj'
theorem zP_again_ok : zP_again zInv := by
  intro c M v hc h
  obtain ⟨p, e, w, hA⟩ := h.1
  obtain ⟨ch, hch, g1, g2⟩ := h.2.2.2.2.2.2.1
  obtain ⟨n15, hn15, f1, f2, f3⟩ := h.2.2.2.2.2.1
  have fin0 : zInv (c + 1) (zsi M 39 0 0) := zInv_to h (S := []) (s := [0]) (zOut.rf.si 39 0 0 (Or.inr ⟨rfl, by simp⟩)) (Or.inl rfl) (Or.inl rfl) (Or.inl rfl) (Or.inl rfl) (Or.inl rfl) (Or.inl rfl) (Or.inl rfl) (Or.inl rfl)
  have out : (v < 0 ∨ nI 3 ≤ v) → ∃ (r : Int32) (M1 M2 : zM), f8_again v M = some (r, M1) ∧ f9_again v M1 = some (r, M2) ∧ zInv (c + 1) M2 := by
    intro hv
    have h8 : f8_again v M = some (0, M) := by
      have q : f2_holds 36 3 v M = some 0 := by
        rw [f2_holds, show Int32.ofNat 3 = nI 3 from rfl]
        rcases hv with hv | hv
        · rw [if_pos hv]
        · rw [if_neg (zix_big (by omega) hv).1, if_pos hv]
      rw [f8_again, q]
      rfl
    have h9 : f9_again v M = some (0, zsi M 39 0 0) := by
      have q : f9_in v.toInt64 0 2 = some 0 := by
        rcases hv with hv | hv
        · exact in_neg (n := 2) (by omega) hv
        · exact in_big (n := 2) (by omega) hv
      rw [f9_again, q]
      rfl
    exact ⟨_, _, _, h8, h9, fin0⟩
  rcases pk_ix v (n := 3) (by omega) with hv | hv | ⟨j, hj, rfl⟩
  · exact out (Or.inl hv)
  · exact out (Or.inr hv)
  have q9 : f9_in (nI j).toInt64 0 2 = some 1 := in_ok (n := 2) (by omega) (by omega)
  rcases g2 j hj with ⟨u1, u2⟩ | ⟨u1, u2, p', e', w', y1, y2, y3, y4, y5, y6⟩
  · have h8 : f8_again (nI j) M = some (0, M) := by
      have q : f2_holds 36 3 (nI j) M = some 0 := by
        rw [f2_holds, show Int32.ofNat 3 = nI 3 from rfl, if_neg (nI_pos (by omega)), if_neg (nI_ge hj (by omega)), zaJ_n hj (by omega), u1]
        rfl
      rw [f8_again, q]
      rfl
    have h9 : f9_again (nI j) M = some (0, zsi M 39 0 0) := by
      have e64 : (zsi M 39 0 0).1 64 j = M.1 64 j := by simp [zsi1]
      have e65 : (zsi M 39 0 0).1 65 j = M.1 65 j := by simp [zsi1]
      have e5 : (zsi M 39 0 0).1 39 5 = nI ch := by simp [zsi1, g1]
      rw [f9_again, q9, Option.bind_some, if_neg (by decide), zaI_n hj (by omega), Option.bind_some, e64]
      by_cases hz : M.1 64 j = 0
      · rw [if_pos hz]
      · rcases u2 with u2 | ⟨kc, hk, u2⟩
        · exact absurd u2 hz
        · rw [if_neg hz, zaI_n hj (by omega), Option.bind_some, e65, e5, u2, if_neg (nI_ne (by omega) (by omega) (by omega))]
    exact ⟨_, _, _, h8, h9, fin0⟩
  · obtain ⟨M1, k1, k2, k3⟩ := c_bring (M := M) (a := 36) (n0 := 3) y1 hj (by omega) (by omega) y2
    have o1 := o_X2_bringBack k1
    obtain ⟨M1', k4, k5, k6⟩ := c_empty 33 15 M1 (by omega)
    have o1' := o_X2_empty k4
    have h8 : f8_again (nI j) M = some (1, M1') := by
      have q : f2_holds 36 3 (nI j) M = some 1 := by
        rw [f2_holds, show Int32.ofNat 3 = nI 3 from rfl, if_neg (nI_pos (by omega)), if_neg (nI_ge hj (by omega)), zaJ_n hj (by omega), y2, Option.bind_some, if_neg]
        rw [lgc_eq]
        exact zsh_ne0 y1
      rw [f8_again, q, Option.bind_some, if_neg (by decide), k1, Option.bind_some, k4]
      rfl
    have o8 := o_X8_again h8
    have m64 : M1'.1 64 j = 1 := by rw [(o8.1 64 (by simp) (by simp)).1, u1]
    have m65 : M1'.1 65 j = nI ch := by rw [(o8.1 65 (by simp) (by simp)).1, u2]
    have m5 : M1'.1 39 5 = nI ch := by rw [o8.2 5 (by simp) (by simp), g1]
    have m66 : M1'.1 66 = M.1 66 := (o8.1 66 (by simp) (by simp)).1
    have key : ∃ M2, f9_again (nI j) M1' = some (1, M2) ∧ M2.1 39 18 = 0 ∧ ∀ k, k < 9 → M2.1 41 k = M.1 66 (9 * j + k) := by
      have e64 : (zsi M1' 39 0 0).1 64 j = 1 := by simp [zsi1, m64]
      have e65 : (zsi M1' 39 0 0).1 65 j = nI ch := by simp [zsi1, m65]
      have e5 : (zsi M1' 39 0 0).1 39 5 = nI ch := by simp [zsi1, m5]
      rw [f9_again, q9, Option.bind_some, if_neg (by decide), zaI_n hj (by omega), Option.bind_some, e64, if_neg (by decide), zaI_n hj (by omega), Option.bind_some, e65, e5, if_pos rfl]
      refine zloopP (F := fun f k x => f9_again_43 f (nI j) (nI k) x) (I := fun k x => (∀ i, x.1 66 i = M.1 66 i) ∧ ∀ i, i < k → x.1 41 i = M.1 66 (9 * j + i)) (P := fun o => ∃ M2, o = some (1, M2) ∧ M2.1 39 18 = 0 ∧ ∀ k, k < 9 → M2.1 41 k = M.1 66 (9 * j + k)) 9 (by omega) (k0 := 0) (by omega) (fun f k x _ hk hx => Or.inl ?_) (fun f x hx => ?_) ⟨fun i => by simp [zsi1, m66], fun i hi => by omega⟩
      · obtain ⟨x1, x2⟩ := hx
        refine ⟨zsi x 41 k (M.1 66 (9 * j + k)), ?_, fun i => by simp [zsi1, x1], fun i hi => ?_⟩
        · show f9_again_43 (f + 1) (nI j) (nI k) x = _
          rw [f9_again_43]
          simp (disch := omega) only [zl0, zl1, zl2, zl3, zl4, zl5, zl6, zl7, zl8, zl9, zl10, zl11, zl12, nI_add, nI_sub, nI_mul, zaI_n, zaJ_n, zpI_n, zpJ_n, Option.bind_some, nI_le, nI_ge, nI_lt, nI_nlt, nI_ne, ↓reduceIte, if_true, if_false, x1]
        · rw [zsi1]
          by_cases hik : i = k
          · simp [hik]
          · rw [if_neg (by omega)]
            exact x2 i (by omega)
      · obtain ⟨x1, x2⟩ := hx
        refine ⟨zsi x 39 18 0, ?_, by simp [zsi1], fun k hk => ?_⟩
        · show f9_again_43 (f + 1) (nI j) (nI 9) x = _
          rw [f9_again_43, if_pos (by decide)]
        · rw [zsi1, if_neg (by omega)]
          exact x2 k hk
    obtain ⟨M2, h9, z1, z2⟩ := key
    have o9 := o_X9_again h9
    have q1 := (o9.1 1 (by simp) (by simp)).1
    have q2 := (o9.1 2 (by simp) (by simp)).1
    have q1' := (o1'.1 1 (by simp) (by simp)).1
    have q2' := (o1'.1 2 (by simp) (by simp)).1
    refine ⟨_, _, _, h8, h9, zInv_to h (o8.trans o9) (Or.inr ⟨p', e', w', y1, ?_, ⟨?_, ?_, fun i hi => ?_⟩, ?_⟩) (Or.inl rfl) (Or.inl rfl) (Or.inl rfl) (Or.inl rfl) (Or.inr ⟨0, by omega, ?_, z1, fun i hi => by omega⟩) (Or.inl rfl) (Or.inl rfl)⟩
    · simp only [zWc, q1, q2, q1', q2']
      exact k2
    · rw [z2 6 (by omega)]; exact y4
    · rw [z2 7 (by omega)]; exact y5
    · rw [z2 i (by have := y1.2.1; omega)]; exact y6 i hi
    · rw [z2 8 (by omega), q1, q1', k3]
      exact y3.symm
    · rw [(o9.1 33 (by simp) (by simp)).1, k5]
      rfl
