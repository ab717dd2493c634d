section RW
variable {M : zM} {n : Nat} {t : Nat → Nat}
theorem ru_two {X0 : zM} (hM : zTx M n t) (hX0 : zTr X0 n t) : (∃ s M1, s < 100 ∧ f4_readFrom 16 M = some (nI s, M1) ∧ ∀ X, zTr X n t → ∃ X1, f9_readsRule X = some (-1 - nI s, X1) ∧ X1.1 39 7 = nI 0) ∨ (∃ M1, f4_readFrom 16 M = some (-1, M1) ∧ ∀ X, zTr X n t → ∃ l X1, f9_readsRule X = some (0, X1) ∧ X1.1 39 7 = nI 0 ∧ zCc M1 16 l ∧ ((X1.1 39 15 = nI l.length ∧ ∀ i c, l[i]? = some c → X1.1 46 i = nI (zcr c)) ∨ (X1.1 39 15 = nI 0 ∧ l = [1099, 1105, 1045]))) := by
  rcases ru_pair hM hX0 with ⟨s, M1, X1, hs, a, b, c⟩ | ⟨l, M1, X1, a, b⟩
  · refine Or.inl ⟨s, M1, hs, a, fun X hX => ?_⟩
    rcases ru_pair hM hX with ⟨s', M1', X1', hs', a', b', c'⟩ | ⟨l', M1', X1', a', b'⟩
    · have e := (Prod.mk.inj (Option.some.inj (a.symm.trans a'))).1
      exact ⟨X1', by rw [e]; exact b', c'⟩
    · exact absurd (Prod.mk.inj (Option.some.inj (a.symm.trans a'))).1 (nI_nm1 (by omega))
  · refine Or.inr ⟨M1, a, fun X hX => ?_⟩
    rcases ru_pair hM hX with ⟨s', M1', X1', hs', a', b', c'⟩ | ⟨l', M1', X1', a', b'⟩
    · exact absurd (Prod.mk.inj (Option.some.inj (a'.symm.trans a))).1 (nI_nm1 (by omega))
    · have e := (Prod.mk.inj (Option.some.inj (a.symm.trans a'))).2
      rw [e]
      exact ⟨l', X1', b'⟩
theorem rtext_B {M1 X : zM} {s : Int32} (h9 : f9_readsRule (zsi (zsi M1 7 1 0) 39 0 0) = some (s, X)) (h7 : X.1 39 7 = nI 0) : iB X := by
  have o := (zOut.rf.si 39 0 0 (Or.inr ⟨rfl, by simp⟩) : zOut [] [0] (zsi M1 7 1 0) (zsi (zsi M1 7 1 0) 39 0 0)).trans (o_X9_readsRule h9)
  refine ⟨0, fun _ => 0, by omega, ?_, h7, fun i hi => absurd hi (by omega)⟩
  rw [(o.1 7 (by simp) (by simp)).1]
  simp [zsi1, nI_0]
theorem rtext {c : Nat} {M1 X : zM} {r s : Int32} (h : zInv c M) (h8 : f4_readFrom 16 M = some (r, M1)) (h9 : f9_readsRule (zsi (zsi M1 7 1 0) 39 0 0) = some (s, X)) (h7 : X.1 39 7 = nI 0) : zInv (c + 1) X :=
  zInv_to h (((o_X4_readFrom h8).trans (zOut.rf.si 7 1 0 (Or.inl (by simp)) : zOut [7] [] M1 (zsi M1 7 1 0))).trans ((zOut.rf.si 39 0 0 (Or.inr ⟨rfl, by simp⟩) : zOut [] [0] (zsi M1 7 1 0) (zsi (zsi M1 7 1 0) 39 0 0)).trans (o_X9_readsRule h9))) (Or.inl rfl) (Or.inr (rtext_B h9 h7)) (Or.inl rfl) (Or.inl rfl) (Or.inl rfl) (Or.inl rfl) (Or.inl rfl) (Or.inl rfl)
theorem rtxr {M1 : zM} {r : Int32} (hB : iBn M n t) (h8 : f4_readFrom 16 M = some (r, M1)) : zTr (zsi (zsi M1 7 1 0) 39 0 0) n t := by
  have o := o_X4_readFrom h8
  refine (iBn_tr hB).to ?_ ?_
  · rw [zsi1, if_neg (by decide), zsi_ne (by omega), o.2 7 (by simp) (by simp)]
  · rw [zsi_ne (by omega), zsi_ne (by omega), (o.1 43 (by simp) (by simp)).1]
theorem nI_neg0 {s : Nat} (h : s < 1000) : ¬ -1 - nI s = 0 := fun q => by
  have := nI_neg1 h
  rw [q] at this
  exact absurd this (by decide)
theorem zcpI_ne {M : zM} {src dst n q : Nat} (h : q ≠ dst) : (zcpI M src dst n).1 q = M.1 q := by
  simp only [zcpI]
  rw [if_neg h]
theorem zP_rule_ok : zP_rule zInv := by
  intro c M hc h
  obtain ⟨n, t, hB⟩ := h.2.1
  rcases ru_two (iBn_tx hB) (iBn_tr hB) with ⟨s, M1, hs, y8, a9⟩ | ⟨M1, y8, a9⟩
  · obtain ⟨X, y9, y7⟩ := a9 _ (rtxr hB y8)
    have h8 : f8_rule M = some (-1 - nI s, zsi M1 7 1 0) := by
      rw [f8_rule, y8, Option.bind_some]
      show (if nI s = -1 then _ else _) = _
      rw [if_neg (nI_nm1 (by omega))]
    have h9 : f9_rule (zsi M1 7 1 0) = some (-1 - nI s, X) := by
      rw [f9_rule, y9, Option.bind_some]
      show (if -1 - nI s = 0 then _ else _) = _
      rw [if_neg (nI_neg0 (by omega))]
    exact ⟨_, _, _, h8, h9, rtext h y8 y9 y7⟩
  · have h8 : f8_rule M = some (0, zcpI (zsi (zsi M1 7 1 0) 11 1 ((zsi M1 7 1 0).1 16 1)) 17 12 40) := by
      rw [f8_rule, y8, Option.bind_some]
      show (if (-1 : Int32) = -1 then _ else _) = _
      rw [if_pos rfl]
      rfl
    have o8 := o_X8_rule h8
    have oy := o_X4_readFrom y8
    have e1 : (zcpI (zsi (zsi M1 7 1 0) 11 1 ((zsi M1 7 1 0).1 16 1)) 17 12 40).1 7 1 = 0 := by
      rw [zcpI_ne (by omega), zsi_ne (by omega), zsi1, if_pos ⟨rfl, rfl⟩]
    have e2 : (zcpI (zsi (zsi M1 7 1 0) 11 1 ((zsi M1 7 1 0).1 16 1)) 17 12 40).1 11 1 = M1.1 16 1 := by
      rw [zcpI_ne (by omega), zsi1, if_pos ⟨rfl, rfl⟩, zsi_ne (by omega)]
    have e3 : ∀ i, i < 40 → (zcpI (zsi (zsi M1 7 1 0) 11 1 ((zsi M1 7 1 0).1 16 1)) 17 12 40).1 12 i = M1.1 17 i := by
      intro i hi
      rw [zcpI_to hi, zsi_ne (by omega), zsi_ne (by omega)]
    generalize zcpI (zsi (zsi M1 7 1 0) 11 1 ((zsi M1 7 1 0).1 16 1)) 17 12 40 = M2 at h8 o8 e1 e2 e3
    have hX : zTr (zsi M2 39 0 0) n t := by
      refine (iBn_tr hB).to ?_ ?_
      · rw [zsi1, if_neg (by decide), o8.2 7 (by simp) (by simp)]
      · rw [zsi_ne (by omega), (o8.1 43 (by simp) (by simp)).1]
    obtain ⟨l, X, y9, y7, lc, lr⟩ := a9 _ hX
    have o9 := (zOut.rf.si 39 0 0 (Or.inr ⟨rfl, by simp⟩) : zOut [] [0] M2 (zsi M2 39 0 0)).trans (o_X9_readsRule y9)
    have ek : ∃ k, k ≤ 40 ∧ X.1 39 15 = nI k ∧ (k = l.length ∧ (∀ i c, l[i]? = some c → X.1 46 i = nI (zcr c)) ∨ (k = 0 ∧ l = [1099, 1105, 1045])) := by
      rcases lr with lr | lr
      · exact ⟨l.length, lc.1, lr.1, Or.inl ⟨rfl, lr.2⟩⟩
      · exact ⟨0, by omega, lr.1, Or.inr ⟨rfl, lr.2⟩⟩
    obtain ⟨k, k1, k2, k3⟩ := ek
    obtain ⟨Y, y1, y2, y3⟩ := r_laysC (a1 := 46) (by omega) (by omega) (k := k) (by omega) X
    have oY := o_X9_laysCode y1
    have h9 : f9_rule M2 = some (0, Y) := by
      rw [f9_rule, y9, Option.bind_some]
      show (if (0 : Int32) = 0 then (f9_laysCode 46 (X.1 39 15) X).bind fun M2 => some ((0 : Int32), M2) else _) = _
      rw [if_pos rfl, k2, y1, Option.bind_some]
    refine ⟨_, _, _, h8, h9, zInv_to h (o8.trans (o9.trans oY)) (Or.inl rfl) (Or.inr ⟨0, fun _ => 0, by omega, ?_, ?_, fun i hi => absurd hi (by omega)⟩) (Or.inl rfl) (Or.inl rfl) (Or.inr ⟨l, lc.1, ?_, fun i c hi => ?_, lc.2.2.2, ?_⟩) (Or.inl rfl) (Or.inl rfl) (Or.inl rfl)⟩
    · rw [(oY.1 7 (by simp) (by omega)).1, (o9.1 7 (by simp) (by omega)).1, e1]
      rfl
    · rw [oY.2 7 (by simp) (by simp)]
      exact y7
    · rw [(oY.1 11 (by simp) (by omega)).1, (o9.1 11 (by simp) (by omega)).1, e2]
      exact lc.2.1
    · have hil := (List.getElem?_eq_some_iff.mp hi).1
      rw [(oY.1 12 (by simp) (by omega)).1, (o9.1 12 (by simp) (by omega)).1, e3 i (by have := lc.1; omega)]
      exact lc.2.2.1 i c hi
    · rcases k3 with ⟨k3, k4⟩ | ⟨k3, k4⟩
      · refine Or.inl ⟨by rw [y2, k3], fun i c hi => ?_⟩
        have hil := (List.getElem?_eq_some_iff.mp hi).1
        rw [y3 i (by omega)]
        exact k4 i c hi
      · exact Or.inr ⟨by rw [y2, k3]; rfl, k4⟩
end RW
