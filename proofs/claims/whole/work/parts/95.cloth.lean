/-! cloth -/
theorem nI_nm1 {s : Nat} (h : s < 2 ^ 31) : ¬ nI s = -1 := fun q => nI_pos h (by rw [q]; decide)
theorem nI_neg1 {s : Nat} (h : s < 1000) : -1 - nI s < 0 := by
  rw [Int32.lt_iff_toInt_lt, Int32.toInt_sub, nI_toInt (by omega)]
  show Int.bmod (-1 - (s : Int)) (2 ^ 32) < 0
  rw [Int.bmod_eq_of_le (by omega) (by omega)]
  omega
theorem ztext_B {M1 X : zM} {s : Int32} (h9 : f9_readsCloth (zsi (zsi M1 7 1 0) 39 0 0) = some (s, X)) (h7 : X.1 39 7 = nI 0) : iB X := by
  have o := (zOut.rf.si 39 0 0 (Or.inr ⟨rfl, by simp⟩) : zOut [] [0] (zsi M1 7 1 0) (zsi (zsi M1 7 1 0) 39 0 0)).trans (o_X9_readsCloth h9)
  refine ⟨0, fun _ => 0, by omega, ?_, h7, fun i hi => absurd hi (by omega)⟩
  rw [(o.1 7 (by simp) (by simp)).1]
  simp [zsi1, nI_0]
/-- a text that is read: all else stays -/
theorem ztext {c : Nat} {M M1 X : zM} {r s : Int32} (h : zInv c M) (h8 : f7_readFrom 3 M = some (r, M1)) (h9 : f9_readsCloth (zsi (zsi M1 7 1 0) 39 0 0) = some (s, X)) (h7 : X.1 39 7 = nI 0) : zInv (c + 1) X :=
  zInv_to h (((o_X7_readFrom h8).trans (zOut.rf.si 7 1 0 (Or.inl (by simp)) : zOut [7] [] M1 (zsi M1 7 1 0))).trans ((zOut.rf.si 39 0 0 (Or.inr ⟨rfl, by simp⟩) : zOut [] [0] (zsi M1 7 1 0) (zsi (zsi M1 7 1 0) 39 0 0)).trans (o_X9_readsCloth h9))) (Or.inl rfl) (Or.inr (ztext_B h9 h7)) (Or.inl rfl) (Or.inl rfl) (Or.inl rfl) (Or.inl rfl) (Or.inl rfl) (Or.inl rfl)
/-- the reference's text behind the class's reading -/
theorem ztxr {M M1 : zM} {n : Nat} {t : Nat → Nat} {r : Int32} (hB : iBn M n t) (h8 : f7_readFrom 3 M = some (r, M1)) : zTr (zsi (zsi M1 7 1 0) 39 0 0) n t := by
  have o := o_X7_readFrom h8
  refine (iBn_tr hB).to ?_ ?_
  · rw [zsi1, if_neg (by decide), zsi_ne (by omega), o.2 7 (by simp) (by simp)]
  · rw [zsi_ne (by omega), zsi_ne (by omega), (o.1 43 (by simp) (by simp)).1]
theorem zP_cloth_ok : zP_cloth zInv := by
  intro c M hc h
  obtain ⟨n, t, hB⟩ := h.2.1
  rcases cl_pair n hB.1 t with ⟨s, hs, a8, a9⟩ | ⟨p, e, w, hC, a8, a9⟩
  · obtain ⟨M1, y8⟩ := a8 M (iBn_tx hB)
    obtain ⟨X, y9, y7⟩ := a9 _ (ztxr hB y8)
    have h8 : f8_cloth M = some (-1 - nI s, zsi M1 7 1 0) := by
      rw [f8_cloth, y8, Option.bind_some]
      simp only []
      rw [if_neg (nI_nm1 (by omega))]
    have h9 : f9_cloth (zsi M1 7 1 0) = some (-1 - nI s, X) := by
      rw [f9_cloth, y9, Option.bind_some]
      simp only []
      rw [if_neg (Int32.not_le.mpr (nI_neg1 (by omega)))]
    exact ⟨_, _, _, h8, h9, ztext h y8 y9 y7⟩
  · obtain ⟨M1, y8, w8⟩ := a8 M (iBn_tx hB)
    obtain ⟨M2, k1, k2⟩ := c_become (a := 1) (w8.to (zsi_ne (by omega)) (zsi_ne (by omega)) : zWS (zsi M1 7 1 0) 3 (p, e, w, 0)) (by omega)
    obtain ⟨M3, k3, k4, k5⟩ := c_empty 33 15 M2 (by omega)
    obtain ⟨M4, k6, k7, k8⟩ := c_empty 36 3 M3 (by omega)
    have o2 := o_X7_become k1
    have o3 := o_X2_empty k3
    have o4 := o_X2_empty k6
    have w4 := k2.to (((o3.trans o4).1 1 (by simp) (by simp)).1) (((o3.trans o4).1 2 (by simp) (by simp)).1)
    have h8 : f8_cloth M = some (nI p, M4) := by
      rw [f8_cloth, y8, Option.bind_some]
      simp only []
      rw [if_pos trivial, k1, Option.bind_some, k3, Option.bind_some, k6, Option.bind_some, w4.1.1]
    have o8 := o_X8_cloth h8
    have x8 := ((o_X7_readFrom y8).trans (zOut.rf.si 7 1 0 (Or.inl (by simp)) : zOut [7] [] M1 (zsi M1 7 1 0))).trans (o2.trans (o3.trans o4))
    have tr : zTr (zsi M4 39 0 0) n t := by
      refine (iBn_tr hB).to ?_ ?_
      · rw [zsi1, if_neg (by decide), o8.2 7 (by simp) (by simp)]
      · rw [zsi_ne (by omega), (o8.1 43 (by simp) (by simp)).1]
    obtain ⟨X, y9, r9, y7⟩ := a9 _ tr
    obtain ⟨X2, q1, q2⟩ := r_copies (a := 41) (b := 44) (by decide) X
    have oX := o_X9_readsCloth y9
    have oX2 := o_X9_copies q1
    have r2 := r9.cp hC.2.1 q2
    obtain ⟨ch, g1, g2, g3⟩ := h.2.2.2.2.2.2.1
    have e5 : X2.1 39 5 = nI ch := by
      rw [oX2.2 5 (by simp) (by simp), oX.2 5 (by simp) (by simp), zsi1, if_neg (by decide), o8.2 5 (by simp) (by simp), g2]
    have h9 : f9_cloth M4 = some (nI p, zsi (zsi (zsi X2 41 8 0) 39 18 0) 39 5 (nI (ch + 1))) := by
      have e5' : (zsi (zsi X2 41 8 0) 39 18 0).1 39 5 = nI ch := by simp [zsi1, e5]
      rw [f9_cloth, y9, Option.bind_some]
      simp only []
      rw [if_pos (by decide), q1, Option.bind_some, e5', nI_1]
      have e6 : (zsi (zsi (zsi X2 41 8 0) 39 18 0) 39 5 (nI (ch + 1))).1 41 6 = nI p := by simp [zsi1, r2.1]
      rw [e6]
    have o9 := o_X9_cloth h9
    refine ⟨_, _, _, h8, h9, zInv_to h (o8.trans o9) (Or.inr ⟨p, e, w, hC, w4.1.to (o9.1 1 (by simp) (by simp)).1 (o9.1 2 (by simp) (by simp)).1, ⟨by simp [zsi1, r2.1], by simp [zsi1, r2.2.1], fun i hi => ?_⟩, ?_⟩) (Or.inr ⟨0, fun _ => 0, by omega, ?_, ?_, fun i hi => absurd hi (by omega)⟩) (Or.inl rfl) (Or.inl rfl) (Or.inl rfl) (Or.inr ⟨0, by omega, ?_, by simp [zsi1, nI_0], fun i hi => absurd hi (by omega)⟩) (Or.inr ⟨ch + 1, by omega, by simp [zsi1], fun i hi => Or.inl ⟨?_, ?_⟩⟩) (Or.inl rfl)⟩
    · have hp := hC.2.1
      rw [zsi1, if_neg (by omega), zsi1, if_neg (by omega), zsi1, if_neg (by omega)]
      exact r2.2.2 i hi
    · rw [(o9.1 1 (by simp) (by simp)).1, w4.2]
      simp [zsi1]
    · rw [(o9.1 7 (by simp) (by simp)).1, ((o2.trans (o3.trans o4)).1 7 (by simp) (by simp)).1]
      simp [zsi1, nI_0]
    · rw [zsi1, if_neg (by decide), zsi1, if_neg (by decide), zsi1, if_neg (by decide), oX2.2 7 (by simp) (by simp), y7]
    · rw [(o9.1 33 (by simp) (by simp)).1, (o4.1 33 (by simp) (by simp)).1, k4, nI_0]
    · rw [(o9.1 37 (by simp) (by simp)).2, k8 i hi]
    · rw [((o8.trans o9).1 64 (by simp) (by simp)).1, ((o8.trans o9).1 65 (by simp) (by simp)).1]
      rcases g3 i hi with ⟨-, g4 | ⟨kc, g5, g6⟩⟩ | ⟨-, g5, -⟩
      · exact Or.inl g4
      · exact Or.inr ⟨kc, by omega, g6⟩
      · exact Or.inr ⟨ch, by omega, g5⟩
