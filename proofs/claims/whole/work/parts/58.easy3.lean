/-! told -/
def zmost (j : Nat) : Nat := if j = 0 ∨ j = 3 then 1 else if j = 1 then 6 else 5
theorem mostOf_n : ∀ j, j < 5 → f5_mostOf (nI j) = some (nI (zmost j)) ∧ f9_highest (nI j) = some (nI (zmost j)) := by decide +kernel
theorem mostOf_no {v : Int32} (h : v < 0 ∨ nI 5 ≤ v) : f5_mostOf v = some (-1) := by
  have k : ∀ m, m < 5 → ¬ v = nI m := by
    intro m hm
    rcases h with h | h
    · exact (zix_neg h m (by omega)).2.2.2.2
    · exact ((zix_big (by omega) h).2 m hm).2.2.2.2
  have k0 : ¬ v = 0 := k 0 (by omega)
  have k1 : ¬ v = 1 := k 1 (by omega)
  have k2 : ¬ v = 2 := k 2 (by omega)
  have k3 : ¬ v = 3 := k 3 (by omega)
  have k4 : ¬ v = 4 := k 4 (by omega)
  rw [f5_mostOf, if_neg k0, if_neg k1, if_neg k2, if_neg k3, if_neg k4]
theorem zP_told_ok : zP_told zInv := by
  intro c M v1 v2 hc h
  obtain ⟨n, a, b, hD⟩ := h.2.2.2.1
  obtain ⟨d1, d2, d3, d4⟩ := id hD
  have fin : ∀ M2, zOut [60, 61] [0, 32] M M2 → M2.1 39 32 = nI n → (∀ i, i < n → M2.1 60 i = M.1 60 i ∧ M2.1 61 i = M.1 61 i) → zInv (c + 1) M2 := by
    intro M2 ho e1 e2
    have q0 := (ho.1 30 (by simp) (by simp)).1
    have q1 := (ho.1 31 (by simp) (by simp)).1
    have q2 := (ho.1 32 (by simp) (by simp)).1
    refine zInv_to h ho (Or.inl rfl) (Or.inl rfl) (Or.inl rfl) (Or.inr ⟨n, a, b, d1, by rw [q0, d2], e1, fun i hi => ?_⟩) (Or.inl rfl) (Or.inl rfl) (Or.inl rfl) (Or.inl rfl)
    rw [q1, q2, (e2 i hi).1, (e2 i hi).2]
    exact d4 i hi
  have no : f8_told v1 v2 M = some (-1, M) → f9_told v1 v2 M = some (-1, zsi M 39 0 0) → ∃ (r : Int32) (M1 M2 : zM), f8_told v1 v2 M = some (r, M1) ∧ f9_told v1 v2 M1 = some (r, M2) ∧ zInv (c + 1) M2 := by
    intro h8 h9
    exact ⟨_, _, _, h8, h9, fin _ (o_X9_told h9) (by simp [zsi1, d3]) (fun i hi => by simp [zsi1])⟩
  have e32 : (zsi M 39 0 0).1 39 32 = nI n := by simp [zsi1, d3]
  have out1 : (v1 < 0 ∨ nI 5 ≤ v1) → f8_told v1 v2 M = some (-1, M) ∧ f9_told v1 v2 M = some (-1, zsi M 39 0 0) := by
    intro hv
    constructor
    · rw [f8_told, d2, show (12 : Int32) = nI 12 from rfl]
      by_cases hn : n = 12
      · rw [if_pos (nI_le (by omega) (by omega))]
      · rw [if_neg (nI_ge (by omega) (by omega))]
        by_cases h2 : v2 < 0
        · rw [if_pos h2]
        · rw [if_neg h2, mostOf_no hv, Option.bind_some, if_neg]
          intro q
          exact h2 (Int32.lt_of_le_of_lt q (by decide))
    · have q : f9_in v1.toInt64 0 (nI 4).toInt64 = some 0 := by
        rcases hv with hv | hv
        · exact in_neg (by omega) hv
        · exact in_big (by omega) hv
      have q' : f9_in v1.toInt64 0 4 = some 0 := q
      rw [f9_told, q']
      rfl
  rcases pk_ix v1 (n := 5) (by omega) with hv | hv | ⟨j, hj, rfl⟩
  · obtain ⟨h8, h9⟩ := out1 (Or.inl hv)
    exact no h8 h9
  · obtain ⟨h8, h9⟩ := out1 (Or.inr hv)
    exact no h8 h9
  obtain ⟨m1, m2⟩ := mostOf_n j hj
  have hz : zmost j ≤ 6 := by
    unfold zmost
    split
    · omega
    · split <;> omega
  have q4 : f9_in (nI j).toInt64 0 4 = some 1 := in_ok (n := 4) (by omega) (by omega)
  rcases pk_ix v2 (n := zmost j + 1) (by omega) with hv | hv | ⟨i, hi, rfl⟩
  · refine no ?_ ?_
    · rw [f8_told, d2, show (12 : Int32) = nI 12 from rfl]
      by_cases hn : n = 12
      · rw [if_pos (nI_le (by omega) (by omega))]
      · rw [if_neg (nI_ge (by omega) (by omega)), if_pos hv]
    · rw [f9_told, q4, Option.bind_some, if_neg (by decide), m2, Option.bind_some, in_neg (by omega) hv]
      rfl
  · refine no ?_ ?_
    · rw [f8_told, d2, show (12 : Int32) = nI 12 from rfl]
      by_cases hn : n = 12
      · rw [if_pos (nI_le (by omega) (by omega))]
      · have g := zix_big (by omega) hv
        rw [if_neg (nI_ge (by omega) (by omega)), if_neg g.1, m1, Option.bind_some, if_neg (g.2 _ (by omega)).1]
    · rw [f9_told, q4, Option.bind_some, if_neg (by decide), m2, Option.bind_some, in_big (by omega) hv]
      rfl
  by_cases hn : n = 12
  · refine no ?_ ?_
    · rw [f8_told, d2, show (12 : Int32) = nI 12 from rfl, if_pos (nI_le (by omega) (by omega))]
    · rw [f9_told, q4, Option.bind_some, if_neg (by decide), m2, Option.bind_some, in_ok (by omega) (by omega), Option.bind_some, if_neg (by decide), e32, hn]
      rfl
  · have hn' : n < 12 := by omega
    have h8 : f8_told (nI j) (nI i) M = some (nI (n + 1), zsi (zsi (zsi M 31 n (nI j)) 32 n (nI i)) 30 2 (nI (n + 1))) := by
      rw [f8_told, d2, show (12 : Int32) = nI 12 from rfl, if_neg (nI_ge (by omega) (by omega)), if_neg (nI_pos (by omega)), m1, Option.bind_some, if_pos (nI_le (by omega) (by omega)), f5_add, d2, show (12 : Int32) = nI 12 from rfl, if_neg (nI_ge (by omega) (by omega)), zpI_n (by omega) (by omega), Option.bind_some]
      have e : (zsi M 31 n (nI j)).1 30 2 = nI n := by simp [zsi1, d2]
      rw [e, zpI_n (by omega) (by omega), Option.bind_some]
      simp [zsi1, d2, nI_1]
    have h9 : f9_told (nI j) (nI i) (zsi (zsi (zsi M 31 n (nI j)) 32 n (nI i)) 30 2 (nI (n + 1))) = some (nI (n + 1), zsi (zsi (zsi (zsi (zsi (zsi (zsi M 31 n (nI j)) 32 n (nI i)) 30 2 (nI (n + 1))) 39 0 0) 60 n (nI j)) 61 n (nI i)) 39 32 (nI (n + 1))) := by
      rw [f9_told, q4, Option.bind_some, if_neg (by decide), m2, Option.bind_some, in_ok (by omega) (by omega), Option.bind_some, if_neg (by decide)]
      have e : (zsi (zsi (zsi (zsi M 31 n (nI j)) 32 n (nI i)) 30 2 (nI (n + 1))) 39 0 0).1 39 32 = nI n := by simp [zsi1, d3]
      have e2 : (zsi (zsi (zsi (zsi (zsi M 31 n (nI j)) 32 n (nI i)) 30 2 (nI (n + 1))) 39 0 0) 60 n (nI j)).1 39 32 = nI n := by simp [zsi1, d3]
      rw [e, show (12 : Int32) = nI 12 from rfl, if_neg (nI_ne hn (by omega) (by omega)), zpI_n (by omega) (by omega), Option.bind_some, e2, zpI_n (by omega) (by omega), Option.bind_some]
      simp [zsi1, d3, nI_1]
    refine ⟨_, _, _, h8, h9, zInv_to h ((o_X8_told h8).trans (o_X9_told h9)) (Or.inl rfl) (Or.inl rfl) (Or.inl rfl) (Or.inr ⟨n + 1, fun x => if x = n then j else a x, fun x => if x = n then i else b x, by omega, by simp [zsi1], by simp [zsi1], fun x hx => ?_⟩) (Or.inl rfl) (Or.inl rfl) (Or.inl rfl) (Or.inl rfl)⟩
    by_cases hxn : x = n
    · subst hxn
      refine ⟨by simpa using hj, by simp; omega, ?_, by simp [zsi1], by simp [zsi1], by simp [zsi1], by simp [zsi1]⟩
      simp only [if_true]
      intro q
      subst q
      have : zmost 3 = 1 := rfl
      omega
    · obtain ⟨g1, g2, g3, g4, g5, g6, g7⟩ := d4 x (by omega)
      simp only [if_neg hxn]
      refine ⟨g1, g2, g3, ?_, ?_, ?_, ?_⟩
      · simp [zsi1, hxn, g4]
      · simp [zsi1, hxn, g5]
      · simp [zsi1, hxn, g6]
      · simp [zsi1, hxn, g7]
/-! sign -/
theorem zby8 (v : Int32) {s : Nat} (hs : s < 32) : zushr v (nI s) &&& 255 = nI (v.toBitVec.toNat / 2 ^ s % 256) := by
  rw [pk_and _ 8 rfl]
  have e : (zushr v (nI s)).toBitVec.toNat = v.toBitVec.toNat / 2 ^ s := pk_ushr v (nI s) s (zs_u s hs)
  rw [e]
theorem zby9 (v : Int32) : ∀ s, s = 24 ∨ s = 16 ∨ s = 8 ∨ s = 0 → zshr v (nI s) &&& 255 = nI (v.toBitVec.toNat / 2 ^ s % 256) := by
  intro s hs
  rw [pk_and _ 8 rfl]
  have e : (zshr v (nI s)).toInt = v.toInt >>> s := pk_shr v _ s (zs_l s (by omega))
  have t1 : ∀ x : Int32, x.toInt = if 2 * x.toBitVec.toNat < 4294967296 then (x.toBitVec.toNat : Int) else (x.toBitVec.toNat : Int) - 4294967296 := fun x => BitVec.toInt_eq_toNat_cond x.toBitVec
  have b1 := v.toBitVec.isLt
  have b2 := (zshr v (nI s)).toBitVec.isLt
  rw [Int.shiftRight_eq_div_pow, t1, t1] at e
  congr 1
  generalize (zshr v (nI s)).toBitVec.toNat = R at *
  generalize v.toBitVec.toNat = A at *
  rcases hs with rfl | rfl | rfl | rfl
  · have e' : ((2 ^ 24 : Nat) : Int) = 16777216 := rfl
    have e'' : (2 : Nat) ^ 24 = 16777216 := rfl
    have e3 : (2 : Nat) ^ 8 = 256 := rfl
    rw [e''] 
    rw [e'] at e
    rw [e3]
    split at e <;> split at e <;> omega
  · have e' : ((2 ^ 16 : Nat) : Int) = 65536 := rfl
    have e'' : (2 : Nat) ^ 16 = 65536 := rfl
    have e3 : (2 : Nat) ^ 8 = 256 := rfl
    rw [e''] 
    rw [e'] at e
    rw [e3]
    split at e <;> split at e <;> omega
  · have e' : ((2 ^ 8 : Nat) : Int) = 256 := rfl
    have e'' : (2 : Nat) ^ 8 = 256 := rfl
    rw [e''] 
    rw [e'] at e
    split at e <;> split at e <;> omega
  · have e3 : (2 : Nat) ^ 8 = 256 := rfl
    rw [e3]
    have e' : ((2 ^ 0 : Nat) : Int) = 1 := rfl
    have e'' : (2 : Nat) ^ 0 = 1 := rfl
    rw [e''] 
    rw [e'] at e
    split at e <;> split at e <;> omega
def zbt (v : Int32) (k : Nat) : Nat := v.toBitVec.toNat / 2 ^ (24 - 8 * k) % 256
theorem c_tadd {M : zM} {n : Nat} (h0 : M.1 7 1 = nI n) (hn : n < 80) (v : Int32) : f6_add v M = some (zsi (zsi M 8 n v) 7 1 (nI (n + 1))) := by
  rw [f6_add, h0, show (80 : Int32) = nI 80 from rfl]
  simp (disch := omega) only [zl0, zl1, zl2, zl3, zl4, zl5, zl6, zl7, zl8, zl9, zl10, zl11, zl12, nI_add, nI_sub, nI_mul, zaI_n, zaJ_n, zpI_n, zpJ_n, Option.bind_some, nI_le, nI_ge, nI_lt, nI_nlt, nI_ne, ↓reduceIte, if_true, if_false]
  simp [zsi1, h0, nI_add, zl1]
theorem zP_sign_ok : zP_sign zInv := by
  intro c M v hc h
  obtain ⟨n, t, b1, b2, b3, b4⟩ := h.2.1
  have e7 : (zsi M 39 0 0).1 39 7 = nI n := by simp [zsi1, b3]
  by_cases hn : n + 4 ≤ 80
  · have h8 : f8_sign v M = some (nI (n + 4), zsi (zsi (zsi (zsi (zsi (zsi (zsi (zsi M 8 n (nI (zbt v 0))) 7 1 (nI (n + 1))) 8 (n + 1) (nI (zbt v 1))) 7 1 (nI (n + 2))) 8 (n + 2) (nI (zbt v 2))) 7 1 (nI (n + 3))) 8 (n + 3) (nI (zbt v 3))) 7 1 (nI (n + 4))) := by
      have y0 : zushr v 24 &&& 255 = nI (zbt v 0) := zby8 v (s := 24) (by omega)
      have y1 : zushr v 16 &&& 255 = nI (zbt v 1) := zby8 v (s := 16) (by omega)
      have y2 : zushr v 8 &&& 255 = nI (zbt v 2) := zby8 v (s := 8) (by omega)
      have y3 : v &&& 255 = nI (zbt v 3) := by
        rw [pk_and v 8 rfl]
        simp [zbt]
      rw [f8_sign, b2, show (4 : Int32) = nI 4 from rfl, nI_add, show (80 : Int32) = nI 80 from rfl, if_pos (nI_le hn (by omega)), y0, y1, y2, y3]
      rw [c_tadd b2 (by omega), Option.bind_some, c_tadd (n := n + 1) (by simp [zsi1]) (by omega), Option.bind_some, c_tadd (n := n + 2) (by simp [zsi1]) (by omega), Option.bind_some, c_tadd (n := n + 3) (by simp [zsi1]) (by omega), Option.bind_some]
      simp [zsi1]
    generalize hM1 : zsi (zsi (zsi (zsi (zsi (zsi (zsi (zsi M 8 n (nI (zbt v 0))) 7 1 (nI (n + 1))) 8 (n + 1) (nI (zbt v 1))) 7 1 (nI (n + 2))) 8 (n + 2) (nI (zbt v 2))) 7 1 (nI (n + 3))) 8 (n + 3) (nI (zbt v 3))) 7 1 (nI (n + 4)) = M1 at h8
    have o8 := o_X8_sign h8
    have m39 : M1.1 39 = M.1 39 := by
      rw [← hM1]
      funext j
      simp [zsi1]
    have m43 : M1.1 43 = M.1 43 := (o8.1 43 (by simp) (by simp)).1
    have m7 : M1.1 7 1 = nI (n + 4) := by
      rw [← hM1]
      simp [zsi1]
    have m8 : ∀ i, i < n + 4 → M1.1 8 i = nI (if i < n then t i else zbt v (i - n)) := by
      intro i hi
      rw [← hM1]
      simp only [zsi1]
      by_cases g : i < n
      · have n0 : ¬ i = n := by omega
        have n1 : ¬ i = n + 1 := by omega
        have n2 : ¬ i = n + 2 := by omega
        have n3 : ¬ i = n + 3 := by omega
        simp [n0, n1, n2, n3, g, (b4 i g).2.1]
      · rcases (show i = n ∨ i = n + 1 ∨ i = n + 2 ∨ i = n + 3 by omega) with rfl | rfl | rfl | rfl
        · simp [g]
        · simp [g]
        · simp [g]
        · simp [g]
    have step : ∀ f k (x : zM), k < 4 → x.1 39 7 = nI n → f9_sign_18 (f + 1) v (nI k) x = f9_sign_18 f v (nI (k + 1)) (zsi x 43 (n + k) (nI (zbt v k))) := by
      intro f k x hk hx
      have z : zshr v (nI (24 - 8 * k)) &&& 255 = nI (zbt v k) := zby9 v (24 - 8 * k) (by omega)
      rw [f9_sign_18, hx, show (24 : Int32) = nI 24 from rfl]
      simp (disch := omega) only [zl0, zl1, zl2, zl3, zl4, zl5, zl6, zl7, zl8, zl9, zl10, zl11, zl12, nI_add, nI_sub, nI_mul, zaI_n, zaJ_n, zpI_n, zpJ_n, Option.bind_some, nI_le, nI_ge, nI_lt, nI_nlt, nI_ne, ↓reduceIte, if_true, if_false]
      rw [z]
    have h9 : f9_sign v M1 = some (nI (n + 4), zsi (zsi (zsi (zsi (zsi (zsi M1 39 0 0) 43 n (nI (zbt v 0))) 43 (n + 1) (nI (zbt v 1))) 43 (n + 2) (nI (zbt v 2))) 43 (n + 3) (nI (zbt v 3))) 39 7 (nI (n + 4))) := by
      have e : (zsi M1 39 0 0).1 39 7 = nI n := by simp [zsi1, m39, b3]
      rw [f9_sign, e, show (76 : Int32) = nI 76 from rfl, if_pos (nI_le (by omega) (by omega))]
      show f9_sign_18 (4995 + 1 + 1 + 1 + 1 + 1) v (nI 0) _ = _
      rw [step _ 0 _ (by omega) e, step _ 1 _ (by omega) (by simpa [zsi1] using e), step _ 2 _ (by omega) (by simpa [zsi1] using e), step _ 3 _ (by omega) (by simpa [zsi1] using e), f9_sign_18, if_pos (by decide)]
      have e4 : (zsi (zsi (zsi (zsi (zsi M1 39 0 0) 43 (n + 0) (nI (zbt v 0))) 43 (n + 1) (nI (zbt v 1))) 43 (n + 2) (nI (zbt v 2))) 43 (n + 3) (nI (zbt v 3))).1 39 7 = nI n := by simpa [zsi1] using e
      rw [e4, show (4 : Int32) = nI 4 from rfl, nI_add]
      simp [zsi1]
    have o9 := o_X9_sign h9
    refine ⟨_, _, _, h8, h9, zInv_to h (o8.trans o9) (Or.inl rfl) (Or.inr ⟨n + 4, fun i => if i < n then t i else zbt v (i - n), hn, ?_, by simp [zsi1], fun i hi => ⟨?_, ?_, ?_⟩⟩) (Or.inl rfl) (Or.inl rfl) (Or.inl rfl) (Or.inl rfl) (Or.inl rfl) (Or.inl rfl)⟩
    · rw [(o9.1 7 (by simp) (by simp)).1, m7]
    · by_cases g : i < n
      · simp only [if_pos g]
        exact (b4 i g).1
      · simp only [if_neg g]
        exact Nat.mod_lt _ (by omega)
    · rw [(o9.1 8 (by simp) (by simp)).1, m8 i hi]
    · simp only [zsi1]
      by_cases g : i < n
      · have n0 : ¬ i = n := by omega
        have n1 : ¬ i = n + 1 := by omega
        have n2 : ¬ i = n + 2 := by omega
        have n3 : ¬ i = n + 3 := by omega
        simp [n0, n1, n2, n3, g, m43, (b4 i g).2.2]
      · rcases (show i = n ∨ i = n + 1 ∨ i = n + 2 ∨ i = n + 3 by omega) with rfl | rfl | rfl | rfl
        · simp [g]
        · simp [g]
        · simp [g]
        · simp [g]
  · have h8 : f8_sign v M = some (-1, M) := by
      rw [f8_sign, b2, show (4 : Int32) = nI 4 from rfl, nI_add, show (80 : Int32) = nI 80 from rfl, if_neg (nI_ge (by omega) (by omega))]
    have h9 : f9_sign v M = some (-1, zsi M 39 0 0) := by
      rw [f9_sign, e7, show (76 : Int32) = nI 76 from rfl, if_neg (nI_ge (by omega) (by omega))]
    refine ⟨_, _, _, h8, h9, zInv_to h ((o_X8_sign h8).trans (o_X9_sign h9)) (Or.inl rfl) (Or.inr ⟨n, t, b1, by simp [zsi1, b2], by simp [zsi1, b3], fun i hi => by simpa [zsi1] using b4 i hi⟩) (Or.inl rfl) (Or.inl rfl) (Or.inl rfl) (Or.inl rfl) (Or.inl rfl) (Or.inl rfl)⟩
