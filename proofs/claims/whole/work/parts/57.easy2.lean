/-! which threads are there -/
def zVd (p e : Nat) (kd i : Int32) : Prop := ∃ a b, a < 2 ∧ b < zmany p e a ∧ kd = nI a ∧ i = nI b
theorem zVd_n {p e : Nat} {w : Nat → Nat} (hc : zCl p e w) {a b : Nat} (ha : a < 2) (hb : b < 2 ^ 31) : zVd p e (nI a) (nI b) ↔ b < zmany p e a := by
  have hm : ∀ a, zmany p e a ≤ 6 := fun a => (zmany_le hc a).2
  constructor
  · rintro ⟨a', b', h1, h2, h3, h4⟩
    have := hm a'
    rw [nI_eq (by omega) (by omega)] at h3 h4
    subst h3
    subst h4
    exact h2
  · intro h
    exact ⟨a, b, ha, h, rfl, rfl⟩
section VD
variable {M : zM} {k p e : Nat} {w : Nat → Nat}
theorem zmany_cases (hc : zCl p e w) (i : Int32) {a : Nat} (ha : a < 2) (hv : ¬ zVd p e (nI a) i) : i < 0 ∨ nI (zmany p e a) ≤ i := by
  have hm := (zmany_le hc a).2
  rcases pk_ix i (n := zmany p e a) (by omega) with h | h | ⟨j, hj, rfl⟩
  · exact Or.inl h
  · exact Or.inr h
  · exact absurd ⟨a, j, ha, hj, rfl, rfl⟩ hv
theorem c_has_yes (h : zWc M k p e w) (hc : zCl p e w) {a b : Nat} (ha : a < 2) (hb : b < zmany p e a) : f7_has k (nI a) (nI b) M = some 1 := by
  have hm := (zmany_le hc a).2
  rw [f7_has, f7_has_9, if_neg (nI_pos (by omega)), c_size h ha, Option.bind_some, if_neg (nI_ge hb (by omega))]
  rcases (show a = 0 ∨ a = 1 by omega) with rfl | rfl
  · rfl
  · rfl
theorem c_has_no (h : zWc M k p e w) (hc : zCl p e w) {kd i : Int32} (hv : ¬ zVd p e kd i) : f7_has k kd i M = some 0 := by
  have key : ∀ a, a < 2 → kd = nI a → f7_has_9 k kd i M = some 0 := by
    rintro a ha rfl
    rw [f7_has_9]
    rcases zmany_cases hc i ha hv with q | q
    · rw [if_pos q]
    · have hm := (zmany_le hc a).2
      rw [if_neg (zix_big (by omega) q).1, c_size h ha, Option.bind_some, if_pos q]
  rw [f7_has]
  by_cases h0 : kd = 0
  · rw [if_pos h0]
    exact key 0 (by omega) h0
  · rw [if_neg h0]
    by_cases h1 : kd = 1
    · rw [if_pos h1]
      exact key 1 (by omega) h1
    · rw [if_neg h1]
theorem r_thr_yes (h : zRr M k p e w) (hc : zCl p e w) {a b : Nat} (ha : a < 2) (hb : b < zmany p e a) : f9_isThread k (nI a) (nI b) M = some 1 := by
  have hm := (zmany_le hc a).2
  rw [r_isThreadN h hc ha (by omega), if_pos hb]
theorem r_thr_no (h : zRr M k p e w) (hc : zCl p e w) {kd i : Int32} (hv : ¬ zVd p e kd i) : f9_isThread k kd i M = some 0 := by
  rw [r_isThread h hc, if_neg]
  rintro ⟨h1, h2, h3⟩
  have key : ∀ a, a < 2 → kd = nI a → False := by
    rintro a ha rfl
    have hm := (zmany_le hc a).2
    rw [nI_clamp (by omega)] at h3
    rcases zmany_cases hc i ha hv with q | q
    · exact Int32.not_lt.mpr h2 q
    · exact Int32.not_lt.mpr q h3
  rcases h1 with h1 | h1
  · exact key 0 (by omega) h1
  · exact key 1 (by omega) h1
theorem c_cross_yes (h : zWc M k p e w) (hc : zCl p e w) {a b : Nat} (ha : a < p) (hb : b < e) : f7_crosses k (nI a) (nI b) M = some 1 := by
  have q1 : f7_has k 0 (nI a) M = some 1 := c_has_yes h hc (a := 0) (by omega) ha
  have q2 : f7_has k 1 (nI b) M = some 1 := c_has_yes h hc (a := 1) (by omega) hb
  rw [f7_crosses, q1, Option.bind_some, if_neg (by decide), q2]
  rfl
theorem c_cross_no (h : zWc M k p e w) (hc : zCl p e w) {a b : Int32} (hv : ¬ (zVd p e 0 a ∧ zVd p e 1 b)) : f7_crosses k a b M = some 0 := by
  rw [f7_crosses]
  by_cases h0 : zVd p e 0 a
  · obtain ⟨a', b', h1, h2, h3, h4⟩ := id h0
    have q0 : a' = 0 := by
      rw [zl0, nI_eq (by omega) (by omega)] at h3
      exact h3.symm
    subst q0
    subst h4
    have q1 : f7_has k 0 (nI b') M = some 1 := c_has_yes h hc (a := 0) (by omega) h2
    rw [q1, Option.bind_some, if_neg (by decide), c_has_no h hc (fun q => hv ⟨h0, q⟩)]
    rfl
  · rw [c_has_no h hc h0]
    rfl
theorem c_over (h : zWc M k p e w) (hc : zCl p e w) {a b : Nat} (ha : a < p) (hb : b < e) : f7_overAt k (nI a) (nI b) M = some (nI (w a / 2 ^ b % 2)) := by
  obtain ⟨c1, c2, c3, c4, c5, c6⟩ := id hc
  have hw := hc.lt64 a
  rw [f7_overAt, c_cross_yes h hc ha hb, Option.bind_some, if_neg (by decide), zaI_n (by omega) (by omega), h.2.2.1 a (by omega), Option.bind_some, nI_ushr (by omega) (by omega), zl1, nI_and, Nat.and_one_is_mod]
theorem zVd_0 (hc : zCl p e w) {a : Int32} (h : zVd p e 0 a) : ∃ b, b < p ∧ a = nI b := by
  obtain ⟨a', b', h1, h2, h3, h4⟩ := h
  rw [zl0, nI_eq (by omega) (by omega)] at h3
  subst h3
  exact ⟨b', h2, h4⟩
theorem zVd_1 (hc : zCl p e w) {a : Int32} (h : zVd p e 1 a) : ∃ b, b < e ∧ a = nI b := by
  obtain ⟨a', b', h1, h2, h3, h4⟩ := h
  rw [zl1, nI_eq (by omega) (by omega)] at h3
  subst h3
  exact ⟨b', h2, h4⟩
end VD
/-! sums -/
def zsum (g : Nat → Nat) : Nat → Nat
  | 0 => 0
  | n + 1 => zsum g n + g n
theorem zsum_congr {g g' : Nat → Nat} {n : Nat} (h : ∀ i, i < n → g i = g' i) : zsum g n = zsum g' n := by
  induction n with
  | zero => rfl
  | succ n ih => rw [zsum, zsum, ih (fun i hi => h i (by omega)), h n (by omega)]
theorem zsum_le {g : Nat → Nat} {b n : Nat} (h : ∀ i, i < n → g i ≤ b) : zsum g n ≤ n * b := by
  induction n with
  | zero => simp [zsum]
  | succ n ih =>
    rw [zsum, Nat.succ_mul]
    have := ih (fun i hi => h i (by omega))
    have := h n (by omega)
    omega
def zovs (p : Nat) (w : Nat → Nat) : Nat := zsum (fun i => zbc (w i)) p
theorem c_overs {M : zM} {k p e : Nat} {w : Nat → Nat} (h : zWc M k p e w) (hc : zCl p e w) : f7_overs k M = some (nI (zovs p w)) := by
  have hp := hc.2.1
  rw [f7_overs]
  refine zloop0 (F := fun f n => f7_overs_4 k f (nI (zsum (fun i => zbc (w i)) n)) (nI n) M) p (by omega) (fun f n hn => ?_) (fun f => ?_)
  · show f7_overs_4 k (f + 1) _ _ M = _
    rw [f7_overs_4, h.1]
    simp (disch := omega) only [zl0, zl1, zl2, zl3, zl4, zl5, zl6, zl7, zl8, zl9, zl10, zl11, zl12, nI_add, nI_sub, nI_mul, zaI_n, zaJ_n, zpI_n, zpJ_n, Option.bind_some, nI_le, nI_ge, nI_lt, nI_nlt, nI_ne, ↓reduceIte, if_true, if_false, h.2.2.1]
    rw [bc_n (by have := hc.lt64 n; omega), Option.bind_some, nI_add]
    rfl
  · show f7_overs_4 k (f + 1) _ _ M = _
    rw [f7_overs_4, h.1]
    simp (disch := omega) only [zl0, zl1, zl2, zl3, zl4, zl5, zl6, zl7, zl8, zl9, zl10, zl11, zl12, nI_add, nI_sub, nI_mul, zaI_n, zaJ_n, zpI_n, zpJ_n, Option.bind_some, nI_le, nI_ge, nI_lt, nI_nlt, nI_ne, ↓reduceIte, if_true, if_false]
    rfl
theorem r_overs {M : zM} {k p e : Nat} {w : Nat → Nat} (h : zRr M k p e w) (hc : zCl p e w) : f9_overs k M = some (nI (zovs p w)) := by
  have hp := hc.2.1
  rw [f9_overs]
  refine zloop0 (F := fun f n => f9_overs_4 k f (nI (zsum (fun i => zbc (w i)) n)) (nI n) M) p (by omega) (fun f n hn => ?_) (fun f => ?_)
  · show f9_overs_4 k (f + 1) _ _ M = _
    rw [f9_overs_4, h.1]
    simp (disch := omega) only [zl0, zl1, zl2, zl3, zl4, zl5, zl6, zl7, zl8, zl9, zl10, zl11, zl12, nI_add, nI_sub, nI_mul, zaI_n, zaJ_n, zpI_n, zpJ_n, Option.bind_some, nI_le, nI_ge, nI_lt, nI_nlt, nI_ne, ↓reduceIte, if_true, if_false, h.2.2]
    rw [bc_n (by have := hc.lt64 n; omega), Option.bind_some, nI_add]
    rfl
  · show f9_overs_4 k (f + 1) _ _ M = _
    rw [f9_overs_4, h.1]
    simp (disch := omega) only [zl0, zl1, zl2, zl3, zl4, zl5, zl6, zl7, zl8, zl9, zl10, zl11, zl12, nI_add, nI_sub, nI_mul, zaI_n, zaJ_n, zpI_n, zpJ_n, Option.bind_some, nI_le, nI_ge, nI_lt, nI_nlt, nI_ne, ↓reduceIte, if_true, if_false]
    rfl
/-! count, cell, row -/
theorem zRr_si {M : zM} {k p e : Nat} {w : Nat → Nat} (h : zRr M k p e w) {a j : Nat} {v : Int32} (ha : k ≠ a) : zRr (zsi M a j v) k p e w := by
  refine ⟨?_, ?_, fun i hi => ?_⟩
  · rw [zsi1, if_neg (by omega)]; exact h.1
  · rw [zsi1, if_neg (by omega)]; exact h.2.1
  · rw [zsi1, if_neg (by omega)]; exact h.2.2 i hi
theorem zP_count_ok : zP_count zInv := by
  intro c M v hc h
  obtain ⟨p, e, w, hA⟩ := h.1
  obtain ⟨hc1, hW, hR, hN⟩ := id hA
  obtain ⟨n, t, hB⟩ := h.2.1
  obtain ⟨L, hL8, hL9⟩ := h.2.2.1
  obtain ⟨m, a, b, hD⟩ := h.2.2.2.1
  obtain ⟨n6, hn6, hF1, hF2, -⟩ := h.2.2.2.2.2.1
  have key : ∃ r, f8_count v M = some r ∧ f9_count v M = some (r, zsi M 39 0 0) := by
    rw [f8_count, f9_count]
    simp only [zsi1, hW.1, hW.2.1, hR.1, hR.2.1, hN, hB.2.1, hB.2.2.1, hL8.1, hL9.1, hD.2.1, hD.2.2.1, hF1, hF2, c_overs hW hc1, r_overs (zRr_si hR (a := 39) (j := 0) (v := 0) (by omega)) hc1]
    by_cases h0 : v = 0
    · simp [h0]
    by_cases h1 : v = 1
    · simp [h1]
    by_cases h2 : v = 2
    · simp [h2]
    by_cases h3 : v = 3
    · simp [h3]
    by_cases h4 : v = 4
    · simp [h4]
    by_cases h5 : v = 5
    · simp [h5]
    by_cases h6 : v = 6
    · simp [h6]
    by_cases h7 : v = 7
    · simp [h7]
    simp [h0, h1, h2, h3, h4, h5, h6, h7]
  obtain ⟨r, k1, k2⟩ := key
  exact ⟨r, _, k1, k2, zInv_to h (o_X9_count k2) (Or.inl rfl) (Or.inl rfl) (Or.inl rfl) (Or.inl rfl) (Or.inl rfl) (Or.inl rfl) (Or.inl rfl) (Or.inl rfl)⟩
theorem zO67 (M : zM) (x : Int64) : zOut [67] [] M (zsj M 67 0 x) := zOut.rf.sj 67 0 x (Or.inl (by simp))
theorem zP_cell_ok : zP_cell zInv := by
  intro c M v1 v2 hc h
  obtain ⟨p, e, w, hA⟩ := h.1
  obtain ⟨hc1, hW, hR, hN⟩ := id hA
  by_cases hv : zVd p e 0 v1 ∧ zVd p e 1 v2
  · obtain ⟨a, ha, rfl⟩ := zVd_0 hc1 hv.1
    obtain ⟨b, hb, rfl⟩ := zVd_1 hc1 hv.2
    have hp := hc1.2.1
    have he := hc1.2.2.2.1
    have h8 : f8_cell (nI a) (nI b) M = some (nI (w a / 2 ^ b % 2)) := by
      rw [f8_cell, c_cross_yes hW hc1 ha hb, Option.bind_some, if_neg (by decide), c_over hW hc1 ha hb]
      rfl
    have hR' : zRr (zsi (zsj M 67 0 (nI (w a / 2 ^ b % 2)).toInt64) 39 0 0) 41 p e w := zRr_si hR (by omega)
    have h9 : f9_cell (nI a) (nI b) (zsj M 67 0 (nI (w a / 2 ^ b % 2)).toInt64) = some (nI (w a / 2 ^ b % 2), zsi (zsj M 67 0 (nI (w a / 2 ^ b % 2)).toInt64) 39 0 0) := by
      have q1 : f9_isThread 41 0 (nI a) (zsi (zsj M 67 0 (nI (w a / 2 ^ b % 2)).toInt64) 39 0 0) = some 1 := r_thr_yes hR' hc1 (a := 0) (by omega) ha
      have q2 : f9_isThread 41 1 (nI b) (zsi (zsj M 67 0 (nI (w a / 2 ^ b % 2)).toInt64) 39 0 0) = some 1 := r_thr_yes hR' hc1 (a := 1) (by omega) hb
      rw [f9_cell, q1, Option.bind_some, if_neg (by decide), q2, Option.bind_some, if_neg (by decide), zaI_n (by omega) (by omega), hR'.2.2 a ha, Option.bind_some, has_n _ (hc1.lt64 a) b (by omega), Option.bind_some]
      rcases (show w a / 2 ^ b % 2 = 0 ∨ w a / 2 ^ b % 2 = 1 by omega) with q | q <;> rw [q] <;> rfl
    refine Or.inl ⟨_, _, h8, h9, by simp [f9_thrown, zsi1], by simp [zsi2, zsj2], zInv_to h ((zO67 M _).trans (o_X9_cell h9)) (Or.inl rfl) (Or.inl rfl) (Or.inl rfl) (Or.inl rfl) (Or.inl rfl) (Or.inl rfl) (Or.inl rfl) (Or.inl rfl)⟩
  · have h8 : gx8_cell v1 v2 M = some () := by
      rw [gx8_cell, c_cross_no hW hc1 hv]
      rfl
    have hR' : zRr (zsi M 39 0 0) 41 p e w := zRr_si hR (by omega)
    have h9 : f9_cell v1 v2 M = some (0, zsi (zsi M 39 0 0) 39 0 1) := by
      rw [f9_cell]
      by_cases h0 : zVd p e 0 v1
      · obtain ⟨a, ha, rfl⟩ := zVd_0 hc1 h0
        have q1 : f9_isThread 41 0 (nI a) (zsi M 39 0 0) = some 1 := r_thr_yes hR' hc1 (a := 0) (by omega) ha
        rw [q1, Option.bind_some, if_neg (by decide), r_thr_no hR' hc1 (fun q => hv ⟨h0, q⟩)]
        rfl
      · rw [r_thr_no hR' hc1 h0]
        rfl
    refine Or.inr ⟨_, _, h8, h9, by simp [f9_thrown, zsi1], zInv_to h (o_X9_cell h9) (Or.inl rfl) (Or.inl rfl) (Or.inl rfl) (Or.inl rfl) (Or.inl rfl) (Or.inl rfl) (Or.inl rfl) (Or.inl rfl)⟩
theorem zP_row_ok : zP_row zInv := by
  intro c M v hc h
  obtain ⟨L, hL8, hL9⟩ := h.2.2.1
  obtain ⟨a1, a2, a3⟩ := hL8
  obtain ⟨b1, b2, b3⟩ := hL9
  have no : (v < 0 ∨ nI L.length ≤ v) → gx8_row v M = some () ∧ f9_row v M = some (0, zsi (zsi M 39 0 0) 39 0 1) := by
    intro hv
    constructor
    · rw [gx8_row, a1]
      rcases hv with hv | hv
      · rw [if_pos hv]
      · rw [if_neg (zix_big (by omega) hv).1, if_neg (Int32.not_lt.mpr hv)]
    · rw [f9_row]
      have e : (zsi M 39 0 0).1 39 1 = nI L.length := by simp [zsi1, b1]
      rw [e, in_i (lo := 0) (hi := nI L.length - 1) (lo' := 0) rfl rfl]
      rcases hv with hv | hv
      · rw [if_pos hv]
        rfl
      · have g := (zix_big (by omega) hv)
        rw [if_neg g.1, if_pos]
        · rfl
        · by_cases hz : L.length = 0
          · rw [hz]
            rw [hz] at hv
            exact Int32.lt_of_lt_of_le (by decide) hv
          · rw [show (1 : Int32) = nI 1 from rfl, nI_sub (by omega)]
            exact (g.2 _ (by omega)).2.1
  rcases pk_ix v (n := L.length) (by omega) with hv | hv | ⟨j, hj, rfl⟩
  · obtain ⟨h8, h9⟩ := no (Or.inl hv)
    exact Or.inr ⟨_, _, h8, h9, by simp [f9_thrown, zsi1], zInv_to h (o_X9_row h9) (Or.inl rfl) (Or.inl rfl) (Or.inl rfl) (Or.inl rfl) (Or.inl rfl) (Or.inl rfl) (Or.inl rfl) (Or.inl rfl)⟩
  · obtain ⟨h8, h9⟩ := no (Or.inr hv)
    exact Or.inr ⟨_, _, h8, h9, by simp [f9_thrown, zsi1], zInv_to h (o_X9_row h9) (Or.inl rfl) (Or.inl rfl) (Or.inl rfl) (Or.inl rfl) (Or.inl rfl) (Or.inl rfl) (Or.inl rfl) (Or.inl rfl)⟩
  · have hg : L[j]? = some L[j] := List.getElem?_eq_getElem hj
    have e8 := a3 j _ hg
    have e9 := b3 j _ hg
    have h8 : f8_row (nI j) M = some (L[j]) := by
      rw [f8_row, a1, if_neg (nI_pos (by omega)), if_pos (nI_lt hj (by omega)), zaJ_n (by omega) (by omega), e8]
      rfl
    have h9 : f9_row (nI j) (zsj M 67 0 L[j]) = some (L[j], zsi (zsj M 67 0 L[j]) 39 0 0) := by
      rw [f9_row]
      have e : (zsi (zsj M 67 0 L[j]) 39 0 0).1 39 1 = nI L.length := by simp [zsi1, zsj1, b1]
      rw [e, show (1 : Int32) = nI 1 from rfl, nI_sub (by omega), in_ok (by omega) (by omega), Option.bind_some, if_neg (by decide), zaJ_n (by omega) (by omega)]
      simp [zsi2, zsj2, e9]
    exact Or.inl ⟨_, _, h8, h9, by simp [f9_thrown, zsi1], by simp [zsi2, zsj2], zInv_to h ((zO67 M _).trans (o_X9_row h9)) (Or.inl rfl) (Or.inl rfl) (Or.inl rfl) (Or.inl rfl) (Or.inl rfl) (Or.inl rfl) (Or.inl rfl) (Or.inl rfl)⟩
