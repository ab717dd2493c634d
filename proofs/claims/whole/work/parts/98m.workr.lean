/-! a work's text: the reference reads an act -/
/-- the sign of an act, by its number; how many digits, and their bounds -/
def zjd (j : Nat) : Nat := if j < 2 then 1 else if j < 4 then 2 else 4
def zjb (j k : Nat) : Nat := if k = 0 ∧ (j = 1 ∨ j = 2 ∨ j = 4) then 49 else 57
theorem zj_id : ∀ j, j < 5 → zid (zsgn 11 j) ≠ 5 ∧ zll (zid (zsgn 11 j)) = zjd j ∧ ∀ k, k < 4 → k < zjd j → zsgn (zid (zsgn 11 j)) k = zjb j k := by decide +kernel
theorem zid_5 : ∀ s, s < 256 → (∀ j, j < 5 → s ≠ zsgn 11 j) → zid s = 5 := by decide +kernel
def zjg (t : Nat → Nat) (j k p : Nat) : Prop := 48 ≤ t p ∧ t p ≤ zjb j k
section WR
variable {M : zM} {n a : Nat} {t : Nat → Nat}
/-- what an act tells -/
def zad2 (X : zM) (k j : Nat) (t : Nat → Nat) (a : Nat) : Prop := X.1 50 k = nI j ∧ X.1 51 k = nI (t a - 48) ∧ (2 ≤ j → X.1 52 k = nI (t (a + 1) - 48)) ∧ (4 ≤ j → X.1 53 k = nI (10 * (t (a + 2) - 48) + (t (a + 3) - 48)))
def zkeep (X Y : zM) (k : Nat) : Prop := Y.1 39 24 = X.1 39 24 ∧ ∀ i, i ≠ k → Y.1 50 i = X.1 50 i ∧ Y.1 51 i = X.1 51 i ∧ Y.1 52 i = X.1 52 i ∧ Y.1 53 i = X.1 53 i
theorem zRt_o {X : zM} {b : Nat} (h : zRt X n b t) {k i : Nat} {v : Int32} (hk : k = 50 ∨ k = 51 ∨ k = 52 ∨ k = 53) : zRt (zsi X k i v) n b t :=
  h.to (by rw [zsi_ne (by omega)]) (by rw [zsi_ne (by omega)]) (by rw [zsi_ne (by omega)]) (by rw [zsi_ne (by omega)])
theorem ra_74 (h : zRt M n a t) {k j : Nat} (hk : k < 60) (h50 : M.1 50 k = nI j) (hj : j < 5) {s0 : Int32} (hs0 : s0 = if j = 1 ∨ j = 2 ∨ j = 4 then 1 else 0) : ((∀ i, i < zjd j → a + i < n ∧ zjg t j i (a + i)) ∧ ∃ X, f9_readsAct_74 (nI k) s0 M = some (1, X) ∧ zRt X n (a + zjd j) t ∧ zad2 X k j t a ∧ zkeep M X k) ∨ ∃ i, i < zjd j ∧ (∀ i', i' < i → a + i' < n ∧ zjg t j i' (a + i')) ∧ (a + i = n ∨ ¬ zjg t j i (a + i)) ∧ ∃ X, f9_readsAct_74 (nI k) s0 M = some (0, X) ∧ zRt X n (a + i) t := by
  have hpos : 0 < zjd j := by unfold zjd; split <;> (try split) <;> omega
  have e74 : f9_readsAct_74 (nI k) s0 M = (f9_digitIn (nI 0) (nI (zjb j 0 - 48)) M).bind fun p1 => (zpI p1.2 60 51 (nI k) p1.1).bind fun M2 => (zaI M2 60 51 (nI k)).bind fun x3 => if x3 < 0 then f9_readsAct_115 (nI k) M2 else (zaI M2 60 50 (nI k)).bind fun x4 => if (2 : Int32) ≤ x4 then (f9_number 1 M2).bind fun p5 => (zpI p5.2 60 52 (nI k) p5.1).bind fun M6 => (zaI M6 60 52 (nI k)).bind fun x7 => if x7 < 0 then f9_readsAct_160 (nI k) M6 else (zaI M6 60 50 (nI k)).bind fun x8 => if (4 : Int32) ≤ x8 then (f9_number 1 M6).bind fun p9 => if 0 ≤ p9.1 then (f9_number 1 p9.2).bind fun p10 => f9_readsAct_194 (nI k) p9.1 p10.1 p10.2 else f9_readsAct_194 (nI k) p9.1 (-1) p9.2 else f9_readsAct_160 (nI k) M6 else f9_readsAct_115 (nI k) M2 := by
    rw [f9_readsAct_74, hs0]
    have : (if (if j = 1 ∨ j = 2 ∨ j = 4 then (1 : Int32) else 0) = 0 then (9 : Int32) else 1) = nI (zjb j 0 - 48) := by
      by_cases g : j = 1 ∨ j = 2 ∨ j = 4
      · rw [if_pos g, if_neg (by decide), zjb, if_pos ⟨rfl, g⟩]
        rfl
      · rw [if_neg g, if_pos rfl, zjb, if_neg (fun q => g q.2)]
        rfl
    rw [this]
    rfl
  have hb0 : zjb j 0 = 49 ∨ zjb j 0 = 57 := by unfold zjb; split <;> omega
  rw [e74]
  -- the first digit
  rcases r_digitIn h (lo := 0) (hi := zjb j 0 - 48) (by omega) (by omega) with ⟨g1, g2, g3, g4⟩ | ⟨g1, g2⟩
  · have z0 : zjg t j 0 a := ⟨by omega, by omega⟩
    have h1 := zRt_o (h.step g1) (k := 51) (i := k) (v := nI (t a - 48)) (by omega)
    generalize hM2 : zsi (zsi M 39 8 (nI (a + 1))) 51 k (nI (t a - 48)) = M2 at h1
    have c51 : M2.1 51 k = nI (t a - 48) := by rw [← hM2]; simp [zsi1]
    have c50 : M2.1 50 k = nI j := by rw [← hM2]; simp [zsi1, h50]
    have kp2 : zkeep M M2 k := by
      rw [← hM2]
      exact ⟨by simp [zsi1], fun i hi => ⟨by simp [zsi1], by simp [zsi1, hi], by simp [zsi1], by simp [zsi1]⟩⟩
    rw [g4, Option.bind_some]
    simp only []
    rw [zpI_n hk (by omega), Option.bind_some, hM2, zaI_n hk (by omega), c51, Option.bind_some, if_neg (nI_pos (by omega)), zaI_n hk (by omega), c50, Option.bind_some]
    by_cases j2 : j < 2
    · have ed : zjd j = 1 := by unfold zjd; rw [if_pos j2]
      rw [if_neg (show ¬ (2 : Int32) ≤ nI j from nI_ge (b := 2) j2 (by omega)), f9_readsAct_115, zaI_n hk (by omega), c51, Option.bind_some, if_neg (nI_pos (by omega)), ed]
      refine Or.inl ⟨fun i hi => ?_, M2, rfl, h1, ⟨c50, c51, fun q => absurd q (by omega), fun q => absurd q (by omega)⟩, kp2⟩
      have : i = 0 := by omega
      subst this
      exact ⟨g1, z0⟩
    · rw [if_pos (show (2 : Int32) ≤ nI j from nI_le (a := 2) (by omega) (by omega))]
      have b1 : zjb j 1 = 57 := by unfold zjb; rw [if_neg (by omega)]
      have ed2 : 2 ≤ zjd j := by unfold zjd; rw [if_neg j2]; split <;> omega
      rcases r_num1 h1 with ⟨k1, k2, k3, k4⟩ | ⟨k1, k2⟩
      · have z1 : zjg t j 1 (a + 1) := ⟨k2, by omega⟩
        have h2 := zRt_o (h1.step k1) (k := 52) (i := k) (v := nI (t (a + 1) - 48)) (by omega)
        generalize hM6 : zsi (zsi M2 39 8 (nI (a + 1 + 1))) 52 k (nI (t (a + 1) - 48)) = M6 at h2
        have d52 : M6.1 52 k = nI (t (a + 1) - 48) := by rw [← hM6]; simp [zsi1]
        have d51 : M6.1 51 k = nI (t a - 48) := by rw [← hM6]; simp [zsi1, c51]
        have d50 : M6.1 50 k = nI j := by rw [← hM6]; simp [zsi1, c50]
        have kp6 : zkeep M M6 k := by
          rw [← hM6]
          exact ⟨by simp [zsi1, kp2.1], fun i hi => ⟨by simp [zsi1, (kp2.2 i hi).1], by simp [zsi1, (kp2.2 i hi).2.1], by simp [zsi1, hi, (kp2.2 i hi).2.2.1], by simp [zsi1, (kp2.2 i hi).2.2.2]⟩⟩
        rw [k4, Option.bind_some]
        simp only []
        rw [zpI_n hk (by omega), Option.bind_some, hM6, zaI_n hk (by omega), d52, Option.bind_some, if_neg (nI_pos (by omega)), zaI_n hk (by omega), d50, Option.bind_some]
        by_cases j4 : j < 4
        · have ed : zjd j = 2 := by unfold zjd; rw [if_neg j2, if_pos j4]
          rw [if_neg (show ¬ (4 : Int32) ≤ nI j from nI_ge (b := 4) j4 (by omega)), f9_readsAct_160, zaI_n hk (by omega), d52, Option.bind_some, if_neg (nI_pos (by omega)), ed]
          refine Or.inl ⟨fun i hi => ?_, M6, rfl, h2, ⟨d50, d51, fun _ => d52, fun q => absurd q (by omega)⟩, kp6⟩
          rcases (show i = 0 ∨ i = 1 by omega) with rfl | rfl
          · exact ⟨g1, z0⟩
          · exact ⟨k1, z1⟩
        · have ej : j = 4 := by omega
          have ed : zjd j = 4 := by unfold zjd; rw [if_neg j2, if_neg j4]
          have b2 : zjb j 2 = 57 := by unfold zjb; rw [if_neg (by omega)]
          have b3 : zjb j 3 = 57 := by unfold zjb; rw [if_neg (by omega)]
          rw [if_pos (show (4 : Int32) ≤ nI j from nI_le (a := 4) (by omega) (by omega))]
          have g01 : ∀ i', i' < 2 → a + i' < n ∧ zjg t j i' (a + i') := by
            intro i' hi
            rcases (show i' = 0 ∨ i' = 1 by omega) with rfl | rfl
            · exact ⟨g1, z0⟩
            · exact ⟨k1, z1⟩
          rcases r_num1 h2 with ⟨l1, l2, l3, l4⟩ | ⟨l1, l2⟩
          · have z2 : zjg t j 2 (a + 2) := ⟨l2, by rw [b2]; exact l3⟩
            have h3 := h2.step l1
            rw [l4, Option.bind_some]
            simp only []
            rw [if_pos (nI_pos' (by omega))]
            rcases r_num1 h3 with ⟨o1, o2, o3, o4⟩ | ⟨o1, o2⟩
            · have z3 : zjg t j 3 (a + 3) := ⟨o2, by rw [b3]; exact o3⟩
              have h4 := zRt_o (h3.step o1) (k := 53) (i := k) (v := nI (10 * (t (a + 2) - 48) + (t (a + 3) - 48))) (by omega)
              rw [o4, Option.bind_some]
              simp only []
              rw [f9_readsAct_194, show (10 : Int32) = nI 10 from rfl, nI_mul, nI_add, zpI_n hk (by omega), Option.bind_some, if_neg (nI_pos (by omega)), ed]
              refine Or.inl ⟨fun i hi => ?_, _, rfl, h4, ⟨by simp [zsi1, d50], by simp [zsi1, d51], fun _ => by simp [zsi1, d52], fun _ => by simp [zsi1]⟩, ⟨by simp [zsi1, kp6.1], fun i hi => ⟨by simp [zsi1, (kp6.2 i hi).1], by simp [zsi1, (kp6.2 i hi).2.1], by simp [zsi1, (kp6.2 i hi).2.2.1], by simp [zsi1, hi, (kp6.2 i hi).2.2.2]⟩⟩⟩
              rcases (show i < 2 ∨ i = 2 ∨ i = 3 by omega) with q | rfl | rfl
              · exact g01 i q
              · exact ⟨l1, z2⟩
              · exact ⟨o1, z3⟩
            · rw [o2, Option.bind_some]
              simp only []
              refine Or.inr ⟨3, by omega, fun i hi => ?_, ?_, _, ?_, zRt_o h3 (k := 53) (i := k) (v := nI 10 * nI (t (a + 2) - 48) + -1) (by omega)⟩
              · rcases (show i < 2 ∨ i = 2 by omega) with q | rfl
                · exact g01 i q
                · exact ⟨l1, z2⟩
              · rcases o1 with o1 | o1
                · exact Or.inl o1
                · refine Or.inr (fun q => o1 ⟨q.1, ?_⟩)
                  have := q.2
                  rw [b3] at this
                  exact this
              · rw [f9_readsAct_194, zpI_n hk (by omega), Option.bind_some, if_pos (by decide)]
                rfl
          · rw [l2, Option.bind_some]
            simp only []
            rw [if_neg (by decide)]
            refine Or.inr ⟨2, by omega, g01, ?_, _, ?_, zRt_o h2 (k := 53) (i := k) (v := nI 10 * -1 + -1) (by omega)⟩
            · rcases l1 with l1 | l1
              · exact Or.inl l1
              · refine Or.inr (fun q => l1 ⟨q.1, ?_⟩)
                have := q.2
                rw [b2] at this
                exact this
            · rw [f9_readsAct_194, zpI_n hk (by omega), Option.bind_some, if_pos (by decide)]
              rfl
      · rw [k2, Option.bind_some]
        simp only []
        have e52 : (zsi M2 52 k (-1)).1 52 k = -1 := by simp [zsi1]
        rw [zpI_n hk (by omega), Option.bind_some, zaI_n hk (by omega), e52, Option.bind_some, if_pos (by decide), f9_readsAct_160, zaI_n hk (by omega), e52, Option.bind_some, if_pos (by decide)]
        refine Or.inr ⟨1, by omega, fun i hi => ?_, ?_, _, rfl, zRt_o h1 (k := 52) (i := k) (v := -1) (by omega)⟩
        · have : i = 0 := by omega
          subst this
          exact ⟨g1, z0⟩
        · rcases k1 with k1 | k1
          · exact Or.inl k1
          · refine Or.inr (fun q => k1 ⟨q.1, ?_⟩)
            have := q.2
            rw [b1] at this
            exact this
  · rw [g2, Option.bind_some]
    simp only []
    have e51 : (zsi M 51 k (-1)).1 51 k = -1 := by simp [zsi1]
    rw [zpI_n hk (by omega), Option.bind_some, zaI_n hk (by omega), e51, Option.bind_some, if_pos (by decide), f9_readsAct_115, zaI_n hk (by omega), e51, Option.bind_some, if_pos (by decide)]
    refine Or.inr ⟨0, hpos, fun i hi => absurd hi (by omega), ?_, _, rfl, zRt_o h (k := 51) (i := k) (v := -1) (by omega)⟩
    rcases g1 with g1 | g1
    · exact Or.inl g1
    · refine Or.inr (fun q => g1 ⟨q.1, ?_⟩)
      have := q.2
      rw [Nat.add_zero] at this
      omega
/-- an act, or its fault -/
theorem r_readsAct (h : zRt M n a t) {k : Nat} (hk : k < 60) (hak : M.1 39 24 = nI k) : (∃ j, j < 5 ∧ a < n ∧ t a = zsgn 11 j ∧ (∀ i, i < zjd j → a + 1 + i < n ∧ zjg t j i (a + 1 + i)) ∧ ∃ X, f9_readsAct M = some (1, X) ∧ zRt X n (a + 1 + zjd j) t ∧ zad2 X k j t (a + 1) ∧ X.1 39 24 = nI (k + 1) ∧ ∀ i, i ≠ k → X.1 50 i = M.1 50 i ∧ X.1 51 i = M.1 51 i ∧ X.1 52 i = M.1 52 i ∧ X.1 53 i = M.1 53 i) ∨ (∃ j i, j < 5 ∧ a < n ∧ t a = zsgn 11 j ∧ i < zjd j ∧ (∀ i', i' < i → a + 1 + i' < n ∧ zjg t j i' (a + 1 + i')) ∧ (a + 1 + i = n ∨ ¬ zjg t j i (a + 1 + i)) ∧ ∃ X, f9_readsAct M = some (0, X) ∧ zRt X n (a + 1 + i) t) ∨ ((a = n ∨ ∀ j, j < 5 → t a ≠ zsgn 11 j) ∧ ∃ X, f9_readsAct M = some (0, X) ∧ zRt X n a t) := by
  rcases r_takesOf h (k := 11) (by omega) with ⟨j, hj, ha, ht, e⟩ | ⟨no, e⟩
  · have hj5 : j < 5 := hj
    have h1 := h.step ha
    have h2 : zRt (zsi (zsi (zsi M 39 8 (nI (a + 1))) 50 k (nI j)) 39 24 (nI (k + 1))) n (a + 1) t := (zRt_o h1 (k := 50) (by omega)).to (by simp [zsi1]) (by simp [zsi1]) (by rw [zsi_ne (by omega)]) (by simp [zsi1])
    have e50 : (zsi (zsi (zsi M 39 8 (nI (a + 1))) 50 k (nI j)) 39 24 (nI (k + 1))).1 50 k = nI j := by simp [zsi1]
    have er : f9_readsAct M = f9_readsAct_74 (nI k) (if j = 1 ∨ j = 2 ∨ j = 4 then 1 else 0) (zsi (zsi (zsi M 39 8 (nI (a + 1))) 50 k (nI j)) 39 24 (nI (k + 1))) := by
      have e24 : (zsi (zsi M 39 8 (nI (a + 1))) 50 k (nI j)).1 39 24 + 1 = nI (k + 1) := by
        rw [show (zsi (zsi M 39 8 (nI (a + 1))) 50 k (nI j)).1 39 24 = nI k by simp [zsi1, hak], nI_1]
      rw [f9_readsAct, e, Option.bind_some, hak]
      simp only []
      rw [zpI_n hk (by omega), Option.bind_some, e24, zaI_n hk (by omega), e50, Option.bind_some, if_pos (nI_pos' (by omega)), Option.bind_some]
      rcases (show j = 0 ∨ j = 1 ∨ j = 2 ∨ j = 3 ∨ j = 4 by omega) with rfl | rfl | rfl | rfl | rfl <;> rfl
    rw [er]
    rcases ra_74 h2 hk e50 hj5 rfl with ⟨q1, X, q2, q3, q4, q5⟩ | ⟨i, q1, q2, q3, X, q4, q5⟩
    · refine Or.inl ⟨j, hj5, ha, ht, q1, X, q2, q3, q4, by rw [q5.1]; simp [zsi1], fun i hi => ?_⟩
      obtain ⟨r1, r2, r3, r4⟩ := q5.2 i hi
      rw [r1, r2, r3, r4]
      simp [zsi1, hi]
    · exact Or.inr (Or.inl ⟨j, i, hj5, ha, ht, q1, q2, q3, X, q4, q5⟩)
  · refine Or.inr (Or.inr ⟨no.elim Or.inl (fun q => Or.inr (fun j hj => q j hj)), _, ?_, (zRt_o h (k := 50) (i := k) (v := -1) (by omega)).to (by simp [zsi1] : (zsi (zsi M 50 k (-1)) 39 24 (nI (k + 1))).1 39 9 = _) (by simp [zsi1]) (by rw [zsi_ne (by omega)]) (by simp [zsi1])⟩)
    have e24 : (zsi M 50 k (-1)).1 39 24 + 1 = nI (k + 1) := by
      rw [show (zsi M 50 k (-1)).1 39 24 = nI k by simp [zsi1, hak], nI_1]
    have e50 : (zsi (zsi M 50 k (-1)) 39 24 (nI (k + 1))).1 50 k = -1 := by simp [zsi1]
    rw [f9_readsAct, e, Option.bind_some, hak]
    simp only []
    rw [zpI_n hk (by omega), Option.bind_some, e24, zaI_n hk (by omega), e50, Option.bind_some, if_neg (by decide)]
end WR
