/-! the reference reads a rule -/
def zrX (X : zM) (L a : Nat) (t : Nat → Nat) (N : Nat) (g : List Nat) : Prop := zRt X L a t ∧ X.1 39 10 = nI N ∧ X.1 39 15 = nI g.length ∧ ∀ i c, g[i]? = some c → X.1 46 i = nI (zcr c)
theorem zsg8a : ∀ r, r < 3 → ∀ j, j < 8 → j < zlen.getD (8 + r) 0 → zbi (1000 + zsgn (8 + r) j) = r + 1 ∧ ¬ (48 ≤ zsgn (8 + r) j ∧ zsgn (8 + r) j ≤ 57) ∧ zsgn (8 + r) j ≠ 41 := by decide +kernel
theorem zsg8c : ∀ r, r < 3 → ∀ j, j < 8 → j < zlen.getD (8 + r) 0 → ((2000 : Int32) + nI j) + (if nI r = 0 then 0 else if nI r = 1 then 3 else 5) = nI (zcr (1000 + zsgn (8 + r) j)) := by decide +kernel
theorem zsg8o : ∀ r, r < 3 → ∀ j, j < 8 → j < zlen.getD (8 + r) 0 → (1000 + zsgn (8 + r) j) ∈ [1060, 1062, 1061, 1043, 1045, 1042, 1047] := by decide +kernel
theorem zsg8 {r j : Nat} (hr : r < 3) (hj : j < 8) (h : j < zlen.getD (8 + r) 0) : zbi (1000 + zsgn (8 + r) j) = r + 1 ∧ ((2000 : Int32) + nI j) + (if nI r = 0 then 0 else if nI r = 1 then 3 else 5) = nI (zcr (1000 + zsgn (8 + r) j)) ∧ ¬ (48 ≤ zsgn (8 + r) j ∧ zsgn (8 + r) j ≤ 57) ∧ zsgn (8 + r) j ≠ 41 ∧ zop (1000 + zsgn (8 + r) j) := by
  obtain ⟨h1, h2, h3⟩ := zsg8a r hr j hj h
  refine ⟨h1, zsg8c r hr j hj h, h2, h3, ?_⟩
  have := zsg8o r hr j hj h
  simp only [List.mem_cons, List.not_mem_nil, or_false] at this
  unfold zop
  exact this
theorem zsg8n : ∀ r, r < 3 → ∀ s, s < 256 → (∀ j, j < 8 → j < zlen.getD (8 + r) 0 → s ≠ zsgn (8 + r) j) → zbi (1000 + s) ≠ r + 1 := by decide +kernel
theorem zsg7a : ∀ j, j < 8 → ztrt (zsgn 7 j) = true ∧ zsgn 7 j ≠ 45 ∧ zsgn 7 j ≠ 40 ∧ ¬ (48 ≤ zsgn 7 j ∧ zsgn 7 j ≤ 57) := by decide +kernel
theorem zsg7c : ∀ j, j < 8 → (1000 : Int32) + nI j = nI (zcr (1000 + zsgn 7 j)) := by decide +kernel
theorem zsg7o : ∀ j, j < 8 → (1000 + zsgn 7 j) ∈ [1107, 1105, 1111, 1099, 1108, 1101, 1115, 1110] := by decide +kernel
theorem zsg7 {j : Nat} (hj : j < 8) : ztrt (zsgn 7 j) = true ∧ zsgn 7 j ≠ 45 ∧ zsgn 7 j ≠ 40 ∧ ¬ (48 ≤ zsgn 7 j ∧ zsgn 7 j ≤ 57) ∧ (1000 : Int32) + nI j = nI (zcr (1000 + zsgn 7 j)) ∧ zlf (1000 + zsgn 7 j) := by
  obtain ⟨h1, h2, h3, h4⟩ := zsg7a j hj
  refine ⟨h1, h2, h3, h4, zsg7c j hj, ?_⟩
  have := zsg7o j hj
  simp only [List.mem_cons, List.not_mem_nil, or_false] at this
  unfold zlf
  exact Or.inr this
theorem zsg7n : ∀ s, s < 256 → (∀ j, j < 8 → s ≠ zsgn 7 j) → ztrt s = false := by decide +kernel
section RR
variable {M X : zM} {n L a : Nat} {t : Nat → Nat} {N : Nat} {g : List Nat}
theorem r_takes (h : zRt M n a t) {v : Nat} (hv : v < 256) : (a < n ∧ t a = v ∧ f9_takes (nI v) M = some (1, zsi M 39 8 (nI (a + 1)))) ∨ ((a = n ∨ t a ≠ v) ∧ f9_takes (nI v) M = some (0, zsi M 39 8 (nI a))) := by
  obtain ⟨h1, h2, h3, h4, h5, h6⟩ := h
  have k0 : f9_takes_29 0 M = some (0, zsi M 39 8 (nI a)) := by
    show some ((0 : Int32), zsi M 39 8 (M.1 39 8 + 0)) = _
    rw [h4, Int32.add_zero]
  have k1 : f9_takes_29 1 M = some (1, zsi M 39 8 (nI (a + 1))) := by
    show some ((1 : Int32), zsi M 39 8 (M.1 39 8 + 1)) = _
    rw [h4, nI_1]
  by_cases ha : a = n
  · refine Or.inr ⟨Or.inl ha, ?_⟩
    rw [f9_takes, h3, h4, if_pos (nI_le (by omega) (by omega))]
    exact k0
  · have ht := (h5 a (by omega)).1
    have e : f9_takes (nI v) M = f9_takes_29 (if nI (t a) = nI v then 1 else 0) M := by
      rw [f9_takes, h3, h4, if_neg (nI_ge (by omega) (by omega)), zaI_n (by omega) (by omega), (h5 a (by omega)).2, Option.bind_some]
    by_cases q : t a = v
    · refine Or.inl ⟨by omega, q, ?_⟩
      rw [e, q, if_pos rfl]
      exact k1
    · refine Or.inr ⟨Or.inr q, ?_⟩
      rw [e, if_neg (nI_ne q (by omega) (by omega))]
      exact k0
theorem zrX.mv (h : zrX X L a t N g) (ha : a < L) : zrX (zsi X 39 8 (nI (a + 1))) L (a + 1) t N g := by
  obtain ⟨h1, h2, h3, h4⟩ := h
  exact ⟨h1.step ha, by rw [zsi1, if_neg (by omega)]; exact h2, by rw [zsi1, if_neg (by omega)]; exact h3, fun i c hc => by rw [zsi_ne (by omega)]; exact h4 i c hc⟩
theorem zrX.rs (h : zrX X L a t N g) : zrX (zsi X 39 8 (nI a)) L a t N g := by
  obtain ⟨h1, h2, h3, h4⟩ := h
  exact ⟨h1.to (by rw [zsi1, if_neg (by omega)]) (by rw [zsi1, if_pos ⟨rfl, rfl⟩]; exact h1.2.2.2.1.symm) (zsi_ne (by omega)) (by rw [zsi1, if_neg (by omega)]), by rw [zsi1, if_neg (by omega)]; exact h2, by rw [zsi1, if_neg (by omega)]; exact h3, fun i c hc => by rw [zsi_ne (by omega)]; exact h4 i c hc⟩
theorem zrX.ne (h : zrX X L a t N g) (m : Nat) : zrX (zsi X 39 10 (nI m)) L a t m g := by
  obtain ⟨h1, h2, h3, h4⟩ := h
  exact ⟨h1.to (by rw [zsi1, if_neg (by omega)]) (by rw [zsi1, if_neg (by omega)]) (zsi_ne (by omega)) (by rw [zsi1, if_neg (by omega)]), by rw [zsi1, if_pos ⟨rfl, rfl⟩], by rw [zsi1, if_neg (by omega)]; exact h3, fun i c hc => by rw [zsi_ne (by omega)]; exact h4 i c hc⟩
theorem r_code {k : Nat} (h : zRt X L a t) (h2 : X.1 39 15 = nI k) (hk : k < 80) (v : Int32) : ∃ Y, f9_codes v X = some Y ∧ zRt Y L a t ∧ Y.1 39 15 = nI (k + 1) ∧ Y.1 39 10 = X.1 39 10 ∧ Y.1 46 k = v ∧ ∀ i, i ≠ k → Y.1 46 i = X.1 46 i := by
  refine ⟨zsi (zsi X 46 k v) 39 15 (nI (k + 1)), ?_, ?_, by rw [zsi1, if_pos ⟨rfl, rfl⟩], by rw [zsi1, if_neg (by omega), zsi_ne (by omega)], by rw [zsi_ne (by omega), zsi1, if_pos ⟨rfl, rfl⟩], fun i hi => by rw [zsi_ne (by omega), zsi1, if_neg (by omega)]⟩
  · rw [f9_codes, h2, zpI_n hk (by omega), Option.bind_some, show (zsi X 46 k v).1 39 15 = nI k by rw [zsi_ne (by omega)]; exact h2, nI_1]
  · exact h.to (by rw [zsi1, if_neg (by omega), zsi_ne (by omega)]) (by rw [zsi1, if_neg (by omega), zsi_ne (by omega)]) (by rw [zsi_ne (by omega), zsi_ne (by omega)]) (by rw [zsi1, if_neg (by omega), zsi_ne (by omega)])
theorem zrX.em (h : zrX X L a t N g) (hg : g.length < 80) (c : Nat) : ∃ Y, f9_codes (nI (zcr c)) X = some Y ∧ zrX Y L a t N (g ++ [c]) := by
  obtain ⟨h1, h2, h3, h4⟩ := h
  obtain ⟨Y, y1, y2, y3, y4, y5, y6⟩ := r_code h1 h3 hg (nI (zcr c))
  refine ⟨Y, y1, y2, by rw [y4, h2], by rw [y3, List.length_append]; rfl, fun i d hi => ?_⟩
  by_cases q : i = g.length
  · rw [q, List.getElem?_append_right (Nat.le_refl _), Nat.sub_self] at hi
    have : c = d := by simpa using hi
    rw [q, y5, this]
  · have hl := (List.getElem?_eq_some_iff.mp hi).1
    rw [List.length_append] at hl
    have hl2 : i < g.length := by
      have : i < g.length + 1 := hl
      omega
    rw [List.getElem?_append_left hl2] at hi
    rw [y6 i q]
    exact h4 i d hi
def zOk (t : Nat → Nat) (L r m a : Nat) (o W : List Nat) (dg : Nat) (C : List Bool) (g : List Nat) (a' : Nat) (o' P : List Nat) (dg' : Nat) (C' : List Bool) (e : List Nat) (Y : zM) : Prop :=
  zR t a (o, W, dg, C, true) a' (o', P ++ W, dg', C', false) ∧ a' ≤ L ∧ o' ++ P = o ++ e ∧ (∀ c, c ∈ P → r + 1 ≤ zbi c) ∧ (∀ h, zcsl e h = some (h + 1)) ∧ e.length + a ≤ a' ∧ zrX Y L a' t (C.length - 1) (g ++ e) ∧ C'.tail = C.tail ∧ C'.length = C.length ∧ (r ≠ 0 → C' = C) ∧ (a' < L → (48 ≤ t a' → t a' ≤ 57 → 3 ≤ dg') ∧ (zbi (1000 + t a') ≤ m ∨ (C'.headD false = true ∧ zbi (1000 + t a') ≤ 1)))
def zNo (t : Nat → Nat) (L a : Nat) (st : zL5) (g0 : Nat) (Y : zM) : Prop := ∃ q st' k, zR t a st q st' ∧ q ≤ L ∧ zRt Y L q t ∧ Y.1 39 15 = nI k ∧ k + a ≤ g0 + q ∧ ((q < L ∧ zstp (t q) st' = none) ∨ (q = L ∧ (st'.2.2.2.2 = true ∨ 1 < st'.2.2.2.1.length)))
theorem zNo.tr {b g0 g1 : Nat} {st st1 : zL5} {Y : zM} (h1 : zR t a st b st1) (h : zNo t L b st1 g1 Y) (hg : g1 + a ≤ g0 + b) : zNo t L a st g0 Y := by
  obtain ⟨q, st', k, h2, h3, h4, h5, h6, h7⟩ := h
  exact ⟨q, st', k, h1.tr h2, h3, h4, h5, by have := h2.1; omega, h7⟩
def zPo (t : Nat → Nat) (L r a : Nat) (o W : List Nat) (dg : Nat) (C : List Bool) (g : List Nat) (p : Int32 × zM) : Prop := (p.1 = 1 ∧ ∃ a' o' P dg' C' e, zOk t L r r a o W dg C g a' o' P dg' C' e p.2) ∨ (p.1 = 0 ∧ zNo t L a (o, W, dg, C, true) g.length p.2)
/-- the rest of a number -/
theorem r_num : ∀ (d k a v : Nat) (X : zM) (f : Nat), k + d = 3 → d < f → zRt X L a t → v < 10 ^ k → ∃ m v' Y, f9_number_13 f 3 (nI v) (nI k) X = some (nI v', Y) ∧ (Y = X ∨ Y = zsi X 39 8 (nI (a + m))) ∧ zRt Y L (a + m) t ∧ m ≤ d ∧ v' < 10 ^ (k + m) ∧ (∀ (o W : List Nat) (C : List Bool), zR t a (o ++ [v], W, k, C, false) (a + m) (o ++ [v'], W, k + m, C, false)) ∧ (a + m < L → 48 ≤ t (a + m) → t (a + m) ≤ 57 → 3 ≤ k + m) := by
  intro d
  induction d with
  | zero =>
    intro k a v X f hk hf h hv
    obtain ⟨f, rfl⟩ : ∃ g, f = g + 1 := ⟨f - 1, by omega⟩
    refine ⟨0, v, X, ?_, Or.inl rfl, h, Nat.le_refl _, hv, fun o W C => zR.rf, fun _ _ _ => by omega⟩
    rw [f9_number_13, if_pos (show (3 : Int32) ≤ nI k by rw [show k = 3 by omega]; decide)]
  | succ d ih =>
    intro k a v X f hk hf h hv
    obtain ⟨f, rfl⟩ : ∃ g, f = g + 1 := ⟨f - 1, by omega⟩
    have hd := r_isDig h
    have i3 : ¬ (3 : Int32) ≤ nI k := nI_ge (b := 3) (by omega) (by omega)
    by_cases q : a < L ∧ 48 ≤ t a ∧ t a ≤ 57
    · rw [decide_eq_true q.1, decide_eq_true q.2.1, decide_eq_true q.2.2] at hd
      have hv2 : 10 * v + (t a - 48) < 10 ^ (k + 1) := by rw [Nat.pow_succ]; omega
      obtain ⟨m, v', Y, y1, y2, y3, y4, y5, y6, y7⟩ := ih (k + 1) (a + 1) (10 * v + (t a - 48)) (zsi X 39 8 (nI (a + 1))) f (by omega) (by omega) (h.step q.1) hv2
      refine ⟨m + 1, v', Y, ?_, Or.inr ?_, by rw [show a + (m + 1) = a + 1 + m by omega]; exact y3, by omega, by rw [show k + (m + 1) = k + 1 + m by omega]; exact y5, fun o W C => ?_, by rw [show a + (m + 1) = a + 1 + m by omega, show k + (m + 1) = k + 1 + m by omega]; exact y7⟩
      · have ev : ((10 : Int32) * nI v + nI (t a)) - 48 = nI (10 * v + (t a - 48)) := by
          rw [show (10 : Int32) * nI v = nI (10 * v) from nI_mul 10 v, nI_add, show nI (10 * v + t a) - 48 = nI (10 * v + t a - 48) from nI_sub (b := 48) (by omega)]
          congr 1
          omega
        obtain ⟨h1, h2, h3, h4, h5, h6⟩ := h
        rw [f9_number_13, if_neg i3, hd, Option.bind_some, if_neg (by decide), h4, zaI_n (by omega) (by omega), (h5 a q.1).2, Option.bind_some, ev, nI_1, nI_1]
        exact y1
      · rcases y2 with y2 | y2
        · have := y3.2.2.2.1
          rw [y2, zsi1, if_pos ⟨rfl, rfl⟩] at this
          rw [y2, this, show a + (m + 1) = a + 1 + m by omega]
        · rw [y2, zsi_zsi, show a + (m + 1) = a + 1 + m by omega]
      · have s1 : zstp (t a) (o ++ [v], W, k, C, false) = some (o ++ [10 * v + (t a - 48)], W, k + 1, C, false) := by
          show zstJ (t a) (o ++ [v], W, k, C, false) = _
          unfold zstJ
          simp only []
          rw [if_pos ⟨q.2.1, q.2.2⟩, if_neg (by omega), List.dropLast_concat, List.getLastD_concat]
        have := (zR.st s1).tr (y6 o W C)
        rw [show a + (m + 1) = a + 1 + m by omega, show k + (m + 1) = k + 1 + m by omega]
        exact this
    · refine ⟨0, v, X, ?_, Or.inl rfl, h, Nat.zero_le _, hv, fun o W C => zR.rf, fun q1 q2 q3 => absurd ⟨q1, q2, q3⟩ q⟩
      have e0 : (decide (a < L) && (decide (48 ≤ t a) && decide (t a ≤ 57))) = false := by
        rw [← Bool.not_eq_true]
        simp only [Bool.and_eq_true, decide_eq_true_eq]
        exact fun z => q z
      rw [f9_number_13, if_neg i3, hd, e0, Option.bind_some, if_pos (show nI (zi false) = 0 from rfl)]
end RR
