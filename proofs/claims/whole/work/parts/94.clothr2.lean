/-! a cloth's text: the reference's way, both together, cloth -/
section CQ
variable {M : zM} {n a d : Nat} {t : Nat → Nat}
theorem r_dots (h : zRt M n a t) : (a < n ∧ t a = 46 ∧ f9_takesOf 6 M = some (nI 0, zsi M 39 8 (nI (a + 1)))) ∨ (a < n ∧ t a = 35 ∧ f9_takesOf 6 M = some (nI 1, zsi M 39 8 (nI (a + 1)))) ∨ ((a = n ∨ ¬ zgs t a) ∧ f9_takesOf 6 M = some (-1, M)) := by
  rcases r_takesOf h (k := 6) (by omega) with ⟨j, hj, ha, ht, e⟩ | ⟨no, e⟩
  · have hj2 : j < 2 := hj
    rcases (show j = 0 ∨ j = 1 by omega) with rfl | rfl
    · exact Or.inl ⟨ha, ht, e⟩
    · exact Or.inr (Or.inl ⟨ha, ht, e⟩)
  · refine Or.inr (Or.inr ⟨no.elim Or.inl (fun q => Or.inr (fun g => ?_)), e⟩)
    rcases g with g | g
    · exact q 1 (show 1 < 2 by omega) g
    · exact q 0 (show 0 < 2 by omega) g
theorem rc_good (h : zRt M n a t) (ha : a < n) (hg : zgs t a) {K : Int32 → Int32 → zM → Option (Int32 × zM)} {f v m : Nat} (hd : M.1 44 7 = nI d) (hd6 : d ≤ 6) (hm : m < d) (hv : v < 2 ^ m) : f9_readsCloth_92 K (f + 1) 1 (nI v) (nI m) M = f9_readsCloth_92 K f 1 (nI (v + (if t a = 35 then 1 else 0) * 2 ^ m)) (nI (m + 1)) (zsi M 39 8 (nI (a + 1))) := by
  have hz := zpw6 (n := m) (by omega)
  rw [f9_readsCloth_92, hd, if_neg (nI_ge hm (by omega)), if_neg (by decide)]
  rcases r_dots h with ⟨-, g, e⟩ | ⟨-, g, e⟩ | ⟨q, -⟩
  · rw [e, Option.bind_some, g]
    simp only []
    rw [if_neg (show ¬ nI 0 < 0 by decide), if_neg (show ¬ (1 : Int32) = 0 by decide), if_neg (show ¬ (46 = 35) by decide), nI_1, show zshl (nI 0) (nI m) = nI (0 * 2 ^ m) from nI_shl (by omega) (by omega), nI_or, zor_disj hv]
  · rw [e, Option.bind_some, g, if_pos rfl]
    simp only []
    rw [if_neg (show ¬ nI 1 < 0 by decide), if_neg (show ¬ (1 : Int32) = 0 by decide), nI_1, nI_shl (by omega) (by omega), nI_or, zor_disj hv]
  · rcases q with q | q
    · omega
    · exact absurd hg q
theorem rc_bad (h : zRt M n a t) (hb : a = n ∨ ¬ zgs t a) {K : Int32 → Int32 → zM → Option (Int32 × zM)} {f m : Nat} {v : Int32} (hd : M.1 44 7 = nI d) (hd6 : d ≤ 6) (hm : m < d) : f9_readsCloth_92 K (f + 1) 1 v (nI m) M = f9_readsCloth_92 K f 0 (v ||| 0) (nI (m + 1)) M := by
  rw [f9_readsCloth_92, hd, if_neg (nI_ge hm (by omega)), if_neg (by decide)]
  rcases r_dots h with ⟨ha, g, e⟩ | ⟨ha, g, e⟩ | ⟨q, e⟩
  · rcases hb with hb | hb
    · omega
    · exact absurd (Or.inr g) hb
  · rcases hb with hb | hb
    · omega
    · exact absurd (Or.inl g) hb
  · rw [e, Option.bind_some]
    simp only []
    rw [if_pos (show (-1 : Int32) < 0 by decide), if_pos rfl, nI_1]
theorem rc_out {K : Int32 → Int32 → zM → Option (Int32 × zM)} {f : Nat} {v m : Int32} : f9_readsCloth_92 K (f + 1) 0 v m M = K 0 v M := by
  rw [f9_readsCloth_92]
  by_cases g : M.1 44 7 ≤ m
  · rw [if_pos g]
  · rw [if_neg g, if_pos rfl]
theorem rc_in_ok {k : Nat} (h : zRt M n (1 + k * d) t) {K : Int32 → Int32 → zM → Option (Int32 × zM)} (hd : M.1 44 7 = nI d) (hd6 : d ≤ 6) (hall : ∀ m, m < d → 1 + k * d + m < n ∧ zgs t (1 + k * d + m)) : ∃ M', f9_readsCloth_92 K zfuel 1 (nI 0) (nI 0) M = K 1 (nI (zrw t d k d)) M' ∧ zRt M' n (1 + (k + 1) * d) t ∧ M'.1 44 = M.1 44 := by
  refine zloopP (F := fun f m x => f9_readsCloth_92 K f 1 (nI (zrw t d k m)) (nI m) x) (I := fun m x => zRt x n (1 + k * d + m) t ∧ x.1 44 = M.1 44) (P := fun o => ∃ M', o = K 1 (nI (zrw t d k d)) M' ∧ zRt M' n (1 + (k + 1) * d) t ∧ M'.1 44 = M.1 44) d (by omega) (k0 := 0) (by omega) (fun f m x _ hm hx => Or.inl ?_) (fun f x hx => ?_) (x := M) ⟨h, rfl⟩
  · obtain ⟨x1, x2⟩ := hx
    obtain ⟨q1, q2⟩ := hall m hm
    exact ⟨_, rc_good x1 q1 q2 (by rw [x2]; exact hd) hd6 hm (zrw_lt t d k m), x1.step q1, by rw [zsi_ne (by omega)]; exact x2⟩
  · obtain ⟨x1, x2⟩ := hx
    refine ⟨x, ?_, ?_, x2⟩
    · show f9_readsCloth_92 K (f + 1) 1 _ (nI d) x = _
      rw [f9_readsCloth_92, x2, hd, if_pos (nI_le (Nat.le_refl _) (by omega))]
    · rw [show 1 + (k + 1) * d = 1 + k * d + d by rw [Nat.add_mul]; omega]
      exact x1
theorem rc_in_bad {k m0 : Nat} (h : zRt M n (1 + k * d) t) {K : Int32 → Int32 → zM → Option (Int32 × zM)} (hd : M.1 44 7 = nI d) (hd6 : d ≤ 6) (hm0 : m0 < d) (hall : ∀ m, m < m0 → 1 + k * d + m < n ∧ zgs t (1 + k * d + m)) (hb : 1 + k * d + m0 = n ∨ ¬ zgs t (1 + k * d + m0)) : ∃ v M', f9_readsCloth_92 K zfuel 1 (nI 0) (nI 0) M = K 0 v M' ∧ zRt M' n (1 + k * d + m0) t := by
  refine zloopP (σ := Int32 × Int32 × zM) (F := fun f m s => f9_readsCloth_92 K f s.1 s.2.1 (nI m) s.2.2) (I := fun m s => (m ≤ m0 → s.1 = 1 ∧ s.2.1 = nI (zrw t d k m) ∧ zRt s.2.2 n (1 + k * d + m) t ∧ s.2.2.1 44 = M.1 44) ∧ (m = m0 + 1 → s.1 = 0 ∧ zRt s.2.2 n (1 + k * d + m0) t)) (P := fun o => ∃ v M', o = K 0 v M' ∧ zRt M' n (1 + k * d + m0) t) (m0 + 1) (by omega) (k0 := 0) (by omega) (fun f m s _ hm hx => Or.inl ?_) (fun f s hx => ?_) (x := (1, nI 0, M)) ⟨fun _ => ⟨rfl, rfl, h, rfl⟩, fun q => absurd q (by omega)⟩
  · obtain ⟨s1, s2, s3⟩ := s
    obtain ⟨x1, x2, x3, x4⟩ := hx.1 (by omega)
    simp only [] at x1 x2 x3 x4
    subst x1
    subst x2
    by_cases g : m = m0
    · subst g
      refine ⟨(0, nI (zrw t d k m) ||| 0, s3), rc_bad x3 hb (by rw [x4]; exact hd) hd6 hm0, fun q => absurd q (by omega), fun _ => ⟨rfl, x3⟩⟩
    · obtain ⟨q1, q2⟩ := hall m (by omega)
      exact ⟨(1, nI (zrw t d k (m + 1)), zsi s3 39 8 (nI (1 + k * d + m + 1))), rc_good x3 q1 q2 (by rw [x4]; exact hd) hd6 (by omega) (zrw_lt t d k m), fun _ => ⟨rfl, rfl, x3.step q1, by rw [zsi_ne (by omega)]; exact x4⟩, fun q => absurd q (by omega)⟩
  · obtain ⟨s1, s2, s3⟩ := s
    obtain ⟨x1, x2⟩ := hx.2 rfl
    simp only [] at x1 x2
    subst x1
    exact ⟨s2, s3, rc_out, x2⟩
/-- where the reference stands ahead of a pick -/
def zpi (x : zM) (n d k : Nat) (t : Nat → Nat) : Prop := zRt x n (1 + k * d) t ∧ x.1 44 6 = nI k ∧ x.1 44 7 = nI d ∧ ∀ j, j < k → x.1 44 j = nI (zrw t d j d)
theorem rc_70 {f k : Nat} (hk : k < 7) (hp : zpi M n d k t) (ha : k = 0 ∨ 1 + k * d < n) : f9_readsCloth_45 (f + 1) 1 M = f9_readsCloth_92 (f9_readsCloth_147 (f9_readsCloth_45 f)) zfuel (if k = 6 then 0 else 1) (nI 0) (nI 0) M := by
  obtain ⟨p1, p2, p3, p4⟩ := hp
  obtain ⟨q1, q2, q3, q4, q5⟩ := p1
  have e : f9_readsCloth_70 (f9_readsCloth_45 f) M = f9_readsCloth_92 (f9_readsCloth_147 (f9_readsCloth_45 f)) zfuel (if k = 6 then 0 else 1) (nI 0) (nI 0) M := by
    rw [f9_readsCloth_70, p2]
    by_cases g : k = 6
    · rw [g, if_pos (by decide), if_pos rfl]
      rfl
    · rw [if_neg (show ¬ (6 : Int32) ≤ nI k from nI_ge (b := 6) (by omega) (by omega)), if_neg g]
      rfl
  rw [f9_readsCloth_45, if_neg (by decide), p2]
  by_cases g : k = 0
  · rw [g, if_pos (show nI 0 = 0 from rfl), e, g]
  · rw [if_neg (nI_ne0 (by omega) (by omega)), q3, q4, if_neg (nI_ge (by omega) (by omega)), e]
theorem rc_pick {f k : Nat} (hk : k < 6) (hd6 : d ≤ 6) (hp : zpi M n d k t) (hall : ∀ m, m < d → 1 + k * d + m < n ∧ zgs t (1 + k * d + m)) (hd1 : 1 ≤ d) : ∃ M', f9_readsCloth_45 (f + 1) 1 M = f9_readsCloth_45 f 1 M' ∧ zpi M' n d (k + 1) t := by
  rw [rc_70 (by omega) hp (Or.inr (by have := (hall 0 (by omega)).1; omega)), if_neg (by omega)]
  obtain ⟨p1, p2, p3, p4⟩ := hp
  obtain ⟨X, x1, x2, x3⟩ := rc_in_ok (K := f9_readsCloth_147 (f9_readsCloth_45 f)) p1 p3 hd6 hall
  rw [x1]
  refine ⟨zsi (zsi X 44 k (nI (zrw t d k d))) 44 6 (nI (k + 1)), ?_, x2.to (by simp [zsi1]) (by simp [zsi1]) (by rw [zsi_ne (by omega), zsi_ne (by omega)]) (by simp [zsi1]), by simp [zsi1], ?_, fun j hj => ?_⟩
  · have e : (zsi X 44 k (nI (zrw t d k d))).1 44 6 = nI k := by
      rw [zsi1, if_neg (by omega), x3, p2]
    rw [f9_readsCloth_147, if_neg (by decide), x3, p2, zpI_n (by omega) (by omega), Option.bind_some, e, nI_1, f9_readsCloth_175]
  · rw [zsi1, if_neg (by omega), zsi1, if_neg (by omega), x3, p3]
  · rw [zsi1, if_neg (by omega), zsi1]
    by_cases g : j = k
    · rw [if_pos ⟨rfl, g⟩, g]
    · rw [if_neg (fun q => g q.2), x3]
      exact p4 j (by omega)
theorem rc_start (h : zTr M n t) : (¬ zw0 n t ∧ ∃ M', f9_readsCloth M = some (-1 - nI 0, M') ∧ M'.1 39 7 = nI 0) ∨ (zw0 n t ∧ ∃ M', f9_readsCloth M = f9_readsCloth_45 zfuel 1 M' ∧ zpi M' n (t 0 - 48) 0 t) := by
  have hn := h.1
  obtain ⟨X, x1, x2, x4⟩ := r_begins h (m := 80) (by omega)
  rw [Nat.min_eq_left hn] at x2
  have y2 : zRt (zsi X 44 6 0) n 0 t := x2.to (by simp [zsi1]) (by simp [zsi1]) (zsi_ne (by omega)) (by simp [zsi1])
  have e : f9_readsCloth M = (f9_digitIn (nI 1) (nI 6) (zsi X 44 6 0)).bind fun p2 => f9_readsCloth_45 zfuel (if ((zsi p2.2 44 7 p2.1).1 44 7) ≤ 0 then 0 else 1) (zsi p2.2 44 7 p2.1) := by
    rw [f9_readsCloth, show f9_begins (80 : Int32) M = f9_begins (nI 80) M from rfl, x1, Option.bind_some]
    rfl
  rcases r_digitIn y2 (lo := 1) (hi := 6) (by omega) (by omega) with ⟨g1, g2, g3, g4⟩ | ⟨g1, g2⟩
  · refine Or.inr ⟨⟨by omega, by omega, by omega⟩, zsi (zsi (zsi X 44 6 0) 39 8 (nI (0 + 1))) 44 7 (nI (t 0 - 48)), ?_, ?_⟩
    · rw [e, g4, Option.bind_some]
      simp only []
      rw [show (zsi (zsi (zsi X 44 6 0) 39 8 (nI (0 + 1))) 44 7 (nI (t 0 - 48))).1 44 7 = nI (t 0 - 48) by simp [zsi1], if_neg (nI_nle (by omega) (by omega))]
    · refine ⟨?_, by simp [zsi1, nI_0], by simp [zsi1], fun j hj => absurd hj (by omega)⟩
      have := y2.step g1
      rw [show 1 + 0 * (t 0 - 48) = 0 + 1 by omega]
      exact this.to (by simp [zsi1]) (by simp [zsi1]) (zsi_ne (by omega)) (by simp [zsi1])
  · refine Or.inl ⟨fun q => ?_, zsi (zsi X 44 6 0) 44 7 (-1), ?_, by simp [zsi1, x2.2.2.2.2.2]⟩
    · obtain ⟨q1, q2, q3⟩ := q
      rcases g1 with g1 | g1
      · omega
      · exact g1 ⟨by omega, by omega⟩
    · rw [e, g2, Option.bind_some]
      simp only []
      rw [show (zsi (zsi X 44 6 0) 44 7 (-1)).1 44 7 = -1 by simp [zsi1], if_pos (by decide)]
      show f9_readsCloth_45 (4999 + 1) 0 _ = _
      have e8 : (zsi (zsi X 44 6 0) 44 7 (-1)).1 39 8 = nI 0 := by simp [zsi1, x2.2.2.2.1]
      rw [f9_readsCloth_45, if_pos rfl, f9_readsCloth_178, if_pos rfl, e8]
theorem rc_ok (h : zTr M n t) (h0 : zw0 n t) (hd : d = t 0 - 48) {q : Nat} (hq1 : 1 ≤ q) (hq : q ≤ 6) (hn1 : n - 1 = q * d) (hg : ∀ p, 1 ≤ p → p < n → p ≤ 6 * d ∧ zgs t p) : ∃ M', f9_readsCloth M = some (0, M') ∧ zRr M' 44 q d (zctw t d q) ∧ M'.1 39 7 = nI 0 := by
  have hn := h.1
  obtain ⟨g1, g2, g3⟩ := id h0
  have hd1 : 1 ≤ d := by omega
  have hd6 : d ≤ 6 := by omega
  rcases rc_start h with ⟨q0, -⟩ | ⟨-, X, x1, x2⟩
  · exact absurd h0 q0
  rw [← hd] at x2
  rw [x1]
  refine zloopP (F := fun f k x => f9_readsCloth_45 f 1 x) (I := fun k x => zpi x n d k t) (P := fun o => ∃ M', o = some (0, M') ∧ zRr M' 44 q d (zctw t d q) ∧ M'.1 39 7 = nI 0) q (by omega) (k0 := 0) (by omega) (fun f k x _ hk hx => Or.inl ?_) (fun f x hx => ?_) (x := X) x2
  · have hm : (k + 1) * d ≤ q * d := Nat.mul_le_mul_right d hk
    rw [Nat.add_mul] at hm
    exact rc_pick (by omega) hd6 hx (fun m hm2 => ⟨by omega, (hg (1 + k * d + m) (by omega) (by omega)).2⟩) hd1
  · obtain ⟨p1, p2, p3, p4⟩ := hx
    obtain ⟨q1, q2, q3, q4, q5⟩ := id p1
    refine ⟨x, ?_, ⟨p2, p3, fun i hi => ?_⟩, p1.2.2.2.2.2⟩
    · show f9_readsCloth_45 (f + 1) 1 x = _
      rw [f9_readsCloth_45, if_neg (by decide), p2, if_neg (nI_ne0 (by omega) (by omega)), q3, q4, if_pos (nI_le (by omega) (by omega)), f9_readsCloth_178, if_neg (by decide)]
    · rw [p4 i hi, zctw, zcw, if_pos hi]
theorem rc_fault (h : zTr M n t) (h0 : zw0 n t) (hd : d = t 0 - 48) {s : Nat} (hs1 : 1 ≤ s) (hs : s ≤ n) (hg : ∀ p, 1 ≤ p → p < s → p ≤ 6 * d ∧ zgs t p) (hb : (s < n ∧ (6 * d < s ∨ ¬ zgs t s)) ∨ (s = n ∧ (n - 1 < d ∨ (n - 1) % d ≠ 0))) : ∃ M', f9_readsCloth M = some (-1 - nI s, M') ∧ M'.1 39 7 = nI 0 := by
  have hn := h.1
  obtain ⟨g1, g2, g3⟩ := id h0
  have hd1 : 1 ≤ d := by omega
  have hd6 : d ≤ 6 := by omega
  rcases rc_start h with ⟨q0, -⟩ | ⟨-, X, x1, x2⟩
  · exact absurd h0 q0
  rw [← hd] at x2
  rw [x1]
  obtain ⟨q, hq⟩ : ∃ q, q = (s - 1) / d := ⟨_, rfl⟩
  obtain ⟨r, hr⟩ : ∃ r, r = (s - 1) % d := ⟨_, rfl⟩
  have hrd : r < d := by rw [hr]; exact Nat.mod_lt _ (by omega)
  have es : s = 1 + q * d + r := by
    have := Nat.div_add_mod (s - 1) d
    rw [← hq, ← hr, Nat.mul_comm] at this
    omega
  have hq6 : q ≤ 6 := by
    have h1 : s - 1 ≤ 6 * d := by
      by_cases g : s = 1
      · omega
      · have := (hg (s - 1) (by omega) (by omega)).1
        omega
    have h2 : q * d < 7 * d := by omega
    have := Nat.lt_of_mul_lt_mul_right h2
    omega
  have h67 : 6 * d < s → q = 6 := by
    intro g
    have h2 : 6 * d < (q + 1) * d := by rw [Nat.add_mul]; omega
    have := Nat.lt_of_mul_lt_mul_right h2
    omega
  refine zloopP (σ := Int32 × zM) (F := fun f k s => f9_readsCloth_45 f s.1 s.2) (I := fun k y => (k ≤ q → y.1 = 1 ∧ zpi y.2 n d k t) ∧ (k = q + 1 → y.1 = 0 ∧ y.2.1 39 8 = nI s ∧ y.2.1 39 7 = nI 0)) (P := fun o => ∃ M', o = some (-1 - nI s, M') ∧ M'.1 39 7 = nI 0) (q + 1) (by omega) (k0 := 0) (by omega) (fun f k y _ hk hx => Or.inl ?_) (fun f y hx => ?_) (x := (1, X)) ⟨fun _ => ⟨rfl, x2⟩, fun e => absurd e (by omega)⟩
  · obtain ⟨y1, y2⟩ := y
    obtain ⟨z1, z2⟩ := hx.1 (by omega)
    simp only [] at z1 z2
    subst z1
    by_cases g : k = q
    · subst g
      have ha : k = 0 ∨ 1 + k * d < n := by
        rcases hb with ⟨b1, -⟩ | ⟨b1, b2⟩
        · exact Or.inr (by omega)
        · by_cases g : k = 0
          · exact Or.inl g
          · refine Or.inr ?_
            rcases b2 with b2 | b2
            · have : 1 * d ≤ k * d := Nat.mul_le_mul_right d (by omega)
              omega
            · have : r ≠ 0 := by rw [hr, b1]; exact b2
              omega
      by_cases g6 : k = 6
      · have hr0 : r = 0 := by
          by_cases g : r = 0
          · exact g
          · have := (hg (s - 1) (by omega) (by omega)).1
            subst g6
            omega
        refine ⟨(0, y2), ?_, fun e => absurd e (by omega), fun _ => ⟨rfl, ?_⟩⟩
        · show f9_readsCloth_45 (f + 1) 1 y2 = f9_readsCloth_45 f 0 y2
          rw [rc_70 (by omega) z2 ha, if_pos g6]
          show f9_readsCloth_92 _ (4999 + 1) 0 _ _ _ = _
          rw [rc_out, f9_readsCloth_147, if_pos rfl, f9_readsCloth_175]
        · have := z2.1.2.2.2.1
          refine ⟨?_, z2.1.2.2.2.2.2⟩
          rw [this, es, hr0]
          rfl
      · have hb2 : 1 + k * d + r = n ∨ ¬ zgs t (1 + k * d + r) := by
          rw [← es]
          rcases hb with ⟨b1, b2⟩ | ⟨b1, -⟩
          · refine Or.inr (b2.elim (fun q => absurd (h67 q) g6) id)
          · exact Or.inl b1
        obtain ⟨v, X', u1, u2⟩ := rc_in_bad (K := f9_readsCloth_147 (f9_readsCloth_45 f)) z2.1 z2.2.2.1 hd6 hrd (fun m hm => ⟨by omega, (hg (1 + k * d + m) (by omega) (by omega)).2⟩) hb2
        refine ⟨(0, X'), ?_, fun e => absurd e (by omega), fun _ => ⟨rfl, ?_⟩⟩
        · show f9_readsCloth_45 (f + 1) 1 y2 = f9_readsCloth_45 f 0 X'
          rw [rc_70 (by omega) z2 ha, if_neg g6, u1, f9_readsCloth_147, if_pos rfl, f9_readsCloth_175]
        · exact ⟨by rw [u2.2.2.2.1, ← es], u2.2.2.2.2.2⟩
    · have hm : (k + 1) * d ≤ q * d := Nat.mul_le_mul_right d (by omega)
      rw [Nat.add_mul] at hm
      obtain ⟨X', u1, u2⟩ := rc_pick (f := f) (by omega) hd6 z2 (fun m hm2 => ⟨by omega, (hg (1 + k * d + m) (by omega) (by omega)).2⟩) hd1
      exact ⟨(1, X'), u1, fun _ => ⟨rfl, u2⟩, fun e => absurd e (by omega)⟩
  · obtain ⟨y1, y2⟩ := y
    obtain ⟨z1, z2, z3⟩ := hx.2 rfl
    simp only [] at z1 z2 z3
    subst z1
    refine ⟨y2, ?_, z3⟩
    show f9_readsCloth_45 (f + 1) 0 y2 = _
    rw [f9_readsCloth_45, if_pos rfl, f9_readsCloth_178, if_pos rfl, z2]
end CQ
/-- both read the same: a fault at s, or a cloth -/
theorem cl_pair (n : Nat) (hn : n ≤ 80) (t : Nat → Nat) : (∃ s, s ≤ 80 ∧ (∀ M, zTx M n t → ∃ M', f7_readFrom 3 M = some (nI s, M')) ∧ ∀ M, zTr M n t → ∃ M', f9_readsCloth M = some (-1 - nI s, M') ∧ M'.1 39 7 = nI 0) ∨ ∃ p e w, zCl p e w ∧ (∀ M, zTx M n t → ∃ M', f7_readFrom 3 M = some (-1, M') ∧ zWS M' 3 (p, e, w, 0)) ∧ ∀ M, zTr M n t → ∃ M', f9_readsCloth M = some (0, M') ∧ zRr M' 44 p e w ∧ M'.1 39 7 = nI 0 := by
  by_cases h0 : zw0 n t
  · obtain ⟨d, hd⟩ : ∃ d, d = t 0 - 48 := ⟨_, rfl⟩
    obtain ⟨g1, g2, g3⟩ := id h0
    have hd1 : 1 ≤ d := by omega
    have hd6 : d ≤ 6 := by omega
    by_cases hx : ∃ s, 1 ≤ s ∧ s < n ∧ (6 * d < s ∨ ¬ zgs t s)
    · obtain ⟨s, ⟨s1, s2, s3⟩, hmin⟩ := pk_least _ hx
      have hg : ∀ p, 1 ≤ p → p < s → p ≤ 6 * d ∧ zgs t p := by
        intro p hp1 hp
        have q := hmin p hp
        refine ⟨?_, ?_⟩
        · by_cases g : p ≤ 6 * d
          · exact g
          · exact absurd ⟨hp1, by omega, Or.inl (by omega)⟩ q
        · by_cases g : zgs t p
          · exact g
          · exact absurd ⟨hp1, by omega, Or.inr g⟩ q
      exact Or.inl ⟨s, by omega, fun M hM => c_rd_bad hM h0 hd s1 (by omega) hg (Or.inl ⟨s2, s3⟩), fun M hM => rc_fault hM h0 hd s1 (by omega) hg (Or.inl ⟨s2, s3⟩)⟩
    · have hg : ∀ p, 1 ≤ p → p < n → p ≤ 6 * d ∧ zgs t p := by
        intro p hp1 hp
        refine ⟨?_, ?_⟩
        · by_cases g : p ≤ 6 * d
          · exact g
          · exact absurd ⟨p, hp1, hp, Or.inl (by omega)⟩ hx
        · by_cases g : zgs t p
          · exact g
          · exact absurd ⟨p, hp1, hp, Or.inr g⟩ hx
      by_cases hb : n - 1 < d ∨ (n - 1) % d ≠ 0
      · exact Or.inl ⟨n, hn, fun M hM => c_rd_bad hM h0 hd g1 (Nat.le_refl _) hg (Or.inr ⟨rfl, hb⟩), fun M hM => rc_fault hM h0 hd g1 (Nat.le_refl _) hg (Or.inr ⟨rfl, hb⟩)⟩
      · have hb1 : d ≤ n - 1 := by omega
        have hb2 : (n - 1) % d = 0 := by omega
        obtain ⟨q, hq⟩ : ∃ q, q = (n - 1) / d := ⟨_, rfl⟩
        have e1 : n - 1 = q * d := by
          have := Nat.div_add_mod (n - 1) d
          rw [← hq, hb2, Nat.mul_comm] at this
          omega
        have hq1 : 1 ≤ q := by
          rcases Nat.eq_zero_or_pos q with g | g
          · rw [g, Nat.zero_mul] at e1
            omega
          · exact g
        have hq6 : q ≤ 6 := by
          have h1 : n - 1 ≤ 6 * d := (hg (n - 1) (by omega) (by omega)).1
          have h2 : q * d < 7 * d := by omega
          have := Nat.lt_of_mul_lt_mul_right h2
          omega
        exact Or.inr ⟨q, d, zctw t d q, zctw_C hd1 hd6 hq1 hq6, fun M hM => c_rd_ok hM h0 hd hq1 hq6 e1 hg, fun M hM => rc_ok hM h0 hd hq1 hq6 e1 hg⟩
  · refine Or.inl ⟨0, by omega, fun M hM => ⟨M, c_rd_no hM h0⟩, fun M hM => ?_⟩
    rcases rc_start hM with ⟨-, q⟩ | ⟨q, -⟩
    · exact q
    · exact absurd q h0
