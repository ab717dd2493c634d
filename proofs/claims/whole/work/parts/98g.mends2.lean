/-! mends: the calls -/
def zm2 (p e : Nat) (w : Nat → Nat) (a b : Nat) : Bool := zvc p e a && zmg p e (zfW w (a / 6) (a % 6)) b
/-- the least pair -/
def zmp (p e : Nat) (w : Nat → Nat) (a b : Nat) : Prop := a < b ∧ b < 36 ∧ zm2 p e w a b = true ∧ (∀ i, i < a → ∀ j, i < j → j < 36 → zm2 p e w i j = false) ∧ ∀ j, a < j → j < b → zm2 p e w a j = false
theorem zmp_u {p e : Nat} {w : Nat → Nat} {a b a' b' : Nat} (h : zmp p e w a b) (h' : zmp p e w a' b') : a = a' ∧ b = b' := by
  obtain ⟨h1, h2, h3, h4, h5⟩ := h
  obtain ⟨g1, g2, g3, g4, g5⟩ := h'
  have ea : a = a' := by
    by_cases q : a < a'
    · have := g4 a q b h1 h2
      rw [h3] at this
      exact absurd this (by decide)
    · by_cases q2 : a' < a
      · have := h4 a' q2 b' g1 g2
        rw [g3] at this
        exact absurd this (by decide)
      · omega
  subst ea
  refine ⟨rfl, ?_⟩
  by_cases q : b < b'
  · have := g5 b h1 q
    rw [h3] at this
    exact absurd this (by decide)
  · by_cases q2 : b' < b
    · have := h5 b' g1 q2
      rw [g3] at this
      exact absurd this (by decide)
    · omega
section MO
variable {M : zM} {p e : Nat} {w : Nat → Nat}
theorem c_pairs (h : zWc M 1 p e w) (hc : zCl p e w) (hT : zTww M p e w) : (∃ a b M', zmp p e w a b ∧ f8_mends_64 zfuel (nI (zall p e)) 0 M = some (2, M') ∧ zR8 M' [(nI a).toInt64, (nI b).toInt64]) ∨ ((∀ a b, a < b → b < 36 → zm2 p e w a b = false) ∧ ∃ M', f8_mends_64 zfuel (nI (zall p e)) 0 M = some (-2, M') ∧ M'.1 9 = M.1 9 ∧ M'.2 10 = M.2 10) := by
  obtain ⟨c1, c2, c3, c4, c5, c6⟩ := id hc
  refine zloopP (F := fun f a x => f8_mends_64 f (nI (zall p e)) (nI a) x) (I := fun a x => zTww x p e w ∧ zWc x 1 p e w ∧ x.1 9 = M.1 9 ∧ x.2 10 = M.2 10 ∧ ∀ i, i < a → ∀ j, i < j → j < 36 → zm2 p e w i j = false) (P := fun o => (∃ a b M', zmp p e w a b ∧ o = some (2, M') ∧ zR8 M' [(nI a).toInt64, (nI b).toInt64]) ∨ ((∀ a b, a < b → b < 36 → zm2 p e w a b = false) ∧ ∃ M', o = some (-2, M') ∧ M'.1 9 = M.1 9 ∧ M'.2 10 = M.2 10)) (6 * p) (by omega) (k0 := 0) (by omega) (fun f a x _ ha hx => ?_) (fun f x hx => Or.inr ⟨fun a b h1 h2 => ?_, x, ?_, hx.2.2.1, hx.2.2.2.1⟩) (x := M) ⟨hT, h, rfl, rfl, fun i hi => absurd hi (by omega)⟩
  · obtain ⟨x1, x2, x3, x4, x5⟩ := hx
    have e6 : (6 : Int32) * x.1 1 0 = nI (6 * p) := by
      rw [x2.1]
      exact nI_mul 6 p
    have e1 : nI a / 6 = nI (a / 6) := nI_div (d := 6) (by omega) (by omega) (by omega)
    have e2 : zrem (nI a) 6 = nI (a % 6) := nI_rem (d := 6) (by omega) (by omega) (by omega)
    by_cases hv : zvc p e a = true
    · obtain ⟨v1, v2⟩ := zvc_t hv
      have huf := zCl_f hc v1 v2
      obtain ⟨y, y1, y2⟩ := c_turn x1 hc v1 v2
      have oy := o_X0_turn y1
      have yW : zWc y 1 p e w := x2.to (oy.1 1 (by simp) (by simp)).1 (oy.1 2 (by simp) (by simp)).1
      obtain ⟨z, z1, z2⟩ := c_mending yW hc y2 huf (from0 := a + 1) (by omega)
      have key : ∀ r, f8_mendingCell (nI (a + 1)) (nI (zall p e)) y = some (r, z) → ∃ u, zTww u p e w ∧ zWc u 1 p e w ∧ u.1 9 = M.1 9 ∧ u.2 10 = M.2 10 ∧ f8_mends_64 (f + 1) (nI (zall p e)) (nI a) x = if r = -1 then f8_mends_64 f (nI (zall p e)) (nI (a + 1)) u else (f3_tell_ (Int32.toInt64 (nI a)) (Int32.toInt64 r) u).bind fun M5 => some (2, M5) := by
        intro r hr
        have oz := o_X8_mendingCell hr
        obtain ⟨u, u1, u2⟩ := c_turn z1 huf v1 v2
        rw [zfW_inv] at u2
        have o := oy.trans (oz.trans (o_X0_turn u1))
        refine ⟨u, u2, x2.to (o.1 1 (by simp) (by simp)).1 (o.1 2 (by simp) (by simp)).1, by rw [(o.1 9 (by simp) (by simp)).1, x3], by rw [(o.1 10 (by simp) (by simp)).2, x4], ?_⟩
        rw [f8_mends_64, e6, if_neg (nI_ge ha (by omega)), c_crs x2 hc (by omega), Option.bind_some, hv, if_neg (show ¬ nI (zi true) = 0 by decide), e1, e2, y1, Option.bind_some, nI_1, hr, Option.bind_some]
        simp only []
        rw [u1, Option.bind_some, f8_mends_156, nI_1]
      have hm : ∀ j, zm2 p e w a j = zmg p e (zfW w (a / 6) (a % 6)) j := fun j => by rw [zm2, hv, Bool.true_and]
      rcases z2 with ⟨b, b1, b2, b3, b4, b5⟩ | ⟨b4, b5⟩
      · obtain ⟨u, u1, u2, u3, u4, u5⟩ := key _ b5
        obtain ⟨N, n1, n2⟩ := c_tell2 (nI a).toInt64 (nI b).toInt64 u
        rw [if_neg (nI_nm1 (by omega)), n1, Option.bind_some] at u5
        exact Or.inr (Or.inl ⟨a, b, N, ⟨by omega, b2, by rw [hm, b3], x5, fun j h1 h2 => by rw [hm]; exact b4 j (by omega) h2⟩, u5, n2⟩)
      · obtain ⟨u, u1, u2, u3, u4, u5⟩ := key _ b5
        rw [if_pos rfl] at u5
        refine Or.inl ⟨u, u5, u1, u2, u3, u4, fun i hi j h1 h2 => ?_⟩
        by_cases g : i = a
        · subst g
          rw [hm]
          exact b4 j (by omega) h2
        · exact x5 i (by omega) j h1 h2
    · have hv' : zvc p e a = false := by simpa using hv
      refine Or.inl ⟨x, ?_, x1, x2, x3, x4, fun i hi j h1 h2 => ?_⟩
      · show f8_mends_64 (f + 1) (nI (zall p e)) (nI a) x = _
        rw [f8_mends_64, e6, if_neg (nI_ge ha (by omega)), c_crs x2 hc (by omega), Option.bind_some, hv', if_pos (show nI (zi false) = 0 from rfl), f8_mends_156, nI_1]
      · by_cases g : i = a
        · rw [g, zm2, hv', Bool.false_and]
        · exact x5 i (by omega) j h1 h2
  · by_cases g : a < 6 * p
    · exact hx.2.2.2.2 a g b h1 h2
    · rw [zm2, zvc, decide_eq_false (show ¬ a / 6 < p by omega), Bool.false_and, Bool.false_and]
  · have e6 : (6 : Int32) * x.1 1 0 = nI (6 * p) := by
      rw [hx.2.1.1]
      exact nI_mul 6 p
    show f8_mends_64 (f + 1) (nI (zall p e)) (nI (6 * p)) x = _
    rw [f8_mends_64, e6, if_pos (nI_le (Nat.le_refl _) (by omega))]
/-- the reference -/
theorem r_isCell (h : zRr M 41 p e w) (hc : zCl p e w) {c : Nat} (hcl : c < 36) : f9_isCell 41 (nI c) M = some (nI (zi (zvc p e c))) := by
  have e1 : nI c / 6 = nI (c / 6) := nI_div (d := 6) (by omega) (by omega) (by omega)
  have e2 : zrem (nI c) 6 = nI (c % 6) := nI_rem (d := 6) (by omega) (by omega) (by omega)
  have hp := hc.2.1
  have he := hc.2.2.2.1
  rw [f9_isCell, e1, e2, h.1, h.2.1, zvc]
  by_cases g1 : c / 6 < p
  · rw [if_neg (nI_ge g1 (by omega)), decide_eq_true g1, Bool.true_and]
    by_cases g2 : c % 6 < e
    · rw [if_neg (nI_ge g2 (by omega)), decide_eq_true g2]
      rfl
    · rw [if_pos (nI_le (by omega) (by omega)), decide_eq_false g2]
      rfl
  · rw [if_pos (nI_le (by omega) (by omega)), decide_eq_false g1, Bool.false_and]
    rfl
def zf3 (x y : zM) : Prop := y.1 41 = x.1 41 ∧ y.1 39 1 = x.1 39 1 ∧ y.2 40 = x.2 40
theorem r_try1 (h : zRr M 41 p e w) (hc : zCl p e w) {c : Nat} (hv : zvc p e c = true) {α : Type} (K : Int32 × zM → Option α) : ∃ y, zf3 M y ∧ ((f9_copies 42 41 M).bind fun M2 => (f9_flipsOne 42 (nI c / 6) (zrem (nI c) 6) M2).bind fun p3 => (f9_doesHang 42 p3.2).bind K) = K (nI (zi (zHb p e (zfW w (c / 6) (c % 6)) (zall p e))), y) := by
  obtain ⟨v1, v2⟩ := zvc_t hv
  have hp := hc.2.1
  have he := hc.2.2.2.1
  have e1 : nI c / 6 = nI (c / 6) := by
    have : c < 36 ∨ 36 ≤ c := by omega
    exact nI_div (d := 6) (by omega) (by omega) (by omega)
  have e2 : zrem (nI c) 6 = nI (c % 6) := nI_rem (d := 6) (by omega) (by omega) (by omega)
  obtain ⟨X1, x1, x2⟩ := r_copies (a := 42) (b := 41) (by decide) M
  obtain ⟨X2, y1, y2, y3⟩ := r_flip (h.cp hp x2) hc v1 v2
  obtain ⟨X3, z1, -⟩ := r_doesHang (M := X2) (a := 42) (S := (p, e, zfW w (c / 6) (c % 6), X2.1 42 8)) ⟨y2, rfl⟩ (zCl_f hc v1 v2) (by omega) (by omega)
  have o := (o_X9_copies x1).trans ((o_X9_flipsOne y1).trans (o_X9_doesHang z1))
  refine ⟨X3, ⟨(o.1 41 (by simp) (by simp)).1, o.2 1 (by simp) (by simp), (o.1 40 (by simp) (by simp)).2⟩, ?_⟩
  rw [x1, Option.bind_some, e1, e2, y1, Option.bind_some]
  simp only []
  rw [z1, Option.bind_some]
  rfl
theorem r_try2 (h : zRr M 41 p e w) (hc : zCl p e w) {a b : Nat} (hv : zvc p e a = true) (hv2 : zvc p e b = true) {α : Type} (K : Int32 × zM → Option α) : ∃ y, zf3 M y ∧ ((f9_copies 42 41 M).bind fun M2 => (f9_flipsOne 42 (nI a / 6) (zrem (nI a) 6) M2).bind fun p3 => (f9_flipsOne 42 (nI b / 6) (zrem (nI b) 6) p3.2).bind fun p4 => (f9_doesHang 42 p4.2).bind K) = K (nI (zi (zHb p e (zfW (zfW w (a / 6) (a % 6)) (b / 6) (b % 6)) (zall p e))), y) := by
  obtain ⟨v1, v2⟩ := zvc_t hv
  obtain ⟨v3, v4⟩ := zvc_t hv2
  have hp := hc.2.1
  have he := hc.2.2.2.1
  have huf := zCl_f hc v1 v2
  have e1 : nI a / 6 = nI (a / 6) := nI_div (d := 6) (by omega) (by omega) (by omega)
  have e2 : zrem (nI a) 6 = nI (a % 6) := nI_rem (d := 6) (by omega) (by omega) (by omega)
  have e3 : nI b / 6 = nI (b / 6) := nI_div (d := 6) (by omega) (by omega) (by omega)
  have e4 : zrem (nI b) 6 = nI (b % 6) := nI_rem (d := 6) (by omega) (by omega) (by omega)
  obtain ⟨X1, x1, x2⟩ := r_copies (a := 42) (b := 41) (by decide) M
  obtain ⟨X2, y1, y2, y3⟩ := r_flip (h.cp hp x2) hc v1 v2
  obtain ⟨Y2, w1, w2, w3⟩ := r_flip y2 huf v3 v4
  obtain ⟨X3, z1, -⟩ := r_doesHang (M := Y2) (a := 42) (S := (p, e, zfW (zfW w (a / 6) (a % 6)) (b / 6) (b % 6), Y2.1 42 8)) ⟨w2, rfl⟩ (zCl_f huf v3 v4) (by omega) (by omega)
  have o := (o_X9_copies x1).trans ((o_X9_flipsOne y1).trans ((o_X9_flipsOne w1).trans (o_X9_doesHang z1)))
  refine ⟨X3, ⟨(o.1 41 (by simp) (by simp)).1, o.2 1 (by simp) (by simp), (o.1 40 (by simp) (by simp)).2⟩, ?_⟩
  rw [x1, Option.bind_some, e1, e2, y1, Option.bind_some]
  simp only []
  rw [e3, e4, w1, Option.bind_some]
  simp only []
  rw [z1, Option.bind_some]
  rfl
theorem zf3.tr {x y z : zM} (h : zf3 x y) (g : zf3 y z) : zf3 x z := ⟨g.1.trans h.1, g.2.1.trans h.2.1, g.2.2.trans h.2.2⟩
theorem r_one (h : zRr M 41 p e w) (hc : zCl p e w) : (∃ c M', c < 36 ∧ zmg p e w c = true ∧ (∀ i, i < c → zmg p e w i = false) ∧ f9_mends_57 zfuel 0 M = some (1, M') ∧ zR9 M' [(nI c).toInt64]) ∨ ((∀ i, i < 36 → zmg p e w i = false) ∧ ∃ y, f9_mends_57 zfuel 0 M = f9_mends_133 zfuel 0 y ∧ zf3 M y) := by
  refine zloopP (F := fun f c x => f9_mends_57 f (nI c) x) (I := fun c x => zf3 M x ∧ ∀ i, i < c → zmg p e w i = false) (P := fun o => (∃ c M', c < 36 ∧ zmg p e w c = true ∧ (∀ i, i < c → zmg p e w i = false) ∧ o = some (1, M') ∧ zR9 M' [(nI c).toInt64]) ∨ ((∀ i, i < 36 → zmg p e w i = false) ∧ ∃ y, o = f9_mends_133 zfuel 0 y ∧ zf3 M y)) 36 (by omega) (k0 := 0) (by omega) (fun f c x _ hcl hx => ?_) (fun f x hx => Or.inr ⟨hx.2, x, ?_, hx.1⟩) (x := M) ⟨⟨rfl, rfl, rfl⟩, fun i hi => absurd hi (by omega)⟩
  · obtain ⟨x1, x2⟩ := hx
    have hR := h.to x1.1
    have n36 : ¬ (36 : Int32) ≤ nI c := nI_ge (b := 36) (by omega) (by omega)
    by_cases hv : zvc p e c = true
    · obtain ⟨y, y1, y2⟩ := r_try1 hR hc hv (fun p4 => if p4.1 = 0 then f9_mends_125 (f9_mends_57 f) (nI c) p4.2 else (f9_enters (Int32.toInt64 (nI c)) (zsi p4.2 39 1 0)).bind fun M5 => some (1, M5))
      have st : f9_mends_57 (f + 1) (nI c) x = if nI (zi (zHb p e (zfW w (c / 6) (c % 6)) (zall p e))) = 0 then f9_mends_125 (f9_mends_57 f) (nI c) y else (f9_enters (Int32.toInt64 (nI c)) (zsi y 39 1 0)).bind fun M5 => some (1, M5) := by
        rw [f9_mends_57, if_neg n36, r_isCell hR hc hcl, Option.bind_some, hv, if_neg (show ¬ nI (zi true) = 0 by decide)]
        exact y2
      have hm : zmg p e w c = zHb p e (zfW w (c / 6) (c % 6)) (zall p e) := by rw [zmg, hv, Bool.true_and]
      cases hb : zHb p e (zfW w (c / 6) (c % 6)) (zall p e)
      · rw [hb, if_pos (show nI (zi false) = 0 from rfl), f9_mends_125, nI_1] at st
        refine Or.inl ⟨y, st, x1.tr y1, fun i hi => ?_⟩
        by_cases g : i = c
        · rw [g, hm, hb]
        · exact x2 i (by omega)
      · obtain ⟨N, n1, n2⟩ := r_tell (nI c).toInt64 y
        rw [hb, if_neg (show ¬ nI (zi true) = 0 by decide), n1, Option.bind_some] at st
        exact Or.inr (Or.inl ⟨c, N, hcl, by rw [hm, hb], x2, st, n2⟩)
    · have hv' : zvc p e c = false := by simpa using hv
      refine Or.inl ⟨x, ?_, x1, fun i hi => ?_⟩
      · show f9_mends_57 (f + 1) (nI c) x = _
        rw [f9_mends_57, if_neg n36, r_isCell hR hc hcl, Option.bind_some, hv', if_pos (show nI (zi false) = 0 from rfl), f9_mends_125, nI_1]
      · by_cases g : i = c
        · rw [g, zmg, hv', Bool.false_and]
        · exact x2 i (by omega)
  · show f9_mends_57 (f + 1) (nI 36) x = _
    rw [f9_mends_57, if_pos (by decide)]
theorem r_in2 (h : zRr M 41 p e w) (hc : zCl p e w) {a : Nat} (ha : a < 36) {K : Int32 → zM → Option (Int32 × zM)} : (∃ b M', a < b ∧ b < 36 ∧ zm2 p e w a b = true ∧ (∀ j, a < j → j < b → zm2 p e w a j = false) ∧ f9_mends_143 K zfuel (nI a) (nI (a + 1)) M = some (2, M') ∧ zR9 M' [(nI a).toInt64, (nI b).toInt64]) ∨ ((∀ j, a < j → j < 36 → zm2 p e w a j = false) ∧ ∃ y, f9_mends_143 K zfuel (nI a) (nI (a + 1)) M = K (nI a) y ∧ zf3 M y) := by
  refine zloopP (F := fun f b x => f9_mends_143 K f (nI a) (nI b) x) (I := fun b x => zf3 M x ∧ ∀ j, a < j → j < b → zm2 p e w a j = false) (P := fun o => (∃ b M', a < b ∧ b < 36 ∧ zm2 p e w a b = true ∧ (∀ j, a < j → j < b → zm2 p e w a j = false) ∧ o = some (2, M') ∧ zR9 M' [(nI a).toInt64, (nI b).toInt64]) ∨ ((∀ j, a < j → j < 36 → zm2 p e w a j = false) ∧ ∃ y, o = K (nI a) y ∧ zf3 M y)) 36 (by omega) (k0 := a + 1) (by omega) (fun f b x hb0 hbl hx => ?_) (fun f x hx => Or.inr ⟨hx.2, x, ?_, hx.1⟩) (x := M) ⟨⟨rfl, rfl, rfl⟩, fun j h1 h2 => absurd h1 (by omega)⟩
  · obtain ⟨x1, x2⟩ := hx
    have hR := h.to x1.1
    have n36 : ¬ (36 : Int32) ≤ nI b := nI_ge (b := 36) (by omega) (by omega)
    by_cases hv : zvc p e a = true
    · by_cases hv2 : zvc p e b = true
      · obtain ⟨y, y1, y2⟩ := r_try2 hR hc hv hv2 (fun p6 => if p6.1 = 0 then f9_mends_244 (f9_mends_143 K f) (nI a) (nI b) p6.2 else (f9_enters (Int32.toInt64 (nI a)) (zsi p6.2 39 1 0)).bind fun M7 => (f9_enters (Int32.toInt64 (nI b)) M7).bind fun M8 => some (2, M8))
        have st : f9_mends_143 K (f + 1) (nI a) (nI b) x = if nI (zi (zHb p e (zfW (zfW w (a / 6) (a % 6)) (b / 6) (b % 6)) (zall p e))) = 0 then f9_mends_244 (f9_mends_143 K f) (nI a) (nI b) y else (f9_enters (Int32.toInt64 (nI a)) (zsi y 39 1 0)).bind fun M7 => (f9_enters (Int32.toInt64 (nI b)) M7).bind fun M8 => some (2, M8) := by
          rw [f9_mends_143, if_neg n36, r_isCell hR hc ha, Option.bind_some, hv, if_neg (show ¬ nI (zi true) = 0 by decide), r_isCell hR hc hbl, Option.bind_some, hv2, if_neg (show ¬ nI (zi true) = 0 by decide)]
          exact y2
        have hm : zm2 p e w a b = zHb p e (zfW (zfW w (a / 6) (a % 6)) (b / 6) (b % 6)) (zall p e) := by rw [zm2, hv, Bool.true_and, zmg, hv2, Bool.true_and]
        cases hb : zHb p e (zfW (zfW w (a / 6) (a % 6)) (b / 6) (b % 6)) (zall p e)
        · rw [hb, if_pos (show nI (zi false) = 0 from rfl), f9_mends_244, nI_1] at st
          refine Or.inl ⟨y, st, x1.tr y1, fun j h1 h2 => ?_⟩
          by_cases g : j = b
          · rw [g, hm, hb]
          · exact x2 j h1 (by omega)
        · obtain ⟨N, n1, n2⟩ := r_tell (nI a).toInt64 y
          obtain ⟨N2, n3, n4⟩ := n2.add (by simp) (nI b).toInt64
          rw [hb, if_neg (show ¬ nI (zi true) = 0 by decide), n1, Option.bind_some, n3, Option.bind_some] at st
          exact Or.inr (Or.inl ⟨b, N2, by omega, hbl, by rw [hm, hb], x2, st, n4⟩)
      · have hv' : zvc p e b = false := by simpa using hv2
        refine Or.inl ⟨x, ?_, x1, fun j h1 h2 => ?_⟩
        · show f9_mends_143 K (f + 1) (nI a) (nI b) x = _
          rw [f9_mends_143, if_neg n36, r_isCell hR hc ha, Option.bind_some, hv, if_neg (show ¬ nI (zi true) = 0 by decide), r_isCell hR hc hbl, Option.bind_some, hv', if_pos (show nI (zi false) = 0 from rfl), f9_mends_244, nI_1]
        · by_cases g : j = b
          · rw [g, zm2, zmg, hv', Bool.false_and, Bool.and_false]
          · exact x2 j h1 (by omega)
    · have hv' : zvc p e a = false := by simpa using hv
      refine Or.inr (Or.inr ⟨fun j _ _ => by rw [zm2, hv', Bool.false_and], x, ?_, x1⟩)
      show f9_mends_143 K (f + 1) (nI a) (nI b) x = _
      rw [f9_mends_143, if_neg n36, r_isCell hR hc ha, Option.bind_some, hv', if_pos (show nI (zi false) = 0 from rfl)]
  · show f9_mends_143 K (f + 1) (nI a) (nI 36) x = _
    rw [f9_mends_143, if_pos (by decide)]
theorem r_pairs (h : zRr M 41 p e w) (hc : zCl p e w) : (∃ a b M', zmp p e w a b ∧ f9_mends_133 zfuel 0 M = some (2, M') ∧ zR9 M' [(nI a).toInt64, (nI b).toInt64]) ∨ ((∀ a b, a < b → b < 36 → zm2 p e w a b = false) ∧ ∃ M', f9_mends_133 zfuel 0 M = some (-2, M') ∧ zf3 M M') := by
  refine zloopP (F := fun f a x => f9_mends_133 f (nI a) x) (I := fun a x => zf3 M x ∧ ∀ i, i < a → ∀ j, i < j → j < 36 → zm2 p e w i j = false) (P := fun o => (∃ a b M', zmp p e w a b ∧ o = some (2, M') ∧ zR9 M' [(nI a).toInt64, (nI b).toInt64]) ∨ ((∀ a b, a < b → b < 36 → zm2 p e w a b = false) ∧ ∃ M', o = some (-2, M') ∧ zf3 M M')) 36 (by omega) (k0 := 0) (by omega) (fun f a x _ ha hx => ?_) (fun f x hx => Or.inr ⟨fun a b h1 h2 => hx.2 a (by omega) b h1 h2, x, ?_, hx.1⟩) (x := M) ⟨⟨rfl, rfl, rfl⟩, fun i hi => absurd hi (by omega)⟩
  · obtain ⟨x1, x2⟩ := hx
    have hR := h.to x1.1
    have st : f9_mends_133 (f + 1) (nI a) x = f9_mends_143 (f9_mends_250 (f9_mends_133 f)) zfuel (nI a) (nI (a + 1)) x := by
      rw [f9_mends_133, if_neg (show ¬ (36 : Int32) ≤ nI a from nI_ge (b := 36) (by omega) (by omega)), nI_1]
    rcases r_in2 hR hc ha (K := f9_mends_250 (f9_mends_133 f)) with ⟨b, M', b1, b2, b3, b4, b5, b6⟩ | ⟨b4, y, y1, y2⟩
    · exact Or.inr (Or.inl ⟨a, b, M', ⟨b1, b2, b3, x2, b4⟩, st.trans b5, b6⟩)
    · refine Or.inl ⟨y, st.trans (y1.trans ?_), x1.tr y2, fun i hi j h1 h2 => ?_⟩
      · rw [f9_mends_250, nI_1]
      · by_cases g : i = a
        · subst g
          exact b4 j h1 h2
        · exact x2 i (by omega) j h1 h2
  · show f9_mends_133 (f + 1) (nI 36) x = _
    rw [f9_mends_133, if_pos (by decide)]
end MO
theorem zP_mends_ok : zP_mends zInv := by
  intro c M hc h
  obtain ⟨p, e, w, hA⟩ := h.1
  obtain ⟨hc1, hW, hR, hN⟩ := id hA
  obtain ⟨L, hL8, hL9⟩ := h.2.2.1
  have hp := hc1.2.1
  obtain ⟨M1, k1, k2⟩ := c_tie hW hc1 (by omega)
  have o1 := o_X0_tie k1
  have hW1 : zWc M1 1 p e w := hW.to (o1.1 1 (by simp) (by simp)).1 (o1.1 2 (by simp) (by simp)).1
  have hT : zTww M1 p e w := k2
  have c8 : f8_mends M = if nI (zi (zHb p e w (zall p e))) = 0 then ((f8_mendingCell 0 (nI (zall p e)) M1).bind fun p4 => if p4.1 = -1 then f8_mends_64 zfuel (nI (zall p e)) 0 p4.2 else (f3_tell (Int32.toInt64 p4.1) p4.2).bind fun M5 => some (1, M5)) else (f3_clear M1).bind fun M4 => some (0, M4) := by
    rw [f8_mends, c_all hW hc1, Option.bind_some, k1, Option.bind_some, c_tog (zTww_C hT) hc1 (zall_sb hc1), Option.bind_some]
  -- the reference's beginning
  have c9 : ∀ X : zM, zRr X 41 p e w → ∃ Y, zRr Y 41 p e w ∧ Y.1 39 1 = (if zHb p e w (zall p e) = true then 0 else X.1 39 1) ∧ Y.2 40 = X.2 40 ∧ f9_mends X = if nI (zi (zHb p e w (zall p e))) = 0 then f9_mends_57 zfuel 0 Y else some (0, Y) := by
    intro X hX
    have hX0 : zRr (zsi X 39 0 0) 41 p e w := zRr_si hX (by decide)
    obtain ⟨X1, x1, x2⟩ := r_copies (a := 42) (b := 41) (by decide) (zsi X 39 0 0)
    have r1 := hX0.cp hp x2
    obtain ⟨X2, y1, y2⟩ := r_doesHang (M := X1) (a := 42) (S := (p, e, w, X1.1 42 8)) ⟨r1, rfl⟩ hc1 (by omega) (by omega)
    have o := (o_X9_copies x1).trans (o_X9_doesHang y1)
    have q1 : X2.1 39 1 = X.1 39 1 := by
      rw [o.2 1 (by simp) (by simp), zsi1, if_neg (by decide)]
    have r2 : zRr X2 42 p e w := r1.to ((o_X9_doesHang y1).1 42 (by simp) (by simp)).1
    have y1' : f9_doesHang 42 X1 = some (nI (zi (zHb p e w (zall p e))), X2) := y1
    refine ⟨zsi X2 39 1 (if nI (zi (zHb p e w (zall p e))) = 0 then X2.1 39 1 else 0), zRr_si (hX0.to (o.1 41 (by simp) (by simp)).1) (by decide), ?_, ?_, ?_⟩
    · rw [zsi1, if_pos ⟨rfl, rfl⟩, q1]
      cases zHb p e w (zall p e) <;> rfl
    · show X2.2 40 = _
      rw [(o.1 40 (by simp) (by simp)).2]
      rfl
    · have t2 : zTC (zsi X2 39 1 (if nI (zi (zHb p e w (zall p e))) = 0 then X2.1 39 1 else 0)) 54 55 p e w := fun t ht hh => by
        rw [zsi_ne (by omega), zsi_ne (by omega)]
        exact y2 t ht hh
      rw [f9_mends, x1, Option.bind_some, y1', Option.bind_some]
      simp only []
      rw [r_all (zRr_si r2 (by decide)) hc1, Option.bind_some, r_tog t2 hc1 (zall_sb hc1), Option.bind_some]
  cases hb : zHb p e w (zall p e)
  · rw [hb, if_pos (show nI (zi false) = 0 from rfl)] at c8
    simp only [hb, show nI (zi false) = 0 from rfl, ↓reduceIte] at c9
    obtain ⟨N1, n1, n2⟩ := c_mending (from0 := 0) hW1 hc1 hT hc1 (by omega)
    rcases n2 with ⟨c0, -, d2, d3, d4, d5⟩ | ⟨d4, d5⟩
    · obtain ⟨N2, g1, g2⟩ := c_tell (nI c0).toInt64 N1
      have h8 : f8_mends M = some (1, N2) := by
        rw [c8, show f8_mendingCell 0 (nI (zall p e)) M1 = some (nI c0, N1) from d5, Option.bind_some]
        simp only []
        rw [if_neg (nI_nm1 (by omega)), g1, Option.bind_some]
      have o8 := o_X8_mends h8
      obtain ⟨Y, u1, u2, u3, u4⟩ := c9 N2 (hR.to (o8.1 41 (by simp) (by simp)).1)
      rcases r_one u1 hc1 with ⟨c1, X, b1, b2, b3, b4, b5⟩ | ⟨b3, -⟩
      · have ec : c1 = c0 := by
          by_cases q : c1 < c0
          · have := d4 c1 (by omega) q
            rw [b2] at this
            exact absurd this (by decide)
          · by_cases q2 : c0 < c1
            · have := b3 c0 q2
              rw [d3] at this
              exact absurd this (by decide)
            · omega
        subst ec
        have h9 : f9_mends N2 = some (1, X) := by rw [u4, b4]
        exact ⟨_, _, _, h8, h9, zq h o8 (o_X9_mends h9) g2 b5 rfl rfl⟩
      · have := b3 c0 d2
        rw [d3] at this
        exact absurd this (by decide)
    · have d4' : ∀ i, i < 36 → zmg p e w i = false := fun i hi => d4 i (by omega) hi
      have oN := o_X8_mendingCell d5
      have hWN : zWc N1 1 p e w := hW1.to (oN.1 1 (by simp) (by simp)).1 (oN.1 2 (by simp) (by simp)).1
      have c8' : f8_mends M = f8_mends_64 zfuel (nI (zall p e)) 0 N1 := by
        rw [c8, show f8_mendingCell 0 (nI (zall p e)) M1 = some (-1, N1) from d5, Option.bind_some]
        simp only []
        rw [if_pos trivial]
      have two : ∀ (N2 : zM) (r : Int32), f8_mends M = some (r, N2) → ∃ Y, zRr Y 41 p e w ∧ Y.1 39 1 = N2.1 39 1 ∧ Y.2 40 = N2.2 40 ∧ f9_mends N2 = f9_mends_133 zfuel 0 Y := by
        intro N2 r h8
        have o8 := o_X8_mends h8
        obtain ⟨Y, u1, u2, u3, u4⟩ := c9 N2 (hR.to (o8.1 41 (by simp) (by simp)).1)
        rcases r_one u1 hc1 with ⟨c1, X, b1, b2, b3, b4, b5⟩ | ⟨b3, y, y1, y2⟩
        · have := d4' c1 b1
          rw [b2] at this
          exact absurd this (by decide)
        · exact ⟨y, u1.to y2.1, by rw [y2.2.1, u2]; rfl, by rw [y2.2.2, u3], by rw [u4, y1]⟩
      rcases c_pairs hWN hc1 n1 with ⟨a, b, N2, g1, g2, g3⟩ | ⟨g1, N2, g2, g3, g4⟩
      · have h8 : f8_mends M = some (2, N2) := c8'.trans g2
        obtain ⟨Y, u1, u2, u3, u4⟩ := two N2 2 h8
        rcases r_pairs u1 hc1 with ⟨a', b', X, b1, b2, b3⟩ | ⟨b1, -⟩
        · obtain ⟨rfl, rfl⟩ := zmp_u g1 b1
          have h9 : f9_mends N2 = some (2, X) := u4.trans b2
          exact ⟨_, _, _, h8, h9, zq h (o_X8_mends h8) (o_X9_mends h9) g3 b3 rfl rfl⟩
        · have := b1 a b g1.1 g1.2.1
          rw [g1.2.2.1] at this
          exact absurd this (by decide)
      · have h8 : f8_mends M = some (-2, N2) := c8'.trans g2
        have o8 := o_X8_mends h8
        obtain ⟨Y, u1, u2, u3, u4⟩ := two N2 _ h8
        rcases r_pairs u1 hc1 with ⟨a', b', X, b1, b2, b3⟩ | ⟨-, X, b2, b3⟩
        · have := g1 a' b' b1.1 b1.2.1
          rw [b1.2.2.1] at this
          exact absurd this (by decide)
        · have h9 : f9_mends N2 = some (-2, X) := u4.trans b2
          refine ⟨_, _, _, h8, h9, zq h o8 (o_X9_mends h9) (L := L) ?_ ?_ rfl rfl⟩
          · simp only [zR8, g3, g4, (oN.1 9 (by simp) (by simp)).1, (oN.1 10 (by simp) (by simp)).2, (o1.1 9 (by simp) (by simp)).1, (o1.1 10 (by simp) (by simp)).2]
            exact hL8
          · simp only [zR9, b3.2.1, b3.2.2, u2, u3, o8.2 1 (by simp) (by simp), (o8.1 40 (by simp) (by simp)).2]
            exact hL9
  · rw [hb, if_neg (show ¬ nI (zi true) = 0 by decide)] at c8
    have h8 : f8_mends M = some (0, zsi M1 9 1 0) := by
      rw [c8]
      rfl
    have o8 := o_X8_mends h8
    obtain ⟨Y, u1, u2, u3, u4⟩ := c9 (zsi M1 9 1 0) (hR.to (o8.1 41 (by simp) (by simp)).1)
    rw [hb, if_pos rfl] at u2
    rw [hb, if_neg (show ¬ nI (zi true) = 0 by decide)] at u4
    exact ⟨_, _, _, h8, u4, zq h o8 (o_X9_mends u4) (zR8_nil M1) ⟨by rw [u2]; rfl, by simp, fun i v q => by simp at q⟩ rfl rfl⟩
