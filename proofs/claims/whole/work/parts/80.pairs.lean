/-! twins, rests: pairs counted, the first one told -/
def zfo {σ : Type} (f : Nat → σ → σ) (k : Nat) (s : σ) : Nat → σ
  | 0 => s
  | n + 1 => f (k + n) (zfo f k s n)
abbrev zPr : Type := Nat × List Int64
def zpst (g : Nat → Nat → Bool) (a b : Nat) (s : zPr) : zPr := if g a b = true then (s.1 + 1, if s.1 = 0 then [(nI a).toInt64, (nI b).toInt64] else s.2) else s
theorem zpst_b {g : Nat → Nat → Bool} {a b : Nat} {s : zPr} : (zpst g a b s).1 ≤ s.1 + 1 := by
  unfold zpst
  split
  · exact Nat.le_refl _
  · exact Nat.le_succ _
theorem zpst_n {g : Nat → Nat → Bool} {a b : Nat} {s : zPr} (h : s.1 = 0 → s.2 = []) : (zpst g a b s).1 = 0 → (zpst g a b s).2 = [] := by
  unfold zpst
  split
  · intro q
    cases q
  · exact h
theorem zfo_b {g : Nat → Nat → Bool} {a k : Nat} {s : zPr} (n : Nat) : (zfo (zpst g a) k s n).1 ≤ s.1 + n := by
  induction n with
  | zero => exact Nat.le_refl _
  | succ n ih =>
    have := zpst_b (g := g) (a := a) (b := k + n) (s := zfo (zpst g a) k s n)
    rw [zfo]
    omega
theorem zfo_n {g : Nat → Nat → Bool} {a k : Nat} {s : zPr} (h : s.1 = 0 → s.2 = []) (n : Nat) : (zfo (zpst g a) k s n).1 = 0 → (zfo (zpst g a) k s n).2 = [] := by
  induction n with
  | zero => exact h
  | succ n ih => exact zpst_n ih
/-- twins -/
def ztw (p e : Nat) (w : Nat → Nat) (a b : Nat) : Bool := decide (a / 6 = b / 6) && (decide (b % 6 < zmany p e (b / 6)) && decide (zth p e w (a / 6) (a % 6) = zth p e w (b / 6) (b % 6)))
theorem zthw_th (p e : Nat) (w : Nat → Nat) {t : Nat} (ht : t < 12) : zthw p e w t = zth p e w (t / 6) (t % 6) := by
  unfold zthw
  by_cases g : t < 6
  · rw [if_pos g, show t / 6 = 0 by omega, show t % 6 = t by omega]
    rfl
  · rw [if_neg g, show t / 6 = 1 by omega, show t % 6 = t - 6 by omega]
    rfl
theorem c_twins {M : zM} {p e : Nat} {w : Nat → Nat} (h : zWc M 1 p e w) (hc : zCl p e w) {a b : Nat} (hab : a < b) (hb : b < 12) : f7_areTwins 1 (nI a) (nI b) M = some (nI (zi (ztw p e w a b))) := by
  have b1 := zth_lt64 hc (a / 6) (a % 6)
  have b2 := zth_lt64 hc (b / 6) (b % 6)
  rw [f7_areTwins, zl6, nI_div (by omega) (by omega) (by omega), nI_div (by omega) (by omega) (by omega)]
  unfold ztw
  by_cases g : a / 6 = b / 6
  · rw [if_pos (by rw [g]), decide_eq_true g, nI_rem (by omega) (by omega) (by omega), nI_rem (by omega) (by omega) (by omega)]
    by_cases g2 : b % 6 < zmany p e (b / 6)
    · have g3 : a % 6 < zmany p e (a / 6) := by rw [g]; omega
      rw [c_has_yes h hc (by omega) g3, Option.bind_some, if_neg (by decide), g, c_has_yes h hc (by omega) g2, Option.bind_some, if_neg (by decide), zaI_n (by omega) (by omega), zcells h (by omega), Option.bind_some, zaI_n hb (by omega), zcells h hb, Option.bind_some, decide_eq_true g2, zthw_th p e w (by omega), zthw_th p e w hb, g]
      rw [g] at b1
      by_cases g4 : zth p e w (b / 6) (a % 6) = zth p e w (b / 6) (b % 6)
      · rw [if_pos (by rw [g4]), decide_eq_true g4]
        rfl
      · rw [if_neg (nI_ne g4 (by omega) (by omega)), decide_eq_false g4]
        rfl
    · rw [decide_eq_false g2]
      have q2 : f7_has 1 (nI (a / 6)) (nI (b % 6)) M = some 0 := by
        rw [g]
        exact c_has_no h hc (fun q => g2 ((zVd_n hc (by omega) (by omega)).mp q))
      by_cases g3 : a % 6 < zmany p e (a / 6)
      · rw [c_has_yes h hc (by omega) g3, Option.bind_some, if_neg (by decide), q2]
        rfl
      · have q1 : f7_has 1 (nI (a / 6)) (nI (a % 6)) M = some 0 := c_has_no h hc (fun q => g3 ((zVd_n hc (by omega) (by omega)).mp q))
        rw [q1]
        rfl
  · rw [if_neg (nI_ne g (by omega) (by omega)), decide_eq_false g]
    rfl
def ztwo (p e : Nat) (w : Nat → Nat) (a : Nat) (s : zPr) : zPr := zfo (zpst (ztw p e w) a) (a + 1) s (11 - a)
theorem ztwo_b {p e : Nat} {w : Nat → Nat} : ∀ n, n ≤ 12 → (zfo (ztwo p e w) 0 (0, []) n).1 ≤ 12 * n ∧ ((zfo (ztwo p e w) 0 (0, []) n).1 = 0 → (zfo (ztwo p e w) 0 (0, []) n).2 = []) := by
  intro n
  induction n with
  | zero => intro _; exact ⟨Nat.le_refl _, fun _ => rfl⟩
  | succ n ih =>
    intro h
    obtain ⟨i1, i2⟩ := ih (by omega)
    rw [zfo]
    unfold ztwo at i1 i2 ⊢
    have := zfo_b (g := ztw p e w) (a := 0 + n) (k := 0 + n + 1) (s := zfo (fun a s => zfo (zpst (ztw p e w) a) (a + 1) s (11 - a)) 0 (0, []) n) (11 - (0 + n))
    exact ⟨by omega, zfo_n i2 _⟩
theorem zP_twins_ok : zP_twins zInv := by
  intro c M hc h
  obtain ⟨p, e, w, hA⟩ := h.1
  obtain ⟨hc1, hW, hR, hN⟩ := id hA
  have key8 : ∃ M1, f8_twins M = some (nI (zfo (ztwo p e w) 0 (0, []) 12).1, M1) ∧ zR8 M1 (zfo (ztwo p e w) 0 (0, []) 12).2 := by
    rw [f8_twins, f3_clear, Option.bind_some]
    refine zloopP (F := fun f n x => f8_twins_11 f (nI (zfo (ztwo p e w) 0 (0, []) n).1) (nI n) x) (I := fun n x => zWc x 1 p e w ∧ zR8 x (zfo (ztwo p e w) 0 (0, []) n).2) (P := fun o => ∃ M1, o = some (nI (zfo (ztwo p e w) 0 (0, []) 12).1, M1) ∧ zR8 M1 (zfo (ztwo p e w) 0 (0, []) 12).2) 12 (by omega) (k0 := 0) (by omega) (fun f n x _ hn hx => Or.inl ?_) (fun f x hx => ⟨x, ?_, hx.2⟩) (x := zsi M 9 1 0) ⟨zWc_si hW (by omega) (by omega), zR8_nil M⟩
    · obtain ⟨sb, sn⟩ := ztwo_b (p := p) (e := e) (w := w) n (by omega)
      have e1 : zfo (ztwo p e w) 0 (0, []) (n + 1) = zfo (zpst (ztw p e w) n) (n + 1) (zfo (ztwo p e w) 0 (0, []) n) (11 - n) := by
        rw [zfo, Nat.zero_add, ztwo]
      rw [e1]
      generalize zfo (ztwo p e w) 0 (0, []) n = s0 at hx sb sn
      have inner : ∃ y, f8_twins_21 (f8_twins_63 (f8_twins_11 f)) zfuel (nI s0.1) (nI n) (nI (n + 1)) x = f8_twins_11 f (nI (zfo (zpst (ztw p e w) n) (n + 1) s0 (11 - n)).1) (nI (n + 1)) y ∧ zWc y 1 p e w ∧ zR8 y (zfo (zpst (ztw p e w) n) (n + 1) s0 (11 - n)).2 := by
        refine zloopP (F := fun g b y => f8_twins_21 (f8_twins_63 (f8_twins_11 f)) g (nI (zfo (zpst (ztw p e w) n) (n + 1) s0 (b - (n + 1))).1) (nI n) (nI b) y) (I := fun b y => zWc y 1 p e w ∧ zR8 y (zfo (zpst (ztw p e w) n) (n + 1) s0 (b - (n + 1))).2) (P := fun o => ∃ y, o = f8_twins_11 f (nI (zfo (zpst (ztw p e w) n) (n + 1) s0 (11 - n)).1) (nI (n + 1)) y ∧ zWc y 1 p e w ∧ zR8 y (zfo (zpst (ztw p e w) n) (n + 1) s0 (11 - n)).2) 12 (by omega) (k0 := n + 1) (by omega) (fun g b y hb0 hb hy => Or.inl ?_) (fun g y hy => ?_) (x := x) (by rw [show n + 1 - (n + 1) = 0 by omega]; exact hx) |> (fun q => by rw [show n + 1 - (n + 1) = 0 by omega] at q; exact q)
        · obtain ⟨y1, y2⟩ := hy
          have tb := zfo_b (g := ztw p e w) (a := n) (k := n + 1) (s := s0) (b - (n + 1))
          have tn := zfo_n (g := ztw p e w) (a := n) (k := n + 1) sn (b - (n + 1))
          have e2 : zfo (zpst (ztw p e w) n) (n + 1) s0 (b + 1 - (n + 1)) = zpst (ztw p e w) n b (zfo (zpst (ztw p e w) n) (n + 1) s0 (b - (n + 1))) := by
            rw [show b + 1 - (n + 1) = (b - (n + 1)) + 1 by omega, zfo, show n + 1 + (b - (n + 1)) = b by omega]
          rw [e2]
          generalize zfo (zpst (ztw p e w) n) (n + 1) s0 (b - (n + 1)) = s1 at y2 tb tn
          have start : f8_twins_21 (f8_twins_63 (f8_twins_11 f)) (g + 1) (nI s1.1) (nI n) (nI b) y = (if nI (zi (ztw p e w n b)) = 0 then f8_twins_57 (f8_twins_21 (f8_twins_63 (f8_twins_11 f)) g) (nI s1.1) (nI n) (nI b) y else if nI s1.1 = 0 then (f3_tell_ (nI n).toInt64 (nI b).toInt64 y).bind fun M2 => f8_twins_54 (f8_twins_21 (f8_twins_63 (f8_twins_11 f)) g) (nI s1.1) (nI n) (nI b) M2 else f8_twins_54 (f8_twins_21 (f8_twins_63 (f8_twins_11 f)) g) (nI s1.1) (nI n) (nI b) y) := by
            rw [f8_twins_21, if_neg (show ¬ (12 : Int32) ≤ nI b from nI_ge (b := 12) (by omega) (by omega)), c_twins y1 hc1 (by omega) hb, Option.bind_some]
          cases hg : ztw p e w n b
          · refine ⟨y, ?_, y1, ?_⟩
            · show f8_twins_21 (f8_twins_63 (f8_twins_11 f)) (g + 1) (nI s1.1) (nI n) (nI b) y = _
              rw [start, hg, if_pos (show nI (zi false) = 0 from rfl), f8_twins_57, nI_1, zpst, hg, if_neg (by decide)]
            · rw [zpst, hg, if_neg (by decide)]
              exact y2
          · by_cases h0 : s1.1 = 0
            · obtain ⟨z, z1, z2⟩ := c_tell2 (nI n).toInt64 (nI b).toInt64 y
              have oz := o_X3_tell_ z1
              refine ⟨z, ?_, y1.to (oz.1 1 (by simp) (by simp)).1 (oz.1 2 (by simp) (by simp)).1, ?_⟩
              · show f8_twins_21 (f8_twins_63 (f8_twins_11 f)) (g + 1) (nI s1.1) (nI n) (nI b) y = _
                rw [start, hg, if_neg (show ¬ nI (zi true) = 0 by decide), if_pos (by rw [h0]; rfl), z1, Option.bind_some, f8_twins_54, f8_twins_57, nI_1, nI_1, zpst, hg, if_pos rfl]
              · rw [zpst, hg, if_pos rfl, if_pos h0]
                exact z2
            · refine ⟨y, ?_, y1, ?_⟩
              · show f8_twins_21 (f8_twins_63 (f8_twins_11 f)) (g + 1) (nI s1.1) (nI n) (nI b) y = _
                rw [start, hg, if_neg (show ¬ nI (zi true) = 0 by decide), if_neg (nI_ne0 (by omega) (by omega)), f8_twins_54, f8_twins_57, nI_1, nI_1, zpst, hg, if_pos rfl]
              · rw [zpst, hg, if_pos rfl, if_neg h0]
                exact y2
        · rw [show 12 - (n + 1) = 11 - n by omega] at hy
          refine ⟨y, ?_, hy⟩
          show f8_twins_21 (f8_twins_63 (f8_twins_11 f)) (g + 1) (nI (zfo (zpst (ztw p e w) n) (n + 1) s0 (12 - (n + 1))).1) (nI n) (nI 12) y = _
          rw [f8_twins_21, if_pos (by decide), f8_twins_63, nI_1, show 12 - (n + 1) = 11 - n by omega]
      obtain ⟨y, y1, y2⟩ := inner
      refine ⟨y, ?_, y2⟩
      show f8_twins_11 (f + 1) (nI s0.1) (nI n) x = _
      rw [f8_twins_11, if_neg (show ¬ (12 : Int32) ≤ nI n from nI_ge (b := 12) (by omega) (by omega)), nI_1, y1]
    · show f8_twins_11 (f + 1) _ (nI 12) x = _
      rw [f8_twins_11, if_pos (by decide)]
  obtain ⟨M1, h8, r8⟩ := key8
  have o8 := o_X8_twins h8
  have hR1 : zRr (zsi (zsi M1 39 0 0) 39 1 0) 41 p e w := zRr_si (zRr_si (hR.to (o8.1 41 (by simp) (by simp)).1) (by omega)) (by omega)
  have key9 : ∃ M2, f9_twins M1 = some (nI (zfo (ztwo p e w) 0 (0, []) 12).1, M2) ∧ zR9 M2 (zfo (ztwo p e w) 0 (0, []) 12).2 := by
    rw [f9_twins]
    refine zloopP (F := fun f n x => f9_twins_14 f (nI (zfo (ztwo p e w) 0 (0, []) n).1) (nI n) x) (I := fun n x => zRr x 41 p e w ∧ zR9 x (zfo (ztwo p e w) 0 (0, []) n).2) (P := fun o => ∃ M1, o = some (nI (zfo (ztwo p e w) 0 (0, []) 12).1, M1) ∧ zR9 M1 (zfo (ztwo p e w) 0 (0, []) 12).2) 12 (by omega) (k0 := 0) (by omega) (fun f n x _ hn hx => Or.inl ?_) (fun f x hx => ⟨x, ?_, hx.2⟩) (x := zsi (zsi M1 39 0 0) 39 1 0) ⟨hR1, zR9_nil _⟩
    · obtain ⟨sb, sn⟩ := ztwo_b (p := p) (e := e) (w := w) n (by omega)
      have e1 : zfo (ztwo p e w) 0 (0, []) (n + 1) = zfo (zpst (ztw p e w) n) (n + 1) (zfo (ztwo p e w) 0 (0, []) n) (11 - n) := by
        rw [zfo, Nat.zero_add, ztwo]
      rw [e1]
      generalize zfo (ztwo p e w) 0 (0, []) n = s0 at hx sb sn
      have inner : ∃ y, f9_twins_24 (f9_twins_134 (f9_twins_14 f)) zfuel (nI s0.1) (nI n) (nI (n + 1)) x = f9_twins_14 f (nI (zfo (zpst (ztw p e w) n) (n + 1) s0 (11 - n)).1) (nI (n + 1)) y ∧ zRr y 41 p e w ∧ zR9 y (zfo (zpst (ztw p e w) n) (n + 1) s0 (11 - n)).2 := by
        refine zloopP (F := fun g b y => f9_twins_24 (f9_twins_134 (f9_twins_14 f)) g (nI (zfo (zpst (ztw p e w) n) (n + 1) s0 (b - (n + 1))).1) (nI n) (nI b) y) (I := fun b y => zRr y 41 p e w ∧ zR9 y (zfo (zpst (ztw p e w) n) (n + 1) s0 (b - (n + 1))).2) (P := fun o => ∃ y, o = f9_twins_14 f (nI (zfo (zpst (ztw p e w) n) (n + 1) s0 (11 - n)).1) (nI (n + 1)) y ∧ zRr y 41 p e w ∧ zR9 y (zfo (zpst (ztw p e w) n) (n + 1) s0 (11 - n)).2) 12 (by omega) (k0 := n + 1) (by omega) (fun g b y hb0 hb hy => Or.inl ?_) (fun g y hy => ?_) (x := x) (by rw [show n + 1 - (n + 1) = 0 by omega]; exact hx) |> (fun q => by rw [show n + 1 - (n + 1) = 0 by omega] at q; exact q)
        · obtain ⟨y1, y2⟩ := hy
          have tb := zfo_b (g := ztw p e w) (a := n) (k := n + 1) (s := s0) (b - (n + 1))
          have tn := zfo_n (g := ztw p e w) (a := n) (k := n + 1) sn (b - (n + 1))
          have e2 : zfo (zpst (ztw p e w) n) (n + 1) s0 (b + 1 - (n + 1)) = zpst (ztw p e w) n b (zfo (zpst (ztw p e w) n) (n + 1) s0 (b - (n + 1))) := by
            rw [show b + 1 - (n + 1) = (b - (n + 1)) + 1 by omega, zfo, show n + 1 + (b - (n + 1)) = b by omega]
          rw [e2]
          generalize zfo (zpst (ztw p e w) n) (n + 1) s0 (b - (n + 1)) = s1 at y2 tb tn
          have start : f9_twins_24 (f9_twins_134 (f9_twins_14 f)) (g + 1) (nI s1.1) (nI n) (nI b) y = f9_twins_97 (f9_twins_24 (f9_twins_134 (f9_twins_14 f)) g) (nI s1.1) (nI n) (nI b) (nI (zi (ztw p e w n b))) y := by
            have b1 := zth_lt64 hc1 (n / 6) (n % 6)
            have b2 := zth_lt64 hc1 (b / 6) (b % 6)
            rw [f9_twins_24, if_neg (show ¬ (12 : Int32) ≤ nI b from nI_ge (b := 12) (by omega) (by omega)), zl6, nI_div (by omega) (by omega) (by omega), nI_div (by omega) (by omega) (by omega)]
            unfold ztw
            by_cases g1 : n / 6 = b / 6
            · rw [if_pos (by rw [g1]), decide_eq_true g1, nI_rem (by omega) (by omega) (by omega), nI_rem (by omega) (by omega) (by omega)]
              by_cases g2 : b % 6 < zmany p e (b / 6)
              · have g3 : n % 6 < zmany p e (n / 6) := by rw [g1]; omega
                rw [r_thr_yes y1 hc1 (by omega) g2, Option.bind_some, if_neg (by decide), r_bits y1 hc1 (by omega) g3, Option.bind_some, r_bits y1 hc1 (by omega) g2, Option.bind_some, decide_eq_true g2]
                by_cases g4 : zth p e w (n / 6) (n % 6) = zth p e w (b / 6) (b % 6)
                · rw [if_pos (by rw [g4]), decide_eq_true g4]
                  rfl
                · rw [if_neg (nI_ne g4 (by omega) (by omega)), decide_eq_false g4]
                  rfl
              · have q2 : f9_isThread 41 (nI (b / 6)) (nI (b % 6)) y = some 0 := r_thr_no y1 hc1 (fun q => g2 ((zVd_n hc1 (by omega) (by omega)).mp q))
                rw [q2, Option.bind_some, if_pos rfl, decide_eq_false g2]
                rfl
            · rw [if_neg (nI_ne g1 (by omega) (by omega)), decide_eq_false g1]
              rfl
          have o120 : ∀ (c : Bool) (X : zM), f9_twins_120 (f9_twins_24 (f9_twins_134 (f9_twins_14 f)) g) (nI s1.1) (nI n) (nI b) (nI (zi c)) X = f9_twins_24 (f9_twins_134 (f9_twins_14 f)) g (nI (s1.1 + zi c)) (nI n) (nI (b + 1)) X := by
            intro c X
            have q : f9_flag (nI (zi c)) = some (nI (zi c)) := by cases c <;> rfl
            rw [f9_twins_120, q, Option.bind_some, nI_add, nI_1]
          cases hg : ztw p e w n b
          · refine ⟨y, ?_, y1, ?_⟩
            · show f9_twins_24 (f9_twins_134 (f9_twins_14 f)) (g + 1) (nI s1.1) (nI n) (nI b) y = _
              rw [start, hg, f9_twins_97, if_pos (show nI (zi false) = 0 from rfl), o120, zpst, hg, if_neg (by decide)]
              rfl
            · rw [zpst, hg, if_neg (by decide)]
              exact y2
          · by_cases h0 : s1.1 = 0
            · rw [tn h0] at y2
              obtain ⟨z0, z1, z2⟩ := y2.add (by simp) (nI n).toInt64
              obtain ⟨z, z3, z4⟩ := z2.add (by simp) (nI b).toInt64
              have oz := (o_X9_enters z1).trans (o_X9_enters z3)
              refine ⟨z, ?_, y1.to (oz.1 41 (by simp) (by simp)).1, ?_⟩
              · show f9_twins_24 (f9_twins_134 (f9_twins_14 f)) (g + 1) (nI s1.1) (nI n) (nI b) y = _
                rw [start, hg, f9_twins_97, if_neg (show ¬ nI (zi true) = 0 by decide), if_pos (by rw [h0]; rfl), z1, Option.bind_some, z3, Option.bind_some, o120, zpst, hg, if_pos rfl]
                rfl
              · rw [zpst, hg, if_pos rfl, if_pos h0]
                exact z4
            · refine ⟨y, ?_, y1, ?_⟩
              · show f9_twins_24 (f9_twins_134 (f9_twins_14 f)) (g + 1) (nI s1.1) (nI n) (nI b) y = _
                rw [start, hg, f9_twins_97, if_neg (show ¬ nI (zi true) = 0 by decide), if_neg (nI_ne0 (by omega) (by omega)), o120, zpst, hg, if_pos rfl]
                rfl
              · rw [zpst, hg, if_pos rfl, if_neg h0]
                exact y2
        · rw [show 12 - (n + 1) = 11 - n by omega] at hy
          refine ⟨y, ?_, hy⟩
          show f9_twins_24 (f9_twins_134 (f9_twins_14 f)) (g + 1) (nI (zfo (zpst (ztw p e w) n) (n + 1) s0 (12 - (n + 1))).1) (nI n) (nI 12) y = _
          rw [f9_twins_24, if_pos (by decide), f9_twins_134, nI_1, show 12 - (n + 1) = 11 - n by omega]
      obtain ⟨y, y1, y2⟩ := inner
      refine ⟨y, ?_, y2⟩
      show f9_twins_14 (f + 1) (nI s0.1) (nI n) x = _
      rw [f9_twins_14, if_neg (show ¬ (12 : Int32) ≤ nI n from nI_ge (b := 12) (by omega) (by omega)), nI_1, y1]
    · show f9_twins_14 (f + 1) _ (nI 12) x = _
      rw [f9_twins_14, if_pos (by decide)]
  obtain ⟨M2, h9, r9⟩ := key9
  exact ⟨_, _, _, h8, h9, zq h o8 (o_X9_twins h9) r8 r9 rfl rfl⟩
