/-! outlasts: the set of picks that stay apart, whatever end goes -/
def zan (g : Nat → Bool) : Nat → Bool
  | 0 => false
  | n + 1 => zan g n || g n
theorem zan_iff (g : Nat → Bool) (n : Nat) : zan g n = true ↔ ∃ i, i < n ∧ g i = true := by
  induction n with
  | zero => simp [zan]
  | succ n ih =>
    rw [zan, Bool.or_eq_true, ih]
    constructor
    · rintro (⟨i, h1, h2⟩ | h)
      · exact ⟨i, by omega, h2⟩
      · exact ⟨n, by omega, h⟩
    · rintro ⟨i, h1, h2⟩
      by_cases g1 : i = n
      · subst g1
        exact Or.inr h2
      · exact Or.inl ⟨i, by omega, h2⟩
theorem zal_iff (g : Nat → Bool) (k n : Nat) : zal g k n = true ↔ ∀ i, i < n → g (k + i) = true := by
  induction n with
  | zero => simp [zal]
  | succ n ih =>
    rw [zal, Bool.and_eq_true, ih]
    constructor
    · rintro ⟨h1, h2⟩ i hi
      by_cases g1 : i = n
      · subst g1
        exact h2
      · exact h1 i (by omega)
    · intro h
      exact ⟨fun i hi => h i (by omega), h n (by omega)⟩
def zcb (w1 w2 e x : Nat) : Bool := zan (fun y => decide (zwo w1 x = zwo w2 y)) e
def zca (w1 w2 e : Nat) : Bool := zan (zcb w1 w2 e) e
theorem zca_sym (w1 w2 e : Nat) : zca w1 w2 e = zca w2 w1 e := by
  have key : ∀ u v, zca u v e = true → zca v u e = true := by
    intro u v h
    unfold zca zcb at h ⊢
    rw [zan_iff] at h ⊢
    obtain ⟨x, hx, h⟩ := h
    rw [zan_iff] at h
    obtain ⟨y, hy, h⟩ := h
    refine ⟨y, hy, ?_⟩
    rw [zan_iff]
    exact ⟨x, hx, by simpa using (of_decide_eq_true h).symm⟩
  cases h1 : zca w1 w2 e <;> cases h2 : zca w2 w1 e
  · rfl
  · rw [key _ _ h2] at h1
    exact absurd h1 (by decide)
  · rw [key _ _ h1] at h2
    exact absurd h2 (by decide)
  · rfl
theorem zca_f {w1 w2 e : Nat} : zca w1 w2 e = zan (zcb w1 w2 e) e := rfl
theorem zan_true {g : Nat → Bool} {n i : Nat} (h : i < n) (hg : g i = true) : zan g n = true := (zan_iff g n).mpr ⟨i, h, hg⟩
section OL
variable {M : zM} {p e : Nat} {w : Nat → Nat}
theorem c_canBeAlike (h : zWc M 1 p e w) (hc : zCl p e w) {a b : Nat} (ha : a < 6) (hb : b < 6) : f8_canBeAlike (nI a) (nI b) M = some (nI (zi (zca (w a) (w b) e))) := by
  obtain ⟨h1, h2, h3, h4, h5, h6⟩ := id hc
  have hwa := hc.lt64 a
  have hwb := hc.lt64 b
  rw [f8_canBeAlike]
  refine zloopP (F := fun f x (u : Unit) => f8_canBeAlike_2 f (nI a) (nI b) (nI x) M) (I := fun x _ => zan (zcb (w a) (w b) e) x = false) (P := fun o => o = some (nI (zi (zca (w a) (w b) e)))) e (by omega) (k0 := 0) (by omega) (fun f x u _ hx hI => ?_) (fun f u hI => ?_) (x := ()) rfl
  · have inn : (f8_canBeAlike_31 (f8_canBeAlike_70 (f8_canBeAlike_2 f)) zfuel (nI a) (nI b) (nI x) (nI (zwo (w a) x)) 0 M = f8_canBeAlike_2 f (nI a) (nI b) (nI (x + 1)) M ∧ zcb (w a) (w b) e x = false) ∨ (f8_canBeAlike_31 (f8_canBeAlike_70 (f8_canBeAlike_2 f)) zfuel (nI a) (nI b) (nI x) (nI (zwo (w a) x)) 0 M = some 1 ∧ zcb (w a) (w b) e x = true) := by
      refine zloopP (F := fun g y (u : Unit) => f8_canBeAlike_31 (f8_canBeAlike_70 (f8_canBeAlike_2 f)) g (nI a) (nI b) (nI x) (nI (zwo (w a) x)) (nI y) M) (I := fun y _ => zan (fun y => decide (zwo (w a) x = zwo (w b) y)) y = false) (P := fun o => (o = f8_canBeAlike_2 f (nI a) (nI b) (nI (x + 1)) M ∧ zcb (w a) (w b) e x = false) ∨ (o = some 1 ∧ zcb (w a) (w b) e x = true)) e (by omega) (k0 := 0) (by omega) (fun g y u _ hy hI => ?_) (fun g u hI => ?_) (x := ()) rfl
      · have ex : f8_canBeAlike_31 (f8_canBeAlike_70 (f8_canBeAlike_2 f)) (g + 1) (nI a) (nI b) (nI x) (nI (zwo (w a) x)) (nI y) M = if nI (zwo (w a) x) = nI (zwo (w b) y) then some 1 else f8_canBeAlike_31 (f8_canBeAlike_70 (f8_canBeAlike_2 f)) g (nI a) (nI b) (nI x) (nI (zwo (w a) x)) (nI (y + 1)) M := by
          have hcell : f7_cellsOf 1 (0 : Int32) (nI b) M = some (nI (w b)) := c_cells (kd := 0) h (by omega) hb
          rw [f8_canBeAlike_31, h.2.1, if_neg (nI_ge hy (by omega)), hcell, Option.bind_some, f8_without_n _ hwb y (by omega), Option.bind_some, nI_1]
        have b1 := zwo_64 x (by omega) _ hwa
        have b2 := zwo_64 y (by omega) _ hwb
        by_cases g1 : zwo (w a) x = zwo (w b) y
        · refine Or.inr (Or.inr ⟨?_, zan_true hy (decide_eq_true g1)⟩)
          exact ex.trans (by rw [if_pos (by rw [g1])])
        · refine Or.inl ⟨(), ex.trans (by rw [if_neg (nI_ne g1 (by omega) (by omega))]), ?_⟩
          show (zan (fun y => decide (zwo (w a) x = zwo (w b) y)) y || decide (zwo (w a) x = zwo (w b) y)) = false
          rw [hI, decide_eq_false g1]
          rfl
      · refine Or.inl ⟨?_, hI⟩
        show f8_canBeAlike_31 _ (g + 1) (nI a) (nI b) (nI x) _ (nI e) M = _
        rw [f8_canBeAlike_31, h.2.1, if_pos (nI_le (Nat.le_refl _) (by omega)), f8_canBeAlike_70, nI_1]
    have ex : f8_canBeAlike_2 (f + 1) (nI a) (nI b) (nI x) M = f8_canBeAlike_31 (f8_canBeAlike_70 (f8_canBeAlike_2 f)) zfuel (nI a) (nI b) (nI x) (nI (zwo (w a) x)) 0 M := by
      have hcell : f7_cellsOf 1 (0 : Int32) (nI a) M = some (nI (w a)) := c_cells (kd := 0) h (by omega) ha
      rw [f8_canBeAlike_2, h.2.1, if_neg (nI_ge hx (by omega)), hcell, Option.bind_some, f8_without_n _ hwa x (by omega), Option.bind_some]
    rcases inn with ⟨q1, q2⟩ | ⟨q1, q2⟩
    · refine Or.inl ⟨(), ex.trans q1, ?_⟩
      show (zan (zcb (w a) (w b) e) x || zcb (w a) (w b) e x) = false
      rw [hI, q2]
      rfl
    · refine Or.inr (ex.trans (q1.trans ?_))
      rw [zca_f, zan_true hx q2]
      rfl
  · show f8_canBeAlike_2 (f + 1) (nI a) (nI b) (nI e) M = _
    rw [f8_canBeAlike_2, h.2.1, if_pos (nI_le (Nat.le_refl _) (by omega)), zca_f, hI]
    rfl
theorem r_canBeAlike {w1 w2 : Nat} (h1 : w1 < 64) (h2 : w2 < 64) {e : Nat} (he : e ≤ 6) : f9_canBeAlike (nI w1) (nI w2) (nI e) = some (nI (zi (zca w1 w2 e))) := by
  rw [f9_canBeAlike]
  refine zloop0 (F := fun f x => f9_canBeAlike_5 f (nI w1) (nI w2) (nI e) (nI (zi (zan (zcb w1 w2 e) x))) (nI x)) e (by omega) (fun f x hx => ?_) (fun f => ?_)
  · show f9_canBeAlike_5 (f + 1) _ _ _ _ (nI x) = _
    rw [f9_canBeAlike_5, if_neg (nI_ge hx (by omega))]
    rw [show nI (zi (zan (zcb w1 w2 e) x)) = nI (zi (zan (zcb w1 w2 e) x || zan (fun y => decide (zwo w1 x = zwo w2 y)) 0)) by rw [zan.eq_1, Bool.or_false]]
    refine zloop0 (F := fun g y => f9_canBeAlike_14 (f9_canBeAlike_51 (f9_canBeAlike_5 f)) g (nI w1) (nI w2) (nI e) (nI (zi (zan (zcb w1 w2 e) x || zan (fun y => decide (zwo w1 x = zwo w2 y)) y))) (nI x) (nI y)) e (by omega) (fun g y hy => ?_) (fun g => ?_)
    · show f9_canBeAlike_14 _ (g + 1) _ _ _ _ (nI x) (nI y) = _
      have b1 := zwo_64 x (by omega) _ h1
      have b2 := zwo_64 y (by omega) _ h2
      rw [f9_canBeAlike_14, if_neg (nI_ge hy (by omega)), zan.eq_2]
      cases hq : (zan (zcb w1 w2 e) x || zan (fun y => decide (zwo w1 x = zwo w2 y)) y)
      · rw [if_pos (show nI (zi false) = 0 from rfl), f9_without_n _ h1 x (by omega), Option.bind_some, f9_without_n _ h2 y (by omega), Option.bind_some, f9_canBeAlike_44, nI_1, zeq01 (by omega) (by omega), ← Bool.or_assoc, hq, Bool.false_or]
      · rw [if_neg (show ¬ nI (zi true) = 0 by decide), f9_canBeAlike_44, nI_1, ← Bool.or_assoc, hq, Bool.true_or]
        rfl
    · show f9_canBeAlike_14 _ (g + 1) _ _ _ _ (nI x) (nI e) = _
      rw [f9_canBeAlike_14, if_pos (nI_le (Nat.le_refl _) (by omega)), f9_canBeAlike_51, nI_1]
      rfl
  · show f9_canBeAlike_5 (f + 1) _ _ _ _ (nI e) = _
    rw [f9_canBeAlike_5, if_pos (nI_le (Nat.le_refl _) (by omega)), ← zca_f]
    cases zca w1 w2 e <;> rfl
/-- two picks of a set that can be alike -/
def zpa (w : Nat → Nat) (e S i j : Nat) : Bool := S.testBit i && (S.testBit j && zca (w i) (w j) e)
/-- the set stays apart: no two of it can be alike -/
def zap (p e : Nat) (w : Nat → Nat) (S : Nat) : Bool := !(zan (fun i => zan (fun j => zpa w e S i j) i) p)
/-- the best of the sets below n -/
def zbs (p e : Nat) (w : Nat → Nat) : Nat → Nat
  | 0 => 0
  | n + 1 => if zbc n ≤ zbc (zbs p e w n) then zbs p e w n else if zap p e w n = true then n else zbs p e w n
theorem zbs_le (n : Nat) : zbs p e w n ≤ n := by
  induction n with
  | zero => exact Nat.le_refl _
  | succ n ih =>
    rw [zbs]
    split
    · omega
    · split <;> omega
theorem zpa_sym (w : Nat → Nat) (e S i j : Nat) : zpa w e S i j = zpa w e S j i := by
  unfold zpa
  rw [zca_sym]
  cases S.testBit i <;> cases S.testBit j <;> rfl
theorem zap_t {S : Nat} (h : ∀ i j, i < p → j < i → zpa w e S i j = false) : zap p e w S = true := by
  unfold zap
  cases q : zan (fun i => zan (fun j => zpa w e S i j) i) p
  · rfl
  · obtain ⟨i, hi, q⟩ := (zan_iff _ _).mp q
    obtain ⟨j, hj, q⟩ := (zan_iff _ _).mp q
    have := h i j hi hj
    simp only [this] at q
    exact absurd q (by decide)
theorem zap_f {S i j : Nat} (hi : i < p) (hj : j < i) (h : zpa w e S i j = true) : zap p e w S = false := by
  unfold zap
  rw [zan_true (g := fun i => zan (fun j => zpa w e S i j) i) hi (zan_true (g := fun j => zpa w e S i j) hj h)]
  rfl
theorem zand1 (a b : Nat) : (a &&& b) &&& 1 = (a &&& 1) &&& (b &&& 1) := Nat.eq_of_testBit_eq (fun i => by
  simp only [Nat.testBit_and]
  cases a.testBit i <;> cases b.testBit i <;> cases Nat.testBit 1 i <;> rfl)
theorem c_staysApart (h : zWc M 1 p e w) (hc : zCl p e w) {S : Nat} (hS : S < 64) : f8_staysApart (nI S) M = some (nI (zi (zap p e w S))) := by
  obtain ⟨h1, h2, h3, h4, h5, h6⟩ := id hc
  rw [f8_staysApart]
  refine zloopP (F := fun f x (u : Unit) => f8_staysApart_2 f (nI S) (nI x) M) (I := fun x _ => ∀ i j, i < x → i < j → j < p → zpa w e S j i = false) (P := fun o => o = some (nI (zi (zap p e w S)))) p (by omega) (k0 := 0) (by omega) (fun f x u _ hx hI => ?_) (fun f u hI => ?_) (x := ()) (fun i j hi => absurd hi (by omega))
  · have inn : (f8_staysApart_17 (f8_staysApart_57 (f8_staysApart_2 f)) zfuel (nI S) (nI x) (nI (x + 1)) M = f8_staysApart_2 f (nI S) (nI (x + 1)) M ∧ ∀ j, x < j → j < p → zpa w e S j x = false) ∨ (f8_staysApart_17 (f8_staysApart_57 (f8_staysApart_2 f)) zfuel (nI S) (nI x) (nI (x + 1)) M = some 0 ∧ zap p e w S = false) := by
      refine zloopP (F := fun g y (u : Unit) => f8_staysApart_17 (f8_staysApart_57 (f8_staysApart_2 f)) g (nI S) (nI x) (nI y) M) (I := fun y _ => ∀ j, x < j → j < y → zpa w e S j x = false) (P := fun o => (o = f8_staysApart_2 f (nI S) (nI (x + 1)) M ∧ ∀ j, x < j → j < p → zpa w e S j x = false) ∨ (o = some 0 ∧ zap p e w S = false)) p (by omega) (k0 := x + 1) (by omega) (fun g y u hy0 hy hI => ?_) (fun g u hI => ?_) (x := ()) (fun j hj hj2 => absurd hj (by omega))
      · have ex : f8_staysApart_17 (f8_staysApart_57 (f8_staysApart_2 f)) (g + 1) (nI S) (nI x) (nI y) M = if zpa w e S y x = true then some 0 else f8_staysApart_17 (f8_staysApart_57 (f8_staysApart_2 f)) g (nI S) (nI x) (nI (y + 1)) M := by
          rw [f8_staysApart_17, h.1, if_neg (nI_ge hy (by omega)), nI_ushr (by omega) (by omega), nI_ushr (by omega) (by omega), zpa_sym, zpa]
          have eb : (nI (S / 2 ^ x) &&& nI (S / 2 ^ y)) &&& (1 : Int32) = nI (zi (S.testBit x && S.testBit y)) := by
            rw [zl1, nI_and, nI_and, zand1, zb1, zb1]
            cases S.testBit x <;> cases S.testBit y <;> rfl
          rw [eb]
          cases q1 : S.testBit x <;> cases q2 : S.testBit y
          · rw [if_pos (by decide), f8_staysApart_51, nI_1]
            rfl
          · rw [if_pos (by decide), f8_staysApart_51, nI_1]
            rfl
          · rw [if_pos (by decide), f8_staysApart_51, nI_1]
            rfl
          · rw [if_neg (by decide), c_canBeAlike h hc (by omega) (by omega), Option.bind_some]
            cases zca (w x) (w y) e
            · rw [if_pos (show nI (zi false) = 0 from rfl), f8_staysApart_51, nI_1]
              rfl
            · rw [if_neg (show ¬ nI (zi true) = 0 by decide)]
              rfl
        by_cases g1 : zpa w e S y x = true
        · exact Or.inr (Or.inr ⟨ex.trans (by rw [if_pos g1]), zap_f hy (by omega) g1⟩)
        · refine Or.inl ⟨(), ex.trans (by rw [if_neg g1]), fun j hj hj2 => ?_⟩
          by_cases g2 : j = y
          · subst g2
            simpa using g1
          · exact hI j hj (by omega)
      · refine Or.inl ⟨?_, hI⟩
        show f8_staysApart_17 _ (g + 1) _ (nI x) (nI p) M = _
        rw [f8_staysApart_17, h.1, if_pos (nI_le (Nat.le_refl _) (by omega)), f8_staysApart_57, nI_1]
    have ex : f8_staysApart_2 (f + 1) (nI S) (nI x) M = f8_staysApart_17 (f8_staysApart_57 (f8_staysApart_2 f)) zfuel (nI S) (nI x) (nI (x + 1)) M := by
      rw [f8_staysApart_2, h.1, if_neg (nI_ge hx (by omega)), nI_1]
    rcases inn with ⟨q1, q2⟩ | ⟨q1, q2⟩
    · refine Or.inl ⟨(), ex.trans q1, fun i j hi hj hp => ?_⟩
      by_cases g2 : i = x
      · subst g2
        exact q2 j hj hp
      · exact hI i j (by omega) hj hp
    · refine Or.inr (ex.trans (q1.trans ?_))
      rw [q2]
      rfl
  · show f8_staysApart_2 (f + 1) _ (nI p) M = _
    rw [f8_staysApart_2, h.1, if_pos (nI_le (Nat.le_refl _) (by omega)), zap_t (fun i j hi hj => hI j i (by omega) hj hi)]
    rfl
theorem zan_mono {g : Nat → Bool} {m n : Nat} (h : zan g m = true) (hmn : m ≤ n) : zan g n = true := by
  obtain ⟨i, hi, q⟩ := (zan_iff _ _).mp h
  exact zan_true (by omega) q
theorem r_stays {K : Int32 → Int32 → Int32 → zM → Option (Int32 × zM)} (h : zRr M 41 p e w) (hc : zCl p e w) {S : Nat} (hS : S < 64) (s0 : Bool) (v1 : Int32) : f9_outlasts_43 K zfuel v1 (nI S) (nI (zi s0)) 0 M = K v1 (nI S) (nI (zi (s0 && zap p e w S))) M := by
  obtain ⟨h1, h2, h3, h4, h5, h6⟩ := id hc
  rw [show nI (zi s0) = nI (zi (s0 && !(zan (fun i => zan (fun j => zpa w e S i j) i) 0))) by rw [zan.eq_1]; cases s0 <;> rfl]
  refine zloop0 (F := fun f i => f9_outlasts_43 K f v1 (nI S) (nI (zi (s0 && !(zan (fun i => zan (fun j => zpa w e S i j) i) i)))) (nI i) M) p (by omega) (fun f i hi => ?_) (fun f => ?_)
  · have inn : f9_outlasts_58 (f9_outlasts_126 (f9_outlasts_43 K f)) zfuel v1 (nI S) (nI (zi ((s0 && !(zan (fun i => zan (fun j => zpa w e S i j) i) i)) && !(zan (fun j => zpa w e S i j) 0)))) (nI i) 0 M = f9_outlasts_43 K f v1 (nI S) (nI (zi (s0 && !(zan (fun i => zan (fun j => zpa w e S i j) i) (i + 1))))) (nI (i + 1)) M := by
      refine zloopP (F := fun g j (u : Unit) => f9_outlasts_58 (f9_outlasts_126 (f9_outlasts_43 K f)) g v1 (nI S) (nI (zi ((s0 && !(zan (fun i => zan (fun j => zpa w e S i j) i) i)) && !(zan (fun j => zpa w e S i j) j)))) (nI i) (nI j) M) (I := fun _ _ => True) (P := fun o => o = f9_outlasts_43 K f v1 (nI S) (nI (zi (s0 && !(zan (fun i => zan (fun j => zpa w e S i j) i) (i + 1))))) (nI (i + 1)) M) i (by omega) (k0 := 0) (by omega) (fun g j u _ hj _ => ?_) (fun g u _ => ?_) (x := ()) trivial
      · cases hq : ((s0 && !(zan (fun i => zan (fun j => zpa w e S i j) i) i)) && !(zan (fun j => zpa w e S i j) j))
        · refine Or.inr ?_
          have out : (s0 && !(zan (fun i => zan (fun j => zpa w e S i j) i) (i + 1))) = false := by
            rw [zan.eq_2]
            cases s0
            · rfl
            · cases hG : zan (fun i => zan (fun j => zpa w e S i j) i) i
              · rw [hG] at hq
                have : zan (fun j => zpa w e S i j) j = true := by simpa using hq
                rw [zan_mono this (by omega)]
                rfl
              · rfl
          skip
          show f9_outlasts_58 _ (g + 1) v1 (nI S) (nI (zi false)) (nI i) (nI j) M = _
          rw [f9_outlasts_58, if_neg (nI_ge hj (by omega)), if_pos (show nI (zi false) = 0 from rfl), f9_outlasts_126, nI_1, out]
        · refine Or.inl ⟨(), ?_, trivial⟩
          have b1 := hc.lt64 i
          have b2 := hc.lt64 j
          have e1 : zaI M 9 41 (nI i) = some (nI (w i)) := by rw [zaI_n (by omega) (by omega), h.2.2 i hi]
          have e2 : zaI M 9 41 (nI j) = some (nI (w j)) := by rw [zaI_n (by omega) (by omega), h.2.2 j (by omega)]
          have nx : ((s0 && !(zan (fun i => zan (fun j => zpa w e S i j) i) i)) && !(zan (fun j => zpa w e S i j) (j + 1))) = !(zpa w e S i j) := by
            rw [zan.eq_2]
            simp only [Bool.and_eq_true, Bool.not_eq_true'] at hq
            rw [hq.1.1, hq.1.2, hq.2]
            simp
          skip
          show f9_outlasts_58 _ (g + 1) v1 (nI S) (nI (zi true)) (nI i) (nI j) M = f9_outlasts_58 _ g v1 (nI S) (nI (zi ((s0 && !(zan (fun i => zan (fun j => zpa w e S i j) i) i)) && !(zan (fun j => zpa w e S i j) (j + 1))))) (nI i) (nI (j + 1)) M
          rw [nx, f9_outlasts_58, if_neg (nI_ge hj (by omega)), if_neg (show ¬ nI (zi true) = 0 by decide), r_has12 (by omega) (by omega), Option.bind_some, r_has12 (by omega) (by omega), Option.bind_some, e1, Option.bind_some, e2, Option.bind_some, h.2.1, r_canBeAlike b1 b2 (by omega), Option.bind_some, zpa]
          cases S.testBit i
          · rw [if_pos (show nI (zi false) = 0 from rfl), f9_outlasts_119, nI_1]
            rfl
          · rw [if_neg (show ¬ nI (zi true) = 0 by decide)]
            cases S.testBit j
            · rw [if_pos (show nI (zi false) = 0 from rfl), f9_outlasts_119, nI_1]
              rfl
            · rw [if_neg (show ¬ nI (zi true) = 0 by decide), f9_outlasts_119, nI_1]
              cases zca (w i) (w j) e <;> rfl
      · show f9_outlasts_58 _ (g + 1) v1 (nI S) _ (nI i) (nI i) M = _
        rw [f9_outlasts_58, if_pos (nI_le (Nat.le_refl _) (by omega)), f9_outlasts_126, nI_1, zan.eq_2]
        cases s0 <;> cases zan (fun i => zan (fun j => zpa w e S i j) i) i <;> rfl
    show f9_outlasts_43 K (f + 1) v1 (nI S) _ (nI i) M = _
    rw [f9_outlasts_43, h.1, if_neg (nI_ge hi (by omega))]
    have st : ((s0 && !(zan (fun i => zan (fun j => zpa w e S i j) i) i)) && !(zan (fun j => zpa w e S i j) 0)) = (s0 && !(zan (fun i => zan (fun j => zpa w e S i j) i) i)) := by
      rw [zan.eq_1]
      simp
    rw [st] at inn
    exact inn
  · show f9_outlasts_43 K (f + 1) v1 (nI S) _ (nI p) M = _
    rw [f9_outlasts_43, h.1, if_pos (nI_le (Nat.le_refl _) (by omega))]
    rfl
theorem zbs_1 : zbs p e w 1 = 0 := by
  rw [zbs, if_pos (by rw [zbs]; exact Nat.le_refl _), zbs]
theorem c_outlasts (h : zWc M 1 p e w) (hc : zCl p e w) {r : Option (Int32 × zM)} (he : ((f3_tell (Int32.toInt64 (nI (zbs p e w (2 ^ p)))) M).bind fun M1 => some (nI (zbc (zbs p e w (2 ^ p))), M1)) = r) : f8_outlasts M = r := by
  obtain ⟨h1, h2, h3, h4, h5, h6⟩ := id hc
  have hp : 2 ^ p ≤ 2 ^ 6 := Nat.pow_le_pow_right (by omega) (by omega)
  have hp1 : 2 ^ 1 ≤ 2 ^ p := Nat.pow_le_pow_right (by omega) (by omega)
  have hz : zshl 1 (M.1 1 0) = nI (2 ^ p) := by rw [h.1, z1shl (by omega)]
  rw [f8_outlasts, show f8_outlasts_6 zfuel (0 : Int32) (0 : Int32) (1 : Int32) M = f8_outlasts_6 zfuel (nI (zbc (zbs p e w 1))) (nI (zbs p e w 1)) (nI 1) M by rw [zbs_1]; rfl]
  refine zloopk (F := fun f n => f8_outlasts_6 f (nI (zbc (zbs p e w n))) (nI (zbs p e w n)) (nI n) M) 1 (2 ^ p) (by omega) (by omega) (fun f n hn1 hn => ?_) (fun f => ?_)
  · show f8_outlasts_6 (f + 1) _ _ (nI n) M = _
    have hb := zbs_le (p := p) (e := e) (w := w) n
    have b1 := zbc_lt (s := n) (by omega)
    have b2 := zbc_lt (s := zbs p e w n) (by omega)
    rw [f8_outlasts_6, hz, if_neg (nI_ge hn (by omega)), bc_n (by omega), Option.bind_some, zbs]
    by_cases g1 : zbc n ≤ zbc (zbs p e w n)
    · rw [if_pos (nI_le g1 (by omega)), if_pos g1, f8_outlasts_44, nI_1]
    · rw [if_neg (nI_ge (by omega) (by omega)), if_neg g1, c_staysApart h hc (by omega), Option.bind_some]
      cases zap p e w n
      · rw [if_pos (show nI (zi false) = 0 from rfl), if_neg (by decide), f8_outlasts_44, nI_1]
      · rw [if_neg (show ¬ nI (zi true) = 0 by decide), if_pos rfl, f8_outlasts_44, nI_1]
  · show f8_outlasts_6 (f + 1) _ _ (nI (2 ^ p)) M = _
    rw [f8_outlasts_6, hz, if_pos (nI_le (Nat.le_refl _) (by omega))]
    exact he
theorem r_outlasts (h : zRr M 41 p e w) (hc : zCl p e w) {r : Option (Int32 × zM)} (he : ((f9_enters (Int32.toInt64 (nI (zbs p e w (2 ^ p)))) (zsi M 39 1 0)).bind fun M1 => some (nI (zbc (zbs p e w (2 ^ p))), M1)) = r) : f9_outlasts_9 zfuel 0 1 M = r := by
  obtain ⟨h1, h2, h3, h4, h5, h6⟩ := id hc
  have hp : 2 ^ p ≤ 2 ^ 6 := Nat.pow_le_pow_right (by omega) (by omega)
  have hp1 : 2 ^ 1 ≤ 2 ^ p := Nat.pow_le_pow_right (by omega) (by omega)
  have hf : f9_full (M.1 41 6) = some (nI (2 ^ p - 1)) := by rw [h.1, r_full (by omega)]
  have hbE := zbs_le (p := p) (e := e) (w := w) (2 ^ p)
  rw [show f9_outlasts_9 zfuel (0 : Int32) (1 : Int32) M = f9_outlasts_9 zfuel (nI (zbs p e w 1)) (nI 1) M by rw [zbs_1]; rfl]
  refine zloopk (F := fun f n => f9_outlasts_9 f (nI (zbs p e w n)) (nI n) M) 1 (2 ^ p) (by omega) (by omega) (fun f n hn1 hn => ?_) (fun f => ?_)
  · show f9_outlasts_9 (f + 1) _ (nI n) M = _
    have hb := zbs_le (p := p) (e := e) (w := w) n
    have b1 := zbc_lt (s := n) (by omega)
    have b2 := zbc_lt (s := zbs p e w n) (by omega)
    have e0 : (if nI (zbc n) ≤ nI (zbc (zbs p e w n)) then (0 : Int32) else (1 : Int32)) = nI (zi (!(decide (zbc n ≤ zbc (zbs p e w n))))) := by
      by_cases g1 : zbc n ≤ zbc (zbs p e w n)
      · rw [if_pos (nI_le g1 (by omega)), decide_eq_true g1]
        rfl
      · rw [if_neg (nI_ge (by omega) (by omega)), decide_eq_false g1]
        rfl
    rw [f9_outlasts_9, hf, Option.bind_some, if_neg (nI_nlt (by omega) (by omega)), bc_n (by omega), Option.bind_some, bc_n (by omega), Option.bind_some, e0, r_stays h hc (by omega), f9_outlasts_132, nI_1, zbs]
    by_cases g1 : zbc n ≤ zbc (zbs p e w n)
    · rw [decide_eq_true g1, if_pos g1, if_pos (show nI (zi (!true && zap p e w n)) = 0 from rfl)]
    · rw [decide_eq_false g1, if_neg g1]
      cases zap p e w n
      · rw [if_pos (show nI (zi (!false && false)) = 0 from rfl), if_neg (by decide)]
      · rw [if_neg (show ¬ nI (zi (!false && true)) = 0 by decide), if_pos rfl]
  · show f9_outlasts_9 (f + 1) _ (nI (2 ^ p)) M = _
    rw [f9_outlasts_9, hf, Option.bind_some, if_pos (nI_lt (by omega) (by omega)), ← he]
    cases f9_enters (Int32.toInt64 (nI (zbs p e w (2 ^ p)))) (zsi M 39 1 0)
    · rfl
    · rw [Option.bind_some, Option.bind_some, bc_n (by omega), Option.bind_some]
end OL
theorem zP_outlasts_ok : zP_outlasts zInv := by
  intro c M hc h
  obtain ⟨p, e, w, hA⟩ := h.1
  obtain ⟨hc1, hW, hR, hN⟩ := id hA
  obtain ⟨M1, k1, k2⟩ := c_tell (nI (zbs p e w (2 ^ p))).toInt64 M
  have h8 : f8_outlasts M = some (nI (zbc (zbs p e w (2 ^ p))), M1) := c_outlasts hW hc1 (by rw [k1]; rfl)
  have o8 := o_X8_outlasts h8
  have hR0 : zRr (zsi M1 39 0 0) 41 p e w := zRr_si (hR.to (o8.1 41 (by simp) (by simp)).1) (by decide)
  obtain ⟨M2, y1, y2⟩ := r_tell (nI (zbs p e w (2 ^ p))).toInt64 (zsi M1 39 0 0)
  have h9 : f9_outlasts M1 = some (nI (zbc (zbs p e w (2 ^ p))), M2) := by
    rw [f9_outlasts]
    exact r_outlasts hR0 hc1 (by rw [y1]; rfl)
  exact ⟨_, _, _, h8, h9, zq h o8 (o_X9_outlasts h9) k2 y2 rfl rfl⟩
