/-! game -/
/-- a loop with any fuel -/
theorem zloopG {σ α : Type} {F : Nat → Nat → σ → Option α} {I : Nat → σ → Prop} {P : Option α → Prop} (n f0 : Nat) (hn : n < f0) {k0 : Nat} (hk : k0 ≤ n) (hs : ∀ f k x, k0 ≤ k → k < n → I k x → (∃ y, F (f + 1) k x = F f (k + 1) y ∧ I (k + 1) y) ∨ P (F (f + 1) k x)) (he : ∀ f x, I n x → P (F (f + 1) n x)) {x : σ} (h0 : I k0 x) : P (F f0 k0 x) := by
  have key : ∀ d f k x, n - k = d → k0 ≤ k → k ≤ n → d < f → I k x → P (F f k x) := by
    intro d
    induction d with
    | zero =>
      intro f k x e1 e0 e2 e3 hI
      obtain ⟨f, rfl⟩ : ∃ g, f = g + 1 := ⟨f - 1, by omega⟩
      have : k = n := by omega
      subst this
      exact he f x hI
    | succ d ih =>
      intro f k x e1 e0 e2 e3 hI
      obtain ⟨f, rfl⟩ : ∃ g, f = g + 1 := ⟨f - 1, by omega⟩
      rcases hs f k x e0 (by omega) hI with ⟨y, q1, q2⟩ | q
      · rw [q1]
        exact ih f (k + 1) y (by omega) (by omega) (by omega) (by omega) q2
      · exact q
  exact key (n - k0) f0 k0 x rfl (Nat.le_refl _) hk (by omega) h0
theorem zan_congr {g g' : Nat → Bool} {n : Nat} (h : ∀ i, i < n → g i = g' i) : zan g n = zan g' n := by
  induction n with
  | zero => rfl
  | succ n ih => rw [zan, zan, ih (fun i hi => h i (by omega)), h n (by omega)]
def zfi (g : Nat → Bool) : Nat → Nat
  | 0 => 0
  | n + 1 => if zfi g n < n then zfi g n else if g n = true then n else n + 1
theorem zfi_no {g : Nat → Bool} {n : Nat} (h : ∀ i, i < n → g i = false) : zfi g n = n := by
  induction n with
  | zero => rfl
  | succ n ih =>
    have q := ih (fun i hi => h i (by omega))
    rw [zfi, q, if_neg (by omega), if_neg (by rw [h n (by omega)]; decide)]
theorem zfi_eq {g : Nat → Bool} {n t : Nat} (ht : t < n) (hg : g t = true) (h : ∀ i, i < t → g i = false) : zfi g n = t := by
  induction n with
  | zero => omega
  | succ n ih =>
    rw [zfi]
    by_cases q : t < n
    · rw [ih q, if_pos q]
    · have : t = n := by omega
      subst this
      rw [zfi_no h, if_neg (by omega), if_pos hg]
theorem zfi_le (g : Nat → Bool) (n : Nat) : zfi g n ≤ n := by
  induction n with
  | zero => exact Nat.le_refl _
  | succ n ih =>
    rw [zfi]
    split
    · omega
    · split <;> omega
theorem zfi_an (g : Nat → Bool) (n : Nat) : zan g n = decide (zfi g n < n) := by
  by_cases ex : ∃ i, i < n ∧ g i = true
  · obtain ⟨t, ⟨h1, h2⟩, hm⟩ := pk_least _ ex
    rw [zan_true h1 h2, zfi_eq h1 h2 (fun i hi => by
      cases q : g i
      · rfl
      · exact absurd ⟨by omega, q⟩ (hm i hi)), decide_eq_true h1]
  · have hno : ∀ i, i < n → g i = false := by
      intro i hi
      cases q : g i
      · rfl
      · exact absurd ⟨i, hi, q⟩ ex
    rw [zfi_no hno, decide_eq_false (by omega)]
    cases q : zan g n
    · rfl
    · exact absurd ((zan_iff g n).mp q) ex
/-- a set without one of its threads -/
theorem zdf_lt {s t : Nat} (h : s.testBit t = true) : zdf s (2 ^ t) < s := by
  have h1 := zdf_le s (2 ^ t)
  have h2 : zdf s (2 ^ t) ≠ s := by
    intro q
    have := congrArg (fun z => z.testBit t) q
    simp only [zdf_bit, Nat.testBit_two_pow_self, Bool.not_true, Bool.and_false] at this
    rw [h] at this
    exact absurd this (by decide)
  omega
theorem zdf_id {s t : Nat} (h : s.testBit t = false) : zdf s (2 ^ t) = s := by
  apply Nat.eq_of_testBit_eq
  intro i
  rw [zdf_bit, Nat.testBit_two_pow]
  by_cases g : t = i
  · subst g
    rw [h, Bool.false_and]
  · rw [decide_eq_false g, Bool.not_false, Bool.and_true]
theorem zss_rest {p e s t : Nat} (hp : p ≤ 6) (h : zss p e s) : zss p e (zdf s (2 ^ t)) := by
  rw [zss_iff hp] at h ⊢
  apply Nat.eq_of_testBit_eq
  intro i
  have := congrArg (fun z => z.testBit i) h
  simp only [Nat.testBit_and] at this
  rw [Nat.testBit_and, zdf_bit]
  revert this
  cases s.testBit i <;> cases (zall p e).testBit i <;> cases (2 ^ t).testBit i <;> decide
theorem nI_rest {s t : Nat} (hs : s < 4096) (ht : t < 12) : nI s &&& (zshl 1 (nI t) ^^^ (-1)) = nI (zdf s (2 ^ t)) := by
  rw [z1shl ht, nI_andn _ (by omega)]
/-- who wins of a set -/
def zgt (h W : Nat → Bool) (s t : Nat) : Bool := s.testBit t && (h (zdf s (2 ^ t)) && !(W (zdf s (2 ^ t))))
def zWn (h : Nat → Bool) : Nat → Nat → Bool
  | 0 => fun _ => false
  | n + 1 => fun s => if s = n then zan (zgt h (zWn h n) n) 12 else zWn h n s
def zWi (h : Nat → Bool) (s : Nat) : Bool := zWn h (s + 1) s
theorem zWn_st (h : Nat → Bool) {s : Nat} : ∀ n, s < n → zWn h n s = zWi h s := by
  intro n
  induction n with
  | zero => exact fun q => absurd q (by omega)
  | succ n ih =>
    intro hn
    by_cases g : s = n
    · subst g
      rfl
    · show (if s = n then _ else zWn h n s) = _
      rw [if_neg g]
      exact ih (by omega)
theorem zgt_congr {h h' W W' : Nat → Bool} {s t : Nat} (hh : ∀ x, x < s → h x = h' x ∧ (h' x = true → W x = W' x)) : zgt h W s t = zgt h' W' s t := by
  unfold zgt
  cases g : s.testBit t
  · rfl
  · obtain ⟨q1, q2⟩ := hh _ (zdf_lt g)
    rw [q1, Bool.true_and, Bool.true_and]
    cases g2 : h' (zdf s (2 ^ t))
    · rfl
    · rw [q2 g2]
theorem zWi_e (h : Nat → Bool) (s : Nat) : zWi h s = zan (zgt h (zWi h) s) 12 := by
  show (if s = s then zan (zgt h (zWn h s) s) 12 else _) = _
  rw [if_pos rfl]
  exact zan_congr (fun t _ => zgt_congr (fun x hx => ⟨rfl, fun _ => zWn_st h s hx⟩))
section GM
variable {M : zM} {p e : Nat} {w : Nat → Nat}
def zlt (g : Nat → Bool) : Int32 := if zfi g 12 < 12 then nI (zfi g 12) else -1
theorem c_leastTake {Q : Nat → Bool} (h24 : zTq M 24 p e (zHb p e w)) (h25 : zTq M 25 p e Q) (hp : p ≤ 6) (he : e ≤ 6) {s : Nat} (hs : zss p e s) : f0_leastTake (nI s) M = some (zlt (zgt (zHb p e w) Q s)) := by
  have hlt := (zss_lt hp he hs).1
  rw [f0_leastTake]
  refine zloopP (F := fun f t (u : Unit) => f0_leastTake_2 f (nI s) (nI t) M) (I := fun t _ => ∀ i, i < t → zgt (zHb p e w) Q s i = false) (P := fun o => o = some (zlt (zgt (zHb p e w) Q s))) 12 (by omega) (k0 := 0) (by omega) (fun f t u _ ht hI => ?_) (fun f u hI => ?_) (x := ()) (fun i hi => absurd hi (by omega))
  · have hr := zss_rest (t := t) hp hs
    have hrl := (zss_lt hp he hr).1
    have ex : f0_leastTake_2 (f + 1) (nI s) (nI t) M = if zgt (zHb p e w) Q s t = true then some (nI t) else f0_leastTake_2 f (nI s) (nI (t + 1)) M := by
      rw [f0_leastTake_2, if_neg (show ¬ (12 : Int32) ≤ nI t from nI_ge (b := 12) (by omega) (by omega)), nI_rest hlt ht, zgt]
      cases g : s.testBit t
      · rw [zdf_id g, if_pos rfl, f0_leastTake_45, nI_1]
        rfl
      · have hd := zdf_lt g
        rw [if_neg (nI_ne (by omega) (by omega) (by omega)), c_isIn h24 hp he hr, Option.bind_some]
        cases zHb p e w (zdf s (2 ^ t))
        · rw [if_pos (show nI (zi false) = 0 from rfl), f0_leastTake_45, nI_1]
          rfl
        · rw [if_neg (show ¬ nI (zi true) = 0 by decide), c_isIn h25 hp he hr, Option.bind_some]
          cases Q (zdf s (2 ^ t))
          · rw [if_pos (show nI (zi false) = 0 from rfl)]
            rfl
          · rw [if_neg (show ¬ nI (zi true) = 0 by decide), f0_leastTake_45, nI_1]
            rfl
    cases g : zgt (zHb p e w) Q s t
    · refine Or.inl ⟨(), ex.trans (by rw [g]; rfl), fun i hi => ?_⟩
      by_cases g2 : i = t
      · rw [g2, g]
      · exact hI i (by omega)
    · refine Or.inr (ex.trans ?_)
      rw [g, if_pos rfl, zlt, zfi_eq ht g hI, if_pos ht]
  · show f0_leastTake_2 (f + 1) (nI s) (nI 12) M = _
    rw [f0_leastTake_2, if_pos (by decide), zlt, zfi_no hI, if_neg (by omega)]
theorem zlt_no {g : Nat → Bool} : zlt g = -1 ↔ zan g 12 = false := by
  rw [zfi_an, zlt]
  by_cases q : zfi g 12 < 12
  · rw [if_pos q, decide_eq_true q]
    exact ⟨fun r => absurd r (nI_nm1 (by omega)), fun r => absurd r (by decide)⟩
  · rw [if_neg q, decide_eq_false q]
    exact ⟨fun _ => rfl, fun _ => rfl⟩
theorem zHh {s : Nat} (hp : p ≤ 6) (hs : zss p e s) : ∀ t, zgt (zHb p e w) (zWi (zhb p e w)) s t = zgt (zhb p e w) (zWi (zhb p e w)) s t := by
  intro t
  unfold zgt
  rw [zhb_in hp (zss_rest hp hs)]
theorem c_winningTake (hT : zTq M 24 p e (zHb p e w)) (hc : zCl p e w) : ∃ M', f0_winningTake (nI (zall p e)) M = some (zlt (zgt (zhb p e w) (zWi (zhb p e w)) (zall p e)), M') := by
  obtain ⟨c1, c2, c3, c4, c5, c6⟩ := id hc
  have hN : 2 ^ (p + e) ≤ 2 ^ 12 := Nat.pow_le_pow_right (by omega) (by omega)
  have hN1 := Nat.two_pow_pos (p + e)
  have hal := zsu_last (e := e) c2
  have hass := zsu_ss (k := 2 ^ (p + e) - 1) (e := e) c2 (by omega)
  have hall := zall_lt (w := w) hc
  obtain ⟨M1, k1, k2⟩ := c_fillJ 25 64 0 M (by omega)
  have o1 := o_J7_fill_d0a16 k1
  -- the marks below the k-th
  have hg : ∀ k, k < 2 ^ (p + e) → ∀ t, zgt (zHb p e w) (fun s => decide (s < zsu p k) && (zHb p e w s && zWi (zhb p e w) s)) (zsu p k) t = zgt (zhb p e w) (zWi (zhb p e w)) (zsu p k) t := by
    intro k hk t
    rw [← zHh c2 (zsu_ss c2 hk)]
    exact zgt_congr (fun x hx => ⟨rfl, fun q => by
      show (decide (x < zsu p k) && (zHb p e w x && zWi (zhb p e w) x)) = zWi (zhb p e w) x
      rw [decide_eq_true hx, q, Bool.true_and, Bool.true_and]⟩)
  rw [f0_winningTake, k1, Option.bind_some]
  rw [show f0_winningTake_12 zfuel (nI (zall p e)) 0 0 M1 = f0_winningTake_12 zfuel (nI (zall p e)) (nI (zsu p 0)) (nI 0) M1 by rw [zsu_0]; rfl]
  refine zloopP (F := fun f k x => f0_winningTake_12 f (nI (zall p e)) (nI (zsu p k)) (nI k) x) (I := fun k x => k < 2 ^ (p + e) ∧ zTq x 24 p e (zHb p e w) ∧ zTq x 25 p e (fun s => decide (s < zsu p k) && (zHb p e w s && zWi (zhb p e w) s))) (P := fun o => ∃ M', o = some (zlt (zgt (zhb p e w) (zWi (zhb p e w)) (zall p e)), M')) (2 ^ (p + e)) (by omega) (k0 := 0) (by omega) (fun f k x _ hk hx => ?_) (fun f x hx => absurd hx.1 (by omega)) (x := M1) ⟨hN1, hT.to (o1.1 24 (by simp) (by simp)).2, (zTq_0 k2).congr (fun s hs => by rw [zsu_0, decide_eq_false (by omega), Bool.false_and])⟩
  obtain ⟨-, x1, x2⟩ := hx
  have hss := zsu_ss c2 hk
  have hlt := (zss_lt c2 c4 hss).1
  have hle := c_leastTake x1 x2 c2 c4 hss
  have hge : (fun t => zgt (zHb p e w) (fun s => decide (s < zsu p k) && (zHb p e w s && zWi (zhb p e w) s)) (zsu p k) t) = zgt (zhb p e w) (zWi (zhb p e w)) (zsu p k) := funext (hg k hk)
  rw [show zgt (zHb p e w) (fun s => decide (s < zsu p k) && (zHb p e w s && zWi (zhb p e w) s)) (zsu p k) = zgt (zhb p e w) (zWi (zhb p e w)) (zsu p k) from hge] at hle
  have n1 : ¬ (4096 : Int32) ≤ nI k := nI_ge (b := 4096) (by omega) (by omega)
  by_cases gl : k + 1 < 2 ^ (p + e)
  · have hne : zsu p k ≠ zall p e := by
      intro q
      have h1 := zsu_mono (k := k) c2
      have h2 := (zss_lt c2 c4 (zsu_ss (e := e) c2 gl)).2
      omega
    have o52 : ∀ y, f0_winningTake_52 (f0_winningTake_12 f) (nI (zall p e)) (nI (zsu p k)) (nI k) y = f0_winningTake_12 f (nI (zall p e)) (nI (zsu p (k + 1))) (nI (k + 1)) y := by
      intro y
      rw [f0_winningTake_52, zsu_s c2 c4 hk, if_pos gl, nI_1]
    have hq : ∀ s, zss p e s → (decide (s < zsu p (k + 1)) = (decide (s < zsu p k) || decide (s = zsu p k))) := by
      intro s hs
      have := zsu_below (k := k) c2 hs
      by_cases g : s < zsu p k
      · rw [decide_eq_true g, decide_eq_true (by omega), Bool.true_or]
      · by_cases g2 : s = zsu p k
        · rw [decide_eq_true g2, decide_eq_true (by omega), Bool.or_true]
        · rw [decide_eq_false g, decide_eq_false g2, decide_eq_false (by omega), Bool.or_false]
    have same : (zHb p e w (zsu p k) && zWi (zhb p e w) (zsu p k)) = false → zTq x 25 p e (fun s => decide (s < zsu p (k + 1)) && (zHb p e w s && zWi (zhb p e w) s)) := by
      intro q
      refine x2.congr (fun s hs => ?_)
      rw [hq s hs]
      by_cases g2 : s = zsu p k
      · rw [g2, q, Bool.and_false, Bool.and_false]
      · rw [decide_eq_false g2, Bool.or_false]
    refine Or.inl ?_
    show ∃ y, f0_winningTake_12 (f + 1) _ (nI (zsu p k)) (nI k) x = _ ∧ _
    rw [f0_winningTake_12, if_neg n1, if_neg (nI_ne hne (by omega) (by omega)), c_isIn x1 c2 c4 hss, Option.bind_some]
    cases hb : zHb p e w (zsu p k)
    · rw [if_pos (show nI (zi false) = 0 from rfl), o52]
      exact ⟨x, rfl, gl, x1, same (by rw [hb, Bool.false_and])⟩
    · rw [if_neg (show ¬ nI (zi true) = 0 by decide), hle, Option.bind_some]
      by_cases hw : zWi (zhb p e w) (zsu p k) = false
      · rw [if_pos (zlt_no.mpr (by rw [← zWi_e]; exact hw)), o52]
        exact ⟨x, rfl, gl, x1, same (by rw [hw, Bool.and_false])⟩
      · have hw' : zWi (zhb p e w) (zsu p k) = true := by simpa using hw
        obtain ⟨y, y1, y2, y3, y4⟩ := c_mark x2 c2 c4 hss
        rw [if_neg (fun q => hw (by rw [zWi_e]; exact zlt_no.mp q)), y1, Option.bind_some, o52]
        refine ⟨y, rfl, gl, x1.to (y4 24 (by omega)), y2.congr (fun s hs => ?_)⟩
        rw [hq s hs]
        by_cases g2 : s = zsu p k
        · rw [g2, hb, hw', decide_eq_true rfl, Bool.or_true, Bool.or_true]
          rfl
        · rw [decide_eq_false g2, Bool.or_false, Bool.or_false]
  · have ek : k = 2 ^ (p + e) - 1 := by omega
    refine Or.inr ⟨x, ?_⟩
    rw [ek, hal] at hle
    show f0_winningTake_12 (f + 1) _ (nI (zsu p k)) (nI k) x = _
    rw [f0_winningTake_12, if_neg n1, ek, hal, if_pos rfl, f0_winningTake_64, hle, Option.bind_some]
/-- the reference: who wins of each set -/
theorem r_wins_in {h : Nat → Bool} {A s : Nat} (hA : A < 4096) (hs : s ≤ A) (h56 : ∀ j, j ≤ A → M.1 56 j = nI (zi (h j))) (h59 : ∀ j, j < s → M.1 59 j = nI (zi (zWi h j))) (h0 : M.1 59 s = nI 0) {K : Int32 → Int32 → zM → Option (Int32 × zM)} : ∃ M', f9_game_33 K zfuel (nI A) (nI s) 0 M = K (nI A) (nI s) M' ∧ M'.1 56 = M.1 56 ∧ (∀ j, j < s + 1 → M'.1 59 j = nI (zi (zWi h j))) ∧ M'.1 41 = M.1 41 := by
  refine zloopP (F := fun f t x => f9_game_33 K f (nI A) (nI s) (nI t) x) (I := fun t x => x.1 56 = M.1 56 ∧ (∀ j, j < s → x.1 59 j = nI (zi (zWi h j))) ∧ x.1 59 s = nI (zi (zan (zgt h (zWi h) s) t)) ∧ x.1 41 = M.1 41) (P := fun o => ∃ M', o = K (nI A) (nI s) M' ∧ M'.1 56 = M.1 56 ∧ (∀ j, j < s + 1 → M'.1 59 j = nI (zi (zWi h j))) ∧ M'.1 41 = M.1 41) 12 (by omega) (k0 := 0) (by omega) (fun f t x _ ht hx => Or.inl ?_) (fun f x hx => ?_) (x := M) ⟨rfl, h59, h0, rfl⟩
  · obtain ⟨x1, x2, x3, x4⟩ := hx
    have fin : ∀ b : Bool, b = zan (zgt h (zWi h) s) (t + 1) → ∃ y, f9_game_95 (f9_game_33 K f) (nI A) (nI s) (nI t) (nI s) (nI (zi b)) x = f9_game_33 K f (nI A) (nI s) (nI (t + 1)) y ∧ y.1 56 = M.1 56 ∧ (∀ j, j < s → y.1 59 j = nI (zi (zWi h j))) ∧ y.1 59 s = nI (zi (zan (zgt h (zWi h) s) (t + 1))) ∧ y.1 41 = M.1 41 := by
      intro b hb
      refine ⟨zsi x 59 s (nI (zi b)), ?_, by rw [zsi_ne (by omega), x1], fun j hj => ?_, by simp [zsi1, hb], by rw [zsi_ne (by omega), x4]⟩
      · rw [f9_game_95, zpZ_n (by omega) (by omega), Option.bind_some, vnar, nI_1]
      · rw [zsi1, if_neg (by omega)]
        exact x2 j hj
    have hb1 : zan (zgt h (zWi h) s) (t + 1) = (zan (zgt h (zWi h) s) t || zgt h (zWi h) s t) := rfl
    show ∃ y, f9_game_33 K (f + 1) (nI A) (nI s) (nI t) x = _ ∧ _
    rw [f9_game_33, if_neg (show ¬ (12 : Int32) ≤ nI t from nI_ge (b := 12) (by omega) (by omega)), zaI_n (by omega) (by omega), x3, Option.bind_some]
    cases hz : zan (zgt h (zWi h) s) t
    · rw [hz, Bool.false_or] at hb1
      rw [if_pos (show nI (zi false) = 0 from rfl), r_has12 (by omega) ht, Option.bind_some]
      cases g : s.testBit t
      · rw [if_pos (show nI (zi false) = 0 from rfl)]
        exact fin false (by rw [hb1, zgt, g]; rfl)
      · have hd := zdf_lt g
        rw [if_neg (show ¬ nI (zi true) = 0 by decide), nI_rest (by omega) ht, zaI_n (by omega) (by omega), x1, h56 _ (by omega), Option.bind_some]
        cases g2 : h (zdf s (2 ^ t))
        · rw [if_pos (show nI (zi false) = 0 from rfl)]
          exact fin false (by rw [hb1, zgt, g, g2]; rfl)
        · rw [if_neg (show ¬ nI (zi true) = 0 by decide), zaI_n (by omega) (by omega), x2 _ hd, Option.bind_some]
          cases g3 : zWi h (zdf s (2 ^ t))
          · rw [if_pos (show nI (zi false) = 0 from rfl)]
            exact fin true (by rw [hb1, zgt, g, g2, g3]; rfl)
          · rw [if_neg (show ¬ nI (zi true) = 0 by decide)]
            exact fin false (by rw [hb1, zgt, g, g2, g3]; rfl)
    · rw [hz, Bool.true_or] at hb1
      rw [if_neg (show ¬ nI (zi true) = 0 by decide)]
      exact fin true hb1.symm
  · obtain ⟨x1, x2, x3, x4⟩ := hx
    refine ⟨x, ?_, x1, fun j hj => ?_, x4⟩
    · show f9_game_33 K (f + 1) (nI A) (nI s) (nI 12) x = _
      rw [f9_game_33, if_pos (by decide)]
    · by_cases g : j = s
      · rw [g, x3, ← zWi_e]
      · exact x2 j (by omega)
theorem r_game {h : Nat → Bool} {A : Nat} (hA : A < 4096) (h56 : ∀ j, j ≤ A → M.1 56 j = nI (zi (h j))) : ∃ M', f9_game_19 zfuel (nI A) 0 M = some ((if (h A && zan (zgt h (zWi h) A) 12) = true then 1 else 0), M') ∧ zR9 M' (if (h A && zan (zgt h (zWi h) A) 12) = true then [(nI (zfi (zgt h (zWi h) A) 12)).toInt64] else []) := by
  refine zloopP (F := fun f s x => f9_game_19 f (nI A) (nI s) x) (I := fun s x => x.1 56 = M.1 56 ∧ ∀ j, j < s → x.1 59 j = nI (zi (zWi h j))) (P := fun o => ∃ M', o = some ((if (h A && zan (zgt h (zWi h) A) 12) = true then 1 else 0), M') ∧ zR9 M' (if (h A && zan (zgt h (zWi h) A) 12) = true then [(nI (zfi (zgt h (zWi h) A) 12)).toInt64] else [])) (A + 1) (by omega) (k0 := 0) (by omega) (fun f s x _ hs hx => Or.inl ?_) (fun f x hx => ?_) (x := M) ⟨rfl, fun j hj => absurd hj (by omega)⟩
  · obtain ⟨x1, x2⟩ := hx
    obtain ⟨y, y1, y2, y3, -⟩ := r_wins_in (M := zsi x 59 s 0) (h := h) (A := A) (s := s) (K := f9_game_102 (f9_game_19 f)) hA (by omega) (fun j hj => by rw [zsi_ne (by omega), x1]; exact h56 j hj) (fun j hj => by rw [zsi1, if_neg (by omega)]; exact x2 j hj) (by simp [zsi1, nI_0])
    refine ⟨y, ?_, by rw [y2, zsi_ne (by omega), x1], y3⟩
    show f9_game_19 (f + 1) (nI A) (nI s) x = _
    rw [f9_game_19, if_neg (nI_nlt (by omega) (by omega)), zpZ_n (by omega) (by omega), Option.bind_some, show vp_nar .boolean 0 = 0 from rfl, y1, f9_game_102, nI_1]
  · obtain ⟨x1, x2⟩ := hx
    have n0 : (zsi x 39 1 0).1 39 1 = 0 := by simp [zsi1]
    have e183 : f9_game_183 (zsi x 39 1 0) = some (0, zsi x 39 1 0) := by
      rw [f9_game_183, n0]
      rfl
    have q56 : ∀ j, j ≤ A → (zsi x 39 1 0).1 56 j = nI (zi (h j)) := fun j hj => by rw [zsi_ne (by omega), x1]; exact h56 j hj
    have q59 : ∀ j, j < A → (zsi x 39 1 0).1 59 j = nI (zi (zWi h j)) := fun j hj => by rw [zsi_ne (by omega)]; exact x2 j (by omega)
    show ∃ M', f9_game_19 (f + 1) (nI A) (nI (A + 1)) x = _ ∧ _
    rw [f9_game_19, if_pos (nI_lt (by omega) (by omega))]
    cases hh : h A
    · refine ⟨zsi x 39 1 0, ?_, zR9_nil x⟩
      show f9_game_115 (4999 + 1) (nI A) 0 _ = _
      rw [f9_game_115, if_neg (by decide), zaI_n (by omega) (by omega), q56 A (Nat.le_refl _), hh, Option.bind_some, if_pos (show nI (zi false) = 0 from rfl), e183]
      rfl
    · rw [Bool.true_and]
      -- a thread by which one wins
      refine zloopG (σ := Unit) (F := fun f t _ => f9_game_115 (f + 1) (nI A) (nI t) (zsi x 39 1 0)) (I := fun t _ => ∀ i, i < t → zgt h (zWi h) A i = false) (P := fun o => ∃ M', o = some ((if zan (zgt h (zWi h) A) 12 = true then 1 else 0), M') ∧ zR9 M' (if zan (zgt h (zWi h) A) 12 = true then [(nI (zfi (zgt h (zWi h) A) 12)).toInt64] else [])) 12 4999 (by omega) (k0 := 0) (by omega) (fun f t u _ ht hI => ?_) (fun f u hI => ?_) (x := ()) (fun i hi => absurd hi (by omega))
      · have hrest : ∀ g : A.testBit t = true, zdf A (2 ^ t) < A := fun g => zdf_lt g
        have st : f9_game_115 (f + 1 + 1) (nI A) (nI t) (zsi x 39 1 0) = if zgt h (zWi h) A t = true then ((f9_enters (nI t).toInt64 (zsi x 39 1 0)).bind fun M5 => f9_game_177 (f9_game_115 (f + 1)) (nI A) (nI t) M5) else f9_game_115 (f + 1) (nI A) (nI (t + 1)) (zsi x 39 1 0) := by
          rw [f9_game_115, if_neg (show ¬ (12 : Int32) ≤ nI t from nI_ge (b := 12) (by omega) (by omega)), zaI_n (by omega) (by omega), q56 A (Nat.le_refl _), hh, Option.bind_some, if_neg (show ¬ nI (zi true) = 0 by decide), n0, if_pos rfl, r_has12 (by omega) ht, Option.bind_some, zgt]
          cases g : A.testBit t
          · rw [if_pos (show nI (zi false) = 0 from rfl), f9_game_177, nI_1]
            rfl
          · have hd := hrest g
            rw [if_neg (show ¬ nI (zi true) = 0 by decide), nI_rest (by omega) ht, zaI_n (by omega) (by omega), q56 _ (by omega), Option.bind_some]
            cases h (zdf A (2 ^ t))
            · rw [if_pos (show nI (zi false) = 0 from rfl), f9_game_177, nI_1]
              rfl
            · rw [if_neg (show ¬ nI (zi true) = 0 by decide), zaI_n (by omega) (by omega), q59 _ hd, Option.bind_some]
              cases zWi h (zdf A (2 ^ t))
              · rw [if_pos (show nI (zi false) = 0 from rfl)]
                rfl
              · rw [if_neg (show ¬ nI (zi true) = 0 by decide), f9_game_177, nI_1]
                rfl
        cases g : zgt h (zWi h) A t
        · refine Or.inl ⟨(), st.trans (by rw [g]; rfl), fun i hi => ?_⟩
          by_cases g2 : i = t
          · rw [g2, g]
          · exact hI i (by omega)
        · obtain ⟨M5, z1, z2⟩ := r_tell (nI t).toInt64 x
          have oz := o_X9_enters z1
          have q5 : M5.1 39 1 = 1 := z2.1
          have e5 : f9_game_183 M5 = some (1, M5) := by
            rw [f9_game_183, q5]
            rfl
          have ew : zan (zgt h (zWi h) A) 12 = true := zan_true ht g
          rw [ew, zfi_eq ht g hI]
          refine Or.inr ⟨M5, st.trans ?_, z2⟩
          rw [g, if_pos rfl, z1, Option.bind_some, f9_game_177, nI_1, f9_game_115]
          by_cases g2 : (12 : Int32) ≤ nI (t + 1)
          · rw [if_pos g2, e5]
            rfl
          · rw [if_neg g2, zaI_n (by omega) (by omega), (oz.1 56 (by simp) (by simp)).1, q56 A (Nat.le_refl _), hh, Option.bind_some, if_neg (show ¬ nI (zi true) = 0 by decide), q5, if_neg (by decide), e5]
            rfl
      · have hno : zan (zgt h (zWi h) A) 12 = false := by
          rw [zfi_an, zfi_no hI]
          rfl
        rw [hno]
        refine ⟨zsi x 39 1 0, ?_, zR9_nil x⟩
        show f9_game_115 (f + 1 + 1) (nI A) (nI 12) _ = _
        rw [f9_game_115, if_pos (by decide), e183]
        rfl
end GM
theorem zP_game_ok : zP_game zInv := by
  intro c M hc h
  obtain ⟨p, e, w, hA⟩ := h.1
  obtain ⟨hc1, hW, hR, hN⟩ := id hA
  have hp6 := hc1.2.1
  have he6 := hc1.2.2.2.1
  have hall := zall_lt (w := w) hc1
  obtain ⟨M1, k1, k2, k3⟩ := c_tabulate hW hc1 h.2.2.2.2.2.2.2
  have o1 := o_X0_tabulate k1
  have hW1 : zWc M1 1 p e w := hW.to (o1.1 1 (by simp) (by simp)).1 (o1.1 2 (by simp) (by simp)).1
  have hT := zTab_q hp6 he6 k2
  have hass : zss p e (zall p e) := by
    rw [← zsu_last (e := e) hp6]
    exact zsu_ss hp6 (by have := Nat.two_pow_pos (p + e); omega)
  obtain ⟨M2, k4⟩ := c_winningTake hT hc1
  have o2 := o_X0_winningTake k4
  generalize hh : zhb p e w = H at k4
  have hHa : zHb p e w (zall p e) = H (zall p e) := by rw [← hh, zhb_in hp6 hass]
  -- the class
  have key : ∃ M3, f8_game M = some ((if (H (zall p e) && zan (zgt H (zWi H) (zall p e)) 12) = true then 1 else 0), M3) ∧ zR8 M3 (if (H (zall p e) && zan (zgt H (zWi H) (zall p e)) 12) = true then [(nI (zfi (zgt H (zWi H) (zall p e)) 12)).toInt64] else []) ∧ zTab M3 p e w ∧ M3.2 21 5 = lN (zshN p e w) := by
    have cl : ∀ (X : zM), zTab X p e w ∧ X.2 21 5 = lN (zshN p e w) → ∀ s0 : Int32, (s0 = -1 → ∃ M3, f8_game_45 s0 X = some (0, M3) ∧ zR8 M3 [] ∧ zTab M3 p e w ∧ M3.2 21 5 = lN (zshN p e w)) ∧ (s0 ≠ -1 → ∃ M3, f8_game_45 s0 X = some (1, M3) ∧ zR8 M3 [s0.toInt64] ∧ zTab M3 p e w ∧ M3.2 21 5 = lN (zshN p e w)) := by
      intro X hX s0
      constructor
      · intro q
        refine ⟨zsi X 9 1 0, ?_, zR8_nil X, hX⟩
        rw [f8_game_45, q]
        rfl
      · intro q
        obtain ⟨Y, z1, z2⟩ := c_tell s0.toInt64 (zsi X 9 1 0)
        have oz := o_X3_tell z1
        refine ⟨Y, ?_, z2, ?_, ?_⟩
        · rw [f8_game_45]
          show ((some (zsi X 9 1 0)).bind fun M1 => if s0 = -1 then some (0, M1) else (f3_tell s0.toInt64 M1).bind fun M2 => some (1, M2)) = _
          rw [Option.bind_some, if_neg q, z1, Option.bind_some]
        · have e2 := (oz.1 24 (by simp) (by simp)).2
          have e3 := (oz.1 26 (by simp) (by simp)).1
          have hX1 := hX.1
          simp only [zTab, e2, e3]
          exact hX1
        · rw [(oz.1 21 (by simp) (by simp)).2]
          exact hX.2
    have hX2 : zTab M2 p e w ∧ M2.2 21 5 = lN (zshN p e w) := by
      have e2 := (o2.1 24 (by simp) (by simp)).2
      have e3 := (o2.1 26 (by simp) (by simp)).1
      refine ⟨?_, by rw [(o2.1 21 (by simp) (by simp)).2, k3]⟩
      simp only [zTab, e2, e3]
      exact k2
    rw [f8_game, k1, Option.bind_some, c_all hW1 hc1, Option.bind_some, c_isIn hT hp6 he6 hass, Option.bind_some, hHa]
    cases hb : H (zall p e)
    · obtain ⟨M3, y1, y2⟩ := (cl M1 ⟨k2, k3⟩ (-1)).1 rfl
      rw [if_pos (show nI (zi false) = 0 from rfl), y1]
      exact ⟨M3, rfl, y2⟩
    · rw [if_neg (show ¬ nI (zi true) = 0 by decide), k4, Option.bind_some, Bool.true_and]
      simp only []
      cases hw : zan (zgt H (zWi H) (zall p e)) 12
      · obtain ⟨M3, y1, y2⟩ := (cl M2 hX2 _).1 (zlt_no.mpr hw)
        rw [y1]
        exact ⟨M3, rfl, y2⟩
      · have hl : zfi (zgt H (zWi H) (zall p e)) 12 < 12 := by
          rw [zfi_an] at hw
          exact of_decide_eq_true hw
        have el : zlt (zgt H (zWi H) (zall p e)) = nI (zfi (zgt H (zWi H) (zall p e)) 12) := by rw [zlt, if_pos hl]
        obtain ⟨M3, y1, y2⟩ := (cl M2 hX2 (zlt (zgt H (zWi H) (zall p e)))).2 (by rw [el]; exact nI_nm1 (by omega))
        rw [y1]
        rw [el] at y2
        exact ⟨M3, rfl, y2⟩
  obtain ⟨M3, h8, z8, t8, v8⟩ := key
  have o8 := o_X8_game h8
  have hR0 : zRr (zsi M3 39 0 0) 41 p e w := zRr_si (hR.to (o8.1 41 (by simp) (by simp)).1) (by decide)
  obtain ⟨X1, y1, y2⟩ := r_laysHangs hR0 hc1
  have oX := o_X9_laysHangs y1
  rw [hh] at y2
  obtain ⟨X2, q1, q2⟩ := r_game (M := X1) (h := H) hall y2
  have h9 : f9_game M3 = some ((if (H (zall p e) && zan (zgt H (zWi H) (zall p e)) 12) = true then 1 else 0), X2) := by
    rw [f9_game, y1, Option.bind_some, r_all (hR0.to (oX.1 41 (by simp) (by simp)).1) hc1, Option.bind_some, q1]
  have o9 := o_X9_game h9
  have t9 : zTab X2 p e w ∧ X2.2 21 5 = lN (zshN p e w) := by
    have e2 := (o9.1 24 (by simp) (by simp)).2
    have e3 := (o9.1 26 (by simp) (by simp)).1
    refine ⟨?_, by rw [(o9.1 21 (by simp) (by simp)).2, v8]⟩
    simp only [zTab, e2, e3]
    exact t8
  exact ⟨_, _, _, h8, h9, zInv_to h (o8.trans o9) (Or.inl rfl) (Or.inl rfl) (Or.inr ⟨_, zR8_to (o9.same rfl) z8, q2⟩) (Or.inl rfl) (Or.inl rfl) (Or.inl rfl) (Or.inl rfl) (Or.inr (Or.inr ⟨p, e, w, hc1, t9.2, t9.1⟩))⟩
