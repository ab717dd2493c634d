/-! tables of sets -/
def zTq (M : zM) (a p e : Nat) (Q : Nat → Bool) : Prop := ∃ H : Nat → Nat, (∀ i, i < 64 → H i < 2 ^ 64 ∧ M.2 a i = lN (H i)) ∧ ∀ s, zss p e s → (H (s / 64)).testBit (s % 64) = Q s
theorem zTq.congr {M : zM} {a p e : Nat} {Q Q' : Nat → Bool} (h : zTq M a p e Q) (hq : ∀ s, zss p e s → Q s = Q' s) : zTq M a p e Q' := by
  obtain ⟨H, h1, h2⟩ := h
  exact ⟨H, h1, fun s hs => by rw [h2 s hs, hq s hs]⟩
theorem zTq.to {M M' : zM} {a p e : Nat} {Q : Nat → Bool} (h : zTq M a p e Q) (h1 : M'.2 a = M.2 a) : zTq M' a p e Q := by
  simp only [zTq, h1]
  exact h
theorem zTq_0 {M : zM} {a p e : Nat} (h : ∀ i, i < 64 → M.2 a i = 0) : zTq M a p e (fun _ => false) :=
  ⟨fun _ => 0, fun i hi => ⟨show (0 : Nat) < 2 ^ 64 by decide, by rw [h i hi]; rfl⟩, fun s _ => Nat.zero_testBit _⟩
theorem c_isIn {M : zM} {a p e : Nat} {Q : Nat → Bool} (h : zTq M a p e Q) (hp : p ≤ 6) (he : e ≤ 6) {s : Nat} (hs : zss p e s) : f0_isIn a (nI s) M = some (nI (zi (Q s))) := by
  obtain ⟨H, h1, h2⟩ := h
  have hl := (zss_lt hp he hs).1
  have e1 : zushr (nI s) 6 = nI (s / 64) := nI_ushr (b := 6) (by omega) (by omega)
  have e2 : nI s &&& 63 = nI (s % 64) := by rw [show (63 : Int32) = nI (2 ^ 6 - 1) from rfl, nI_and, Nat.and_two_pow_sub_one_eq_mod]
  have e3 : zlushr (lN (H (s / 64))) (nI (s % 64)) &&& 1 = lN (H (s / 64) / 2 ^ (s % 64) % 2) := wb_bit (h1 (s / 64) (by omega)).1 (by omega)
  rw [f0_isIn, e1, if_neg (show ¬ (64 : Int32) ≤ nI (s / 64) from nI_ge (b := 64) (by omega) (by omega)), zaJ_n (by omega) (by omega), (h1 (s / 64) (by omega)).2, Option.bind_some, e2, e3, zdv, h2 s hs]
  cases Q s <;> rfl
theorem c_mark {M : zM} {a p e : Nat} {Q : Nat → Bool} (h : zTq M a p e Q) (hp : p ≤ 6) (he : e ≤ 6) {s : Nat} (hs : zss p e s) : ∃ M', f0_mark a (nI s) M = some M' ∧ zTq M' a p e (fun x => Q x || decide (x = s)) ∧ M'.1 = M.1 ∧ ∀ k, k ≠ a → M'.2 k = M.2 k := by
  obtain ⟨H, h1, h2⟩ := h
  have hl := (zss_lt hp he hs).1
  have e1 : zushr (nI s) 6 = nI (s / 64) := nI_ushr (b := 6) (by omega) (by omega)
  have e2 : nI s &&& 63 = nI (s % 64) := by rw [show (63 : Int32) = nI (2 ^ 6 - 1) from rfl, nI_and, Nat.and_two_pow_sub_one_eq_mod]
  have e3 : zlshl 1 (nI (s % 64)) = lN (1 * 2 ^ (s % 64)) := wb_shl 1 (by omega)
  have e4 : 2 ^ (s % 64) < 2 ^ 64 := Nat.pow_lt_pow_right (by omega) (by omega)
  have hb := (h1 (s / 64) (by omega)).1
  refine ⟨zsj M a (s / 64) (lN (H (s / 64) ||| 2 ^ (s % 64))), ?_, ⟨fun i => if i = s / 64 then H i ||| 2 ^ (s % 64) else H i, fun i hi => ?_, fun x hx => ?_⟩, rfl, fun k hk => by rw [zsj_ne hk]⟩
  · rw [f0_mark, e1, if_neg (show ¬ (64 : Int32) ≤ nI (s / 64) from nI_ge (b := 64) (by omega) (by omega)), zaJ_n (by omega) (by omega), (h1 (s / 64) (by omega)).2, Option.bind_some, e2, e3, Nat.one_mul, wb_or hb e4, zpJ_n (by omega) (by omega)]
    rfl
  · show (if i = s / 64 then H i ||| 2 ^ (s % 64) else H i) < 2 ^ 64 ∧ _ = lN (if i = s / 64 then H i ||| 2 ^ (s % 64) else H i)
    rw [zsj2]
    by_cases g : i = s / 64
    · rw [if_pos g, if_pos ⟨rfl, g⟩, g]
      exact ⟨Nat.or_lt_two_pow hb e4, rfl⟩
    · rw [if_neg g, if_neg (fun q => g q.2)]
      exact h1 i hi
  · have q := h2 x hx
    show (if x / 64 = s / 64 then H (x / 64) ||| 2 ^ (s % 64) else H (x / 64)).testBit (x % 64) = (Q x || decide (x = s))
    by_cases g : x / 64 = s / 64
    · rw [if_pos g, Nat.testBit_or, q, Nat.testBit_two_pow]
      congr 1
      by_cases g2 : x = s
      · rw [decide_eq_true (show s % 64 = x % 64 by rw [g2]), decide_eq_true g2]
      · rw [decide_eq_false (show ¬ s % 64 = x % 64 by omega), decide_eq_false g2]
    · rw [if_neg g, q, decide_eq_false (fun q => g (by rw [q])), Bool.or_false]
theorem zTab_q {M : zM} {p e : Nat} {w : Nat → Nat} (hp : p ≤ 6) (he : e ≤ 6) (h : zTab M p e w) : zTq M 24 p e (zHb p e w) := by
  obtain ⟨⟨H, h1, h2⟩, -⟩ := h
  have := zpe hp
  refine ⟨H, h1, fun s hs => ?_⟩
  have q := h2 (s / 64) (s % 64) hs.2 hs.1
  rw [show 64 * (s / 64) + s % 64 = s by omega] at q
  exact Bool.eq_iff_iff.mpr q
theorem zq_Tab {M : zM} {p e : Nat} {w : Nat → Nat} (hp : p ≤ 6) (he : e ≤ 6) (h : zTq M 24 p e (zHb p e w)) (h3 : ∀ k, k < 13 → M.1 26 k = nI (zcnt (fun s => zbc s = k ∧ s &&& zall p e = s ∧ zHb p e w s = true) 4096)) : zTab M p e w := by
  obtain ⟨H, h1, h2⟩ := h
  have := zpe hp
  refine ⟨⟨H, h1, fun i j hi hj => ?_⟩, h3⟩
  have e1 : (64 * i + j) / 64 = i := by omega
  have e2 : (64 * i + j) % 64 = j := by omega
  have q := h2 (64 * i + j) ⟨by rw [e2]; exact hj, by rw [e1]; exact hi⟩
  rw [e1, e2] at q
  rw [q]
theorem zcnt_skip {P : Nat → Prop} {m : Nat} : ∀ d, (∀ x, m ≤ x → x < m + d → ¬ P x) → zcnt P (m + d) = zcnt P m := by
  intro d
  induction d with
  | zero => exact fun _ => rfl
  | succ d ih =>
    intro h
    show zcnt P (m + d) + @ite _ (P (m + d)) (Classical.propDecidable _) 1 0 = _
    rw [if_neg (h (m + d) (by omega) (by omega)), ih (fun x h1 h2 => h x h1 (by omega))]
    rfl
theorem zcnt_skip' {P : Nat → Prop} {m n : Nat} (hmn : m ≤ n) (h : ∀ x, m ≤ x → x < n → ¬ P x) : zcnt P n = zcnt P m := by
  have := zcnt_skip (P := P) (m := m) (n - m) (fun x h1 h2 => h x h1 (by omega))
  rwa [show m + (n - m) = n by omega] at this
def zPk (p e : Nat) (w : Nat → Nat) (k s : Nat) : Prop := zbc s = k ∧ s &&& zall p e = s ∧ zHb p e w s = true
theorem zcnt_next {p e : Nat} {w : Nat → Nat} (hp : p ≤ 6) (j k : Nat) (hs : zss p e (zsu p k)) : zcnt (zPk p e w j) (zsu p (k + 1)) = zcnt (zPk p e w j) (zsu p k) + if zbc (zsu p k) = j ∧ zHb p e w (zsu p k) = true then 1 else 0 := by
  have hm := zsu_mono (k := k) hp
  rw [zcnt_skip' (m := zsu p k + 1) (by omega) (fun x h1 h2 q => by
    have := (zsu_below hp ((zss_iff hp).mpr q.2.1)).mp h2
    omega)]
  show zcnt _ _ + @ite _ _ (Classical.propDecidable _) 1 0 = _
  congr 1
  by_cases g : zbc (zsu p k) = j ∧ zHb p e w (zsu p k) = true
  · rw [if_pos g, if_pos ⟨g.1, (zss_iff hp).mp hs, g.2⟩]
  · rw [if_neg g, if_neg (fun q => g ⟨q.1, q.2.2⟩)]
section TB
variable {M : zM} {p e : Nat} {w : Nat → Nat}
/-- the class's tables, of the sets below the k-th -/
def zTI (x : zM) (p e : Nat) (w : Nat → Nat) (v : Int64) (k : Nat) : Prop := zTC x 22 23 p e w ∧ zTq x 24 p e (fun s => decide (s < zsu p k) && zHb p e w s) ∧ (∀ j, j < 13 → x.1 26 j = nI (zcnt (zPk p e w j) (zsu p k))) ∧ x.2 21 5 = v
theorem c_tab_step (hc : zCl p e w) {v : Int64} {f k : Nat} {x : zM} (hk : k < 2 ^ (p + e)) (h : zTI x p e w v k) : ∃ y, f0_tabulate_53 1 (f + 1) (nI (zall p e)) (nI (zsu p k)) (nI k) x = (if k + 1 < 2 ^ (p + e) then f0_tabulate_53 1 f (nI (zall p e)) (nI (zsu p (k + 1))) (nI (k + 1)) y else some y) ∧ zTI y p e w v (k + 1) := by
  obtain ⟨c1, c2, c3, c4, c5, c6⟩ := id hc
  obtain ⟨i1, i2, i3, i4⟩ := h
  have hss := zsu_ss c2 hk
  have hlt := zss_lt c2 c4 hss
  have hN : 2 ^ (p + e) ≤ 2 ^ 12 := Nat.pow_le_pow_right (by omega) (by omega)
  have o93 : ∀ y, f0_tabulate_93 1 (f0_tabulate_53 1 f) (nI (zall p e)) (nI (zsu p k)) (nI k) y = if k + 1 < 2 ^ (p + e) then f0_tabulate_53 1 f (nI (zall p e)) (nI (zsu p (k + 1))) (nI (k + 1)) y else some y := by
    intro y
    rw [f0_tabulate_93, zsu_s c2 c4 hk, nI_1]
    by_cases g : k + 1 < 2 ^ (p + e)
    · have hs2 := (zss_lt c2 c4 (zsu_ss (e := e) c2 g)).1
      rw [if_pos g, if_pos g, if_neg (nI_ne0 (Nat.pos_of_ne_zero (zsu_pos (by omega))) (by omega))]
    · rw [if_neg g, if_neg g, if_pos (show nI 0 = 0 from rfl)]
  have hq : ∀ s, zss p e s → (decide (s < zsu p (k + 1)) = (decide (s < zsu p k) || decide (s = zsu p k))) := by
    intro s hs
    have := zsu_below (k := k) c2 hs
    by_cases g : s < zsu p k
    · rw [decide_eq_true g, decide_eq_true (by omega), Bool.true_or]
    · by_cases g2 : s = zsu p k
      · rw [decide_eq_true g2, decide_eq_true (by omega), Bool.or_true]
      · rw [decide_eq_false g, decide_eq_false g2, decide_eq_false (by omega), Bool.or_false]
  have hbc := zbc_lt hlt.1
  rw [f0_tabulate_53, if_neg (show ¬ (4096 : Int32) ≤ nI k from nI_ge (b := 4096) (by omega) (by omega)), c_tog i1 hc (zss_sb hc hss), Option.bind_some]
  cases hb : zHb p e w (zsu p k)
  · rw [if_pos (show nI (zi false) = 0 from rfl), o93]
    refine ⟨x, rfl, i1, i2.congr (fun s hs => ?_), fun j hj => ?_, i4⟩
    · rw [hq s hs]
      by_cases g2 : s = zsu p k
      · rw [g2, hb, Bool.and_false, Bool.and_false]
      · rw [decide_eq_false g2, Bool.or_false]
    · rw [i3 j hj, zcnt_next c2 j k hss, if_neg (fun q => by rw [hb] at q; exact absurd q.2 (by decide)), Nat.add_zero]
  · obtain ⟨y, y1, y2, y3, y4⟩ := c_mark i2 c2 c4 hss
    rw [if_neg (show ¬ nI (zi true) = 0 by decide), y1, Option.bind_some, bc_n hlt.1, Option.bind_some, zaI_n (by omega) (by omega), y3, i3 _ hbc, Option.bind_some, nI_1, zpI_n (by omega) (by omega), Option.bind_some, o93]
    refine ⟨_, rfl, fun t ht hh => ?_, (y2.to rfl : zTq (zsi y 26 _ _) 24 p e _).congr (fun s hs => ?_), fun j hj => ?_, ?_⟩
    · rw [zsi_ne (by omega), zsi_ne (by omega), y3]
      exact i1 t ht hh
    · rw [hq s hs]
      by_cases g2 : s = zsu p k
      · rw [g2, hb, decide_eq_true rfl, Bool.or_true, Bool.or_true, Bool.true_and]
      · rw [decide_eq_false g2, Bool.or_false, Bool.or_false]
    · rw [zsi1, zcnt_next c2 j k hss]
      by_cases g : j = zbc (zsu p k)
      · rw [if_pos ⟨rfl, g⟩, if_pos ⟨g.symm, hb⟩, g]
      · rw [if_neg (fun q => g q.2), if_neg (fun q => g q.1.symm), Nat.add_zero, y3, i3 j hj]
    · show y.2 21 5 = v
      rw [y4 21 (by omega), i4]
theorem c_tabulate (h : zWc M 1 p e w) (hc : zCl p e w) (hH : iH M) : ∃ M', f0_tabulate 1 M = some M' ∧ zTab M' p e w ∧ M'.2 21 5 = lN (zshN p e w) := by
  obtain ⟨c1, c2, c3, c4, c5, c6⟩ := id hc
  rw [f0_tabulate, c_shape h hc, Option.bind_some]
  by_cases g : lN (zshN p e w) = M.2 21 5
  · rw [if_pos ((lgc_eq _ _).mpr g)]
    refine ⟨M, rfl, ?_, g.symm⟩
    rcases hH with hH | ⟨p', e', w', hc', e1, hT⟩
    · rw [hH] at g
      exact absurd g (zsh_ne0 hc)
    · rw [← g] at e1
      obtain ⟨rfl, rfl, rfl⟩ := zsh_inj hc hc' e1
      exact hT
  · rw [if_neg (fun q => g ((lgc_eq _ _).mp q))]
    obtain ⟨M2, k1, k2⟩ := c_tie (M := zsj M 21 5 (lN (zshN p e w))) (k := 1) (p := p) (e := e) (w := w) h hc (by omega)
    obtain ⟨M3, k3, k4⟩ := c_fillJ 24 64 0 M2 (by omega)
    obtain ⟨M4, k5, k6⟩ := c_fillI 26 13 0 M3 (by omega)
    have o2 := o_X0_tie k1
    have o3 := o_J7_fill_d0a16 k3
    have o4 := o_J7_fill_53178 k5
    have oa := o2.trans (o3.trans o4)
    have hW : zWc M4 1 p e w := h.to (by rw [(oa.1 1 (by simp) (by simp)).1]; rfl) (by rw [(oa.1 2 (by simp) (by simp)).1]; rfl)
    have hN : 2 ^ (p + e) ≤ 2 ^ 12 := Nat.pow_le_pow_right (by omega) (by omega)
    have hN1 := Nat.two_pow_pos (p + e)
    have hst : zTI M4 p e w (lN (zshN p e w)) 0 := by
      refine ⟨fun t ht _ => ?_, ?_, fun j hj => ?_, ?_⟩
      · rw [((o3.trans o4).1 22 (by simp) (by simp)).1, ((o3.trans o4).1 23 (by simp) (by simp)).1]
        exact k2 t ht
      · refine (zTq_0 (fun i hi => ?_)).congr (fun s hs => ?_)
        · rw [(o4.1 24 (by simp) (by simp)).2, k4 i hi]
        · rw [zsu_0, decide_eq_false (by omega), Bool.false_and]
      · rw [k6 j hj, zsu_0]
        rfl
      · rw [(oa.1 21 (by simp) (by simp)).2, zsj2, if_pos ⟨rfl, rfl⟩]
    rw [k1, Option.bind_some, k3, Option.bind_some, k5, Option.bind_some, c_all hW hc, Option.bind_some]
    rw [show f0_tabulate_53 1 zfuel (nI (zall p e)) 0 0 M4 = f0_tabulate_53 1 zfuel (nI (zall p e)) (nI (zsu p 0)) (nI 0) M4 by rw [zsu_0]; rfl]
    refine zloopP (F := fun f k x => f0_tabulate_53 1 f (nI (zall p e)) (nI (zsu p k)) (nI k) x) (I := fun k x => k < 2 ^ (p + e) ∧ zTI x p e w (lN (zshN p e w)) k) (P := fun o => ∃ M', o = some M' ∧ zTab M' p e w ∧ M'.2 21 5 = lN (zshN p e w)) (2 ^ (p + e)) (by omega) (k0 := 0) (by omega) (fun f k x _ hk hx => ?_) (fun f x hx => absurd hx.1 (by omega)) (x := M4) ⟨hN1, hst⟩
    obtain ⟨y, y1, y2⟩ := c_tab_step (f := f) hc hk hx.2
    by_cases g2 : k + 1 < 2 ^ (p + e)
    · rw [if_pos g2] at y1
      exact Or.inl ⟨y, y1, g2, y2⟩
    · rw [if_neg g2] at y1
      refine Or.inr ⟨y, y1, ?_, y2.2.2.2⟩
      have ek : k + 1 = 2 ^ (p + e) := by omega
      have hl : ∀ s, zss p e s → s < zsu p (k + 1) := by
        intro s hs
        have h1 := (zss_lt c2 c4 hs).2
        rw [zsu_below c2 hs, show k = 2 ^ (p + e) - 1 by omega, zsu_last c2]
        exact h1
      have hz : zsu p (k + 1) ≤ 4096 := by
        have h6 := zpe c4
        obtain ⟨v1, v2⟩ := zqr (q := 2 ^ e) (r := 0) (d := 2 ^ p) (Nat.two_pow_pos p)
        have ee : k + 1 = 2 ^ e * 2 ^ p + 0 := by rw [ek, Nat.pow_add, Nat.mul_comm]; rfl
        rw [zsu, ee, v1, v2]
        omega
      refine zq_Tab c2 c4 (y2.2.1.congr (fun s hs => ?_)) (fun j hj => ?_)
      · rw [decide_eq_true (hl s hs), Bool.true_and]
      · rw [y2.2.2.1 j hj]
        congr 1
        exact (zcnt_skip' (P := zPk p e w j) hz (fun x h1 h2 q => by
          have := hl x ((zss_iff c2).mpr q.2.1)
          omega)).symm
/-- which sets hang together, as the reference holds them -/
def zhb (p e : Nat) (w : Nat → Nat) (s : Nat) : Bool := (s &&& zall p e == s) && zHb p e w s
theorem zhb_in {s : Nat} (hp : p ≤ 6) (hs : zss p e s) : zhb p e w s = zHb p e w s := by
  rw [zhb, beq_iff_eq.mpr ((zss_iff hp).mp hs), Bool.true_and]
theorem zhb_out {s : Nat} (hp : p ≤ 6) (hs : ¬ zss p e s) : zhb p e w s = false := by
  rw [zhb, beq_eq_false_iff_ne.mpr (fun q => hs ((zss_iff hp).mpr q)), Bool.false_and]
theorem vnar (b : Bool) : vp_nar .boolean (nI (zi b)) = nI (zi b) := by cases b <;> rfl
theorem zib (b : Bool) : (if nI (zi b) = 0 then (0 : Int32) else 1) = nI (zi b) := by cases b <;> rfl
theorem r_laysHangs (hR : zRr M 41 p e w) (hc : zCl p e w) : ∃ M', f9_laysHangs M = some M' ∧ ∀ s, s ≤ zall p e → M'.1 56 s = nI (zi (zhb p e w s)) := by
  obtain ⟨c1, c2, c3, c4, c5, c6⟩ := id hc
  have hall := zall_lt (w := w) hc
  obtain ⟨M1, y1, y2⟩ := r_lays hR hc (by omega)
  have o1 := o_X9_laysAbove y1
  rw [f9_laysHangs, y1, Option.bind_some, r_all (hR.to (o1.1 41 (by simp) (by simp)).1) hc, Option.bind_some]
  refine zloopP (F := fun f s x => f9_laysHangs_18 f (nI (zall p e)) (nI s) x) (I := fun s x => zTC x 54 55 p e w ∧ ∀ j, j < s → x.1 56 j = nI (zi (zhb p e w j))) (P := fun o => ∃ M', o = some M' ∧ ∀ s, s ≤ zall p e → M'.1 56 s = nI (zi (zhb p e w s))) (zall p e + 1) (by omega) (k0 := 0) (by omega) (fun f s x _ hs hx => Or.inl ?_) (fun f x hx => ⟨x, ?_, fun s hs => hx.2 s (by omega)⟩) (x := M1) ⟨y2, fun j hj => absurd hj (by omega)⟩
  · obtain ⟨x1, x2⟩ := hx
    have key : f9_laysHangs_18 (f + 1) (nI (zall p e)) (nI s) x = f9_laysHangs_18 f (nI (zall p e)) (nI (s + 1)) (zsi x 56 s (nI (zi (zhb p e w s)))) := by
      rw [f9_laysHangs_18, if_neg (nI_nlt (by omega) (by omega)), nI_andn _ (by omega)]
      by_cases g : zss p e s
      · rw [if_pos (by rw [(zss_df c2).mpr g]; rfl), r_tog x1 hc (zss_sb hc g), Option.bind_some, zib, f9_laysHangs_49, zpZ_n (by omega) (by omega), Option.bind_some, vnar, nI_1, zhb_in c2 g]
      · have hd : zdf s (zall p e) ≤ s := zdf_le s _
        rw [if_neg (nI_ne0 (Nat.pos_of_ne_zero (fun q => g ((zss_df c2).mp q))) (by omega)), f9_laysHangs_49, zpZ_n (by omega) (by omega), Option.bind_some, nI_1, zhb_out c2 g]
        rfl
    refine ⟨_, key, fun t ht hh => ?_, fun j hj => ?_⟩
    · rw [zsi_ne (by omega), zsi_ne (by omega)]
      exact x1 t ht hh
    · rw [zsi1]
      by_cases g : j = s
      · rw [if_pos ⟨rfl, g⟩, g]
      · rw [if_neg (fun q => g q.2)]
        exact x2 j (by omega)
  · show f9_laysHangs_18 (f + 1) (nI (zall p e)) (nI (zall p e + 1)) x = _
    rw [f9_laysHangs_18, if_pos (nI_lt (by omega) (by omega))]
end TB
