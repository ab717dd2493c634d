/-! the thread that goes, a night -/
noncomputable def zga (p e : Nat) (pl : Nat → Nat → Int32) : Nat → Int32 × Nat
  | 0 => (-100, 0)
  | t + 1 => if t % 6 < zmany p e (t / 6) then (if pl (t / 6) (t % 6) ≤ (zga p e pl t).1 then zga p e pl t else (pl (t / 6) (t % 6), t)) else zga p e pl t
noncomputable def zgo (p e : Nat) (pl : Nat → Nat → Int32) : Nat := (zga p e pl 12).2
noncomputable def zgx (p e : Nat) (pl : Nat → Nat → Int32) : Int32 := if zmany p e (zgo p e pl / 6) = 1 then -2 else nI (zgo p e pl)
section GA
variable {p e : Nat} {w : Nat → Nat} {pl : Nat → Nat → Int32}
theorem zga_thr (hc : zCl p e w) : ∀ t, t ≤ 12 → (zga p e pl t).2 < 12 ∧ (zga p e pl t).2 % 6 < zmany p e ((zga p e pl t).2 / 6) := by
  intro t
  induction t with
  | zero => intro _; exact ⟨by show 0 < 12; omega, by have := hc.1; simp [zga, zmany]; omega⟩
  | succ t ih =>
    intro ht
    rw [zga]
    split
    · rename_i h
      split
      · exact ih (by omega)
      · exact ⟨by show t < 12; omega, h⟩
    · exact ih (by omega)
theorem zga_ge : ∀ t, -100 ≤ (zga p e pl t).1 := by
  intro t
  induction t with
  | zero => exact Int32.le_refl _
  | succ t ih =>
    rw [zga]
    split
    · split
      · exact ih
      · rename_i h
        exact Int32.le_trans ih (Int32.le_of_lt (Int32.not_le.mp h))
    · exact ih
theorem zga_in {kd i : Nat} (hi6 : i < 6) (hi : i < zmany p e kd) : zga p e pl (6 * kd + i + 1) = if pl kd i ≤ (zga p e pl (6 * kd + i)).1 then zga p e pl (6 * kd + i) else (pl kd i, 6 * kd + i) := by
  rw [zga, show (6 * kd + i) % 6 = i by omega, show (6 * kd + i) / 6 = kd by omega, if_pos hi]
theorem zga_out {kd i : Nat} (hi6 : i < 6) (hi : ¬ i < zmany p e kd) : zga p e pl (6 * kd + i + 1) = zga p e pl (6 * kd + i) := by
  rw [zga, show (6 * kd + i) % 6 = i by omega, show (6 * kd + i) / 6 = kd by omega, if_neg hi]
theorem zga_skip {kd : Nat} : ∀ i, zmany p e kd ≤ i → i ≤ 6 → zga p e pl (6 * kd + i) = zga p e pl (6 * kd + zmany p e kd) := by
  intro i
  induction i with
  | zero => intro h _; rw [show zmany p e kd = 0 by omega]
  | succ i ih =>
    intro h h6
    by_cases g : zmany p e kd = i + 1
    · rw [g]
    · rw [← Nat.add_assoc, zga_out (by omega) (by omega)]
      exact ih (by omega) (by omega)
end GA
section GO
variable {M : zM} {a k p e : Nat} {w : Nat → Nat} {t : List Nat}
theorem zCc.to {M' : zM} (h : zCc M a t) (h1 : M'.1 a = M.1 a) (h2 : M'.1 (a + 1) = M.1 (a + 1)) : zCc M' a t := by
  simp only [zCc, h1, h2]
  exact h
theorem zWc.to {M' : zM} (h : zWc M k p e w) (h1 : M'.1 k = M.1 k) (h2 : M'.1 (k + 1) = M.1 (k + 1)) : zWc M' k p e w := by
  simp only [zWc, h1, h2]
  exact h
theorem zRr.to {M' : zM} (h : zRr M a p e w) (h1 : M'.1 a = M.1 a) : zRr M' a p e w := by
  simp only [zRr, h1]
  exact h
theorem zCr.to {M' : zM} (h : zCr M t) (h1 : M'.1 39 14 = M.1 39 14) (h2 : M'.1 45 = M.1 45) : zCr M' t := by
  simp only [zCr, h1, h2]
  exact h
theorem c_goes_in (ht : zCc M a t) (h : zWc M k p e w) (hc : zCl p e w) (hk1 : k < a) (hk2 : k + 1 < a) {kd : Nat} (hk : kd < 2) (f0 : Nat) {x : zM} (hx : ∀ q, q ≠ a + 4 → x.1 q = M.1 q) : ∃ x', f4_goesOf_17 a k (f4_goesOf_63 a k (f4_goesOf_8 a k f0)) zfuel (zga p e (zpull p e w (M.1 k 2) t) (6 * kd)).1 (nI (zga p e (zpull p e w (M.1 k 2) t) (6 * kd)).2) (nI kd) (nI 0) x = f4_goesOf_8 a k f0 (zga p e (zpull p e w (M.1 k 2) t) (6 * kd + 6)).1 (nI (zga p e (zpull p e w (M.1 k 2) t) (6 * kd + 6)).2) (nI (kd + 1)) x' ∧ ∀ q, q ≠ a + 4 → x'.1 q = M.1 q := by
  have hm := zmany_le hc kd
  refine zloopP (F := fun f n x => f4_goesOf_17 a k (f4_goesOf_63 a k (f4_goesOf_8 a k f0)) f (zga p e (zpull p e w (M.1 k 2) t) (6 * kd + n)).1 (nI (zga p e (zpull p e w (M.1 k 2) t) (6 * kd + n)).2) (nI kd) (nI n) x) (I := fun n x => ∀ q, q ≠ a + 4 → x.1 q = M.1 q) (P := fun o => ∃ x', o = f4_goesOf_8 a k f0 (zga p e (zpull p e w (M.1 k 2) t) (6 * kd + 6)).1 (nI (zga p e (zpull p e w (M.1 k 2) t) (6 * kd + 6)).2) (nI (kd + 1)) x' ∧ ∀ q, q ≠ a + 4 → x'.1 q = M.1 q) (zmany p e kd) (by omega) (k0 := 0) (by omega) (fun f n x _ hn hx => Or.inl ?_) (fun f x hx => ?_) (x := x) hx
  · have hW := h.to (hx k (by omega)) (hx (k + 1) (by omega))
    obtain ⟨x', y1, y2⟩ := c_pull (ht.to (hx a (by omega)) (hx (a + 1) (by omega))) hW hc hk1 hk2 hk hn
    rw [hx k (by omega)] at y1
    refine ⟨x', ?_, fun q hq => by rw [y2 q hq, hx q hq]⟩
    show f4_goesOf_17 a k _ (f + 1) _ _ _ (nI n) x = f4_goesOf_17 a k _ f (zga p e (zpull p e w (M.1 k 2) t) (6 * kd + n + 1)).1 _ _ _ x'
    rw [f4_goesOf_17, c_size hW hk, Option.bind_some, if_neg (nI_ge hn (by omega)), y1, Option.bind_some, ← Nat.add_assoc, zga_in (by omega) hn]
    by_cases g : zpull p e w (M.1 k 2) t kd n ≤ (zga p e (zpull p e w (M.1 k 2) t) (6 * kd + n)).1
    · rw [if_pos g, if_pos g, f4_goesOf_57, nI_1]
    · rw [if_neg g, if_neg g, f4_goesOf_57, nI_1, zl6, nI_mul, nI_add]
  · have hW := h.to (hx k (by omega)) (hx (k + 1) (by omega))
    refine ⟨x, ?_, hx⟩
    show f4_goesOf_17 a k _ (f + 1) _ _ _ (nI (zmany p e kd)) x = _
    rw [f4_goesOf_17, c_size hW hk, Option.bind_some, if_pos (nI_le (Nat.le_refl _) (by omega)), f4_goesOf_63, nI_1, zga_skip 6 (by omega) (by omega)]
theorem c_goes (ht : zCc M a t) (h : zWc M k p e w) (hc : zCl p e w) (hk1 : k < a) (hk2 : k + 1 < a) : ∃ M', f4_goesOf a k M = some (zgx p e (zpull p e w (M.1 k 2) t), M') ∧ ∀ q, q ≠ a + 4 → M'.1 q = M.1 q := by
  rw [f4_goesOf]
  show ∃ M', f4_goesOf_8 a k (4997 + 1 + 1 + 1) (-100) 0 0 M = _ ∧ _
  obtain ⟨x1, y1, y2⟩ := c_goes_in (kd := 0) ht h hc hk1 hk2 (by omega) (4997 + 1 + 1) (x := M) (fun _ _ => rfl)
  obtain ⟨x2, z1, z2⟩ := c_goes_in (kd := 1) ht h hc hk1 hk2 (by omega) (4997 + 1) y2
  refine ⟨x2, ?_, z2⟩
  rw [f4_goesOf_8, if_neg (by decide)]
  refine (show _ = _ from y1).trans ?_
  rw [f4_goesOf_8, if_neg (by decide)]
  refine (show _ = _ from z1).trans ?_
  have hg := zga_thr (pl := zpull p e w (M.1 k 2) t) hc 12 (Nat.le_refl _)
  have hm := zmany_le hc ((zga p e (zpull p e w (M.1 k 2) t) 12).2 / 6)
  rw [f4_goesOf_8, if_pos (by decide), show 6 * 1 + 6 = 12 from rfl, zl6, nI_div (by omega) (by omega) (by omega), c_size (h.to (z2 k (by omega)) (z2 (k + 1) (by omega))) (by omega), Option.bind_some, zgx, zgo]
  by_cases g : zmany p e ((zga p e (zpull p e w (M.1 k 2) t) 12).2 / 6) = 1
  · rw [if_pos g, if_pos (by rw [g]; decide)]
  · rw [if_neg g, if_neg (show ¬ nI (zmany p e ((zga p e (zpull p e w (M.1 k 2) t) 12).2 / 6)) ≤ 1 from nI_ge (a := 1) (by omega) (by omega))]
theorem zpull_ge (p e : Nat) (w : Nat → Nat) (nt : Int32) (t : List Nat) (kd i : Nat) : -99 ≤ zpull p e w nt t kd i := by
  unfold zpull zmax
  split
  · rename_i h
    exact Int32.le_of_lt h
  · exact Int32.le_refl _
theorem r_next (ht : zCr M t) (h : zRr M a p e w) (hc : zCl p e w) (ha : a < 44) (ha2 : a ≠ 39) : ∃ M', f9_nextOf a M = some (zgx p e (zpull p e w (M.1 a 8) t), M') ∧ ∀ q, q ≠ 47 → q ≠ 48 → M'.1 q = M.1 q := by
  have key : ∃ M', f9_strongest a M = some (nI (zgo p e (zpull p e w (M.1 a 8) t)), M') ∧ ∀ q, q ≠ 47 → q ≠ 48 → M'.1 q = M.1 q := by
    rw [f9_strongest]
    refine zloopP (F := fun f n x => f9_strongest_9 a f (nI (zga p e (zpull p e w (M.1 a 8) t) n).2) (if n = 0 then -1000000 else (zga p e (zpull p e w (M.1 a 8) t) n).1) (nI n) x) (I := fun n x => ∀ q, q ≠ 47 → q ≠ 48 → x.1 q = M.1 q) (P := fun o => ∃ M', o = some (nI (zgo p e (zpull p e w (M.1 a 8) t)), M') ∧ ∀ q, q ≠ 47 → q ≠ 48 → M'.1 q = M.1 q) 12 (by omega) (k0 := 0) (by omega) (fun f n x _ hn hx => Or.inl ?_) (fun f x hx => ?_) (x := M) (fun _ _ _ => rfl)
    · have hR := h.to (hx a (by omega) (by omega))
      have hd : nI n / 6 = nI (n / 6) := nI_div (d := 6) (by omega) (by omega) (by omega)
      have hr : zrem (nI n) 6 = nI (n % 6) := nI_rem (d := 6) (by omega) (by omega) (by omega)
      have hg := zga_ge (p := p) (e := e) (pl := zpull p e w (M.1 a 8) t) n
      have goal0 : ∀ (s0 : Int32) (X : zM), f9_strongest_54 a (f9_strongest_9 a f) (nI (zga p e (zpull p e w (M.1 a 8) t) n).2) (if n = 0 then -1000000 else (zga p e (zpull p e w (M.1 a 8) t) n).1) (nI n) s0 X = f9_strongest_9 a f (if s0 ≤ (if n = 0 then -1000000 else (zga p e (zpull p e w (M.1 a 8) t) n).1) then nI (zga p e (zpull p e w (M.1 a 8) t) n).2 else nI n) (zmax (if n = 0 then -1000000 else (zga p e (zpull p e w (M.1 a 8) t) n).1) s0) (nI (n + 1)) X := by
        intro s0 X
        rw [f9_strongest_54, nI_1]
      by_cases hth : n % 6 < zmany p e (n / 6)
      · obtain ⟨x', y1, y2⟩ := r_pull (ht.to (by rw [hx 39 (by omega) (by omega)]) (hx 45 (by omega) (by omega))) hR hc ha (kd := n / 6) (i := n % 6) (by omega) hth ha2
        rw [hx a (by omega) (by omega)] at y1
        have hp := zpull_ge p e w (M.1 a 8) t (n / 6) (n % 6)
        refine ⟨x', ?_, fun q h1 h2 => by rw [y2 q h1 h2, hx q h1 h2]⟩
        show f9_strongest_9 a (f + 1) _ _ (nI n) x = f9_strongest_9 a f _ (if n + 1 = 0 then _ else _) (nI (n + 1)) x'
        rw [f9_strongest_9, if_neg (show ¬ (12 : Int32) ≤ nI n from nI_ge (b := 12) (by omega) (by omega)), hd, hr, r_thr_yes hR hc (by omega) hth, Option.bind_some, if_neg (by decide), y1, Option.bind_some, goal0, if_neg (show ¬ n + 1 = 0 by omega), zga, if_pos hth]
        by_cases h0 : n = 0
        · subst h0
          rw [if_pos rfl]
          have b1 : ¬ zpull p e w (M.1 a 8) t (0 / 6) (0 % 6) ≤ -1000000 := by
            rw [Int32.le_iff_toInt_le] at hp ⊢
            have e1 : Int32.toInt (-99) = -99 := rfl
            have e2 : Int32.toInt (-1000000) = -1000000 := rfl
            omega
          have b2 : ¬ zpull p e w (M.1 a 8) t (0 / 6) (0 % 6) ≤ (zga p e (zpull p e w (M.1 a 8) t) 0).1 := by
            show ¬ zpull p e w (M.1 a 8) t (0 / 6) (0 % 6) ≤ -100
            rw [Int32.le_iff_toInt_le] at hp ⊢
            have e1 : Int32.toInt (-99) = -99 := rfl
            have e2 : Int32.toInt (-100) = -100 := rfl
            omega
          rw [if_neg b1, if_neg b2, zmax, if_pos (Int32.not_le.mp b1)]
        · rw [if_neg h0]
          by_cases g : zpull p e w (M.1 a 8) t (n / 6) (n % 6) ≤ (zga p e (zpull p e w (M.1 a 8) t) n).1
          · rw [if_pos g, if_pos g, zmax, if_neg (Int32.not_lt.mpr g)]
          · rw [if_neg g, if_neg g, zmax, if_pos (Int32.not_le.mp g)]
      · have h0 : n ≠ 0 := by
          rintro rfl
          exact hth hc.1
        refine ⟨x, ?_, hx⟩
        show f9_strongest_9 a (f + 1) _ _ (nI n) x = f9_strongest_9 a f _ (if n + 1 = 0 then _ else _) (nI (n + 1)) x
        have hno : f9_isThread a (nI (n / 6)) (nI (n % 6)) x = some 0 := r_thr_no hR hc (fun q => hth ((zVd_n hc (by omega) (by omega)).mp q))
        rw [f9_strongest_9, if_neg (show ¬ (12 : Int32) ≤ nI n from nI_ge (b := 12) (by omega) (by omega)), hd, hr, hno, Option.bind_some, if_pos rfl, goal0, if_neg (show ¬ n + 1 = 0 by omega), if_neg h0, zga, if_neg hth]
        have g : (-1000000 : Int32) ≤ (zga p e (zpull p e w (M.1 a 8) t) n).1 := Int32.le_trans (by decide) hg
        rw [if_pos g, zmax, if_neg (Int32.not_lt.mpr g)]
    · refine ⟨x, ?_, hx⟩
      show f9_strongest_9 a (f + 1) _ _ (nI 12) x = _
      rw [f9_strongest_9, if_pos (by decide)]
      rfl
  obtain ⟨M', y1, y2⟩ := key
  refine ⟨M', ?_, y2⟩
  have hg := zga_thr (pl := zpull p e w (M.1 a 8) t) hc 12 (Nat.le_refl _)
  have hm := zmany_le hc (zgo p e (zpull p e w (M.1 a 8) t) / 6)
  rw [f9_nextOf, y1, Option.bind_some]
  simp only []
  rw [show (6 : Int32) = nI 6 from rfl, nI_div (by unfold zgo; omega) (by omega) (by omega), r_many (h.to (y2 a (by omega) (by omega))) (by unfold zgo; omega), Option.bind_some, zgx]
  by_cases g : zmany p e (zgo p e (zpull p e w (M.1 a 8) t) / 6) = 1
  · rw [if_pos g, if_pos (by rw [g]; rfl)]
  · rw [if_neg g, if_neg (show ¬ nI _ = 1 from nI_ne (b := 1) g (by omega) (by omega))]
end GO
/-! a night: picks, ends, words, night -/
abbrev zS4 : Type := Nat × Nat × (Nat → Nat) × Int32
noncomputable def zSg (t : List Nat) (S : zS4) : Nat := zgo S.1 S.2.1 (zpull S.1 S.2.1 S.2.2.1 S.2.2.2 t)
noncomputable def zSx (t : List Nat) (S : zS4) : Int32 := zgx S.1 S.2.1 (zpull S.1 S.2.1 S.2.2.1 S.2.2.2 t)
noncomputable def zN1 (t : List Nat) (S : zS4) : zS4 := if zmany S.1 S.2.1 (zSg t S / 6) = 1 then (S.1, S.2.1, S.2.2.1, S.2.2.2 + 1) else (zdP S.1 (zSg t S / 6), zdE S.2.1 (zSg t S / 6), zdW S.2.2.1 (zSg t S / 6) (zSg t S % 6), S.2.2.2 + 1)
noncomputable def zNn (t : List Nat) : Nat → zS4 → zS4
  | 0, S => S
  | n + 1, S => zN1 t (zNn t n S)
def zSC (S : zS4) : Prop := zCl S.1 S.2.1 S.2.2.1
def zWS (M : zM) (k : Nat) (S : zS4) : Prop := zWc M k S.1 S.2.1 S.2.2.1 ∧ M.1 k 2 = S.2.2.2
def zRS (M : zM) (a : Nat) (S : zS4) : Prop := zRr M a S.1 S.2.1 S.2.2.1 ∧ M.1 a 8 = S.2.2.2
theorem zSg_thr {t : List Nat} {S : zS4} (hc : zSC S) : zSg t S < 12 ∧ zSg t S % 6 < zmany S.1 S.2.1 (zSg t S / 6) := zga_thr hc 12 (Nat.le_refl _)
theorem zN1_C {t : List Nat} {S : zS4} (hc : zSC S) : zSC (zN1 t S) := by
  have hg := zSg_thr (t := t) hc
  have hm := zmany_le hc (zSg t S / 6)
  unfold zN1
  split
  · exact hc
  · exact zCl_d hc (by omega) hg.2 (by omega)
theorem zNn_C {t : List Nat} {S : zS4} (hc : zSC S) (n : Nat) : zSC (zNn t n S) := by
  induction n with
  | zero => exact hc
  | succ n ih => exact zN1_C ih
theorem zSx_cases {t : List Nat} {S : zS4} (hc : zSC S) : (zmany S.1 S.2.1 (zSg t S / 6) = 1 ∧ zSx t S = -2) ∨ (2 ≤ zmany S.1 S.2.1 (zSg t S / 6) ∧ zSx t S = nI (zSg t S)) := by
  have hm := zmany_le hc (zSg t S / 6)
  unfold zSx zgx
  by_cases h : zmany S.1 S.2.1 (zSg t S / 6) = 1
  · exact Or.inl ⟨h, if_pos h⟩
  · exact Or.inr ⟨by omega, if_neg h⟩
section NI
variable {M : zM} {a k : Nat} {S : zS4} {t : List Nat}
theorem zWS.to {M' : zM} (h : zWS M k S) (h1 : M'.1 k = M.1 k) (h2 : M'.1 (k + 1) = M.1 (k + 1)) : zWS M' k S := ⟨h.1.to h1 h2, by rw [h1]; exact h.2⟩
theorem zRS.to {M' : zM} (h : zRS M a S) (h1 : M'.1 a = M.1 a) : zRS M' a S := ⟨h.1.to h1, by rw [h1]; exact h.2⟩
theorem c_gS (ht : zCc M a t) (h : zWS M k S) (hc : zSC S) (hk1 : k < a) (hk2 : k + 1 < a) : ∃ M', f4_goesOf a k M = some (zSx t S, M') ∧ ∀ q, q ≠ a + 4 → M'.1 q = M.1 q := by
  obtain ⟨M', h1, h2⟩ := c_goes ht h.1 hc hk1 hk2
  rw [h.2] at h1
  exact ⟨M', h1, h2⟩
theorem c_pass (h : zWS M k S) (hc : zSC S) (hk : k ≠ 38) : ∃ M', f7_passNight k (zSx t S) M = some M' ∧ zWS M' k (zN1 t S) ∧ ∀ q, q ≠ k → q ≠ k + 1 → q ≠ 39 → M'.1 q = M.1 q := by
  have hg := zSg_thr (t := t) hc
  rcases zSx_cases (t := t) hc with ⟨h1, h2⟩ | ⟨h1, h2⟩
  · refine ⟨zsi M k 2 (M.1 k 2 + 1), ?_, ?_, fun q h1 h2 _ => ?_⟩
    · rw [h2, f7_passNight, if_pos (by decide), f7_passNight_17]
    · rw [zN1, if_pos h1]
      refine ⟨⟨by simp [zsi1, h.1.1], by simp [zsi1, h.1.2.1], fun i hi => by simpa [zsi1] using h.1.2.2.1 i hi, fun i hi => by simpa [zsi1] using h.1.2.2.2 i hi⟩, by simp [zsi1, h.2]⟩
    · funext j
      simp [zsi1, h1]
  · have hm := zmany_le hc (zSg t S / 6)
    obtain ⟨M', y1, y2, y3⟩ := c_draw h.1 hc (kd := zSg t S / 6) (by omega) hg.2 h1
    have o := o_X7_drawOut y1
    refine ⟨zsi M' k 2 (M'.1 k 2 + 1), ?_, ?_, fun q h1 h2 h3 => ?_⟩
    · rw [h2, f7_passNight, if_neg (nI_pos (by omega)), zl6, nI_div (by omega) (by omega) (by omega), nI_rem (by omega) (by omega) (by omega), y1, Option.bind_some, f7_passNight_17]
    · rw [zN1, if_neg (by omega)]
      refine ⟨⟨by simp [zsi1, y2.1], by simp [zsi1, y2.2.1], fun i hi => by simpa [zsi1] using y2.2.2.1 i hi, fun i hi => by simpa [zsi1] using y2.2.2.2 i hi⟩, by simp [zsi1, y3, h.2]⟩
    · funext j
      rw [zsi1, if_neg (fun q2 => h1 q2.1), (o.1 q (by simp [h1, h2]) h3).1]
theorem r_gS (ht : zCr M t) (h : zRS M a S) (hc : zSC S) (ha : a < 44) (ha2 : a ≠ 39) : ∃ M', f9_nightGoes a M = some (zSx t S, M') ∧ zRS M' a (zN1 t S) ∧ ∀ q, q ≠ 47 → q ≠ 48 → q ≠ a → q ≠ 39 → M'.1 q = M.1 q := by
  obtain ⟨M1, y1, y2⟩ := r_next ht h.1 hc ha ha2
  rw [h.2] at y1
  have hR := h.to (y2 a (by omega) (by omega))
  have hg := zSg_thr (t := t) hc
  rcases zSx_cases (t := t) hc with ⟨h1, h2⟩ | ⟨h1, h2⟩
  · refine ⟨zsi M1 a 8 (M1.1 a 8 + 1), ?_, ?_, fun q h1 h2 h3 _ => ?_⟩
    · rw [f9_nightGoes, show f9_nextOf a M = some (zSx t S, M1) from y1, Option.bind_some, h2]
      rfl
    · rw [zN1, if_pos h1]
      have hp := hc.2.1
      refine ⟨⟨by simp [zsi1, hR.1.1], by simp [zsi1, hR.1.2.1], fun i hi => by rw [zsi1, if_neg (by omega)]; exact hR.1.2.2 i hi⟩, by simp [zsi1, hR.2]⟩
    · funext j
      rw [zsi1, if_neg (fun q2 => h3 q2.1), y2 q h1 h2]
  · have hm := zmany_le hc (zSg t S / 6)
    obtain ⟨M', z1, z2, z3⟩ := r_goes hR.1 hc.2.1 (fun i hi => zCl.lt64 hc i) (kd := zSg t S / 6) (by omega) hg.2 hc.2.2.2.1
    have o := o_X9_goes z1
    refine ⟨zsi M' a 8 (M'.1 a 8 + 1), ?_, ?_, fun q h1 h2 h3 h4 => ?_⟩
    · rw [f9_nightGoes, show f9_nextOf a M = some (zSx t S, M1) from y1, Option.bind_some, h2]
      simp only []
      rw [if_neg (nI_pos (by omega)), zl6, nI_div (by omega) (by omega) (by omega), nI_rem (by omega) (by omega) (by omega), z1]
      rfl
    · rw [zN1, if_neg (by omega)]
      have hp : zdP S.1 (zSg t S / 6) ≤ 6 := by have := hc.2.1; unfold zdP; split <;> omega
      refine ⟨⟨by simp [zsi1, z2.1], by simp [zsi1, z2.2.1], fun i hi => by rw [zsi1, if_neg (by omega)]; exact z2.2.2 i hi⟩, by simp [zsi1, z3, hR.2]⟩
    · funext j
      rw [zsi1, if_neg (fun q2 => h3 q2.1), (o.1 q (by simp [h3]) h4).1, y2 q h1 h2]
/-- the reference: n nights -/
theorem r_nights (ht : zCr M t) (h : zRS M a S) (hc : zSC S) (ha : a < 44) (ha2 : a ≠ 39) {n : Nat} (hn : n < 100) : ∃ M', f9_goesOn a (nI n) M = some M' ∧ zRS M' a (zNn t n S) := by
  rw [f9_goesOn]
  refine zloopP (F := fun f j x => f9_goesOn_2 a f (nI n) (nI j) x) (I := fun j x => zRS x a (zNn t j S) ∧ zCr x t) (P := fun o => ∃ M', o = some M' ∧ zRS M' a (zNn t n S)) n (by omega) (k0 := 0) (by omega) (fun f j x _ hj hx => Or.inl ?_) (fun f x hx => ⟨x, ?_, hx.1⟩) ⟨h, ht⟩
  · obtain ⟨x1, x2⟩ := hx
    obtain ⟨x', y1, y2, y3⟩ := r_gS x2 x1 (zNn_C hc j) ha ha2
    have o := o_X9_nightGoes y1
    refine ⟨x', ?_, y2, x2.to (o.2 14 (by simp) (by simp; omega)) (o.1 45 (by simp; omega) (by omega)).1⟩
    show f9_goesOn_2 a (f + 1) (nI n) (nI j) x = _
    rw [f9_goesOn_2, if_neg (nI_ge hj (by omega)), y1, Option.bind_some, nI_1]
  · show f9_goesOn_2 a (f + 1) (nI n) (nI n) x = _
    rw [f9_goesOn_2, if_pos (nI_le (Nat.le_refl _) (by omega))]
end NI
