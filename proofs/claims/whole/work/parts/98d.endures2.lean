/-! endures: the calls -/
def zf13 (B : Nat) : Nat := if B = 4096 then 13 else zbc B
def zf0 (B : Nat) : Nat := if B = 4096 then 0 else B
def zfm (B : Nat) : Int32 := if B = 4096 then -1 else nI B
section EO
variable {M : zM} {p e : Nat} {w : Nat → Nat}
theorem zeP_in {h : Nat → Bool} {s : Nat} (hp : p ≤ 6) (hs : zss p e s) : zeP p e h s = !(h (zdf (zall p e) s)) := by
  rw [zeP, beq_iff_eq.mpr ((zss_iff hp).mp hs), Bool.true_and]
theorem zeP_out {h : Nat → Bool} {s : Nat} (hp : p ≤ 6) (hs : ¬ zss p e s) : zeP p e h s = false := by
  rw [zeP, beq_eq_false_iff_ne.mpr (fun q => hs ((zss_iff hp).mpr q)), Bool.false_and]
theorem zbe_next {h : Nat → Bool} {k : Nat} (hp : p ≤ 6) : zbe (zeP p e h) (zsu p (k + 1)) = zbe (zeP p e h) (zsu p k + 1) := by
  have hm := zsu_mono (k := k) hp
  refine zbe_skip (by omega) (fun x h1 h2 => ?_)
  by_cases g : zss p e x
  · have := (zsu_below hp g).mp h2
    omega
  · exact zeP_out hp g
theorem c_end_step (hT : zTq M 24 p e (zHb p e w)) (hp : p ≤ 6) (he : e ≤ 6) {f k : Nat} (hk : k < 2 ^ (p + e)) : f8_endures_30 (f + 1) (nI (zall p e)) (nI (zf13 (zbe (zeP p e (zhb p e w)) (zsu p k)))) (nI (zf0 (zbe (zeP p e (zhb p e w)) (zsu p k)))) (nI (zsu p k)) (nI k) M = if k + 1 < 2 ^ (p + e) then f8_endures_30 f (nI (zall p e)) (nI (zf13 (zbe (zeP p e (zhb p e w)) (zsu p (k + 1))))) (nI (zf0 (zbe (zeP p e (zhb p e w)) (zsu p (k + 1))))) (nI (zsu p (k + 1))) (nI (k + 1)) M else f8_endures_96 (nI (zall p e)) (nI (zf13 (zbe (zeP p e (zhb p e w)) (zsu p (k + 1))))) (nI (zf0 (zbe (zeP p e (zhb p e w)) (zsu p (k + 1))))) M := by
  have hN : 2 ^ (p + e) ≤ 2 ^ 12 := Nat.pow_le_pow_right (by omega) (by omega)
  have hss := zsu_ss hp hk
  have hlt := (zss_lt hp he hss).1
  have hbs := zbc_lt hlt
  have hco := zss_co (e := e) (s := zsu p k) hp
  have o74 : ∀ a b : Int32, f8_endures_74 (f8_endures_30 f) (nI (zall p e)) a b (nI (zsu p k)) (nI k) M = if k + 1 < 2 ^ (p + e) then f8_endures_30 f (nI (zall p e)) a b (nI (zsu p (k + 1))) (nI (k + 1)) M else f8_endures_96 (nI (zall p e)) a b M := by
    intro a b
    rw [f8_endures_74, zsu_s hp he hk, nI_1]
    by_cases g : k + 1 < 2 ^ (p + e)
    · have hs2 := (zss_lt hp he (zsu_ss (e := e) hp g)).1
      rw [if_pos g, if_pos g, if_neg (nI_ne0 (Nat.pos_of_ne_zero (zsu_pos (by omega))) (by omega))]
    · rw [if_neg g, if_neg g, if_pos (show nI 0 = 0 from rfl)]
  rw [zbe_next hp, zbe, zeP_in hp hss, zhb_in hp hco]
  have hB := zbe_lt (zeP p e (zhb p e w)) (zsu p k) (by omega)
  generalize zbe (zeP p e (zhb p e w)) (zsu p k) = B at hB
  have hzf : zf13 B < 14 := by
    unfold zf13
    split
    · omega
    · have := zbc_lt (s := B) (by omega)
      omega
  rw [f8_endures_30, if_neg (show ¬ (4096 : Int32) ≤ nI k from nI_ge (b := 4096) (by omega) (by omega)), bc_n hlt, Option.bind_some]
  by_cases g : zf13 B ≤ zbc (zsu p k)
  · have gn : ¬ (B = 4096 ∨ zbc (zsu p k) < zbc B) := by
      intro q
      unfold zf13 at g
      rcases q with q | q
      · rw [if_pos q] at g
        omega
      · by_cases g2 : B = 4096
        · rw [if_pos g2] at g
          omega
        · rw [if_neg g2] at g
          omega
    rw [if_pos (nI_le g (by omega)), o74, if_neg (show ¬ ((!(zHb p e w (zdf (zall p e) (zsu p k)))) = true ∧ (B = 4096 ∨ zbc (zsu p k) < zbc B)) from fun q => gn q.2)]
  · have gy : B = 4096 ∨ zbc (zsu p k) < zbc B := by
      unfold zf13 at g
      by_cases g2 : B = 4096
      · exact Or.inl g2
      · rw [if_neg g2] at g
        exact Or.inr (by omega)
    rw [if_neg (nI_ge (by omega) (by omega)), nI_xor, zxor_co hp hss, c_isIn hT hp he hco, Option.bind_some]
    cases hb : zHb p e w (zdf (zall p e) (zsu p k))
    · rw [if_pos (show nI (zi false) = 0 from rfl), o74, if_pos (show (!false) = true ∧ (B = 4096 ∨ zbc (zsu p k) < zbc B) from ⟨rfl, gy⟩), zf13, zf0, if_neg (show ¬ zsu p k = 4096 by omega), if_neg (show ¬ zsu p k = 4096 by omega)]
    · rw [if_neg (show ¬ nI (zi true) = 0 by decide), o74, if_neg (show ¬ ((!true) = true ∧ (B = 4096 ∨ zbc (zsu p k) < zbc B)) from fun q => absurd q.1 (by decide))]
theorem c_end_all (hT : zTq M 24 p e (zHb p e w)) (hc : zCl p e w) {P : Option (Int32 × zM) → Prop} (hP : P (f8_endures_96 (nI (zall p e)) (nI (zf13 (zbe (zeP p e (zhb p e w)) (zall p e + 1)))) (nI (zf0 (zbe (zeP p e (zhb p e w)) (zall p e + 1)))) M)) : P (f8_endures_30 zfuel (nI (zall p e)) 13 0 0 0 M) := by
  obtain ⟨c1, c2, c3, c4, c5, c6⟩ := id hc
  have hN : 2 ^ (p + e) ≤ 2 ^ 12 := Nat.pow_le_pow_right (by omega) (by omega)
  have hN1 := Nat.two_pow_pos (p + e)
  have hal := zsu_last (e := e) c2
  rw [show f8_endures_30 zfuel (nI (zall p e)) 13 0 0 0 M = f8_endures_30 zfuel (nI (zall p e)) (nI (zf13 (zbe (zeP p e (zhb p e w)) (zsu p 0)))) (nI (zf0 (zbe (zeP p e (zhb p e w)) (zsu p 0)))) (nI (zsu p 0)) (nI 0) M by rw [zsu_0]; rfl]
  refine zloopP (σ := Unit) (F := fun f k _ => f8_endures_30 f (nI (zall p e)) (nI (zf13 (zbe (zeP p e (zhb p e w)) (zsu p k)))) (nI (zf0 (zbe (zeP p e (zhb p e w)) (zsu p k)))) (nI (zsu p k)) (nI k) M) (I := fun k _ => k < 2 ^ (p + e)) (P := P) (2 ^ (p + e)) (by omega) (k0 := 0) (by omega) (fun f k x _ hk _ => ?_) (fun f x hx => absurd hx (by omega)) (x := ()) hN1
  have st := c_end_step (f := f) hT c2 c4 hk
  by_cases g : k + 1 < 2 ^ (p + e)
  · rw [if_pos g] at st
    exact Or.inl ⟨(), st, g⟩
  · rw [if_neg g] at st
    refine Or.inr ?_
    rw [st, zbe_next c2, show k = 2 ^ (p + e) - 1 by omega, hal]
    exact hP
/-- the reference: the longest taking of one set -/
theorem r_long_in {h : Nat → Bool} {A s : Nat} (hA : A < 4096) (hs : s ≤ A) (h56 : ∀ j, j ≤ A → M.1 56 j = nI (zi (h j))) (h58 : ∀ j, j < s → M.1 58 j = nI (zLi h j)) (h0 : M.1 58 s = nI 0) {v2 : Int32} {K : Int32 → Int32 → Int32 → zM → Option (Int32 × zM)} : ∃ M', f9_endures_90 K zfuel (nI A) v2 (nI s) 0 M = K (nI A) v2 (nI s) M' ∧ M'.1 56 = M.1 56 ∧ ∀ j, j < s + 1 → M'.1 58 j = nI (zLi h j) := by
  refine zloopP (F := fun f t x => f9_endures_90 K f (nI A) v2 (nI s) (nI t) x) (I := fun t x => x.1 56 = M.1 56 ∧ (∀ j, j < s → x.1 58 j = nI (zLi h j)) ∧ x.1 58 s = nI (zLs h (zLi h) s t)) (P := fun o => ∃ M', o = K (nI A) v2 (nI s) M' ∧ M'.1 56 = M.1 56 ∧ ∀ j, j < s + 1 → M'.1 58 j = nI (zLi h j)) 12 (by omega) (k0 := 0) (by omega) (fun f t x _ ht hx => Or.inl ?_) (fun f x hx => ?_) (x := M) ⟨rfl, h58, h0⟩
  · obtain ⟨x1, x2, x3⟩ := hx
    have hb := zLs_le h s (by omega) t (by omega)
    have fin : ∀ v : Nat, v = zLs h (zLi h) s (t + 1) → ∃ y, f9_endures_158 (f9_endures_90 K f) (nI A) v2 (nI s) (nI t) (nI s) (nI v) x = f9_endures_90 K f (nI A) v2 (nI s) (nI (t + 1)) y ∧ y.1 56 = M.1 56 ∧ (∀ j, j < s → y.1 58 j = nI (zLi h j)) ∧ y.1 58 s = nI (zLs h (zLi h) s (t + 1)) := by
      intro v hv
      refine ⟨zsi x 58 s (nI v), ?_, by rw [zsi_ne (by omega), x1], fun j hj => ?_, by simp [zsi1, hv]⟩
      · rw [f9_endures_158, zpI_n (by omega) (by omega), Option.bind_some, nI_1]
      · rw [zsi1, if_neg (by omega)]
        exact x2 j hj
    have hb1 : zLs h (zLi h) s (t + 1) = if (s.testBit t && h (zdf s (2 ^ t))) = true then max (zLs h (zLi h) s t) (zLi h (zdf s (2 ^ t)) + 1) else zLs h (zLi h) s t := rfl
    show ∃ y, f9_endures_90 K (f + 1) (nI A) v2 (nI s) (nI t) x = _ ∧ _
    rw [f9_endures_90, if_neg (show ¬ (12 : Int32) ≤ nI t from nI_ge (b := 12) (by omega) (by omega)), r_has12 (by omega) ht, Option.bind_some]
    cases g : s.testBit t
    · rw [if_pos (show nI (zi false) = 0 from rfl), f9_endures_152, zaI_n (by omega) (by omega), x3, Option.bind_some]
      exact fin _ (by rw [hb1, g, Bool.false_and, if_neg (by decide)])
    · have hd := zdf_lt g
      rw [if_neg (show ¬ nI (zi true) = 0 by decide), nI_rest (by omega) ht, zaI_n (by omega) (by omega), x1, h56 _ (by omega), Option.bind_some]
      cases g2 : h (zdf s (2 ^ t))
      · rw [if_pos (show nI (zi false) = 0 from rfl), f9_endures_152, zaI_n (by omega) (by omega), x3, Option.bind_some]
        exact fin _ (by rw [hb1, g, g2, if_neg (by decide)])
      · have hl := zLi_le h 4096 (zdf s (2 ^ t)) (by omega)
        have hbc := zbc_lt (s := zdf s (2 ^ t)) (by omega)
        rw [if_neg (show ¬ nI (zi true) = 0 by decide), zaI_n (by omega) (by omega), x3, Option.bind_some, zaI_n (by omega) (by omega), x2 _ hd, Option.bind_some, nI_1, zmax_n (by omega) (by omega)]
        exact fin _ (by rw [hb1, g, g2, if_pos (by decide)])
  · obtain ⟨x1, x2, x3⟩ := hx
    refine ⟨x, ?_, x1, fun j hj => ?_⟩
    · show f9_endures_90 K (f + 1) (nI A) v2 (nI s) (nI 12) x = _
      rw [f9_endures_90, if_pos (by decide)]
    · by_cases g : j = s
      · rw [g, x3, ← zLi_e]
      · exact x2 j (by omega)
theorem r_end_step {h : Nat → Bool} {f s : Nat} {x : zM} (hp : p ≤ 6) (hA : zall p e < 4096) (hs : s ≤ zall p e) (h56 : ∀ j, j ≤ zall p e → x.1 56 j = nI (zi (h j))) (h58 : ∀ j, j < s → x.1 58 j = nI (zLi h j)) : ∃ y, f9_endures_21 (f + 1) (nI (zall p e)) (zfm (zbe (zeP p e h) s)) (nI s) x = f9_endures_21 f (nI (zall p e)) (zfm (zbe (zeP p e h) (s + 1))) (nI (s + 1)) y ∧ y.1 56 = x.1 56 ∧ ∀ j, j < s + 1 → y.1 58 j = nI (zLi h j) := by
  have hB := zbe_lt (zeP p e h) s (by omega)
  have hbs := zbc_lt (s := s) (by omega)
  have o79 : ∃ y, f9_endures_79 (f9_endures_21 f) (nI (zall p e)) (nI s) (zfm (zbe (zeP p e h) (s + 1))) x = f9_endures_21 f (nI (zall p e)) (zfm (zbe (zeP p e h) (s + 1))) (nI (s + 1)) y ∧ y.1 56 = x.1 56 ∧ ∀ j, j < s + 1 → y.1 58 j = nI (zLi h j) := by
    obtain ⟨y, y1, y2, y3⟩ := r_long_in (M := zsi x 58 s 0) (h := h) (K := f9_endures_165 (f9_endures_21 f)) (v2 := zfm (zbe (zeP p e h) (s + 1))) hA hs (fun j hj => by rw [zsi_ne (by omega)]; exact h56 j hj) (fun j hj => by rw [zsi1, if_neg (by omega)]; exact h58 j hj) (by simp [zsi1, nI_0])
    refine ⟨y, ?_, by rw [y2, zsi_ne (by omega)], y3⟩
    rw [f9_endures_79, zpI_n (by omega) (by omega), Option.bind_some, y1, f9_endures_165, nI_1]
  have e52 : ∀ b : Bool, b = zeP p e h s → f9_endures_52 (f9_endures_21 f) (nI (zall p e)) (zfm (zbe (zeP p e h) s)) (nI s) (nI (zi b)) x = f9_endures_79 (f9_endures_21 f) (nI (zall p e)) (nI s) (zfm (zbe (zeP p e h) (s + 1))) x := by
    intro b hb
    rw [zbe, ← hb, f9_endures_52]
    generalize zbe (zeP p e h) s = B at hB
    cases b
    · rw [if_pos (show nI (zi false) = 0 from rfl), if_neg (fun q => absurd q.1 (by decide)), f9_endures_78]
    · rw [if_neg (show ¬ nI (zi true) = 0 by decide)]
      by_cases g : B = 4096
      · rw [if_pos (show true = true ∧ (B = 4096 ∨ zbc s < zbc B) from ⟨rfl, Or.inl g⟩), zfm, if_pos g, if_pos (by decide), zfm, if_neg (show ¬ s = 4096 by omega)]
      · have hbB := zbc_lt (s := B) (by omega)
        rw [zfm, if_neg g, if_neg (nI_pos (by omega)), bc_n (by omega), Option.bind_some, bc_n (by omega), Option.bind_some]
        by_cases g2 : zbc B ≤ zbc s
        · rw [if_pos (nI_le g2 (by omega)), if_neg (show ¬ (true = true ∧ (B = 4096 ∨ zbc s < zbc B)) from fun q => q.2.elim g (fun r => by omega)), zfm, if_neg g]
        · rw [if_neg (nI_ge (by omega) (by omega)), if_pos (show true = true ∧ (B = 4096 ∨ zbc s < zbc B) from ⟨rfl, Or.inr (by omega)⟩), zfm, if_neg (show ¬ s = 4096 by omega)]
  obtain ⟨y, y1, y2⟩ := o79
  refine ⟨y, ?_, y2⟩
  rw [f9_endures_21, if_neg (nI_nlt (by omega) (by omega)), nI_andn _ (by omega)]
  by_cases g : zss p e s
  · have hd := zdf_le (zall p e) s
    have es : (if nI (zi (h (zdf (zall p e) s))) = 0 then (1 : Int32) else 0) = nI (zi (!(h (zdf (zall p e) s)))) := by
      cases h (zdf (zall p e) s) <;> rfl
    rw [if_pos (by rw [(zss_df hp).mpr g]; rfl), nI_andn _ (by omega), zaI_n (by omega) (by omega), h56 _ (by omega), Option.bind_some, es, e52 _ (zeP_in hp g).symm, y1]
  · have hd : zdf s (zall p e) ≤ s := zdf_le s _
    rw [if_neg (nI_ne0 (Nat.pos_of_ne_zero (fun q => g ((zss_df hp).mp q))) (by omega)), show (0 : Int32) = nI (zi false) from rfl, e52 _ (zeP_out hp g).symm, y1]
theorem zbe_end {h : Nat → Bool} (hA : zall p e < 4096) (h0 : h 0 = false) : zbe (zeP p e h) (zall p e + 1) < 4096 := by
  have hB := zbe_lt (zeP p e h) (zall p e) (by omega)
  have hP : zeP p e h (zall p e) = true := by
    rw [zeP, Nat.and_self, beq_self_eq_true, Bool.true_and]
    unfold zdf
    rw [Nat.and_self, Nat.xor_self, h0]
    rfl
  rw [zbe]
  split
  · exact hA
  · rename_i q
    rcases hB with hB | hB
    · exact absurd ⟨hP, Or.inl hB⟩ q
    · omega
theorem r_endures {h : Nat → Bool} (hp : p ≤ 6) (hA : zall p e < 4096) (h0 : h 0 = false) (h56 : ∀ j, j ≤ zall p e → M.1 56 j = nI (zi (h j))) : ∃ M', f9_endures_21 zfuel (nI (zall p e)) (-1) 0 M = some (nI (zbc (zbe (zeP p e h) (zall p e + 1))), M') ∧ zR9 M' [(nI (zbe (zeP p e h) (zall p e + 1))).toInt64, (nI (if h (zall p e) = true then zLi h (zall p e) else 0)).toInt64] := by
  have hE := zbe_end hA h0
  refine zloopP (F := fun f s x => f9_endures_21 f (nI (zall p e)) (zfm (zbe (zeP p e h) s)) (nI s) x) (I := fun s x => x.1 56 = M.1 56 ∧ ∀ j, j < s → x.1 58 j = nI (zLi h j)) (P := fun o => ∃ M', o = some (nI (zbc (zbe (zeP p e h) (zall p e + 1))), M') ∧ zR9 M' [(nI (zbe (zeP p e h) (zall p e + 1))).toInt64, (nI (if h (zall p e) = true then zLi h (zall p e) else 0)).toInt64]) (zall p e + 1) (by omega) (k0 := 0) (by omega) (fun f s x _ hs hx => Or.inl ?_) (fun f x hx => ?_) (x := M) ⟨rfl, fun j hj => absurd hj (by omega)⟩
  · obtain ⟨y, y1, y2, y3⟩ := r_end_step (f := f) hp hA (by omega) (fun j hj => by rw [hx.1]; exact h56 j hj) hx.2
    exact ⟨y, y1, by rw [y2, hx.1], y3⟩
  · obtain ⟨x1, x2⟩ := hx
    obtain ⟨M1, y1, y2⟩ := r_tell (nI (zbe (zeP p e h) (zall p e + 1))).toInt64 x
    have oy := o_X9_enters y1
    have q56 : M1.1 56 (zall p e) = nI (zi (h (zall p e))) := by
      rw [(oy.1 56 (by simp) (by simp)).1, zsi_ne (by omega), x1, h56 _ (Nat.le_refl _)]
    have q58 : M1.1 58 (zall p e) = nI (zLi h (zall p e)) := by
      rw [(oy.1 58 (by simp) (by simp)).1, zsi_ne (by omega), x2 _ (by omega)]
    obtain ⟨M2, z1, z2⟩ := y2.add (by simp) (nI (if h (zall p e) = true then zLi h (zall p e) else 0)).toInt64
    refine ⟨M2, ?_, z2⟩
    show f9_endures_21 (f + 1) (nI (zall p e)) (zfm (zbe (zeP p e h) (zall p e + 1))) (nI (zall p e + 1)) x = _
    rw [f9_endures_21, if_pos (nI_lt (by omega) (by omega)), zfm, if_neg (by omega), y1, Option.bind_some, zaI_n (by omega) (by omega), q56, Option.bind_some]
    cases hh : h (zall p e)
    · rw [hh, if_neg (by decide)] at z1
      rw [if_pos (show nI (zi false) = 0 from rfl), f9_endures_203, show (0 : Int64) = (nI 0).toInt64 from rfl, z1, Option.bind_some, bc_n hE, Option.bind_some]
    · rw [hh, if_pos rfl] at z1
      rw [if_neg (show ¬ nI (zi true) = 0 by decide), zaI_n (by omega) (by omega), q58, Option.bind_some, f9_endures_203, z1, Option.bind_some, bc_n hE, Option.bind_some]
end EO
theorem zTab_to {M M' : zM} {p e : Nat} {w : Nat → Nat} (h : zTab M p e w) (h1 : M'.2 24 = M.2 24) (h2 : M'.1 26 = M.1 26) : zTab M' p e w := by
  simp only [zTab, h1, h2]
  exact h
theorem zP_endures_ok : zP_endures zInv := by
  intro c M hc h
  obtain ⟨p, e, w, hA⟩ := h.1
  obtain ⟨hc1, hW, hR, hN⟩ := id hA
  have hp6 := hc1.2.1
  have he6 := hc1.2.2.2.1
  have hall := zall_lt (w := w) hc1
  obtain ⟨M1, k1, k2, k3⟩ := c_tabulate hW hc1 h.2.2.2.2.2.2.2
  have o1 := o_X0_tabulate k1
  have hW1 : zWc M1 1 p e w := hW.to (o1.1 1 (by simp) (by simp)).1 (o1.1 2 (by simp) (by simp)).1
  have hT := zTab_q hp6 he6 k2
  have h0 : zhb p e w 0 = false := by
    rw [zhb_in hp6 ⟨by have := Nat.two_pow_pos p; omega, by have := Nat.two_pow_pos e; omega⟩]
    exact decide_eq_false (fun q => q.1 rfl)
  have hE := zbe_end hall h0
  obtain ⟨M2, k4⟩ := c_longest2 hT hc1
  have o2 := o_X0_longestTaking k4
  obtain ⟨M3, k5, k6⟩ := c_tell2 (nI (zbe (zeP p e (zhb p e w)) (zall p e + 1))).toInt64 (nI (if zhb p e w (zall p e) = true then zLi (zhb p e w) (zall p e) else 0)).toInt64 M2
  have o3 := o_X3_tell_ k5
  have h8 : f8_endures M = some (nI (zbc (zbe (zeP p e (zhb p e w)) (zall p e + 1))), M3) := by
    rw [f8_endures, k1, Option.bind_some, c_all hW1 hc1, Option.bind_some]
    refine c_end_all hT hc1 (P := fun o => o = some (nI (zbc (zbe (zeP p e (zhb p e w)) (zall p e + 1))), M3)) ?_
    show f8_endures_96 _ _ _ _ = _
    rw [f8_endures_96, k4, Option.bind_some, zf13, zf0, if_neg (show ¬ zbe (zeP p e (zhb p e w)) (zall p e + 1) = 4096 by omega), if_neg (show ¬ zbe (zeP p e (zhb p e w)) (zall p e + 1) = 4096 by omega)]
    simp only []
    rw [k5, Option.bind_some]
  have o8 := o_X8_endures h8
  have o23 := o2.trans o3
  have t8 : zTab M3 p e w := zTab_to k2 (o23.1 24 (by simp) (by simp)).2 (o23.1 26 (by simp) (by simp)).1
  have v8 : M3.2 21 5 = lN (zshN p e w) := by rw [(o23.1 21 (by simp) (by simp)).2, k3]
  have hR0 : zRr (zsi M3 39 0 0) 41 p e w := zRr_si (hR.to (o8.1 41 (by simp) (by simp)).1) (by decide)
  obtain ⟨X1, y1, y2⟩ := r_laysHangs hR0 hc1
  have oX := o_X9_laysHangs y1
  obtain ⟨X2, q1, q2⟩ := r_endures (M := X1) (h := zhb p e w) hp6 hall h0 y2
  have h9 : f9_endures M3 = some (nI (zbc (zbe (zeP p e (zhb p e w)) (zall p e + 1))), X2) := by
    rw [f9_endures, y1, Option.bind_some, r_all (hR0.to (oX.1 41 (by simp) (by simp)).1) hc1, Option.bind_some, q1]
  have o9 := o_X9_endures h9
  exact ⟨_, _, _, h8, h9, zInv_to h (o8.trans o9) (Or.inl rfl) (Or.inl rfl) (Or.inr ⟨_, zR8_to (o9.same rfl) k6, q2⟩) (Or.inl rfl) (Or.inl rfl) (Or.inl rfl) (Or.inl rfl) (Or.inr (Or.inr ⟨p, e, w, hc1, by rw [(o9.1 21 (by simp) (by simp)).2, v8], zTab_to t8 (o9.1 24 (by simp) (by simp)).2 (o9.1 26 (by simp) (by simp)).1⟩))⟩
