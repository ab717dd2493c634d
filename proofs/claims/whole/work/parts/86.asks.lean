/-! asks: the best question -/
theorem zbc_sum (s : Nat) : zbc s = zsum (fun i => (s.testBit i).toNat) 12 := by
  rw [zsum_congr (fun i _ => Nat.toNat_testBit s i)]
  simp [zbc, List.range, List.range.loop, zsum]
  omega
theorem zsum_mono {g g' : Nat → Nat} {n : Nat} (h : ∀ i, i < n → g i ≤ g' i) : zsum g n ≤ zsum g' n := by
  induction n with
  | zero => exact Nat.le_refl _
  | succ n ih =>
    have := ih (fun i hi => h i (by omega))
    have := h n (by omega)
    rw [zsum, zsum]
    omega
theorem zmax_n {a b : Nat} (ha : a < 2 ^ 31) (hb : b < 2 ^ 31) : zmax (nI a) (nI b) = nI (max a b) := by
  unfold zmax
  by_cases g : a < b
  · rw [if_pos (nI_lt g hb), Nat.max_eq_right (by omega)]
  · rw [if_neg (nI_nlt (by omega) ha), Nat.max_eq_left (by omega)]
def zmo (a : Nat) : Nat := if a = 0 then 1 else if a = 1 then 6 else if a = 3 then 1 else 5
theorem c_mostOf : ∀ a, a < 5 → f5_mostOf (nI a) = some (nI (zmo a)) := by decide +kernel
theorem r_highest : ∀ a, a < 5 → f9_highest (nI a) = some (nI (zmo a)) := by decide +kernel
theorem zmo_le : ∀ a, a < 5 → zmo a ≤ 6 ∧ (a = 3 → zmo a ≤ 1) := by decide
theorem zts_le {p e : Nat} {w : Nat → Nat} {S a b : Nat} : zbc (zts p e w S a b) ≤ zbc S := by
  rw [zbc_sum, zbc_sum]
  apply zsum_mono
  intro i hi
  unfold zts
  rw [zorb_bit]
  cases S.testBit i <;> simp
  exact Bool.toNat_le _
theorem zts_sum {p e : Nat} {w : Nat → Nat} {S a b : Nat} : zsum (fun t => (S.testBit t && zso p e w a b t).toNat) 12 = zbc (zts p e w S a b) := by
  rw [zbc_sum]
  apply zsum_congr
  intro i hi
  unfold zts
  rw [zorb_bit, decide_eq_true hi, Bool.true_and]
def zwk (p e : Nat) (w : Nat → Nat) (S a b : Nat) : Nat := max (zbc (zts p e w S a b)) (zbc S - zbc (zts p e w S a b))
def zak (st : Nat × Nat) (q v : Nat) : Nat × Nat := if st.2 ≤ v then st else (q, v)
def zqb (p e : Nat) (w : Nat → Nat) (S : Nat) (st : Nat × Nat) (a : Nat) : Nat → Nat × Nat
  | 0 => st
  | n + 1 => zak (zqb p e w S st a n) (10 * a + n) (zwk p e w S a n)
def zqa (p e : Nat) (w : Nat → Nat) (S : Nat) : Nat → Nat × Nat
  | 0 => (0, 13)
  | a + 1 => zqb p e w S (zqa p e w S a) a (zmo a + 1)
section AK
variable {M : zM} {p e : Nat} {w : Nat → Nat}
theorem zwk_le {S a b : Nat} (hs : zsb p e S) : zwk p e w S a b ≤ 12 := by
  have h1 := zts_le (p := p) (e := e) (w := w) (S := S) (a := a) (b := b)
  have h2 := zbc_lt (zsb_lt hs)
  unfold zwk
  omega
theorem zqb_ok {S : Nat} (hs : zsb p e S) {st : Nat × Nat} {a : Nat} (ha : a < 5) (h : st.1 < 1000 ∧ st.2 ≤ 13) : ∀ n, n ≤ 7 → (zqb p e w S st a n).1 < 1000 ∧ (zqb p e w S st a n).2 ≤ 13 := by
  intro n
  induction n with
  | zero => exact fun _ => h
  | succ n ih =>
    intro hn
    have h1 := ih (by omega)
    have h2 := zwk_le (w := w) (a := a) (b := n) hs
    rw [zqb, zak]
    split
    · exact h1
    · exact ⟨by omega, by omega⟩
theorem zqa_ok {S : Nat} (hs : zsb p e S) : ∀ a, a ≤ 5 → (zqa p e w S a).1 < 1000 ∧ (zqa p e w S a).2 ≤ 13 := by
  intro a
  induction a with
  | zero => exact fun _ => ⟨show 0 < 1000 by omega, show 13 ≤ 13 by omega⟩
  | succ a ih =>
    intro ha
    have := zmo_le a (by omega)
    exact zqb_ok hs (by omega) (ih (by omega)) _ (by omega)
theorem zqa_lt {S : Nat} (hs : zsb p e S) : (zqa p e w S 5).2 ≤ 12 := by
  have h2 := zwk_le (w := w) (a := 4) (b := 5) hs
  show (zak (zqb p e w S (zqa p e w S 4) 4 5) (10 * 4 + 5) (zwk p e w S 4 5)).2 ≤ 12
  rw [zak]
  split
  · omega
  · exact h2
theorem c_asks {S : Nat} (h : zWc M 1 p e w) (hc : zCl p e w) (hs : zsb p e S) {r : Option (Int32 × zM)} (he : ((f3_tell (Int32.toInt64 (nI (zqa p e w S 5).2)) M).bind fun M1 => some (nI (zqa p e w S 5).1, M1)) = r) : f8_asks_27 zfuel (nI S) 13 0 0 M = r := by
  refine zloop0 (F := fun f a => f8_asks_27 f (nI S) (nI (zqa p e w S a).2) (nI (zqa p e w S a).1) (nI a) M) 5 (by omega) (fun f a ha => ?_) (fun f => ?_)
  · show f8_asks_27 (f + 1) (nI S) _ _ (nI a) M = _
    have h0 := zqa_ok (w := w) hs a (by omega)
    have hm := zmo_le a ha
    rw [f8_asks_27, if_neg (show ¬ (5 : Int32) ≤ nI a from nI_ge (b := 5) (by omega) (by omega))]
    refine zloop0 (F := fun g b => f8_asks_36 (f8_asks_101 (f8_asks_27 f)) g (nI S) (nI (zqb p e w S (zqa p e w S a) a b).2) (nI (zqb p e w S (zqa p e w S a) a b).1) (nI a) (nI b) M) (zmo a + 1) (by omega) (fun g b hb => ?_) (fun g => ?_)
    · show f8_asks_36 _ (g + 1) (nI S) _ _ (nI a) (nI b) M = _
      have h1 := zqb_ok (w := w) hs ha h0 b (by omega)
      have h2 := zwk_le (w := w) (a := a) (b := b) hs
      have h3 := zts_le (p := p) (e := e) (w := w) (S := S) (a := a) (b := b)
      have h4 := zbc_lt (zsb_lt hs)
      have h5 := zsb_lt (zts_sb (w := w) (a := a) (b := b) hs)
      rw [f8_asks_36, c_mostOf a ha, Option.bind_some, if_neg (nI_nlt (by omega) (by omega)), c_those h hc hs ha (by omega) (by omega), Option.bind_some, bc_n h5, Option.bind_some, bc_n (zsb_lt hs), Option.bind_some, nI_sub h3, zmax_n (by omega) (by omega), show max (zbc (zts p e w S a b)) (zbc S - zbc (zts p e w S a b)) = zwk p e w S a b from rfl, show (10 : Int32) = nI 10 from rfl, nI_mul, nI_add, f8_asks_95, f8_asks_95, nI_1, zqb, zak]
      by_cases g2 : (zqb p e w S (zqa p e w S a) a b).2 ≤ zwk p e w S a b
      · rw [if_pos (nI_le g2 (by omega)), if_pos g2]
      · rw [if_neg (nI_ge (by omega) (by omega)), if_neg g2]
    · show f8_asks_36 _ (g + 1) (nI S) _ _ (nI a) (nI (zmo a + 1)) M = _
      rw [f8_asks_36, c_mostOf a ha, Option.bind_some, if_pos (nI_lt (by omega) (by omega)), f8_asks_101, nI_1]
      rfl
  · show f8_asks_27 (f + 1) (nI S) _ _ (nI 5) M = _
    rw [f8_asks_27, if_pos (by decide)]
    exact he
def zr1 (st : Nat × Nat) : Int32 := if st.2 = 13 then -1 else nI st.1
def zr2 (st : Nat × Nat) : Int32 := if st.2 = 13 then 1000000 else nI st.2
theorem zrk_step {st : Nat × Nat} {q v : Nat} (h : st.2 ≤ 13) (hv : v ≤ 12) : (if zr2 st ≤ nI v then zr1 st else nI q) = zr1 (zak st q v) ∧ zmin (zr2 st) (nI v) = zr2 (zak st q v) := by
  by_cases g : st.2 = 13
  · have e1 : zr2 st = nI 1000000 := by rw [zr2, if_pos g]; rfl
    have e2 : zak st q v = (q, v) := by rw [zak, if_neg (by omega)]
    rw [e1, e2, if_neg (nI_ge (by omega) (by omega)), zmin, if_pos (nI_lt (by omega) (by omega)), zr1, zr2, if_neg (show ¬ v = 13 by omega), if_neg (show ¬ v = 13 by omega)]
    exact ⟨rfl, rfl⟩
  · have e1 : zr2 st = nI st.2 := by rw [zr2, if_neg g]
    have e3 : zr1 st = nI st.1 := by rw [zr1, if_neg g]
    rw [e1, e3, zak, zmin]
    by_cases g2 : st.2 ≤ v
    · rw [if_pos (nI_le g2 (by omega)), if_pos g2, if_neg (nI_nlt (by omega) (by omega)), e1, e3]
      exact ⟨rfl, rfl⟩
    · rw [if_neg (nI_ge (by omega) (by omega)), if_neg g2, if_pos (nI_lt (by omega) (by omega)), zr1, zr2, if_neg (show ¬ v = 13 by omega), if_neg (show ¬ v = 13 by omega)]
      exact ⟨rfl, rfl⟩
theorem r_asks {S : Nat} (h : zRr M 41 p e w) (hc : zCl p e w) (hs : zsb p e S) {r : Option (Int32 × zM)} (he : ((f9_enters (Int32.toInt64 (nI (zqa p e w S 5).2)) (zsi M 39 1 0)).bind fun M1 => some (nI (zqa p e w S 5).1, M1)) = r) : f9_asks_26 zfuel (nI S) (-1) 1000000 0 M = r := by
  refine zloop0 (F := fun f a => f9_asks_26 f (nI S) (zr1 (zqa p e w S a)) (zr2 (zqa p e w S a)) (nI a) M) 5 (by omega) (fun f a ha => ?_) (fun f => ?_)
  · show f9_asks_26 (f + 1) (nI S) _ _ (nI a) M = _
    have h0 := zqa_ok (w := w) hs a (by omega)
    have hm := zmo_le a ha
    rw [f9_asks_26, if_neg (show ¬ (5 : Int32) ≤ nI a from nI_ge (b := 5) (by omega) (by omega))]
    refine zloop0 (F := fun g b => f9_asks_35 (f9_asks_145 (f9_asks_26 f)) g (nI S) (zr1 (zqb p e w S (zqa p e w S a) a b)) (zr2 (zqb p e w S (zqa p e w S a) a b)) (nI a) (nI b) M) (zmo a + 1) (by omega) (fun g b hb => ?_) (fun g => ?_)
    · show f9_asks_35 _ (g + 1) (nI S) _ _ (nI a) (nI b) M = _
      have h1 := zqb_ok (w := w) hs ha h0 b (by omega)
      have h2 := zwk_le (w := w) (a := a) (b := b) hs
      have h3 := zts_le (p := p) (e := e) (w := w) (S := S) (a := a) (b := b)
      have h4 := zbc_lt (zsb_lt hs)
      rw [f9_asks_35, r_highest a ha, Option.bind_some, if_neg (nI_nlt (by omega) (by omega))]
      refine zloop0 (F := fun g' t => f9_asks_51 (f9_asks_99 (f9_asks_35 (f9_asks_145 (f9_asks_26 f)) g)) g' (nI S) _ _ (nI a) (nI b) (nI (zsum (fun t => (S.testBit t && zso p e w a b t).toNat) t)) (nI t) M) 12 (by omega) (fun g' t ht => ?_) (fun g' => ?_)
      · show f9_asks_51 _ (g' + 1) (nI S) _ _ (nI a) (nI b) _ (nI t) M = _
        rw [f9_asks_51, if_neg (show ¬ (12 : Int32) ≤ nI t from nI_ge (b := 12) (by omega) (by omega)), r_has12 (zsb_lt hs) ht, Option.bind_some, zsum]
        cases hb1 : S.testBit t
        · rw [if_pos (show nI (zi false) = 0 from rfl), f9_asks_87, show f9_flag 0 = some (nI 0) from rfl, Option.bind_some, nI_add, nI_1]
          rfl
        · obtain ⟨-, hh⟩ := zsb_h hs hb1
          rw [if_neg (show ¬ nI (zi true) = 0 by decide), r_isSo h hc ha (by omega) (by omega) ht hh, Option.bind_some]
          cases zso p e w a b t
          · rw [if_pos (show nI (zi false) = 0 from rfl), f9_asks_87, show f9_flag 0 = some (nI 0) from rfl, Option.bind_some, nI_add, nI_1]
            rfl
          · rw [if_neg (show ¬ nI (zi true) = 0 by decide), f9_asks_87, show f9_flag 1 = some (nI 1) from rfl, Option.bind_some, nI_add, nI_1]
            rfl
      · show f9_asks_51 _ (g' + 1) (nI S) _ _ (nI a) (nI b) _ (nI 12) M = _
        obtain ⟨s1, s2⟩ := zrk_step (st := zqb p e w S (zqa p e w S a) a b) (q := 10 * a + b) (v := zwk p e w S a b) (by omega) h2
        rw [f9_asks_51, if_pos (by decide), f9_asks_99, bc_n (zsb_lt hs), Option.bind_some, zts_sum, nI_sub h3, zmax_n (by omega) (by omega), show max (zbc (zts p e w S a b)) (zbc S - zbc (zts p e w S a b)) = zwk p e w S a b from rfl, show (10 : Int32) = nI 10 from rfl, nI_mul, nI_add, nI_1, s1, s2, zqb]
    · show f9_asks_35 _ (g + 1) (nI S) _ _ (nI a) (nI (zmo a + 1)) M = _
      rw [f9_asks_35, r_highest a ha, Option.bind_some, if_pos (nI_lt (by omega) (by omega)), f9_asks_145, nI_1]
      rfl
  · show f9_asks_26 (f + 1) (nI S) _ _ (nI 5) M = _
    have := zqa_lt (w := w) hs
    rw [f9_asks_26, if_pos (by decide), zr1, zr2, if_neg (by omega), if_neg (by omega)]
    exact he
end AK
theorem zP_asks_ok : zP_asks zInv := by
  intro c M hc h
  obtain ⟨p, e, w, hA⟩ := h.1
  obtain ⟨hc1, hW, hR, hN⟩ := id hA
  obtain ⟨n, a, b, d1, d2, d3, d4⟩ := h.2.2.2.1
  have hsb := zft_sb (w := w) hc1 a b n
  have hlt := zsb_lt hsb
  have c1 := c_fitting hW hc1 d1 d2 (fun i hi => ⟨(d4 i hi).1, (d4 i hi).2.1, (d4 i hi).2.2.1, (d4 i hi).2.2.2.1, (d4 i hi).2.2.2.2.1⟩)
  have r0 : ∀ M', zOut [10, 9] [] M M' → f9_fitting (zsi M' 39 0 0) = some (nI (zft p e w a b n)) := by
    intro M' o8
    have oa := o8.trans (zOut.rf.si 39 0 0 (Or.inr ⟨rfl, by simp⟩) : zOut [] [0] M' (zsi M' 39 0 0))
    exact r_fitting (M := zsi M' 39 0 0) (hR.to (oa.1 41 (by simp) (by simp)).1) hc1 d1 (by rw [oa.2 32 (by simp) (by simp), d3]) (fun i hi => ⟨(d4 i hi).1, (d4 i hi).2.1, (d4 i hi).2.2.1, by rw [(oa.1 60 (by simp) (by simp)).1]; exact (d4 i hi).2.2.2.2.2.1, by rw [(oa.1 61 (by simp) (by simp)).1]; exact (d4 i hi).2.2.2.2.2.2⟩)
  by_cases g0 : zft p e w a b n = 0
  · have h8 : f8_asks M = some (-2, M) := by
      rw [f8_asks, c1, Option.bind_some, g0, if_pos (show nI 0 = 0 from rfl)]
    have r1 := r0 M zOut.rf
    have h9 : f9_asks M = some (-2, zsi M 39 0 0) := by
      rw [f9_asks, r1, Option.bind_some, g0, if_pos (show nI 0 = 0 from rfl)]
    exact ⟨_, _, _, h8, h9, zInv_to h (S := []) (s := [0]) (zOut.rf.si 39 0 0 (Or.inr ⟨rfl, by simp⟩)) (Or.inl rfl) (Or.inl rfl) (Or.inl rfl) (Or.inl rfl) (Or.inl rfl) (Or.inl rfl) (Or.inl rfl) (Or.inl rfl)⟩
  · obtain ⟨M1, k1, k2⟩ := c_tell (nI (zqa p e w (zft p e w a b n) 5).2).toInt64 M
    have h8 : f8_asks M = some (nI (zqa p e w (zft p e w a b n) 5).1, M1) := by
      rw [f8_asks, c1, Option.bind_some, if_neg (nI_ne0 (by omega) (by omega))]
      exact c_asks hW hc1 hsb (by rw [k1]; rfl)
    have o8 := o_X8_asks h8
    have r1 := r0 M1 o8
    have o0 : zOut [] [0] M1 (zsi M1 39 0 0) := zOut.rf.si 39 0 0 (Or.inr ⟨rfl, by simp⟩)
    have oa := o8.trans o0
    obtain ⟨M2, y1, y2⟩ := r_tell (nI (zqa p e w (zft p e w a b n) 5).2).toInt64 (zsi M1 39 0 0)
    have h9 : f9_asks M1 = some (nI (zqa p e w (zft p e w a b n) 5).1, M2) := by
      rw [f9_asks, r1, Option.bind_some, if_neg (nI_ne0 (by omega) (by omega))]
      exact r_asks (hR.to (oa.1 41 (by simp) (by simp)).1) hc1 hsb (by rw [y1]; rfl)
    exact ⟨_, _, _, h8, h9, zq h o8 (o_X9_asks h9) k2 y2 rfl rfl⟩
