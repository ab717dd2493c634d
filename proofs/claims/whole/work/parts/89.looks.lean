/-! looks: in how many cells the mirrored cloth is otherwise -/
def zdd (g : Nat → Nat → Nat) (e : Nat) : Nat → Nat
  | 0 => 0
  | n + 1 => zdd g e n + zsum (g n) e
theorem zxb {x y : Nat} (hx : x < 2) (hy : y < 2) : nI x ^^^ nI y = nI (if x = y then 0 else 1) := by
  rcases (show x = 0 ∨ x = 1 by omega) with rfl | rfl <;> rcases (show y = 0 ∨ y = 1 by omega) with rfl | rfl <;> rfl
theorem zfb {x y : Nat} (hx : x < 2) (hy : y < 2) : f9_flag (if nI x = nI y then (0 : Int32) else 1) = some (nI (if x = y then 0 else 1)) := by
  rcases (show x = 0 ∨ x = 1 by omega) with rfl | rfl <;> rcases (show y = 0 ∨ y = 1 by omega) with rfl | rfl <;> rfl
def zog (p e : Nat) (w : Nat → Nat) (a b i j : Nat) : Nat := if w i / 2 ^ j % 2 = w (if a = 0 then i else p - 1 - i) / 2 ^ (if b = 0 then j else e - 1 - j) % 2 then 0 else 1
def zoa (w : Nat → Nat) (i j : Nat) : Nat := if w i / 2 ^ j % 2 = w j / 2 ^ i % 2 then 0 else 1
theorem zod {p a n : Nat} (hp : p ≤ 6) (ha : a < 2) (hn : n < p) : (if nI a = 0 then nI n else nI p - (1 : Int32) - nI n) = nI (if a = 0 then n else p - 1 - n) ∧ (if a = 0 then n else p - 1 - n) < p := by
  rcases (show a = 0 ∨ a = 1 by omega) with rfl | rfl
  · exact ⟨rfl, by rw [if_pos rfl]; exact hn⟩
  · rw [if_neg (show ¬ nI 1 = 0 by decide), if_neg (by decide), show (1 : Int32) = nI 1 from rfl, nI_sub (by omega), nI_sub (by omega)]
    exact ⟨rfl, by omega⟩
section LK
variable {M : zM} {p e : Nat} {w : Nat → Nat}
theorem c_otherwise (h : zWc M 1 p e w) (hc : zCl p e w) {a b : Nat} (ha : a < 2) (hb : b < 2) : f8_otherwise (nI a) (nI b) M = some (nI (zdd (zog p e w a b) e p)) := by
  obtain ⟨h1, h2, h3, h4, h5, h6⟩ := id hc
  rw [f8_otherwise]
  refine zloop0 (F := fun f n => f8_otherwise_5 f (nI a) (nI b) (nI (zdd (zog p e w a b) e n)) (nI n) M) p (by omega) (fun f n hn => ?_) (fun f => ?_)
  · show f8_otherwise_5 (f + 1) _ _ _ (nI n) M = _
    rw [f8_otherwise_5, h.1, if_neg (nI_ge hn (by omega))]
    refine zloop0 (F := fun g j => f8_otherwise_20 (f8_otherwise_110 (f8_otherwise_5 f)) g (nI a) (nI b) (nI (zdd (zog p e w a b) e n + zsum (zog p e w a b n) j)) (nI n) (nI j) M) e (by omega) (fun g j hj => ?_) (fun g => ?_)
    · show f8_otherwise_20 _ (g + 1) _ _ _ (nI n) (nI j) M = _
      obtain ⟨q1, b1⟩ := zod (p := p) h2 ha hn
      obtain ⟨q2, b2⟩ := zod (p := e) h4 hb hj
      rw [f8_otherwise_20, h.1, h.2.1, if_neg (nI_ge hj (by omega)), q1, q2, c_over h hc hn hj, Option.bind_some, c_over h hc b1 b2, Option.bind_some, zxb (Nat.mod_lt _ (by omega)) (Nat.mod_lt _ (by omega)), nI_add, nI_1, Nat.add_assoc]
      rfl
    · show f8_otherwise_20 _ (g + 1) _ _ _ (nI n) (nI e) M = _
      rw [f8_otherwise_20, h.2.1, if_pos (nI_le (Nat.le_refl _) (by omega)), f8_otherwise_110, nI_1]
      rfl
  · show f8_otherwise_5 (f + 1) _ _ _ (nI p) M = _
    rw [f8_otherwise_5, h.1, if_pos (nI_le (Nat.le_refl _) (by omega))]
theorem c_across (h : zWc M 1 p e w) (hc : zCl p e w) (he : p = e) : f8_otherwiseAcross M = some (nI (zdd (zoa w) e p)) := by
  obtain ⟨h1, h2, h3, h4, h5, h6⟩ := id hc
  rw [f8_otherwiseAcross]
  refine zloop0 (F := fun f n => f8_otherwiseAcross_4 f (nI (zdd (zoa w) e n)) (nI n) M) p (by omega) (fun f n hn => ?_) (fun f => ?_)
  · show f8_otherwiseAcross_4 (f + 1) _ (nI n) M = _
    rw [f8_otherwiseAcross_4, h.1, if_neg (nI_ge hn (by omega))]
    refine zloop0 (F := fun g j => f8_otherwiseAcross_17 (f8_otherwiseAcross_56 (f8_otherwiseAcross_4 f)) g (nI (zdd (zoa w) e n + zsum (zoa w n) j)) (nI n) (nI j) M) e (by omega) (fun g j hj => ?_) (fun g => ?_)
    · show f8_otherwiseAcross_17 _ (g + 1) _ (nI n) (nI j) M = _
      rw [f8_otherwiseAcross_17, h.2.1, if_neg (nI_ge hj (by omega)), c_over h hc hn hj, Option.bind_some, c_over h hc (show j < p by omega) (show n < e by omega), Option.bind_some, zxb (Nat.mod_lt _ (by omega)) (Nat.mod_lt _ (by omega)), nI_add, nI_1, Nat.add_assoc]
      rfl
    · show f8_otherwiseAcross_17 _ (g + 1) _ (nI n) (nI e) M = _
      rw [f8_otherwiseAcross_17, h.2.1, if_pos (nI_le (Nat.le_refl _) (by omega)), f8_otherwiseAcross_56, nI_1]
      rfl
  · show f8_otherwiseAcross_4 (f + 1) _ (nI p) M = _
    rw [f8_otherwiseAcross_4, h.1, if_pos (nI_le (Nat.le_refl _) (by omega))]
theorem zhw : ∀ a, a < 2 → ∀ b, b < 2 → f9_has (nI (a + 2 * b)) 0 = some (nI a) ∧ f9_has (nI (a + 2 * b)) 1 = some (nI b) ∧ f9_has (nI (a + 2 * b)) 2 = some 0 := by decide +kernel
theorem r_turned (h : zRr M 41 p e w) (hc : zCl p e w) {a b : Nat} (ha : a < 2) (hb : b < 2) : f9_turned (nI (a + 2 * b)) M = some (nI (zdd (zog p e w a b) e p)) := by
  obtain ⟨h1, h2, h3, h4, h5, h6⟩ := id hc
  obtain ⟨g1, g2, g3⟩ := zhw a ha b hb
  rw [f9_turned]
  refine zloop0 (F := fun f n => f9_turned_4 f (nI (a + 2 * b)) (nI (zdd (zog p e w a b) e n)) (nI n) M) p (by omega) (fun f n hn => ?_) (fun f => ?_)
  · show f9_turned_4 (f + 1) _ _ (nI n) M = _
    rw [f9_turned_4, h.1, if_neg (nI_ge hn (by omega))]
    refine zloop0 (F := fun g j => f9_turned_18 (f9_turned_147 (f9_turned_4 f)) g (nI (a + 2 * b)) (nI (zdd (zog p e w a b) e n + zsum (zog p e w a b n) j)) (nI n) (nI j) M) e (by omega) (fun g j hj => ?_) (fun g => ?_)
    · show f9_turned_18 _ (g + 1) _ _ (nI n) (nI j) M = _
      obtain ⟨q1, b1⟩ := zod (p := p) h2 ha hn
      obtain ⟨q2, b2⟩ := zod (p := e) h4 hb hj
      rw [f9_turned_18, h.1, h.2.1, if_neg (nI_ge hj (by omega)), g1, Option.bind_some, g2, Option.bind_some, zaI_n (by omega) (by omega), h.2.2 n hn, Option.bind_some, has_n _ (hc.lt64 n) j (by omega), Option.bind_some, g3, Option.bind_some, if_pos rfl, q1, zaI_n (by omega) (by omega), h.2.2 _ b1, Option.bind_some, q2, has_n _ (hc.lt64 _) _ (by omega), Option.bind_some, zfb (Nat.mod_lt _ (by omega)) (Nat.mod_lt _ (by omega)), Option.bind_some, nI_add, nI_1, Nat.add_assoc]
      rfl
    · show f9_turned_18 _ (g + 1) _ _ (nI n) (nI e) M = _
      rw [f9_turned_18, h.2.1, if_pos (nI_le (Nat.le_refl _) (by omega)), f9_turned_147, nI_1]
      rfl
  · show f9_turned_4 (f + 1) _ _ (nI p) M = _
    rw [f9_turned_4, h.1, if_pos (nI_le (Nat.le_refl _) (by omega))]
theorem zhw4 : f9_has (nI 4) 0 = some 0 ∧ f9_has (nI 4) 1 = some 0 ∧ f9_has (nI 4) 2 = some 1 := by decide +kernel
theorem r_turned4 (h : zRr M 41 p e w) (hc : zCl p e w) (he : p = e) : f9_turned (nI 4) M = some (nI (zdd (zoa w) e p)) := by
  obtain ⟨h1, h2, h3, h4, h5, h6⟩ := id hc
  obtain ⟨g1, g2, g3⟩ := zhw4
  rw [f9_turned]
  refine zloop0 (F := fun f n => f9_turned_4 f (nI 4) (nI (zdd (zoa w) e n)) (nI n) M) p (by omega) (fun f n hn => ?_) (fun f => ?_)
  · show f9_turned_4 (f + 1) _ _ (nI n) M = _
    rw [f9_turned_4, h.1, if_neg (nI_ge hn (by omega))]
    refine zloop0 (F := fun g j => f9_turned_18 (f9_turned_147 (f9_turned_4 f)) g (nI 4) (nI (zdd (zoa w) e n + zsum (zoa w n) j)) (nI n) (nI j) M) e (by omega) (fun g j hj => ?_) (fun g => ?_)
    · show f9_turned_18 _ (g + 1) _ _ (nI n) (nI j) M = _
      rw [f9_turned_18, h.2.1, if_neg (nI_ge hj (by omega)), g1, Option.bind_some, g2, Option.bind_some, zaI_n (by omega) (by omega), h.2.2 n hn, Option.bind_some, has_n _ (hc.lt64 n) j (by omega), Option.bind_some, g3, Option.bind_some, if_neg (by decide), zaI_n (by omega) (by omega), h.2.2 j (by omega), Option.bind_some, has_n _ (hc.lt64 _) _ (by omega), Option.bind_some, zfb (Nat.mod_lt _ (by omega)) (Nat.mod_lt _ (by omega)), Option.bind_some, nI_add, nI_1, Nat.add_assoc]
      rfl
    · show f9_turned_18 _ (g + 1) _ _ (nI n) (nI e) M = _
      rw [f9_turned_18, h.2.1, if_pos (nI_le (Nat.le_refl _) (by omega)), f9_turned_147, nI_1]
      rfl
  · show f9_turned_4 (f + 1) _ _ (nI p) M = _
    rw [f9_turned_4, h.1, if_pos (nI_le (Nat.le_refl _) (by omega))]
end LK
theorem lk_step {f k : Nat} {v1 s0 : Int32} {X X' : zM} (hk : k < 4) (t : f9_turned (nI k) X = some s0) (y : f9_enters s0.toInt64 X = some X') : f9_looks_14 (f + 1) v1 (nI k) X = f9_looks_14 f (v1 ||| (if s0 = 0 then zshl 1 (nI k - 1) else 0)) (nI (k + 1)) X' := by
  rw [f9_looks_14, if_neg (show ¬ (5 : Int32) ≤ nI k from nI_ge (b := 5) (by omega) (by omega)), if_pos (show nI k < (4 : Int32) from nI_lt (b := 4) (by omega) (by omega)), f9_looks_41, t, Option.bind_some, f9_looks_50, y, Option.bind_some, nI_1]
theorem lk_val (c1 c2 c3 c4 : Prop) [Decidable c1] [Decidable c2] [Decidable c3] [Decidable c4] : (((((0 : Int32) ||| (if c1 then zshl 1 (nI 1 - 1) else 0)) ||| (if c2 then zshl 1 (nI 2 - 1) else 0)) ||| (if c3 then zshl 1 (nI 3 - 1) else 0)) ||| (if c4 then zshl 1 (nI 4 - 1) else 0)) = ((((if c1 then (1 : Int32) else 0) + (if c2 then 2 else 0)) + (if c3 then 4 else 0)) + (if c4 then 8 else 0)) := by
  by_cases h1 : c1 <;> by_cases h2 : c2 <;> by_cases h3 : c3 <;> by_cases h4 : c4 <;> simp only [h1, h2, h3, h4, ↓reduceIte] <;> rfl
theorem zP_looks_ok : zP_looks zInv := by
  intro c M hc h
  obtain ⟨p, e, w, hA⟩ := h.1
  obtain ⟨hc1, hW, hR, hN⟩ := id hA
  obtain ⟨h1, h2, h3, h4, h5, h6⟩ := id hc1
  obtain ⟨s4, hs4⟩ : ∃ s4 : Int32, s4 = if p = e then nI (zdd (zoa w) e p) else -1 := ⟨_, rfl⟩
  obtain ⟨A, hA1⟩ : ∃ A : Int32, A = nI (zdd (zog p e w 1 0) e p) := ⟨_, rfl⟩
  obtain ⟨B, hB1⟩ : ∃ A : Int32, A = nI (zdd (zog p e w 0 1) e p) := ⟨_, rfl⟩
  obtain ⟨C, hC1⟩ : ∃ A : Int32, A = nI (zdd (zog p e w 1 1) e p) := ⟨_, rfl⟩
  have cA : f8_otherwise 1 0 M = some A := by rw [hA1]; exact c_otherwise (a := 1) (b := 0) hW hc1 (by omega) (by omega)
  have cB : f8_otherwise 0 1 M = some B := by rw [hB1]; exact c_otherwise (a := 0) (b := 1) hW hc1 (by omega) (by omega)
  have cC : f8_otherwise 1 1 M = some C := by rw [hC1]; exact c_otherwise (a := 1) (b := 1) hW hc1 (by omega) (by omega)
  obtain ⟨N1, k1, k2⟩ := c_tell2 A.toInt64 B.toInt64 M
  obtain ⟨N2, k3, k4⟩ := k2.add (by simp) C.toInt64
  obtain ⟨N3, k5, k6⟩ := k4.add (by simp) s4.toInt64
  have h8 : f8_looks M = some (((((if A = 0 then (1 : Int32) else 0) + (if B = 0 then 2 else 0)) + (if C = 0 then 4 else 0)) + (if s4 = 0 then 8 else 0)), N3) := by
    have key : f8_looks M = f8_looks_46 A B C s4 M := by
      rw [f8_looks, cA, Option.bind_some, cB, Option.bind_some, cC, Option.bind_some, hW.1, hW.2.1]
      by_cases g : p = e
      · rw [if_pos (by rw [g]), c_across hW hc1 g, Option.bind_some, hs4, if_pos g]
      · rw [if_neg (nI_ne g (by omega) (by omega)), hs4, if_neg g]
    rw [key, f8_looks_46, k1, Option.bind_some, k3, Option.bind_some, k5, Option.bind_some]
  have o8 := o_X8_looks h8
  have hR0 : zRr (zsi (zsi N3 39 0 0) 39 1 0) 41 p e w := zRr_si (zRr_si (hR.to (o8.1 41 (by simp) (by simp)).1) (by decide)) (by decide)
  obtain ⟨X1, y1, z1⟩ := (zR9_nil (zsi N3 39 0 0)).add (by simp) A.toInt64
  have hR1 : zRr X1 41 p e w := hR0.to ((o_X9_enters y1).1 41 (by simp) (by simp)).1
  obtain ⟨X2, y2, z2⟩ := z1.add (by simp) B.toInt64
  have hR2 : zRr X2 41 p e w := hR1.to ((o_X9_enters y2).1 41 (by simp) (by simp)).1
  obtain ⟨X3, y3, z3⟩ := z2.add (by simp) C.toInt64
  have hR3 : zRr X3 41 p e w := hR2.to ((o_X9_enters y3).1 41 (by simp) (by simp)).1
  obtain ⟨X4, y4, z4⟩ := z3.add (by simp) s4.toInt64
  have tA : f9_turned (nI 1) (zsi (zsi N3 39 0 0) 39 1 0) = some A := by rw [hA1]; exact r_turned (a := 1) (b := 0) hR0 hc1 (by omega) (by omega)
  have tB : f9_turned (nI 2) X1 = some B := by rw [hB1]; exact r_turned (a := 0) (b := 1) hR1 hc1 (by omega) (by omega)
  have tC : f9_turned (nI 3) X2 = some C := by rw [hC1]; exact r_turned (a := 1) (b := 1) hR2 hc1 (by omega) (by omega)
  have s4th : ∀ f v1, f9_looks_14 (f + 1) v1 (nI 4) X3 = f9_looks_14 f (v1 ||| (if s4 = 0 then zshl 1 (nI 4 - 1) else 0)) (nI 5) X4 := by
    intro f v1
    rw [f9_looks_14, if_neg (show ¬ (5 : Int32) ≤ nI 4 by decide), if_neg (show ¬ nI 4 < (4 : Int32) by decide), hR3.1, hR3.2.1]
    by_cases g : p = e
    · have t4 : f9_turned (nI 4) X3 = some s4 := by rw [hs4, if_pos g]; exact r_turned4 hR3 hc1 g
      rw [if_pos (by rw [g]), f9_looks_41, t4, Option.bind_some, f9_looks_50, y4, Option.bind_some, nI_1]
    · have e4 : s4 = -1 := by rw [hs4, if_neg g]
      rw [if_neg (nI_ne g (by omega) (by omega)), ← e4, f9_looks_50, y4, Option.bind_some, nI_1]
  have h9 : f9_looks N3 = some (((((if A = 0 then (1 : Int32) else 0) + (if B = 0 then 2 else 0)) + (if C = 0 then 4 else 0)) + (if s4 = 0 then 8 else 0)), X4) := by
    rw [f9_looks]
    show f9_looks_14 (4995 + 1 + 1 + 1 + 1 + 1) 0 (nI 1) _ = _
    rw [lk_step (by omega) tA y1, lk_step (by omega) tB y2, lk_step (by omega) tC y3, s4th, f9_looks_14, if_pos (show (5 : Int32) ≤ nI 5 by decide), lk_val]
  exact ⟨_, _, _, h8, h9, zq h o8 (o_X9_looks h9) k6 z4 rfl rfl⟩
