/-! which lies above which: the class's tables, the reference's -/
theorem zxor_c : ∀ e, e < 7 → ∀ v, v < 2 ^ e → v ^^^ (2 ^ e - 1) = 2 ^ e - 1 - v := by decide +kernel
theorem zWc_si {M : zM} {k p e : Nat} {w : Nat → Nat} (h : zWc M k p e w) {a j : Nat} {v : Int32} (h1 : a ≠ k) (h2 : a ≠ k + 1) : zWc (zsi M a j v) k p e w :=
  h.to (by rw [zsi_ne (Ne.symm h1)]) (by rw [zsi_ne (Ne.symm h2)])
theorem zbel_lt {p e : Nat} {w : Nat → Nat} (hc : zCl p e w) (t : Nat) : zbel p e w t < 4096 := by
  unfold zbel
  split
  · have := hc.lt64 t; omega
  · have := zcol_lt64 hc (t - 6); omega
theorem zabv_lt {p e : Nat} {w : Nat → Nat} (hc : zCl p e w) (t : Nat) : zabv p e w t < 4096 := by
  have h1 := (zfull_lt hc.2.2.2.1).1
  have h2 := (zfull_lt hc.2.1).1
  unfold zabv
  split <;> omega
section TI
variable {M : zM} {k p e : Nat} {w : Nat → Nat}
theorem c_tie (h : zWc M k p e w) (hc : zCl p e w) (hk : k < 20) : ∃ M', f0_tie k M = some M' ∧ ∀ t, t < 12 → M'.1 22 t = nI (zbel p e w t) ∧ M'.1 23 t = nI (zabv p e w t) := by
  obtain ⟨c1, c2, c3, c4, c5, c6⟩ := id hc
  have z1 := zfull_lt c4
  have z2 := zfull_lt c2
  rw [f0_tie]
  refine zloopP (F := fun f n x => f0_tie_2 k f (nI n) x) (I := fun n x => zWc x k p e w ∧ ∀ i, i < n → x.1 22 i = nI (zbel p e w i) ∧ x.1 23 i = nI (zabv p e w i) ∧ x.1 22 (6 + i) = nI (zbel p e w (6 + i)) ∧ x.1 23 (6 + i) = nI (zabv p e w (6 + i))) (P := fun o => ∃ M', o = some M' ∧ ∀ t, t < 12 → M'.1 22 t = nI (zbel p e w t) ∧ M'.1 23 t = nI (zabv p e w t)) 6 (by omega) (k0 := 0) (by omega) (fun f n x _ hn hx => Or.inl ?_) (fun f x hx => ?_) ⟨h, fun i hi => by omega⟩
  · obtain ⟨x1, x2⟩ := hx
    have w64 := hc.lt64 n
    have c64 := zcol_lt64 hc n
    have cl := zcol_lt p e w n
    have wl : w n < 2 ^ e := by
      by_cases g : n < p
      · exact c5 n g
      · rw [c6 n (by omega)]; omega
    have b1 : zbel p e w n = w n * 2 ^ 6 := by unfold zbel; rw [if_pos hn]
    have b2 : zabv p e w n = (2 ^ e - 1 - w n) * 2 ^ 6 := by unfold zabv; rw [if_pos hn]
    have b3 : zbel p e w (6 + n) = zcol p e w n := by unfold zbel; rw [if_neg (by omega), show 6 + n - 6 = n by omega]
    have b4 : zabv p e w (6 + n) = 2 ^ p - 1 - zcol p e w n := by unfold zabv; rw [if_neg (by omega), show 6 + n - 6 = n by omega]
    have y1 := zWc_si x1 (a := 22) (j := n) (v := nI (zbel p e w n)) (by omega) (by omega)
    have y2 := zWc_si y1 (a := 23) (j := n) (v := nI (zabv p e w n)) (by omega) (by omega)
    have y3 := zWc_si y2 (a := 22) (j := 6 + n) (v := nI (zbel p e w (6 + n))) (by omega) (by omega)
    have y4 := zWc_si y3 (a := 23) (j := 6 + n) (v := nI (zabv p e w (6 + n))) (by omega) (by omega)
    refine ⟨_, ?_, y4, fun i hi => ?_⟩
    · show f0_tie_2 k (f + 1) (nI n) x = _
      have q0 : f7_cellsOf k 0 (nI n) x = some (nI (w n)) := c_cells x1 (kd := 0) (by omega) (by omega)
      have q1 : f7_cellsOf k 0 (nI n) (zsi x 22 n (nI (zbel p e w n))) = some (nI (w n)) := c_cells y1 (kd := 0) (by omega) (by omega)
      have q2 : f7_fullOf k 0 (zsi x 22 n (nI (zbel p e w n))) = some (nI (2 ^ e - 1)) := c_full y1 hc (kd := 0) (by omega)
      have q3 : f7_cellsOf k 1 (nI n) (zsi (zsi x 22 n (nI (zbel p e w n))) 23 n (nI (zabv p e w n))) = some (nI (zcol p e w n)) := c_cells y2 (kd := 1) (by omega) (by omega)
      have q4 : f7_cellsOf k 1 (nI n) (zsi (zsi (zsi x 22 n (nI (zbel p e w n))) 23 n (nI (zabv p e w n))) 22 (6 + n) (nI (zbel p e w (6 + n)))) = some (nI (zcol p e w n)) := c_cells y3 (kd := 1) (by omega) (by omega)
      have q5 : f7_fullOf k 1 (zsi (zsi (zsi x 22 n (nI (zbel p e w n))) 23 n (nI (zabv p e w n))) 22 (6 + n) (nI (zbel p e w (6 + n)))) = some (nI (2 ^ p - 1)) := c_full y3 hc (kd := 1) (by omega)
      rw [f0_tie_2, if_neg (show ¬ (6 : Int32) ≤ nI n from nI_ge (b := 6) (by omega) (by omega)), q0, Option.bind_some, show (6 : Int32) = nI 6 from rfl, nI_shl (by omega) (by omega), zpI_n (by omega) (by omega), Option.bind_some, ← b1, q1, Option.bind_some, q2, Option.bind_some, nI_xor, zxor_c e (by omega) _ wl, nI_shl (by omega) (by omega), zpI_n (by omega) (by omega), Option.bind_some, ← b2, q3, Option.bind_some, nI_add, zpI_n (by omega) (by omega), Option.bind_some, ← b3, q4, Option.bind_some, q5, Option.bind_some, b3, nI_xor, zxor_c p (by omega) _ cl, zpI_n (by omega) (by omega), Option.bind_some, ← b4, nI_1]
    · simp only [zsi1]
      by_cases g : i = n
      · subst g
        refine ⟨?_, ?_, ?_, ?_⟩
        · simp
        · simp
        · simp
        · simp
      · obtain ⟨u1, u2, u3, u4⟩ := x2 i (by omega)
        refine ⟨?_, ?_, ?_, ?_⟩
        · simp [g, u1, show ¬ i = 6 + n by omega]
        · simp [g, u2, show ¬ i = 6 + n by omega]
        · simp [g, u3, show ¬ 6 + i = n by omega]
        · simp [g, u4, show ¬ 6 + i = n by omega]
  · obtain ⟨x1, x2⟩ := hx
    refine ⟨x, ?_, fun t ht => ?_⟩
    · show f0_tie_2 k (f + 1) (nI 6) x = _
      rw [f0_tie_2, if_pos (by decide)]
    · by_cases g : t < 6
      · exact ⟨(x2 t g).1, (x2 t g).2.1⟩
      · have := x2 (t - 6) (by omega)
        rw [show 6 + (t - 6) = t by omega] at this
        exact ⟨this.2.2.1, this.2.2.2⟩
/-- the reference's tables: n rows and m cells of the next one laid -/
def zbl2 (p e : Nat) (w : Nat → Nat) (n m t : Nat) : Nat := if t < 6 then (if t < n then w t * 64 else if t = n then w t % 2 ^ m * 64 else 0) else if t - 6 < e then zcolp w (t - 6) (if t - 6 < m then n + 1 else n) else 0
def zab2 (p e : Nat) (w : Nat → Nat) (n m t : Nat) : Nat := if t < 6 then (if t < n then (2 ^ e - 1 - w t) * 64 else if t = n then (2 ^ m - 1 - w t % 2 ^ m) * 64 else 0) else if t - 6 < e then 2 ^ (if t - 6 < m then n + 1 else n) - 1 - zcolp w (t - 6) (if t - 6 < m then n + 1 else n) else 0
theorem zmod_s (x m : Nat) : x % 2 ^ (m + 1) = x % 2 ^ m + x / 2 ^ m % 2 * 2 ^ m := by
  rw [Nat.pow_succ, Nat.mod_mul, Nat.mul_comm (2 ^ m)]
theorem zor_hi {a n : Nat} (ha : a < 2 ^ n) : a ||| 2 ^ n = a + 2 ^ n := by
  have := zor_disj (a := a) (b := 1) (n := n) ha
  simpa using this
theorem zor_hi6 {a n : Nat} (ha : a < 2 ^ n) : a * 64 ||| 2 ^ (6 + n) = (a + 2 ^ n) * 64 := by
  have e1 : 2 ^ (6 + n) = 2 ^ n * 64 := by rw [Nat.pow_add, Nat.mul_comm]
  have : a * 64 < 2 ^ (6 + n) := by rw [e1]; exact Nat.mul_lt_mul_of_pos_right ha (by omega)
  rw [zor_hi this, e1]
  omega
end TI
section LA
variable {p e : Nat} {w : Nat → Nat} {n m : Nat}
theorem vb_n0 (hn : n < 6) : zbl2 p e w n m n = w n % 2 ^ m * 64 := by
  unfold zbl2
  rw [if_pos hn, if_neg (by omega), if_pos rfl]
theorem vb_n1 (hn : n < 6) : zbl2 p e w n (m + 1) n = (w n % 2 ^ m + w n / 2 ^ m % 2 * 2 ^ m) * 64 := by
  rw [vb_n0 hn, zmod_s]
theorem vb_m0 (hm : m < e) : zbl2 p e w n m (6 + m) = zcolp w m n := by
  unfold zbl2
  rw [if_neg (by omega), show 6 + m - 6 = m by omega, if_pos hm, if_neg (by omega)]
theorem vb_m1 (hm : m < e) : zbl2 p e w n (m + 1) (6 + m) = zcolp w m n + (1 - w n / 2 ^ m % 2) * 2 ^ n := by
  unfold zbl2
  rw [if_neg (by omega), show 6 + m - 6 = m by omega, if_pos hm, if_pos (by omega), zcolp]
theorem va_n0 (hn : n < 6) : zab2 p e w n m n = (2 ^ m - 1 - w n % 2 ^ m) * 64 := by
  unfold zab2
  rw [if_pos hn, if_neg (by omega), if_pos rfl]
theorem va_n1 (hn : n < 6) : zab2 p e w n (m + 1) n = (2 ^ (m + 1) - 1 - (w n % 2 ^ m + w n / 2 ^ m % 2 * 2 ^ m)) * 64 := by
  rw [va_n0 hn, zmod_s]
theorem va_m0 (hm : m < e) : zab2 p e w n m (6 + m) = 2 ^ n - 1 - zcolp w m n := by
  unfold zab2
  rw [if_neg (by omega), show 6 + m - 6 = m by omega, if_pos hm, if_neg (by omega)]
theorem va_m1 (hm : m < e) : zab2 p e w n (m + 1) (6 + m) = 2 ^ (n + 1) - 1 - (zcolp w m n + (1 - w n / 2 ^ m % 2) * 2 ^ n) := by
  unfold zab2
  rw [if_neg (by omega), show 6 + m - 6 = m by omega, if_pos hm, if_pos (by omega), zcolp]
theorem vb_o {t : Nat} (h1 : t ≠ n) (h2 : t ≠ 6 + m) : zbl2 p e w n (m + 1) t = zbl2 p e w n m t := by
  unfold zbl2
  by_cases ht : t < 6
  · rw [if_pos ht, if_pos ht, if_neg h1, if_neg h1]
  · rw [if_neg ht, if_neg ht]
    by_cases g : t - 6 < m
    · rw [if_pos g, if_pos (show t - 6 < m + 1 by omega)]
    · rw [if_neg g, if_neg (show ¬ t - 6 < m + 1 by omega)]
theorem va_o {t : Nat} (h1 : t ≠ n) (h2 : t ≠ 6 + m) : zab2 p e w n (m + 1) t = zab2 p e w n m t := by
  unfold zab2
  by_cases ht : t < 6
  · rw [if_pos ht, if_pos ht, if_neg h1, if_neg h1]
  · rw [if_neg ht, if_neg ht]
    by_cases g : t - 6 < m
    · rw [if_pos g, if_pos (show t - 6 < m + 1 by omega)]
    · rw [if_neg g, if_neg (show ¬ t - 6 < m + 1 by omega)]
theorem zla_row (hc : zCl p e w) (hn : n < p) (t : Nat) : zbl2 p e w n e t = zbl2 p e w (n + 1) 0 t ∧ zab2 p e w n e t = zab2 p e w (n + 1) 0 t := by
  have hw := hc.2.2.2.2.1 n hn
  unfold zbl2 zab2
  by_cases ht : t < 6
  · rw [if_pos ht, if_pos ht, if_pos ht, if_pos ht]
    by_cases g : t < n
    · rw [if_pos g, if_pos (show t < n + 1 by omega), if_pos g, if_pos (show t < n + 1 by omega)]
      exact ⟨rfl, rfl⟩
    · rw [if_neg g, if_neg g]
      by_cases g2 : t = n
      · subst g2
        rw [if_pos rfl, if_pos rfl, if_pos (show t < t + 1 by omega), if_pos (show t < t + 1 by omega), Nat.mod_eq_of_lt hw]
        exact ⟨rfl, rfl⟩
      · rw [if_neg g2, if_neg g2, if_neg (show ¬ t < n + 1 by omega), if_neg (show ¬ t < n + 1 by omega)]
        by_cases g3 : t = n + 1
        · rw [if_pos g3, if_pos g3, Nat.pow_zero, Nat.mod_one]
          exact ⟨rfl, rfl⟩
        · rw [if_neg g3, if_neg g3]
          exact ⟨rfl, rfl⟩
  · rw [if_neg ht, if_neg ht, if_neg ht, if_neg ht]
    by_cases g : t - 6 < e
    · refine ⟨?_, ?_⟩ <;> simp [g]
    · refine ⟨?_, ?_⟩ <;> simp [g]
theorem zla_0 (t : Nat) : zbl2 p e w 0 0 t = 0 ∧ zab2 p e w 0 0 t = 0 := by
  unfold zbl2 zab2
  by_cases ht : t < 6
  · rw [if_pos ht, if_pos ht, if_neg (show ¬ t < 0 by omega), if_neg (show ¬ t < 0 by omega)]
    by_cases g : t = 0
    · rw [if_pos g, if_pos g, Nat.pow_zero, Nat.mod_one]
      exact ⟨rfl, rfl⟩
    · rw [if_neg g, if_neg g]
      exact ⟨rfl, rfl⟩
  · rw [if_neg ht, if_neg ht, if_neg (show ¬ t - 6 < 0 by omega)]
    by_cases g : t - 6 < e
    · rw [if_pos g, if_pos g]
      exact ⟨rfl, rfl⟩
    · rw [if_neg g, if_neg g]
      exact ⟨rfl, rfl⟩
/-- a thread that is there -/
def zhas (p e t : Nat) : Prop := (t < 6 ∧ t < p) ∨ (6 ≤ t ∧ t - 6 < e)
theorem zla_e {t : Nat} (h : zhas p e t) : zbl2 p e w p 0 t = zbel p e w t ∧ zab2 p e w p 0 t = zabv p e w t := by
  unfold zbl2 zab2 zbel zabv
  rcases h with ⟨h1, h2⟩ | ⟨h1, h2⟩
  · rw [if_pos h1, if_pos h1, if_pos h1, if_pos h1, if_pos h2, if_pos h2]
    exact ⟨rfl, rfl⟩
  · rw [if_neg (show ¬ t < 6 by omega), if_neg (show ¬ t < 6 by omega), if_neg (show ¬ t < 6 by omega), if_neg (show ¬ t < 6 by omega), if_pos h2, if_pos h2, if_neg (show ¬ t - 6 < 0 by omega), zcol, if_pos h2]
    exact ⟨rfl, rfl⟩
theorem zall_bit0 : ∀ p, p < 7 → ∀ e, e < 7 → ∀ t, t < 12 → (zall p e).testBit t = decide ((t < 6 ∧ t < p) ∨ (6 ≤ t ∧ t - 6 < e)) := by decide +kernel
theorem zall_has (hc : zCl p e w) {t : Nat} (ht : t < 12) : (zall p e).testBit t = true ↔ zhas p e t := by
  rw [zall_bit0 p (by have := hc.2.1; omega) e (by have := hc.2.2.2.1; omega) t ht]
  exact ⟨of_decide_eq_true, fun h => decide_eq_true h⟩
theorem zall_lt (hc : zCl p e w) : zall p e < 4096 := by
  have h1 := (zfull_lt hc.2.2.2.1)
  have h2 := (zfull_lt hc.2.1)
  unfold zall
  omega
end LA
section LB
variable {M : zM} {a p e : Nat} {w : Nat → Nat}
def zT2 (x : zM) (a p e : Nat) (w : Nat → Nat) (n m : Nat) : Prop := zRr x a p e w ∧ ∀ t, t < 12 → x.1 54 t = nI (zbl2 p e w n m t) ∧ x.1 55 t = nI (zab2 p e w n m t)
theorem lays_step (hc : zCl p e w) (ha : a < 50) {n m : Nat} (hn : n < p) (hm : m < e) (K : Int32 → zM → Option zM) (f : Nat) {x : zM} (h : zT2 x a p e w n m) : ∃ y, f9_laysAbove_40 a K (f + 1) (nI n) (nI m) x = f9_laysAbove_40 a K f (nI n) (nI (m + 1)) y ∧ zT2 y a p e w n (m + 1) := by
  obtain ⟨hR, hT⟩ := h
  have hp := hc.2.1
  have he := hc.2.2.2.1
  have hw := hc.lt64 n
  have hmm : w n % 2 ^ m < 2 ^ m := Nat.mod_lt _ (Nat.two_pow_pos m)
  have hcp := zcolp_lt w m n
  have hz1 := zpw6 (n := n) (by omega)
  have hz2 := zpw6 (n := m) (by omega)
  have hz3 : 2 ^ (6 + m) = 64 * 2 ^ m := by rw [Nat.pow_add]
  have p1 : 2 ^ (m + 1) = 2 ^ m + 2 ^ m := by rw [Nat.pow_succ]; omega
  have p2 : 2 ^ (n + 1) = 2 ^ n + 2 ^ n := by rw [Nat.pow_succ]; omega
  have t1 := (hT n (by omega)).1
  have t2 := (hT (6 + m) (by omega)).1
  have t3 := (hT n (by omega)).2
  have t4 := (hT (6 + m) (by omega)).2
  rw [vb_n0 (by omega)] at t1
  rw [vb_m0 hm] at t2
  rw [va_n0 (by omega)] at t3
  rw [va_m0 hm] at t4
  have start : f9_laysAbove_40 a K (f + 1) (nI n) (nI m) x = (zaI x 12 54 (if nI (w n / 2 ^ m % 2) = 0 then ((6 : Int32) + nI m) else nI n)).bind fun x3 => (zpI x 12 54 (if nI (w n / 2 ^ m % 2) = 0 then ((6 : Int32) + nI m) else nI n) (x3 ||| (zshl (1 : Int32) (if nI (w n / 2 ^ m % 2) = 0 then nI n else ((6 : Int32) + nI m))))).bind fun M4 => (zaI M4 12 55 (if nI (w n / 2 ^ m % 2) = 0 then nI n else ((6 : Int32) + nI m))).bind fun x5 => (zpI M4 12 55 (if nI (w n / 2 ^ m % 2) = 0 then nI n else ((6 : Int32) + nI m)) (x5 ||| (zshl (1 : Int32) (if nI (w n / 2 ^ m % 2) = 0 then ((6 : Int32) + nI m) else nI n)))).bind fun M6 => f9_laysAbove_40 a K f (nI n) (nI m + 1) M6 := by
    rw [f9_laysAbove_40, hR.2.1, if_neg (nI_ge hm (by omega)), zaI_n (by omega) (by omega), hR.2.2 n hn, Option.bind_some, has_n _ hw m (by omega), Option.bind_some]
  rcases (show w n / 2 ^ m % 2 = 0 ∨ w n / 2 ^ m % 2 = 1 by omega) with hb | hb
  · refine ⟨zsi (zsi x 54 (6 + m) (nI (zbl2 p e w n (m + 1) (6 + m)))) 55 n (nI (zab2 p e w n (m + 1) n)), ?_, ?_, fun t ht => ?_⟩
    · have q : (zsi x 54 (6 + m) (nI (zbl2 p e w n (m + 1) (6 + m)))).1 55 n = nI ((2 ^ m - 1 - w n % 2 ^ m) * 64) := by simp [zsi1, t3]
      have v1 : zcolp w m n ||| 2 ^ n = zbl2 p e w n (m + 1) (6 + m) := by rw [vb_m1 hm, hb, zor_hi hcp]; omega
      have v2 : (2 ^ m - 1 - w n % 2 ^ m) * 64 ||| 2 ^ (6 + m) = zab2 p e w n (m + 1) n := by
        rw [va_n1 (by omega), hb, zor_hi6 (by omega)]
        omega
      rw [start, hb, if_pos (show nI 0 = 0 from rfl), if_pos (show nI 0 = 0 from rfl), zl6, nI_add, zaI_n (by omega) (by omega), t2, Option.bind_some, zl1, nI_shl (by omega) (by omega), nI_or, Nat.one_mul, v1, zpI_n (by omega) (by omega), Option.bind_some, zaI_n (by omega) (by omega), q, Option.bind_some, nI_shl (by omega) (by omega), nI_or, Nat.one_mul, v2, zpI_n (by omega) (by omega), Option.bind_some, nI_add]
    · exact zRr_si (zRr_si hR (by omega)) (by omega)
    · simp only [zsi1]
      obtain ⟨u1, u2⟩ := hT t ht
      refine ⟨?_, ?_⟩
      · by_cases g : t = 6 + m
        · simp [g]
        · by_cases g2 : t = n
          · subst g2
            simp only [g, and_false, if_false, show ¬ (54 : Nat) = 55 by omega, false_and]
            rw [t1, vb_n1 (by omega), hb]
            congr 1
            omega
          · simp [g, g2, u1, vb_o g2 g]
      · by_cases g2 : t = n
        · simp [g2]
        · by_cases g : t = 6 + m
          · subst g
            simp only [g2, and_false, if_false, show ¬ (55 : Nat) = 54 by omega, false_and]
            rw [t4, va_m1 hm, hb]
            congr 1
            omega
          · simp [g, g2, u2, va_o g2 g]
  · refine ⟨zsi (zsi x 54 n (nI (zbl2 p e w n (m + 1) n))) 55 (6 + m) (nI (zab2 p e w n (m + 1) (6 + m))), ?_, ?_, fun t ht => ?_⟩
    · have q : (zsi x 54 n (nI (zbl2 p e w n (m + 1) n))).1 55 (6 + m) = nI (2 ^ n - 1 - zcolp w m n) := by simp [zsi1, t4]
      have v1 : w n % 2 ^ m * 64 ||| 2 ^ (6 + m) = zbl2 p e w n (m + 1) n := by rw [vb_n1 (by omega), hb, zor_hi6 hmm]; omega
      have v2 : (2 ^ n - 1 - zcolp w m n) ||| 2 ^ n = zab2 p e w n (m + 1) (6 + m) := by
        rw [va_m1 hm, hb, zor_hi (by omega)]
        omega
      rw [start, hb, if_neg (show ¬ nI 1 = 0 by decide), if_neg (show ¬ nI 1 = 0 by decide), zl6, nI_add, zaI_n (by omega) (by omega), t1, Option.bind_some, zl1, nI_shl (by omega) (by omega), nI_or, Nat.one_mul, v1, zpI_n (by omega) (by omega), Option.bind_some, zaI_n (by omega) (by omega), q, Option.bind_some, nI_shl (by omega) (by omega), nI_or, Nat.one_mul, v2, zpI_n (by omega) (by omega), Option.bind_some, nI_add]
    · exact zRr_si (zRr_si hR (by omega)) (by omega)
    · simp only [zsi1]
      obtain ⟨u1, u2⟩ := hT t ht
      refine ⟨?_, ?_⟩
      · by_cases g2 : t = n
        · simp [g2]
        · by_cases g : t = 6 + m
          · subst g
            simp only [g2, and_false, if_false, show ¬ (54 : Nat) = 55 by omega, false_and]
            rw [t2, vb_m1 hm, hb]
            congr 1
            omega
          · simp [g, g2, u1, vb_o g2 g]
      · by_cases g : t = 6 + m
        · simp [g]
        · by_cases g2 : t = n
          · subst g2
            simp only [g, and_false, if_false, show ¬ (55 : Nat) = 54 by omega, false_and]
            rw [t3, va_n1 (by omega), hb]
            congr 1
            omega
          · simp [g, g2, u2, va_o g2 g]
theorem r_lays (hR : zRr M a p e w) (hc : zCl p e w) (ha : a < 50) : ∃ M', f9_laysAbove a M = some M' ∧ ∀ t, t < 12 → zhas p e t → M'.1 54 t = nI (zbel p e w t) ∧ M'.1 55 t = nI (zabv p e w t) := by
  have hp := hc.2.1
  have he := hc.2.2.2.1
  rw [f9_laysAbove]
  refine zloopP (F := fun f n x => f9_laysAbove_2 a f (nI n) x) (I := fun n x => zRr x a p e w ∧ ∀ t, t < n → x.1 54 t = 0 ∧ x.1 55 t = 0) (P := fun o => ∃ M', o = some M' ∧ ∀ t, t < 12 → zhas p e t → M'.1 54 t = nI (zbel p e w t) ∧ M'.1 55 t = nI (zabv p e w t)) 12 (by omega) (k0 := 0) (by omega) (fun f n x _ hn hx => Or.inl ?_) (fun f x hx => ?_) (x := M) ⟨hR, fun t ht => by omega⟩
  · obtain ⟨x1, x2⟩ := hx
    refine ⟨zsi (zsi x 54 n 0) 55 n 0, ?_, zRr_si (zRr_si x1 (by omega)) (by omega), fun t ht => ?_⟩
    · show f9_laysAbove_2 a (f + 1) (nI n) x = _
      rw [f9_laysAbove_2, if_neg (show ¬ (12 : Int32) ≤ nI n from nI_ge (b := 12) (by omega) (by omega)), zpI_n (by omega) (by omega), Option.bind_some, zpI_n (by omega) (by omega), Option.bind_some, nI_1]
    · simp only [zsi1]
      by_cases g : t = n
      · simp [g]
      · simp [g, (x2 t (by omega)).1, (x2 t (by omega)).2]
  · obtain ⟨x1, x2⟩ := hx
    have e2 : f9_laysAbove_2 a (f + 1) (nI 12) x = f9_laysAbove_30 a zfuel (nI 0) x := by
      rw [f9_laysAbove_2, if_pos (by decide)]
      rfl
    show ∃ M', f9_laysAbove_2 a (f + 1) (nI 12) x = some M' ∧ _
    rw [e2]
    refine zloopP (F := fun f n x => f9_laysAbove_30 a f (nI n) x) (I := fun n x => zT2 x a p e w n 0) (P := fun o => ∃ M', o = some M' ∧ ∀ t, t < 12 → zhas p e t → M'.1 54 t = nI (zbel p e w t) ∧ M'.1 55 t = nI (zabv p e w t)) p (by omega) (k0 := 0) (by omega) (fun f n x _ hn hx => Or.inl ?_) (fun f x hx => ?_) (x := x) ⟨x1, fun t ht => by
      obtain ⟨q1, q2⟩ := zla_0 (p := p) (e := e) (w := w) t
      rw [q1, q2]
      exact x2 t ht⟩
    · have inner : ∃ y, f9_laysAbove_40 a (f9_laysAbove_121 a (f9_laysAbove_30 a f)) zfuel (nI n) (nI 0) x = f9_laysAbove_30 a f (nI (n + 1)) y ∧ zT2 y a p e w (n + 1) 0 := by
        refine zloopP (F := fun g m x => f9_laysAbove_40 a (f9_laysAbove_121 a (f9_laysAbove_30 a f)) g (nI n) (nI m) x) (I := fun m x => zT2 x a p e w n m) (P := fun o => ∃ y, o = f9_laysAbove_30 a f (nI (n + 1)) y ∧ zT2 y a p e w (n + 1) 0) e (by omega) (k0 := 0) (by omega) (fun g m x _ hm hx => Or.inl (lays_step hc ha hn hm _ g hx)) (fun g x hx => ?_) (x := x) hx
        refine ⟨x, ?_, hx.1, fun t ht => ?_⟩
        · show f9_laysAbove_40 a _ (g + 1) (nI n) (nI e) x = _
          rw [f9_laysAbove_40, hx.1.2.1, if_pos (nI_le (Nat.le_refl _) (by omega)), f9_laysAbove_121, nI_1]
        · obtain ⟨q1, q2⟩ := zla_row hc hn t
          rw [← q1, ← q2]
          exact hx.2 t ht
      obtain ⟨y, y1, y2⟩ := inner
      refine ⟨y, ?_, y2⟩
      show f9_laysAbove_30 a (f + 1) (nI n) x = _
      rw [f9_laysAbove_30, hx.1.1, if_neg (nI_ge hn (by omega))]
      exact y1
    · refine ⟨x, ?_, fun t ht hh => ?_⟩
      · show f9_laysAbove_30 a (f + 1) (nI p) x = _
        rw [f9_laysAbove_30, hx.1.1, if_pos (nI_le (Nat.le_refl _) (by omega))]
      · obtain ⟨q1, q2⟩ := zla_e (w := w) hh
        rw [← q1, ← q2]
        exact hx.2 t ht
end LB
