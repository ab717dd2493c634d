/-! runs: the runs of equal cells along the threads -/
theorem zsi_zsi (M : zM) (k j : Nat) (a b : Int32) : zsi (zsi M k j a) k j b = zsi M k j b := by
  refine Prod.ext (funext fun k' => funext fun j' => ?_) rfl
  rw [zsi1, zsi1, zsi1]
  by_cases g : k' = k ∧ j' = j
  · rw [if_pos g, if_pos g]
  · rw [if_neg g, if_neg g, if_neg g]
/-- the length of the run that ends at a cell -/
def zru (v : Nat) : Nat → Nat
  | 0 => 1
  | j + 1 => if v.testBit (j + 1) = v.testBit j then zru v j + 1 else 1
/-- the best of the runs of the first cells -/
def zbru (B v : Nat) : Nat → Nat
  | 0 => B
  | n + 1 => max (zbru B v n) (zru v n)
def zrcg (v : Nat) : Nat → Nat
  | 0 => 0
  | n + 1 => zrcg v n + (if n = 0 then 1 else if v.testBit n = v.testBit (n - 1) then 0 else 1)
theorem zrcg_chg : ∀ u, u < 6 → ∀ v, v < 64 → zrcg v (u + 1) = 1 + zchg (u + 1) v := by decide +kernel
theorem zru_le (v : Nat) : ∀ n, 1 ≤ zru v n ∧ zru v n ≤ n + 1 := by
  intro n
  induction n with
  | zero => exact ⟨Nat.le_refl _, Nat.le_refl _⟩
  | succ n ih =>
    rw [zru]
    split <;> omega
theorem zbru_le {B v : Nat} (hB : B ≤ 6) : ∀ n, n ≤ 6 → zbru B v n ≤ 6 := by
  intro n
  induction n with
  | zero => exact fun _ => hB
  | succ n ih =>
    intro hn
    have := ih (by omega)
    have := zru_le v n
    rw [zbru]
    omega
theorem zbru_01 {v : Nat} : ∀ n, zbru 0 v (n + 1) = zbru 1 v (n + 1) := by
  intro n
  induction n with
  | zero =>
    show max 0 1 = max 1 1
    rfl
  | succ n ih =>
    show max (zbru 0 v (n + 1)) (zru v (n + 1)) = max (zbru 1 v (n + 1)) (zru v (n + 1))
    rw [ih]
theorem zbru_1 {B v : Nat} (hB : 1 ≤ B) : zbru B v 1 = B := by
  show max B 1 = B
  omega
section RN
variable {M : zM} {p e : Nat} {w : Nat → Nat}
def zbtt (p e : Nat) (w : Nat → Nat) (kd : Nat) : Nat → Nat
  | 0 => 1
  | n + 1 => zbru (zbtt p e w kd n) (zth p e w kd n) (zmany p e (1 - kd))
theorem zbru_ge {B v : Nat} (hB : 1 ≤ B) : ∀ n, 1 ≤ zbru B v n := by
  intro n
  induction n with
  | zero => exact hB
  | succ n ih =>
    rw [zbru]
    omega
theorem zbtt_ok (hc : zCl p e w) (kd : Nat) : ∀ n, 1 ≤ zbtt p e w kd n ∧ zbtt p e w kd n ≤ 6 := by
  intro n
  induction n with
  | zero => exact ⟨Nat.le_refl 1, show 1 ≤ 6 by omega⟩
  | succ n ih =>
    have := zmany_le hc (1 - kd)
    exact ⟨zbru_ge ih.1 _, zbru_le ih.2 _ (by omega)⟩
def zrs (p e : Nat) (w : Nat → Nat) (kd n : Nat) : Nat := zsum (fun i => 1 + zchg (zmany p e (1 - kd)) (zth p e w kd i)) n
theorem c_runsAlong {k : Nat} (h : zWc M k p e w) (hc : zCl p e w) {kd : Nat} (hk : kd < 2) : f7_runsAlong k (nI kd) M = some (nI (zrs p e w kd (zmany p e kd))) := by
  have hm := zmany_le hc kd
  rw [f7_runsAlong]
  refine zloop0 (F := fun f n => f7_runsAlong_4 k f (nI kd) (nI (zrs p e w kd n)) (nI n) M) (zmany p e kd) (by omega) (fun f n hn => ?_) (fun f => ?_)
  · show f7_runsAlong_4 k (f + 1) _ _ (nI n) M = _
    rw [f7_runsAlong_4, c_size h hk, Option.bind_some, if_neg (nI_ge hn (by omega)), c_changes h hc hk (by omega), Option.bind_some, show (1 : Int32) = nI 1 from rfl, nI_add, nI_add, nI_add]
    rfl
  · show f7_runsAlong_4 k (f + 1) _ _ (nI (zmany p e kd)) M = _
    rw [f7_runsAlong_4, c_size h hk, Option.bind_some, if_pos (nI_le (Nat.le_refl _) (by omega))]
theorem c_longest {k : Nat} (h : zWc M k p e w) (hc : zCl p e w) {kd : Nat} (hk : kd < 2) : f7_longestRun k (nI kd) M = some (nI (zbtt p e w kd (zmany p e kd))) := by
  have hm := zmany_le hc kd
  have hm2 := zmany_le hc (1 - kd)
  rw [f7_longestRun]
  refine zloop0 (F := fun f n => f7_longestRun_4 k f (nI kd) (nI (zbtt p e w kd n)) (nI n) M) (zmany p e kd) (by omega) (fun f n hn => ?_) (fun f => ?_)
  · show f7_longestRun_4 k (f + 1) _ _ (nI n) M = _
    have hB := zbtt_ok (w := w) hc kd n
    have hv := zth_lt64 hc kd n
    rw [f7_longestRun_4, c_size h hk, Option.bind_some, if_neg (nI_ge hn (by omega)), c_cells h hk (by omega), Option.bind_some]
    rw [show nI (zbtt p e w kd n) = nI (zbru (zbtt p e w kd n) (zth p e w kd n) 1) by rw [zbru_1 hB.1]]
    show f7_longestRun_27 k _ zfuel (nI kd) _ (nI n) (nI (zth p e w kd n)) (nI (zru (zth p e w kd n) (1 - 1))) (nI 1) M = _
    refine zloopk (F := fun g j => f7_longestRun_27 k (f7_longestRun_81 k (f7_longestRun_4 k f)) g (nI kd) (nI (zbru (zbtt p e w kd n) (zth p e w kd n) j)) (nI n) (nI (zth p e w kd n)) (nI (zru (zth p e w kd n) (j - 1))) (nI j) M) 1 (zmany p e (1 - kd)) (by omega) (by omega) (fun g j hj1 hj => ?_) (fun g => ?_)
    · show f7_longestRun_27 k _ (g + 1) (nI kd) _ (nI n) _ _ (nI j) M = _
      have h2 := zbru_le (v := zth p e w kd n) hB.2 j (by omega)
      have h3 := zru_le (zth p e w kd n) j
      have h4 := zru_le (zth p e w kd n) (j - 1)
      have key : (if ((zushr (nI (zth p e w kd n)) (nI j)) &&& (1 : Int32)) = ((zushr (nI (zth p e w kd n)) (nI j - (1 : Int32))) &&& (1 : Int32)) then (nI (zru (zth p e w kd n) (j - 1)) + (1 : Int32)) else (1 : Int32)) = nI (zru (zth p e w kd n) j) := by
        obtain ⟨m, rfl⟩ : ∃ m, j = m + 1 := ⟨j - 1, by omega⟩
        rw [show nI (m + 1) - (1 : Int32) = nI m from nI_sub (a := m + 1) (b := 1) (by omega), nI_ushr (by omega) (by omega), nI_ushr (by omega) (by omega), zl1, nI_and, nI_and, zb1, zb1, zru, show m + 1 - 1 = m from rfl, nI_add]
        cases (zth p e w kd n).testBit (m + 1) <;> cases (zth p e w kd n).testBit m <;> rfl
      rw [f7_longestRun_27, show (1 : Int32) - nI kd = nI (1 - kd) from nI_sub (a := 1) (b := kd) (by omega), c_size h (by omega), Option.bind_some, if_neg (nI_ge hj (by omega)), key, zmax_n (by omega) (by omega), nI_1]
      rfl
    · show f7_longestRun_27 k _ (g + 1) (nI kd) _ (nI n) _ _ (nI (zmany p e (1 - kd))) M = _
      rw [f7_longestRun_27, show (1 : Int32) - nI kd = nI (1 - kd) from nI_sub (a := 1) (b := kd) (by omega), c_size h (by omega), Option.bind_some, if_pos (nI_le (Nat.le_refl _) (by omega)), f7_longestRun_81, nI_1]
      rfl
  · show f7_longestRun_4 k (f + 1) _ _ (nI (zmany p e kd)) M = _
    rw [f7_longestRun_4, c_size h hk, Option.bind_some, if_pos (nI_le (Nat.le_refl _) (by omega))]
/-- the reference starts at nothing -/
def zb0 (p e : Nat) (w : Nat → Nat) (kd n : Nat) : Nat := if n = 0 then 0 else zbtt p e w kd n
def zru0 (v j : Nat) : Nat := if j = 0 then 0 else zru v (j - 1)
theorem zb0_s (hc : zCl p e w) {kd n : Nat} : zbru (zb0 p e w kd n) (zth p e w kd n) (zmany p e (1 - kd)) = zb0 p e w kd (n + 1) := by
  have hm2 := zmany_le hc (1 - kd)
  obtain ⟨m, hm⟩ : ∃ m, zmany p e (1 - kd) = m + 1 := ⟨zmany p e (1 - kd) - 1, by omega⟩
  rw [zb0, zb0, if_neg (show ¬ n + 1 = 0 by omega), zbtt]
  by_cases g : n = 0
  · rw [if_pos g, hm, zbru_01, g]
    rfl
  · rw [if_neg g]
theorem r_runsOf (h : zRr M 41 p e w) (hc : zCl p e w) {kd : Nat} (hk : kd < 2) : f9_runsOf (nI kd) M = some (nI (zrs p e w kd (zmany p e kd)), zsi M 39 30 (nI (zbtt p e w kd (zmany p e kd)))) := by
  have hm := zmany_le hc kd
  have hm2 := zmany_le hc (1 - kd)
  have hR : ∀ b, zRr (zsi M 39 30 b) 41 p e w := fun b => zRr_si h (by decide)
  rw [f9_runsOf, show (0 : Int32) = nI (zb0 p e w kd 0) from rfl]
  refine zloop0 (F := fun f n => f9_runsOf_9 f (nI kd) (nI (zrs p e w kd n)) (nI n) (zsi M 39 30 (nI (zb0 p e w kd n)))) (zmany p e kd) (by omega) (fun f n hn => ?_) (fun f => ?_)
  · show f9_runsOf_9 (f + 1) _ _ (nI n) _ = _
    have hB : zb0 p e w kd n ≤ 6 := by
      have := zbtt_ok (w := w) hc kd n
      rw [zb0]
      split <;> omega
    have hv := zth_lt64 hc kd n
    rw [f9_runsOf_9, r_many (hR _) hk, Option.bind_some, if_neg (nI_ge hn (by omega)), r_bits (hR _) hc hk hn, Option.bind_some]
    refine zloop0 (F := fun g j => f9_runsOf_38 (f9_runsOf_132 (f9_runsOf_9 f)) g (nI kd) (nI (zrs p e w kd n + zrcg (zth p e w kd n) j)) (nI n) (nI (zth p e w kd n)) (nI (zru0 (zth p e w kd n) j)) (nI j) (zsi M 39 30 (nI (zbru (zb0 p e w kd n) (zth p e w kd n) j)))) (zmany p e (1 - kd)) (by omega) (fun g j hj => ?_) (fun g => ?_)
    · show f9_runsOf_38 _ (g + 1) (nI kd) _ (nI n) _ _ (nI j) _ = _
      have h2 := zbru_le (v := zth p e w kd n) hB j (by omega)
      have h3 := zru_le (zth p e w kd n) j
      have fin : ∀ (s0 : Int32) (R r2 : Nat), f9_flag (if s0 = 0 then (1 : Int32) else (0 : Int32)) = some (nI R) → (if s0 = 0 then (1 : Int32) else nI (zru0 (zth p e w kd n) j) + 1) = nI r2 → R = (if j = 0 then 1 else if (zth p e w kd n).testBit j = (zth p e w kd n).testBit (j - 1) then 0 else 1) → r2 = zru (zth p e w kd n) j → f9_runsOf_80 (f9_runsOf_38 (f9_runsOf_132 (f9_runsOf_9 f)) g) (nI kd) (nI (zrs p e w kd n + zrcg (zth p e w kd n) j)) (nI n) (nI (zth p e w kd n)) (nI (zru0 (zth p e w kd n) j)) (nI j) s0 (zsi M 39 30 (nI (zbru (zb0 p e w kd n) (zth p e w kd n) j))) = f9_runsOf_38 (f9_runsOf_132 (f9_runsOf_9 f)) g (nI kd) (nI (zrs p e w kd n + zrcg (zth p e w kd n) (j + 1))) (nI n) (nI (zth p e w kd n)) (nI (zru0 (zth p e w kd n) (j + 1))) (nI (j + 1)) (zsi M 39 30 (nI (zbru (zb0 p e w kd n) (zth p e w kd n) (j + 1)))) := by
        intro s0 R r2 q1 q2 q3 q4
        rw [f9_runsOf_80, q1, Option.bind_some, q2, zsi1, if_pos ⟨rfl, rfl⟩, q4, zmax_n (by omega) (by omega), zsi_zsi, nI_1, nI_add, q3, Nat.add_assoc]
        rfl
      rw [f9_runsOf_38, r_cells (hR _) hk, Option.bind_some, if_neg (nI_ge hj (by omega))]
      by_cases g0 : j = 0
      · subst g0
        rw [if_pos (show nI 0 ≤ 0 by decide)]
        exact fin 0 1 1 rfl rfl rfl rfl
      · obtain ⟨m, rfl⟩ : ∃ m, j = m + 1 := ⟨j - 1, by omega⟩
        rw [if_neg (show ¬ nI (m + 1) ≤ 0 from nI_ge (b := m + 1) (a := 0) (by omega) (by omega)), show nI (m + 1) - (1 : Int32) = nI m from nI_sub (a := m + 1) (b := 1) (by omega), r_has12 (by omega) (by omega), Option.bind_some, r_has12 (by omega) (by omega), Option.bind_some]
        by_cases g1 : (zth p e w kd n).testBit (m + 1) = (zth p e w kd n).testBit m
        · rw [g1, if_pos rfl]
          refine fin 1 0 (zru (zth p e w kd n) m + 1) rfl ?_ ?_ ?_
          · rw [if_neg (by decide), zru0, if_neg g0, show m + 1 - 1 = m from rfl, nI_1]
          · rw [if_neg g0, show m + 1 - 1 = m from rfl, if_pos g1]
          · rw [zru, if_pos g1]
        · have g2 : ¬ nI (zi ((zth p e w kd n).testBit (m + 1))) = nI (zi ((zth p e w kd n).testBit m)) := by
            cases q1 : (zth p e w kd n).testBit (m + 1) <;> cases q2 : (zth p e w kd n).testBit m
            · rw [q1, q2] at g1
              exact absurd rfl g1
            · decide
            · decide
            · rw [q1, q2] at g1
              exact absurd rfl g1
          rw [if_neg g2]
          refine fin 0 1 1 rfl rfl ?_ ?_
          · rw [if_neg g0, show m + 1 - 1 = m from rfl, if_neg g1]
          · rw [zru, if_neg g1]
    · show f9_runsOf_38 _ (g + 1) (nI kd) _ (nI n) _ _ (nI (zmany p e (1 - kd))) _ = _
      obtain ⟨m, hm3⟩ : ∃ m, zmany p e (1 - kd) = m + 1 := ⟨zmany p e (1 - kd) - 1, by omega⟩
      rw [f9_runsOf_38, r_cells (hR _) hk, Option.bind_some, if_pos (nI_le (Nat.le_refl _) (by omega)), f9_runsOf_132, nI_1, zb0_s hc, hm3, zrcg_chg m (by omega) _ hv, ← hm3]
      rfl
  · show f9_runsOf_9 (f + 1) _ _ (nI (zmany p e kd)) _ = _
    rw [f9_runsOf_9, r_many (hR _) hk, Option.bind_some, if_pos (nI_le (Nat.le_refl _) (by omega)), zb0, if_neg (by omega)]
end RN
theorem zP_runs_ok : zP_runs zInv := by
  intro c M hc h
  obtain ⟨p, e, w, hA⟩ := h.1
  obtain ⟨hc1, hW, hR, hN⟩ := id hA
  obtain ⟨M3, k1, k2⟩ := c_tell2 (nI (zbtt p e w 0 (zmany p e 0))).toInt64 (nI (zrs p e w 1 (zmany p e 1))).toInt64 M
  have o3 := o_X3_tell_ k1
  have hW3 : zWc M3 1 p e w := hW.to (o3.1 1 (by simp) (by simp)).1 (o3.1 2 (by simp) (by simp)).1
  obtain ⟨M5, k3, k4⟩ := k2.add (by simp) (nI (zbtt p e w 1 (zmany p e 1))).toInt64
  have o5 := o_X3_add k3
  have hW5 : zWc M5 1 p e w := hW3.to (o5.1 1 (by simp) (by simp)).1 (o5.1 2 (by simp) (by simp)).1
  have h8 : f8_runs M = some (nI (zrs p e w 0 (zmany p e 0)), M5) := by
    rw [f8_runs, show (0 : Int32) = nI 0 from rfl, show (1 : Int32) = nI 1 from rfl, c_longest hW hc1 (by omega), Option.bind_some, c_runsAlong hW hc1 (by omega), Option.bind_some, k1, Option.bind_some, c_longest hW3 hc1 (by omega), Option.bind_some, k3, Option.bind_some, c_runsAlong hW5 hc1 (by omega), Option.bind_some]
  have o8 := o_X8_runs h8
  have hR0 : zRr (zsi M5 39 0 0) 41 p e w := zRr_si (hR.to (o8.1 41 (by simp) (by simp)).1) (by decide)
  obtain ⟨X2, y1, y2⟩ := r_tell (nI (zbtt p e w 0 (zmany p e 0))).toInt64 (zsi (zsi M5 39 0 0) 39 30 (nI (zbtt p e w 0 (zmany p e 0))))
  have oX2 := o_X9_enters y1
  have hR2 : zRr X2 41 p e w := (zRr_si (zRr_si hR0 (by decide)) (by decide) : zRr (zsi (zsi (zsi M5 39 0 0) 39 30 (nI (zbtt p e w 0 (zmany p e 0)))) 39 1 0) 41 p e w).to (oX2.1 41 (by simp) (by simp)).1
  have y2' : zR9 (zsi X2 39 30 (nI (zbtt p e w 1 (zmany p e 1)))) [(nI (zbtt p e w 0 (zmany p e 0))).toInt64] := zR9_to ((zOut.rf.si 39 30 _ (Or.inr ⟨rfl, by simp⟩) : zOut [] [30] X2 (zsi X2 39 30 (nI (zbtt p e w 1 (zmany p e 1))))).same rfl) y2
  obtain ⟨X4, y3, y4⟩ := y2'.add (by simp) (nI (zrs p e w 1 (zmany p e 1))).toInt64
  have oX4 := o_X9_enters y3
  have hb4 : X4.1 39 30 = nI (zbtt p e w 1 (zmany p e 1)) := by
    rw [oX4.2 30 (by simp) (by simp), zsi1, if_pos ⟨rfl, rfl⟩]
  obtain ⟨X5, y5, y6⟩ := y4.add (by simp) (nI (zbtt p e w 1 (zmany p e 1))).toInt64
  have h9 : f9_runs M5 = some (nI (zrs p e w 0 (zmany p e 0)), X5) := by
    rw [f9_runs, show f9_runsOf (0 : Int32) = f9_runsOf (nI 0) from rfl, r_runsOf hR0 hc1 (by omega), Option.bind_some]
    show ((f9_enters (Int32.toInt64 ((zsi (zsi (zsi M5 39 0 0) 39 30 (nI (zbtt p e w 0 (zmany p e 0)))) 39 1 0).1 39 30)) (zsi (zsi (zsi M5 39 0 0) 39 30 (nI (zbtt p e w 0 (zmany p e 0)))) 39 1 0)).bind fun M2 => (f9_runsOf (1 : Int32) M2).bind fun p3 => (f9_enters (Int32.toInt64 p3.1) p3.2).bind fun M4 => (f9_enters (Int32.toInt64 (M4.1 39 30)) M4).bind fun M5' => some (nI (zrs p e w 0 (zmany p e 0)), M5')) = _
    rw [zsi1, if_neg (by decide), zsi1, if_pos ⟨rfl, rfl⟩, y1, Option.bind_some, show f9_runsOf (1 : Int32) = f9_runsOf (nI 1) from rfl, r_runsOf hR2 hc1 (by omega), Option.bind_some]
    show ((f9_enters (Int32.toInt64 (nI (zrs p e w 1 (zmany p e 1)))) (zsi X2 39 30 (nI (zbtt p e w 1 (zmany p e 1))))).bind fun M4 => (f9_enters (Int32.toInt64 (M4.1 39 30)) M4).bind fun M5' => some (nI (zrs p e w 0 (zmany p e 0)), M5')) = _
    rw [y3, Option.bind_some, hb4, y5, Option.bind_some]
  exact ⟨_, _, _, h8, h9, zq h o8 (o_X9_runs h9) k4 y6 rfl rfl⟩
