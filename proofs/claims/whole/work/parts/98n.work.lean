/-! work: the text read by both -/
def zjx (s : Nat) : Nat := if s = 110 then 0 else if s = 109 then 1 else if s = 100 then 2 else if s = 116 then 3 else 4
theorem zjx_e : ∀ j, j < 5 → zjx (zsgn 11 j) = j := by decide +kernel
def zwA (t : Nat → Nat) : Nat → Nat
  | 0 => 0
  | k + 1 => zwA t k + 1 + zll (zid (t (zwA t k)))
/-- a good act -/
def zgA (t : Nat → Nat) (n a : Nat) : Prop := ∃ j, j < 5 ∧ t a = zsgn 11 j ∧ a + 1 + zjd j ≤ zwL n ∧ ∀ i, i < zjd j → zjg t j i (a + 1 + i)
theorem zgA_s {t : Nat → Nat} {n k : Nat} (h : zgA t n (zwA t k)) : zwA t (k + 1) = zwA t k + 1 + zjd (zjx (t (zwA t k))) ∧ zwA t (k + 1) ≤ zwL n := by
  obtain ⟨j, h1, h2, h3, h4⟩ := h
  have e1 : zwA t (k + 1) = zwA t k + 1 + zjd j := by rw [zwA, h2, (zj_id j h1).2.1]
  rw [h2, zjx_e j h1]
  exact ⟨e1, by omega⟩
theorem r_faultOf {X : zM} {n q m : Nat} {t : Nat → Nat} (hn : n ≤ 80) (hm : m ≤ 80) (h : zRt X (min n m) q t) (b : Bool) : f9_faultOf (nI n) (nI m) (nI (zi b)) X = some (if b = true ∧ q = min n m then (if n ≤ m then nI 0 else -1 - nI m) else (if m < n ∧ m ≤ q then -1 - nI m else -1 - nI q)) := by
  obtain ⟨h1, h2, h3, h4, h5, h6⟩ := h
  have ec : (if nI (zi b) = 0 then (0 : Int32) else (if X.1 39 8 = X.1 39 9 then 1 else 0)) = nI (zi (b && decide (q = min n m))) := by
    rw [h3, h4]
    cases b
    · rfl
    · rw [if_neg (by decide), Bool.true_and]
      by_cases g : q = min n m
      · rw [if_pos (by rw [g]), decide_eq_true g]
        rfl
      · rw [if_neg (nI_ne g (by omega) (by omega)), decide_eq_false g]
        rfl
  have e44 : ∀ c : Bool, f9_faultOf_44 (nI (zi c)) X = some (if c = true then nI 0 else -1 - nI q) := by
    intro c
    rw [f9_faultOf_44, h4]
    cases c
    · rw [if_pos (show nI (zi false) = 0 from rfl), if_neg (by decide)]
    · rw [if_neg (show ¬ nI (zi true) = 0 by decide), if_pos rfl, nI_0]
  rw [f9_faultOf, ec]
  have ecb : (b && decide (q = min n m)) = true ↔ (b = true ∧ q = min n m) := by
    rw [Bool.and_eq_true, decide_eq_true_iff]
  by_cases g : n ≤ m
  · rw [if_pos (nI_le g (by omega)), e44]
    by_cases g2 : b = true ∧ q = min n m
    · rw [if_pos (ecb.mpr g2), if_pos g2, if_pos g]
    · rw [if_neg (fun r => g2 (ecb.mp r)), if_neg g2, if_neg (fun r => by omega)]
  · rw [if_neg (nI_ge (by omega) (by omega))]
    by_cases g2 : b = true ∧ q = min n m
    · rw [ecb.mpr g2, if_neg (show ¬ nI (zi true) = 0 by decide), if_pos g2, if_neg g, f9_faultOf_40]
    · have hf : (b && decide (q = min n m)) = false := by
        cases r : (b && decide (q = min n m))
        · rfl
        · exact absurd (ecb.mp r) g2
      rw [hf, if_pos (show nI (zi false) = 0 from rfl), h4, if_neg g2]
      by_cases g3 : q < m
      · rw [if_pos (nI_lt g3 (by omega)), e44, if_neg (by decide), if_neg (fun r => by omega)]
      · rw [if_neg (nI_nlt (by omega) (by omega)), if_pos ⟨by omega, by omega⟩, f9_faultOf_40]
section WK
variable {M X : zM} {n : Nat} {t : Nat → Nat}
/-- the reference has read k acts -/
def zwI (X : zM) (n k : Nat) (t : Nat → Nat) : Prop := (∀ i, i < k → zgA t n (zwA t i)) ∧ 2 * k ≤ zwA t k ∧ zRt X (zwL n) (zwA t k) t ∧ X.1 39 24 = nI k ∧ ∀ i, i < k → zad2 X i (zjx (t (zwA t i))) t (zwA t i + 1)
theorem wk_loop (hM : zTx M n t) (hX : zwI X n 0 t) {P : Option (Int32 × zM) → Prop} (hok : ∀ K Y, zwI Y n K t → zwA t K = zwL n → zOut [50, 51, 52, 53] [8, 24] X Y → f8_workFault M = some (if 60 < n then nI 60 else -1) → P (f9_work_42 (nI n) 1 Y)) (hbad : ∀ q Y, zRt Y (zwL n) q t → zOut [50, 51, 52, 53] [8, 24] X Y → f8_workFault M = some (if q = zwL n then (if 60 < n then nI 60 else nI n) else nI q) → P (f9_work_42 (nI n) 0 Y)) : P (f9_work_19 zfuel (nI n) 1 X) := by
  have hL : zwL n ≤ 60 ∧ zwL n ≤ n := by unfold zwL; omega
  have hn := hM.1
  refine zloopP (σ := Int32 × zM) (F := fun f k y => f9_work_19 f (nI n) y.1 y.2) (I := fun k y => zOut [50, 51, 52, 53] [8, 24] X y.2 ∧ ((y.1 = 1 ∧ zwI y.2 n k t ∧ ∃ i, i < 6 ∧ f8_workFault M = f8_workFault_22 (5000 - zwA t k) i (nI (zll i)) (nI (zwL n)) (nI (zwA t k)) M) ∨ (y.1 = 0 ∧ k ≤ 60 ∧ ∃ q, zRt y.2 (zwL n) q t ∧ f8_workFault M = some (if q = zwL n then (if 60 < n then nI 60 else nI n) else nI q)))) (P := P) 61 (by omega) (k0 := 0) (by omega) (fun f k y _ hk hx => ?_) (fun f y hx => ?_) (x := (1, X)) ⟨zOut.rf, Or.inl ⟨rfl, hX, 5, by omega, ?_⟩⟩
  · obtain ⟨y1, y⟩ := y
    obtain ⟨xo, hx⟩ := hx
    simp only [] at xo
    rcases hx with ⟨x1, x2, i0, i1, i2⟩ | ⟨x1, x2, q, q1, q2⟩
    · simp only [] at x1 x2
      subst x1
      obtain ⟨w1, w2, w3, w4, w5⟩ := x2
      have ha := w3.2.1
      by_cases g : zwA t k = zwL n
      · refine Or.inr ?_
        show P (f9_work_19 (f + 1) (nI n) 1 y)
        rw [f9_work_19, if_neg (by decide), w3.2.2.1, w3.2.2.2.1, if_pos (nI_le (by omega) (by omega))]
        refine hok k y ⟨w1, w2, w3, w4, w5⟩ g xo ?_
        rw [i2, g, show 5000 - zwL n = 4999 - zwL n + 1 by omega, wf_e hM i1 (Nat.le_refl _), if_pos rfl]
      · refine Or.inl ?_
        have est : ∀ r Z, f9_readsAct y = some (r, Z) → f9_work_19 (f + 1) (nI n) 1 y = f9_work_19 f (nI n) r Z := by
          intro r Z hr
          rw [f9_work_19, if_neg (by decide), w3.2.2.1, w3.2.2.2.1, if_neg (nI_ge (by omega) (by omega)), hr, Option.bind_some]
        have htl := (hM.2.2 (zwA t k) (by omega)).1
        rcases r_readsAct w3 (show k < 60 by omega) w4 with ⟨j, j1, j2, j3, j4, Z, z1, z2, z3, z4, z5⟩ | ⟨j, i, j1, j2, j3, j4, j5, j6, Z, z1, z2⟩ | ⟨j2, Z, z1, z2⟩
        · obtain ⟨a1, a2, a3⟩ := zj_id j j1
          have hdl : 0 < zjd j ∧ zjd j ≤ 4 := by unfold zjd; split <;> (try split) <;> omega
          have hend : zwA t k + 1 + zjd j ≤ zwL n := by
            have := (j4 (zjd j - 1) (by omega)).1
            omega
          have hgA : zgA t n (zwA t k) := ⟨j, j1, j3, hend, fun i hi => (j4 i hi).2⟩
          have eA : zwA t (k + 1) = zwA t k + 1 + zjd j := by rw [zwA, j3, a2]
          refine ⟨(1, Z), est 1 Z z1, xo.call (o_X9_readsAct z1) (fun _ q => q) (fun _ q => q), Or.inl ⟨rfl, ⟨fun i hi => ?_, by omega, by rw [eA]; exact z2, z4, fun i hi => ?_⟩, zid (zsgn 11 j), ?_, ?_⟩⟩
          · by_cases g2 : i = k
            · rw [g2]
              exact hgA
            · exact w1 i (by omega)
          · by_cases g2 : i = k
            · rw [g2, j3, zjx_e j j1]
              exact z3
            · obtain ⟨r1, r2, r3, r4⟩ := z5 i g2
              have := w5 i (by omega)
              simp only [zad2, r1, r2, r3, r4]
              exact this
          · rw [← j3]
            exact (zid_e _ htl).2
          · rw [i2, show 5000 - zwA t k = (5000 - zwA t (k + 1)) + (1 + zll (zid (t (zwA t k)))) by rw [j3, a2]; omega, wf_act hM i1 (by rw [j3]; exact a1) (by rw [j3, a2]; exact hend) (fun q hq => by
              rw [j3, a2] at hq
              rw [j3]
              have := (j4 q hq).2
              exact ⟨this.1, by rw [a3 q (by omega) hq]; exact this.2⟩), j3, a2, eA]
        · obtain ⟨a1, a2, a3⟩ := zj_id j j1
          have hdl : zjd j ≤ 4 := by unfold zjd; split <;> (try split) <;> omega
          refine ⟨(0, Z), est 0 Z z1, xo.call (o_X9_readsAct z1) (fun _ q => q) (fun _ q => q), Or.inr ⟨rfl, by omega, zwA t k + 1 + i, z2, ?_⟩⟩
          have hle : zwA t k + 1 + i ≤ zwL n := z2.2.1
          rw [i2, show 5000 - zwA t k = (4998 - zwA t k - i) + 1 + (1 + i) by omega, wf_bad hM i1 (by rw [j3]; exact a1) (m := i) (by rw [j3, a2]; exact j4) hle (fun q hq => by
              rw [j3]
              have := (j5 q hq).2
              exact ⟨this.1, by rw [a3 q (by omega) (by omega)]; exact this.2⟩) (j6.elim Or.inl (fun r => Or.inr (fun s => r (by
              rw [j3] at s
              exact ⟨s.1, by rw [← a3 i (by omega) j4]; exact s.2⟩))))]
        · have h5 : zid (t (zwA t k)) = 5 := zid_5 _ htl (j2.elim (fun q => absurd q g) id)
          refine ⟨(0, Z), est 0 Z z1, xo.call (o_X9_readsAct z1) (fun _ q => q) (fun _ q => q), Or.inr ⟨rfl, by omega, zwA t k, z2, ?_⟩⟩
          rw [i2, show 5000 - zwA t k = (4999 - zwA t k) + 1 by omega, wf_s hM i1 (by omega), if_pos h5, if_neg g]
    · simp only [] at x1
      subst x1
      refine Or.inr ?_
      show P (f9_work_19 (f + 1) (nI n) 0 y)
      rw [f9_work_19, if_pos rfl]
      exact hbad q y q1 xo q2
  · rcases hx.2 with ⟨x1, x2, -⟩ | ⟨x1, x2, -⟩
    · have := x2.2.1
      have := x2.2.2.1.2.1
      omega
    · omega
  · rw [f8_workFault, hM.2.1, show (60 : Int32) = nI 60 from rfl, zmin_n (by omega) (by omega)]
    rfl
end WK
/-! what an act does -/
noncomputable def zwkk (cr : List Nat) (S : zS4) (j d1 d2 d3 : Nat) : Option zS4 :=
  if j = 0 then some (zNn cr d1 S)
  else if j = 1 then some (S.1, S.2.1, zmW S.1 S.2.1 S.2.2.1 d1, S.2.2.2)
  else if j = 2 then (if d2 < zmany S.1 S.2.1 d1 ∧ 2 ≤ zmany S.1 S.2.1 d1 then some (zdP S.1 d1, zdE S.2.1 d1, zdW S.2.2.1 d1 d2, S.2.2.2) else none)
  else if j = 3 then (if d1 < S.1 ∧ d2 < S.2.1 then some (S.1, S.2.1, zfW S.2.2.1 d1 d2, S.2.2.2) else none)
  else (if d2 ≤ zmany S.1 S.2.1 d1 ∧ zmany S.1 S.2.1 d1 < 6 ∧ d3 < 2 ^ zmany S.1 S.2.1 (1 - d1) then some (zuP S.1 d1, zuE S.2.1 d1, zuW S.1 S.2.2.1 d1 d2 d3, S.2.2.2) else none)
section WX
variable {M : zM} {S : zS4} {cr : List Nat} {n : Nat} {t : Nat → Nat}
theorem zwkk_C (hc : zSC S) {j d1 d2 d3 : Nat} (hk : j = 1 ∨ j = 2 ∨ j = 4 → d1 < 2) (hj : j < 5) {S' : zS4} (h : zwkk cr S j d1 d2 d3 = some S') : zSC S' := by
  rcases (show j = 0 ∨ j = 1 ∨ j = 2 ∨ j = 3 ∨ j = 4 by omega) with rfl | rfl | rfl | rfl | rfl
  · have := Option.some.inj h
    rw [← this]
    exact zNn_C hc d1
  · have := Option.some.inj h
    rw [← this]
    exact zCl_m hc (hk (Or.inl rfl))
  · have h' : (if d2 < zmany S.1 S.2.1 d1 ∧ 2 ≤ zmany S.1 S.2.1 d1 then some ((zdP S.1 d1, zdE S.2.1 d1, zdW S.2.2.1 d1 d2, S.2.2.2) : zS4) else none) = some S' := h
    by_cases g : d2 < zmany S.1 S.2.1 d1 ∧ 2 ≤ zmany S.1 S.2.1 d1
    · rw [if_pos g] at h'
      rw [← Option.some.inj h']
      exact zCl_d hc (hk (Or.inr (Or.inl rfl))) g.1 g.2
    · rw [if_neg g] at h'
      cases h'
  · have h' : (if d1 < S.1 ∧ d2 < S.2.1 then some ((S.1, S.2.1, zfW S.2.2.1 d1 d2, S.2.2.2) : zS4) else none) = some S' := h
    by_cases g : d1 < S.1 ∧ d2 < S.2.1
    · rw [if_pos g] at h'
      rw [← Option.some.inj h']
      exact zCl_f hc g.1 g.2
    · rw [if_neg g] at h'
      cases h'
  · have h' : (if d2 ≤ zmany S.1 S.2.1 d1 ∧ zmany S.1 S.2.1 d1 < 6 ∧ d3 < 2 ^ zmany S.1 S.2.1 (1 - d1) then some ((zuP S.1 d1, zuE S.2.1 d1, zuW S.1 S.2.2.1 d1 d2 d3, S.2.2.2) : zS4) else none) = some S' := h
    by_cases g : d2 ≤ zmany S.1 S.2.1 d1 ∧ zmany S.1 S.2.1 d1 < 6 ∧ d3 < 2 ^ zmany S.1 S.2.1 (1 - d1)
    · rw [if_pos g] at h'
      rw [← Option.some.inj h']
      exact zCl_u hc (hk (Or.inr (Or.inr rfl))) g.1 g.2.1 g.2.2
    · rw [if_neg g] at h'
      cases h'
/-- both sides of one act, over the words of the class's and the reference's memories -/
def zdone8 (S : zS4) (o : Option zS4) (r : Int32) (M' : zM) : Prop := (∃ S', o = some S' ∧ 0 ≤ r ∧ zWS M' 1 S') ∨ (o = none ∧ r < 0 ∧ zWS M' 1 S)
theorem c_actAt (hT : zTx M n t) (hW : zWS M 1 S) (hc : zSC S) (hcr : zCc M 11 cr) {a : Nat} (hg : zgA t n a) : ∃ r M', f8_actAt (nI a) M = some (r, M') ∧ zdone8 S (zwkk cr S (zjx (t a)) (t (a + 1) - 48) (t (a + 2) - 48) (10 * (t (a + 3) - 48) + (t (a + 4) - 48))) r M' := by
  obtain ⟨j, h1, h2, h3, h4⟩ := hg
  have hL : zwL n ≤ 60 ∧ zwL n ≤ n := by unfold zwL; omega
  have hpos : 0 < zjd j := by unfold zjd; split <;> (try split) <;> omega
  have dg : ∀ q, q < zjd j → 48 ≤ t (a + 1 + q) ∧ t (a + 1 + q) ≤ 57 ∧ f6_digit (nI (a + 1 + q)) M = some (nI (t (a + 1 + q) - 48)) := by
    intro q hq
    obtain ⟨b1, b2⟩ := h4 q hq
    have b3 : zjb j q ≤ 57 := by unfold zjb; split <;> omega
    refine ⟨b1, by omega, ?_⟩
    rw [c_dig hT (by omega), zdg, if_pos ⟨b1, by omega⟩]
  have any : ∀ q, q < 900 → ∃ v, f6_digit (nI q) M = some v := by
    intro q hq
    by_cases g : q < n
    · exact ⟨_, c_dig hT g⟩
    · exact ⟨_, c_digE hT (by omega) (by omega)⟩
  obtain ⟨v2, hv2⟩ := any (a + 2) (by omega)
  have ha : f6_at (nI a) M = some (nI (zsgn 11 j)) := by rw [c_at hT (by omega), h2]
  have hd0 := dg 0 hpos
  rw [Nat.add_zero] at hd0
  have e1 : nI a + 1 = nI (a + 1) := nI_1 a
  have e2 : nI a + 2 = nI (a + 2) := nI_add a 2
  have start : f8_actAt (nI a) M = (if nI (zsgn 11 j) = 100 then (f7_drawOut 1 (nI (t (a + 1) - 48)) v2 M).bind fun p4 => some (p4.1, p4.2) else if nI (zsgn 11 j) = 110 then (f8_passNights (nI (t (a + 1) - 48)) M).bind fun p4 => some (p4.1, p4.2) else if nI (zsgn 11 j) = 116 then (f7_turnCell 1 (nI (t (a + 1) - 48)) v2 M).bind fun p4 => some (p4.1, p4.2) else if nI (zsgn 11 j) = 119 then (f6_digit (nI a + 3) M).bind fun x4 => (f6_digit (nI a + 4) M).bind fun x5 => (f7_weaveIn 1 (nI (t (a + 1) - 48)) v2 ((10 * x4) + x5) M).bind fun p6 => some (p6.1, p6.2) else (f7_turnRound 1 (nI (t (a + 1) - 48)) M).bind fun p4 => some (p4.1, p4.2)) := by
    rw [f8_actAt, e1, e2, hd0.2.2, Option.bind_some, hv2, Option.bind_some, ha, Option.bind_some]
  have hp := hc.2.1
  have he := hc.2.2.2.1
  rw [start, h2, zjx_e j h1]
  have kd : j = 1 ∨ j = 2 ∨ j = 4 → t (a + 1) - 48 < 2 := by
    intro q
    have := (h4 0 hpos).2
    rw [Nat.add_zero] at this
    unfold zjb at this
    rw [if_pos ⟨rfl, q⟩] at this
    omega
  have hv2' : 2 ≤ j → v2 = nI (t (a + 2) - 48) := by
    intro q
    have := (dg 1 (by unfold zjd; rw [if_neg (by omega)]; split <;> omega)).2.2
    rw [show a + 1 + 1 = a + 2 by omega, hv2] at this
    exact Option.some.inj this
  have hd2 : 2 ≤ j → t (a + 2) - 48 < 10 := by
    intro q
    have := dg 1 (by unfold zjd; rw [if_neg (by omega)]; split <;> omega)
    rw [show a + 1 + 1 = a + 2 by omega] at this
    omega
  generalize hD1 : t (a + 1) - 48 = d1 at kd
  have hd1 : d1 < 10 := by omega
  rcases (show j = 0 ∨ j = 1 ∨ j = 2 ∨ j = 3 ∨ j = 4 by omega) with rfl | rfl | rfl | rfl | rfl
  · -- nights
    obtain ⟨M', y1, y2, y3⟩ := c_passN hcr hW hc (n := d1) (by omega)
    have hb := zNn_C (t := cr) hc d1
    have hb1 := hb.2.1
    have hb2 := hb.2.2.2.1
    refine ⟨nI ((zNn cr d1 S).1 + (zNn cr d1 S).2.1), M', ?_, Or.inl ⟨_, rfl, nI_pos' (by omega), y2⟩⟩
    rw [if_neg (by decide), if_pos (by decide), y1]
    rfl
  · obtain ⟨M', y1, y2, y3⟩ := c_mirror hW.1 hc (kd (Or.inl rfl))
    refine ⟨_, M', ?_, Or.inl ⟨_, rfl, nI_pos' (zmir_lt hc d1), y2, by rw [y3]; exact hW.2⟩⟩
    rw [if_neg (by decide), if_neg (by decide), if_neg (by decide), if_neg (by decide), y1]
    rfl
  · have ev := hv2' (by omega)
    have hd2' := hd2 (by omega)
    rw [if_pos (by decide), ev]
    generalize t (a + 2) - 48 = d2 at hd2'
    by_cases g : d2 < zmany S.1 S.2.1 d1 ∧ 2 ≤ zmany S.1 S.2.1 d1
    · obtain ⟨M', y1, y2, y3⟩ := c_draw hW.1 hc (kd (by omega)) g.1 g.2
      have hb := zth_lt64 hc d1 d2
      refine ⟨_, M', by rw [y1]; rfl, Or.inl ⟨_, if_pos g, nI_pos' (by omega), y2, by rw [y3]; exact hW.2⟩⟩
    · rcases draw_cases hc (nI d1) (nI d2) with ⟨r, r1, r2, -⟩ | ⟨a', b', q1, q2, q3, q4, q5⟩
      · exact ⟨r, M, by rw [r2 M 1 hW.1]; rfl, Or.inr ⟨if_neg g, r1, hW⟩⟩
      · have hm := zmany_le hc a'
        rw [nI_eq (by omega) (by omega)] at q4 q5
        exact absurd ⟨by rw [q4, q5]; exact q2, by rw [q4]; exact q3⟩ g
  · have ev := hv2' (by omega)
    have hd2' := hd2 (by omega)
    rw [if_neg (by decide), if_neg (by decide), if_pos (by decide), ev]
    generalize t (a + 2) - 48 = d2 at hd2'
    by_cases g : d1 < S.1 ∧ d2 < S.2.1
    · obtain ⟨M', y1, y2, y3⟩ := c_flip hW.1 hc g.1 g.2
      exact ⟨_, M', by rw [y1]; rfl, Or.inl ⟨_, if_pos g, nI_pos' (zovs_lt _ _ hp), y2, by rw [y3]; exact hW.2⟩⟩
    · have hv : ¬ (zVd S.1 S.2.1 0 (nI d1) ∧ zVd S.1 S.2.1 1 (nI d2)) := fun q => g ⟨(zVd_n hc (a := 0) (by omega) (by omega)).mp q.1, (zVd_n hc (a := 1) (by omega) (by omega)).mp q.2⟩
      exact ⟨-1, M, by rw [(flip_no hc hv).1 M 1 hW.1]; rfl, Or.inr ⟨if_neg g, by decide, hW⟩⟩
  · have ev := hv2' (by omega)
    have hd2' := hd2 (by omega)
    have q3 := dg 2 (by decide)
    have q4 := dg 3 (by decide)
    rw [show a + 1 + 2 = a + 3 by omega] at q3
    rw [show a + 1 + 3 = a + 4 by omega] at q4
    rw [if_neg (by decide), if_neg (by decide), if_neg (by decide), if_pos (by decide), ev, show nI a + 3 = nI (a + 3) from nI_add a 3, show nI a + 4 = nI (a + 4) from nI_add a 4, q3.2.2, Option.bind_some, q4.2.2, Option.bind_some, show (10 : Int32) = nI 10 from rfl, nI_mul, nI_add]
    have hd3 : 10 * (t (a + 3) - 48) + (t (a + 4) - 48) < 100 := by omega
    generalize 10 * (t (a + 3) - 48) + (t (a + 4) - 48) = d3 at hd3
    generalize t (a + 2) - 48 = d2 at hd2'
    by_cases g : d2 ≤ zmany S.1 S.2.1 d1 ∧ zmany S.1 S.2.1 d1 < 6 ∧ d3 < 2 ^ zmany S.1 S.2.1 (1 - d1)
    · obtain ⟨M', y1, y2, y3⟩ := c_weave hW.1 hc (kd (by omega)) g.1 g.2.1 g.2.2
      exact ⟨_, M', by rw [y1]; rfl, Or.inl ⟨_, if_pos g, nI_pos' (by omega), y2, by rw [y3]; exact hW.2⟩⟩
    · rcases weave_cases hc (nI d1) (nI d2) (nI d3) with ⟨r2, -⟩ | ⟨r2, -⟩ | ⟨a', b', v', q1, q2, q3, q4, q5, q6, q7⟩
      · exact ⟨-1, M, by rw [r2 M 1 hW.1]; rfl, Or.inr ⟨if_neg g, by decide, hW⟩⟩
      · exact ⟨-2, M, by rw [r2 M 1 hW.1]; rfl, Or.inr ⟨if_neg g, by decide, hW⟩⟩
      · have hm := zmany_le hc a'
        have hm2 := zpe (zmany_le hc (1 - a')).2
        rw [nI_eq (by omega) (by omega)] at q5 q6 q7
        exact absurd ⟨by rw [q5, q6]; exact q2, by rw [q5]; exact q3, by rw [q5, q7]; exact q4⟩ g
def zdone9 (S : zS4) (o : Option zS4) (r : Int32) (M' : zM) : Prop := (∃ S', o = some S' ∧ r = 1 ∧ zRS M' 41 S') ∨ (o = none ∧ r = 0 ∧ zRS M' 41 S)
theorem r_does (hR : zRS M 41 S) (hc : zSC S) (hcr : zCr M cr) {i j a : Nat} (hi : i < 60) (hj : j < 5) (hd : zad2 M i j t a) (hg : ∀ q, q < zjd j → zjg t j q (a + q)) : ∃ r M', f9_does (nI i) M = some (r, M') ∧ zdone9 S (zwkk cr S j (t a - 48) (t (a + 1) - 48) (10 * (t (a + 2) - 48) + (t (a + 3) - 48))) r M' := by
  obtain ⟨h0, h1, h2, h3⟩ := hd
  have hpos : 0 < zjd j := by unfold zjd; split <;> (try split) <;> omega
  have hp := hc.2.1
  have he := hc.2.2.2.1
  have dg : ∀ q, q < zjd j → t (a + q) - 48 < 10 := by
    intro q hq
    have b2 := (hg q hq).2
    have b3 : zjb j q ≤ 57 := by unfold zjb; split <;> omega
    omega
  have kd : j = 1 ∨ j = 2 ∨ j = 4 → t a - 48 < 2 := by
    intro q
    have := (hg 0 hpos).2
    rw [Nat.add_zero] at this
    unfold zjb at this
    rw [if_pos ⟨rfl, q⟩] at this
    omega
  have hd1 := dg 0 hpos
  rw [Nat.add_zero] at hd1
  rw [f9_does, zaI_n hi (by omega), h1, Option.bind_some, zaI_n hi (by omega), h0, Option.bind_some]
  generalize t a - 48 = d1 at kd hd1
  rcases (show j = 0 ∨ j = 1 ∨ j = 2 ∨ j = 3 ∨ j = 4 by omega) with rfl | rfl | rfl | rfl | rfl
  · obtain ⟨M', y1, y2⟩ := r_nights hcr hR hc (by omega) (by omega) (n := d1) (by omega)
    exact ⟨1, M', by rw [if_pos (by decide), y1]; rfl, Or.inl ⟨_, rfl, rfl, y2⟩⟩
  · obtain ⟨M', y1, y2, y3⟩ := r_mirror hR.1 hc (kd (Or.inl rfl))
    refine ⟨1, M', ?_, Or.inl ⟨_, rfl, rfl, y2, by rw [y3]; exact hR.2⟩⟩
    rw [if_neg (by decide), if_pos (by decide), y1, Option.bind_some]
    simp only []
    rw [if_neg (nI_pos (zmir_lt hc d1))]
  · have hd2 := dg 1 (by decide)
    rw [if_neg (by decide), if_neg (by decide), if_pos (by decide), zaI_n hi (by omega), h2 (by omega), Option.bind_some]
    generalize t (a + 1) - 48 = d2 at hd2
    by_cases g : d2 < zmany S.1 S.2.1 d1 ∧ 2 ≤ zmany S.1 S.2.1 d1
    · obtain ⟨M', y1, y2, y3⟩ := r_draw hR.1 hc (kd (by omega)) g.1 g.2
      have hb := zth_lt64 hc d1 d2
      refine ⟨1, M', ?_, Or.inl ⟨_, if_pos g, rfl, y2, by rw [y3]; exact hR.2⟩⟩
      rw [y1, Option.bind_some]
      simp only []
      rw [if_neg (nI_pos (by omega))]
    · rcases draw_cases hc (nI d1) (nI d2) with ⟨r, r1, -, r2⟩ | ⟨a', b', q1, q2, q3, q4, q5⟩
      · refine ⟨0, M, ?_, Or.inr ⟨if_neg g, rfl, hR⟩⟩
        rw [r2 M hR.1, Option.bind_some]
        simp only []
        rw [if_pos r1]
      · have hm := zmany_le hc a'
        rw [nI_eq (by omega) (by omega)] at q4 q5
        exact absurd ⟨by rw [q4, q5]; exact q2, by rw [q4]; exact q3⟩ g
  · have hd2 := dg 1 (by decide)
    rw [if_neg (by decide), if_neg (by decide), if_neg (by decide), if_pos (by decide), zaI_n hi (by omega), h2 (by omega), Option.bind_some]
    generalize t (a + 1) - 48 = d2 at hd2
    by_cases g : d1 < S.1 ∧ d2 < S.2.1
    · obtain ⟨M', y1, y2, y3⟩ := r_flip hR.1 hc g.1 g.2
      refine ⟨1, M', ?_, Or.inl ⟨_, if_pos g, rfl, y2, by rw [y3]; exact hR.2⟩⟩
      rw [y1, Option.bind_some]
      simp only []
      rw [if_neg (nI_pos (zovs_lt _ _ hp))]
    · have hv : ¬ (zVd S.1 S.2.1 0 (nI d1) ∧ zVd S.1 S.2.1 1 (nI d2)) := fun q => g ⟨(zVd_n hc (a := 0) (by omega) (by omega)).mp q.1, (zVd_n hc (a := 1) (by omega) (by omega)).mp q.2⟩
      refine ⟨0, M, ?_, Or.inr ⟨if_neg g, rfl, hR⟩⟩
      rw [(flip_no hc hv).2 M 41 hR.1]
      rfl
  · have hd2 := dg 1 (by decide)
    have hd3a := dg 2 (by decide)
    have hd3b := dg 3 (by decide)
    rw [if_neg (by decide), if_neg (by decide), if_neg (by decide), if_neg (by decide), zaI_n hi (by omega), h2 (by omega), Option.bind_some, zaI_n hi (by omega), h3 (by omega), Option.bind_some]
    have hd3 : 10 * (t (a + 2) - 48) + (t (a + 3) - 48) < 100 := by omega
    generalize 10 * (t (a + 2) - 48) + (t (a + 3) - 48) = d3 at hd3
    generalize t (a + 1) - 48 = d2 at hd2
    by_cases g : d2 ≤ zmany S.1 S.2.1 d1 ∧ zmany S.1 S.2.1 d1 < 6 ∧ d3 < 2 ^ zmany S.1 S.2.1 (1 - d1)
    · obtain ⟨M', y1, y2, y3⟩ := r_weave hR.1 hc (kd (by omega)) g.1 g.2.1 g.2.2
      refine ⟨1, M', ?_, Or.inl ⟨_, if_pos g, rfl, y2, by rw [y3]; exact hR.2⟩⟩
      rw [y1, Option.bind_some]
      simp only []
      rw [if_neg (nI_pos (by omega))]
    · rcases weave_cases hc (nI d1) (nI d2) (nI d3) with ⟨-, r2⟩ | ⟨-, r2⟩ | ⟨a', b', v', q1, q2, q3, q4, q5, q6, q7⟩
      · exact ⟨0, M, by rw [r2 M 41 hR.1]; rfl, Or.inr ⟨if_neg g, rfl, hR⟩⟩
      · exact ⟨0, M, by rw [r2 M 41 hR.1]; rfl, Or.inr ⟨if_neg g, rfl, hR⟩⟩
      · have hm := zmany_le hc a'
        have hm2 := zpe (zmany_le hc (1 - a')).2
        rw [nI_eq (by omega) (by omega)] at q5 q6 q7
        exact absurd ⟨by rw [q5, q6]; exact q2, by rw [q5]; exact q3, by rw [q5, q7]; exact q4⟩ g
end WX
