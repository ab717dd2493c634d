theorem zcsl_lf {c : Nat} (h : zlf c) (k : Nat) : zcsl [c] k = some (k + 1) := by
  show (zcs c k).bind (zcsl []) = _
  unfold zlf at h
  rw [zcs, if_pos h]
  rfl
theorem zcsl_op {c : Nat} (h : zop c) (k : Nat) : zcsl [c] (k + 2) = some (k + 1) := by
  show (zcs c (k + 2)).bind (zcsl []) = _
  have h2 := (zop_nlf h).1
  unfold zop at h
  unfold zlf at h2
  rw [zcs, if_neg h2, if_pos h, if_neg (by omega)]
  rfl
theorem zcsl_mi (k : Nat) : zcsl [1256] (k + 1) = some (k + 1) := by
  show (zcs 1256 (k + 1)).bind (zcsl []) = _
  rw [zcs, if_neg (by decide), if_neg (by decide), if_pos rfl, if_neg (by omega)]
  rfl
theorem zbi3 : ∀ s, s < 256 → zbi (1000 + s) ≤ 3 := by decide +kernel
theorem zJ_none {s : Nat} {o W : List Nat} {dg : Nat} {C : List Bool} (h1 : 48 ≤ s → s ≤ 57 → 3 ≤ dg) (h2 : s ≠ 41 ∨ C.length ≤ 1) (h3 : zbi (1000 + s) ≤ 0 ∨ (C.headD false = true ∧ zbi (1000 + s) ≤ 1)) : zstp s (o, W, dg, C, false) = none := by
  show zstJ s (o, W, dg, C, false) = none
  unfold zstJ
  simp only []
  by_cases g1 : 48 ≤ s ∧ s ≤ 57
  · rw [if_pos g1, if_pos (h1 g1.1 g1.2)]
  · rw [if_neg g1]
    by_cases g2 : s = 41
    · rw [if_pos g2, if_pos (h2.resolve_left (fun q => q g2))]
    · rw [if_neg g2]
      by_cases g3 : zbi (1000 + s) = 0
      · rw [if_pos g3]
      · rw [if_neg g3]
        rcases h3 with h3 | h3
        · omega
        · rw [if_pos ⟨by omega, h3.1⟩]
theorem zT_none {s : Nat} {o W : List Nat} {dg : Nat} {C : List Bool} (h1 : s ≠ 45) (h2 : s ≠ 40 ∨ ¬ C.length < 5) (h3 : ¬ (48 ≤ s ∧ s ≤ 57)) (h4 : ztrt s = false) : zstp s (o, W, dg, C, true) = none := by
  show zstT s (o, W, dg, C, true) = none
  unfold zstT
  simp only []
  rw [if_neg h1]
  by_cases g2 : s = 40
  · rw [if_pos g2, if_neg (h2.resolve_left (fun q => q g2))]
  · rw [if_neg g2, if_neg h3, if_neg (by rw [h4]; decide)]
section RS
variable {L : Nat} {t : Nat → Nat}
def zI0 (t : Nat → Nat) (L n : Nat) : Prop := ∀ (X : zM) (a : Nat) (o W : List Nat) (dg : Nat) (C : List Bool) (g : List Nat), zrX X L a t (C.length - 1) g → 1 ≤ C.length → C.length ≤ 5 → g.length ≤ a → L - a + 5 * (5 - C.length) + 1 ≤ n → ∃ p, f9_reads n 0 0 X = some p ∧ zPo t L 3 a o W dg C g p
def zI1 (t : Nat → Nat) (L n : Nat) : Prop := ∀ (r : Nat) (X : zM) (a : Nat) (o W : List Nat) (dg : Nat) (C : List Bool) (g : List Nat), r ≤ 3 → zhd r W → (r = 0 → C.headD false = false) → zrX X L a t (C.length - 1) g → 1 ≤ C.length → C.length ≤ 5 → g.length ≤ a → L - a + 5 * (5 - C.length) + 1 + (4 - r) ≤ n → ∃ p, f9_reads n 1 (nI r) X = some p ∧ zPo t L r a o W dg C g p
theorem r_thing {n : Nat} {X : zM} {a : Nat} {o W : List Nat} {dg : Nat} {C : List Bool} {g : List Nat} (hL : L ≤ 40) (ih0 : zI0 t L n) (ih1 : zI1 t L n) (h : zrX X L a t (C.length - 1) g) (hc1 : 1 ≤ C.length) (hc5 : C.length ≤ 5) (hg : g.length ≤ a) (hn : L - a + 5 * (5 - C.length) + 1 ≤ n + 1) : ∃ p, f9_readsThing (f9_reads n) X = some p ∧ zPo t L 3 a o W dg C g p := by
  have haL := h.1.2.1
  rcases r_takes h.1 (v := 45) (by omega) with ⟨q1, q2, q3⟩ | ⟨q1, q3⟩
  · have st1 : zstp (t a) (o, W, dg, C, true) = some (o, 1256 :: W, dg, C, true) := by
      show zstT (t a) (o, W, dg, C, true) = _
      unfold zstT
      rw [if_pos q2]
    obtain ⟨p, p1, p2⟩ := ih0 (zsi X 39 8 (nI (a + 1))) (a + 1) o (1256 :: W) dg C g (h.mv q1) hc1 hc5 (by omega) (by omega)
    have eu : f9_readsThing (f9_reads n) X = (f9_codes 3000 p.2).bind fun M3 => (zbl p.1).bind fun _ => some (p.1, M3) := by
      rw [f9_readsThing, show (45 : Int32) = nI 45 from rfl, q3, Option.bind_some, if_neg (show ¬ (1 : Int32) = 0 by decide), p1, Option.bind_some]
    rw [eu]
    rcases p2 with ⟨e1, a', o', P, dg', C', e, k1, k2, k3, k4, k5, k6, k7, k8, k9, k10, k11⟩ | ⟨e1, q, st', k, k1, k2, k3, k4, k5, k6⟩
    · obtain ⟨Y, y1, y2⟩ := k7.em (by rw [List.length_append]; omega) 1256
      refine ⟨(1, Y), ?_, Or.inl ⟨rfl, a', o', P ++ [1256], dg', C', e ++ [1256], (zR.st st1).tr (by rw [List.append_assoc]; exact k1), k2, ?_, ?_, ?_, ?_, by rw [← List.append_assoc]; exact y2, k8, k9, k10, k11⟩⟩
      · rw [show (3000 : Int32) = nI (zcr 1256) from rfl, y1, e1]
        rfl
      · rw [← List.append_assoc, k3, List.append_assoc]
      · intro c hc
        rcases List.mem_append.mp hc with q | q
        · exact k4 c q
        · rw [List.mem_singleton.mp q]
          decide
      · intro h
        rw [zcsl_app, k5, Option.bind_some, zcsl_mi]
      · rw [List.length_append]
        show e.length + 1 + a ≤ a'
        omega
    · obtain ⟨Y, y1, y2, y3, y4, y5⟩ := r_code k3 k4 (by omega) 3000
      refine ⟨(0, Y), by rw [y1, e1]; rfl, Or.inr ⟨rfl, q, st', k + 1, (zR.st st1).tr k1, k2, y2, y3, by omega, k6⟩⟩
  · have hX := h.rs
    have hd := r_isDig hX.1
    rw [f9_readsThing, show (45 : Int32) = nI 45 from rfl, q3, Option.bind_some, if_pos (show (0 : Int32) = 0 from rfl), hd, Option.bind_some]
    by_cases q : a < L ∧ 48 ≤ t a ∧ t a ≤ 57
    · rw [decide_eq_true q.1, decide_eq_true q.2.1, decide_eq_true q.2.2, if_neg (show ¬ nI (zi (true && (true && true))) = 0 by decide)]
      have st1 : zstp (t a) (o, W, dg, C, true) = some (o ++ [t a - 48], W, 1, C, false) := by
        show zstT (t a) (o, W, dg, C, true) = _
        unfold zstT
        rw [if_neg (by omega), if_neg (by omega), if_pos ⟨q.2.1, q.2.2⟩]
      rw [decide_eq_true q.1, decide_eq_true q.2.1, decide_eq_true q.2.2] at hd
      have hX2 := hX.mv q.1
      obtain ⟨m, v', Y, y1, y2, y3, y4, y5, y6, y7⟩ := r_num 2 1 (a + 1) (t a - 48) _ 4999 (by omega) (by omega) hX2.1 (by omega)
      have en : f9_number 3 (zsi X 39 8 (nI a)) = some (nI v', Y) := by
        obtain ⟨h1, h2, h3, h4, h5, h6⟩ := hX.1
        have ev : ((10 : Int32) * 0 + nI (t a)) - 48 = nI (t a - 48) := by
          rw [Int32.mul_zero, Int32.zero_add]
          exact nI_sub (b := 48) (by omega)
        rw [f9_number, hd, Option.bind_some, if_neg (show ¬ nI (zi (true && (true && true))) = 0 by decide), show zfuel = 4999 + 1 from rfl, f9_number_13, if_neg (by decide), hd, Option.bind_some, if_neg (show ¬ nI (zi (true && (true && true))) = 0 by decide), h4, zaI_n (by omega) (by omega), (h5 a q.1).2, Option.bind_some, ev, nI_1, show (0 : Int32) + 1 = nI 1 from rfl]
        exact y1
      have hY : zrX Y L (a + 1 + m) t (C.length - 1) g := by
        rcases y2 with y2 | y2
        · exact ⟨y3, by rw [y2]; exact hX2.2.1, by rw [y2]; exact hX2.2.2.1, fun i c hc => by rw [y2]; exact hX2.2.2.2 i c hc⟩
        · exact ⟨y3, by rw [y2, zsi1, if_neg (by omega)]; exact hX2.2.1, by rw [y2, zsi1, if_neg (by omega)]; exact hX2.2.2.1, fun i c hc => by rw [y2, zsi_ne (by omega)]; exact hX2.2.2.2 i c hc⟩
      have hv : v' < 1000 := by
        have : 10 ^ (1 + m) ≤ 10 ^ 3 := Nat.pow_le_pow_right (by omega) (by omega)
        omega
      obtain ⟨Z, z1, z2⟩ := hY.em (by omega) v'
      rw [zcr_num hv] at z1
      refine ⟨(1, Z), ?_, Or.inl ⟨rfl, a + 1 + m, o ++ [v'], [], 1 + m, C, [v'], (zR.st st1).tr (y6 o W C), y3.2.1, by rw [List.append_nil], fun c hc => absurd hc (by simp), zcsl_lf (Or.inl hv), by show 1 + a ≤ _; omega, z2, rfl, rfl, fun _ => rfl, fun q5 => ⟨fun q6 q7 => y7 q5 q6 q7, Or.inl (zbi3 _ (y3.2.2.2.2.1 _ q5).1)⟩⟩⟩
      rw [en, Option.bind_some, z1, Option.bind_some]
    · have e0 : (decide (a < L) && (decide (48 ≤ t a) && decide (t a ≤ 57))) = false := by
        rw [← Bool.not_eq_true]
        simp only [Bool.and_eq_true, decide_eq_true_eq]
        exact fun z => q z
      rw [e0, if_pos (show nI (zi false) = 0 from rfl)]
      rcases r_takesOf hX.1 (k := 7) (by omega) with ⟨j, j1, j2, j3, j4⟩ | ⟨j1, j4⟩
      · have hj : j < 8 := j1
        obtain ⟨g1, g2, g3, g4, g5, g6⟩ := zsg7 hj
        have st1 : zstp (t a) (o, W, dg, C, true) = some (o ++ [1000 + t a], W, 3, C, false) := by
          show zstT (t a) (o, W, dg, C, true) = _
          unfold zstT
          rw [j3, if_neg g2, if_neg g3, if_neg g4, if_pos g1]
        have hX2 := hX.mv j2
        obtain ⟨Z, z1, z2⟩ := hX2.em (by omega) (1000 + zsgn 7 j)
        refine ⟨(1, Z), ?_, Or.inl ⟨rfl, a + 1, o ++ [1000 + t a], [], 3, C, [1000 + t a], zR.st st1, by omega, by rw [List.append_nil], fun c hc => absurd hc (by simp), zcsl_lf (by rw [j3]; exact g6), by show 1 + a ≤ _; omega, by rw [j3]; exact z2, rfl, rfl, fun _ => rfl, fun q5 => ⟨fun q6 q7 => Nat.le_refl _, Or.inl (zbi3 _ (hX2.1.2.2.2.2.1 _ q5).1)⟩⟩⟩
        rw [j4, Option.bind_some, if_neg (show ¬ nI j < 0 from nI_nlt (b := 0) (by omega) (by omega)), g5, z1, Option.bind_some]
      · have hq45 : a < L → t a ≠ 45 := fun z => q1.resolve_left (by omega)
        have hq7 : a < L → ztrt (t a) = false := fun z => zsg7n _ (hX.1.2.2.2.2.1 a z).1 (j1.resolve_left (by omega))
        have e10 : (zsi X 39 8 (nI a)).1 39 10 = nI (C.length - 1) := hX.2.1
        rw [j4, Option.bind_some, if_pos (show (-1 : Int32) < 0 by decide)]
        show ∃ p, (if (zsi X 39 8 (nI a)).1 39 10 = 4 then _ else _) = some p ∧ _
        rw [e10]
        by_cases g5 : C.length = 5
        · rw [if_pos (show nI (C.length - 1) = 4 by rw [g5]; rfl)]
          refine ⟨_, rfl, Or.inr ⟨rfl, a, (o, W, dg, C, true), g.length, zR.rf, haL, hX.1, hX.2.2.1, Nat.le_refl _, ?_⟩⟩
          by_cases z : a < L
          · exact Or.inl ⟨z, zT_none (hq45 z) (Or.inr (by omega)) (fun z2 => q ⟨z, z2⟩) (hq7 z)⟩
          · exact Or.inr ⟨by omega, Or.inl rfl⟩
        · rw [if_neg (show ¬ nI (C.length - 1) = 4 from nI_ne (b := 4) (by omega) (by omega) (by omega))]
          rcases r_takes hX.1 (v := 40) (by omega) with ⟨u1, u2, u3⟩ | ⟨u1, u3⟩
          · have st1 : zstp (t a) (o, W, dg, C, true) = some (o, 1040 :: W, dg, false :: C, true) := by
              show zstT (t a) (o, W, dg, C, true) = _
              unfold zstT
              rw [if_neg (by omega), if_pos u2, if_pos (show C.length < 5 by omega)]
            have hX2 : zrX (zsi (zsi (zsi X 39 8 (nI a)) 39 8 (nI (a + 1))) 39 10 (nI C.length)) L (a + 1) t ((false :: C).length - 1) g := (hX.mv u1).ne C.length
            obtain ⟨p, p1, p2⟩ := ih1 0 _ (a + 1) o (1040 :: W) dg (false :: C) g (by omega) (fun c W' z => by rw [← (List.cons.inj z).1]; decide) (fun _ => rfl) hX2 (by show 1 ≤ C.length + 1; omega) (by show C.length + 1 ≤ 5; omega) (by omega) (by show L - (a + 1) + 5 * (5 - (C.length + 1)) + 1 + (4 - 0) ≤ n; omega)
            have e11 : (zsi (zsi X 39 8 (nI a)) 39 8 (nI (a + 1))).1 39 10 + 1 = nI C.length := by
              rw [zsi1, if_neg (by omega), e10, nI_1]
              congr 1
              omega
            rw [show (40 : Int32) = nI 40 from rfl, u3, Option.bind_some, if_neg (show ¬ (1 : Int32) = 0 by decide)]
            show ∃ p, (f9_reads n 1 0 (zsi (zsi (zsi X 39 8 (nI a)) 39 8 (nI (a + 1))) 39 10 ((zsi (zsi X 39 8 (nI a)) 39 8 (nI (a + 1))).1 39 10 + 1))).bind _ = some p ∧ _
            rw [e11, show (0 : Int32) = nI 0 from rfl, p1, Option.bind_some]
            rcases p2 with ⟨e1, a', o', P, dg', C', e, k1, k2, k3, k4, k5, k6, k7, k8, k9, k10, k11⟩ | ⟨e1, k0⟩
            · rw [e1, if_neg (show ¬ (1 : Int32) = nI 0 by decide)]
              have k8' : C'.tail = C := k8
              have k9' : C'.length = C.length + 1 := k9
              rcases r_takes k7.1 (v := 41) (by omega) with ⟨w1, w2, w3⟩ | ⟨w1, w3⟩
              · have st2 : zstp (t a') (o', P ++ 1040 :: W, dg', C', false) = some (o' ++ P, W, 3, C, false) := by
                  show zstJ (t a') (o', P ++ 1040 :: W, dg', C', false) = _
                  unfold zstJ
                  simp only []
                  rw [if_neg (by omega), if_pos w2, if_neg (by omega), zrel_all P o' (1040 :: W) (fun c hc => k4 c hc), zrel_stop (r := 0) (by omega) _ _ (fun c W' z => by rw [← (List.cons.inj z).1]; decide), k8']
                  rfl
                have hY := k7.mv w1
                have e12 : (zsi p.2 39 8 (nI (a' + 1))).1 39 10 - 1 = nI (C.length - 1) := by
                  rw [hY.2.1]
                  exact nI_sub (a := C.length) (b := 1) hc1
                refine ⟨(1, zsi (zsi p.2 39 8 (nI (a' + 1))) 39 10 (nI (C.length - 1))), ?_, Or.inl ⟨rfl, a' + 1, o' ++ P, [], 3, C, e, ((zR.st st1).tr k1).tr (zR.st st2), by omega, by rw [List.append_nil]; exact k3, fun c hc => absurd hc (by simp), k5, by omega, hY.ne _, rfl, rfl, fun _ => rfl, fun q5 => ⟨fun _ _ => Nat.le_refl _, Or.inl (zbi3 _ (k7.1.2.2.2.2.1 _ q5).1)⟩⟩⟩
                rw [show (41 : Int32) = nI 41 from rfl, w3, Option.bind_some, if_neg (show ¬ (1 : Int32) = nI 0 by decide)]
                show some ((1 : Int32), zsi (zsi p.2 39 8 (nI (a' + 1))) 39 10 ((zsi p.2 39 8 (nI (a' + 1))).1 39 10 - 1)) = _
                rw [e12]
              · rw [show (41 : Int32) = nI 41 from rfl, w3, Option.bind_some, if_pos (show (0 : Int32) = nI 0 from rfl)]
                refine ⟨_, rfl, Or.inr ⟨rfl, a', (o', P ++ 1040 :: W, dg', C', false), (g ++ e).length, (zR.st st1).tr k1, k2, k7.rs.1, k7.rs.2.2.1, by rw [List.length_append]; omega, ?_⟩⟩
                by_cases z : a' < L
                · obtain ⟨k11, k12⟩ := k11 z
                  exact Or.inl ⟨z, zJ_none k11 (Or.inl (w1.resolve_left (by omega))) k12⟩
                · exact Or.inr ⟨by omega, Or.inr (show 1 < C'.length by omega)⟩
            · rw [e1, if_pos (show (0 : Int32) = nI 0 from rfl)]
              exact ⟨_, rfl, Or.inr ⟨rfl, k0.tr (zR.st st1) (by omega)⟩⟩
          · rw [show (40 : Int32) = nI 40 from rfl, u3, Option.bind_some, if_pos (show (0 : Int32) = 0 from rfl)]
            refine ⟨_, rfl, Or.inr ⟨rfl, a, (o, W, dg, C, true), g.length, zR.rf, haL, hX.rs.1, hX.rs.2.2.1, Nat.le_refl _, ?_⟩⟩
            by_cases z : a < L
            · exact Or.inl ⟨z, zT_none (hq45 z) (Or.inl (u1.resolve_left (by omega))) (fun z2 => q ⟨z, z2⟩) (hq7 z)⟩
            · exact Or.inr ⟨by omega, Or.inl rfl⟩
end RS
