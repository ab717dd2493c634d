section RV
variable {L : Nat} {t : Nat → Nat}
theorem r_loop {n r a : Nat} {o W : List Nat} {dg : Nat} {C : List Bool} {g : List Nat} (hL : L ≤ 40) (hr : r < 3) (ih1 : zI1 t L n) (hw : zhd r W) (hC : r = 0 → C.headD false = false) (hc1 : 1 ≤ C.length) (hc5 : C.length ≤ 5) (hg : g.length ≤ a) (hn : L - a + 5 * (5 - C.length) + 1 + (4 - r) ≤ n + 1) : ∀ (k F a1 : Nat) (o1 P1 : List Nat) (dg1 : Nat) (C1 : List Bool) (e1 : List Nat) (X : zM), L - a1 < k → k ≤ F → zOk t L r (r + 1) a o W dg C g a1 o1 P1 dg1 C1 e1 X → (r = 0 → C1 = C) → ∃ p, f9_readsRank_24 (f9_reads n) F (nI r) 1 X = some p ∧ zPo t L r a o W dg C g p := by
  intro k
  induction k with
  | zero =>
    intro F a1 o1 P1 dg1 C1 e1 X hk
    omega
  | succ k ih =>
    intro F a1 o1 P1 dg1 C1 e1 X hk hF h hC1
    obtain ⟨F, rfl⟩ : ∃ g, F = g + 1 := ⟨F - 1, by omega⟩
    have h' := h
    obtain ⟨k1, k2, k3, k4, k5, k6, k7, k8, k9, k10, k11⟩ := h'
    have ha1 := k1.1
    have eu : f9_readsRank_24 (f9_reads n) (F + 1) (nI r) 1 X = f9_readsRank_50 (f9_reads n) (f9_readsRank_24 (f9_reads n) F) (nI r) (8 + r) X := by
      rw [f9_readsRank_24, if_neg (show ¬ (1 : Int32) = 0 by decide)]
      rcases (show r = 0 ∨ r = 1 ∨ r = 2 by omega) with q | q | q
      · rw [q, if_pos (show nI 0 = 0 from rfl)]
      · rw [q, if_neg (show ¬ nI 1 = 0 by decide), if_pos (show nI 1 = 1 from rfl)]
      · rw [q, if_neg (show ¬ nI 2 = 0 by decide), if_neg (show ¬ nI 2 = 1 by decide)]
    rw [eu, f9_readsRank_50]
    rcases r_takesOf k7.1 (k := 8 + r) (by omega) with ⟨j, j1, j2, j3, j4⟩ | ⟨j1, j4⟩
    · have hj : j < 8 := by
        have := zlen_le (8 + r) (by omega)
        omega
      obtain ⟨s1, s2, s3, s4, s5⟩ := zsg8 hr hj j1
      rw [← j3] at s1 s2 s3 s4 s5
      rw [j4, Option.bind_some, if_pos (show (0 : Int32) ≤ nI j from nI_le (a := 0) (by omega) (by omega)), nI_1]
      obtain ⟨b0, c1, rfl⟩ : ∃ b c, C1 = b :: c := by
        cases C1 with
        | nil => exact absurd k9 (by show ¬ 0 = C.length; omega)
        | cons b c => exact ⟨b, c, rfl⟩
      have k9' : c1.length + 1 = C.length := k9
      have k8' : c1 = C.tail := k8
      have hno : ¬ (r + 1 = 1 ∧ b0 = true) := by
        rintro ⟨q1, q2⟩
        have q3 := hC (by omega)
        rw [← hC1 (by omega), q2] at q3
        exact Bool.noConfusion (show true = false from q3)
      have st1 : zstp (t a1) (o1, P1 ++ W, dg1, b0 :: c1, false) = some (o ++ e1, (1000 + t a1) :: W, dg1, (b0 || r + 1 == 1) :: c1, true) := by
        show zstJ (t a1) (o1, P1 ++ W, dg1, b0 :: c1, false) = _
        unfold zstJ
        simp only []
        rw [if_neg s3, if_neg s4, s1, if_neg (by omega), show (b0 :: c1).headD false = b0 from rfl, if_neg hno, zrel_all P1 o1 W k4, zrel_stop (r := r) (by omega) _ _ hw, k3]
        rfl
      have hX2 : zrX (zsi X 39 8 (nI (a1 + 1))) L (a1 + 1) t (((b0 || r + 1 == 1) :: c1).length - 1) (g ++ e1) := by
        have := k7.mv j2
        rw [show C.length = c1.length + 1 by omega] at this
        exact this
      obtain ⟨p, p1, p2⟩ := ih1 (r + 1) _ (a1 + 1) (o ++ e1) ((1000 + t a1) :: W) dg1 ((b0 || r + 1 == 1) :: c1) (g ++ e1) (by omega) (fun c W' z => by rw [← (List.cons.inj z).1, s1]; omega) (fun q => absurd q (by omega)) hX2 (by show 1 ≤ c1.length + 1; omega) (by show c1.length + 1 ≤ 5; omega) (by rw [List.length_append]; omega) (by show L - (a1 + 1) + 5 * (5 - (c1.length + 1)) + 1 + (4 - (r + 1)) ≤ n; omega)
      rw [p1, Option.bind_some]
      rcases p2 with ⟨e0, a2, o2, P2, dg2, C2, e2, m1, m2, m3, m4, m5, m6, m7, m8, m9, m10, m11⟩ | ⟨e0, k0⟩
      · have hC2 := m10 (by omega)
        subst hC2
        obtain ⟨Y, y1, y2⟩ := m7.em (by rw [List.length_append, List.length_append]; omega) (1000 + t a1)
        rw [e0, if_neg (show ¬ (1 : Int32) = 0 by decide), s2, y1, Option.bind_some]
        have hk2 : ∀ m, (a2 < L → zbi (1000 + t a2) ≤ m ∨ ((b0 || r + 1 == 1) = true ∧ zbi (1000 + t a2) ≤ 1)) → zOk t L r m a o W dg C g a2 o2 (P2 ++ [1000 + t a1]) dg2 ((b0 || r + 1 == 1) :: c1) (e1 ++ e2 ++ [1000 + t a1]) Y := by
          intro m hm
          refine ⟨(k1.tr (zR.st st1)).tr (by rw [List.append_assoc]; exact m1), m2, ?_, ?_, ?_, ?_, ?_, k8, k9, ?_, fun q => ⟨(m11 q).1, hm q⟩⟩
          · rw [← List.append_assoc, m3, List.append_assoc, List.append_assoc, List.append_assoc]
          · intro c hc
            rcases List.mem_append.mp hc with q | q
            · have := m4 c q
              omega
            · rw [List.mem_singleton.mp q, s1]
              exact Nat.le_refl _
          · intro h
            rw [zcsl_app, zcsl_app, k5, Option.bind_some, m5, Option.bind_some, zcsl_op s5]
          · rw [List.length_append, List.length_append]
            show e1.length + e2.length + 1 + a ≤ a2
            omega
          · rw [← List.append_assoc, ← List.append_assoc]
            rw [show C.length - 1 = ((b0 || r + 1 == 1) :: c1).length - 1 by rw [← k9']; rfl]
            exact y2
          · intro q
            rw [← k10 q]
            have : (r + 1 == 1) = false := by simpa using q
            rw [this, Bool.or_false]
        have hm2 := m1.1
        by_cases q : r = 0
        · subst q
          obtain ⟨F, rfl⟩ : ∃ g, F = g + 1 := ⟨F - 1, by omega⟩
          refine ⟨(1, Y), ?_, Or.inl ⟨rfl, a2, o2, P2 ++ [1000 + t a1], dg2, (b0 || 0 + 1 == 1) :: c1, e1 ++ e2 ++ [1000 + t a1], hk2 0 (fun z => Or.inr ⟨?_, ?_⟩)⟩⟩
          · rw [if_pos (show nI 0 ≤ 0 by decide), f9_readsRank_24, if_pos rfl]
          · cases b0 <;> rfl
          · rcases (m11 z).2 with w | w
            · exact w
            · exact w.2
        · rw [if_neg (show ¬ nI r ≤ 0 from nI_nle (by omega) (by omega))]
          exact ih F a2 o2 (P2 ++ [1000 + t a1]) dg2 ((b0 || r + 1 == 1) :: c1) (e1 ++ e2 ++ [1000 + t a1]) Y (by omega) (by omega) (hk2 (r + 1) (fun z => by
            rcases (m11 z).2 with w | w
            · exact Or.inl w
            · exact Or.inl (by omega))) (fun z => absurd z q)
      · rw [e0, if_pos (show (0 : Int32) = 0 from rfl)]
        exact ⟨_, rfl, Or.inr ⟨rfl, k0.tr (k1.tr (zR.st st1)) (by rw [List.length_append]; omega)⟩⟩
    · rw [j4, Option.bind_some, if_neg (show ¬ (0 : Int32) ≤ -1 by decide)]
      refine ⟨_, rfl, Or.inl ⟨rfl, a1, o1, P1, dg1, C1, e1, k1, k2, k3, k4, k5, k6, k7, k8, k9, k10, fun z => ⟨(k11 z).1, ?_⟩⟩⟩
      rcases (k11 z).2 with w | w
      · have := zsg8n r hr (t a1) (k7.1.2.2.2.2.1 a1 z).1 (fun j _ hj => j1.resolve_left (by omega) j hj)
        exact Or.inl (by omega)
      · exact Or.inr w
theorem r_rank {n r a : Nat} {o W : List Nat} {dg : Nat} {C : List Bool} {g : List Nat} {X : zM} (hL : L ≤ 40) (hr : r ≤ 3) (ih0 : zI0 t L n) (ih1 : zI1 t L n) (hw : zhd r W) (hC : r = 0 → C.headD false = false) (h : zrX X L a t (C.length - 1) g) (hc1 : 1 ≤ C.length) (hc5 : C.length ≤ 5) (hg : g.length ≤ a) (hn : L - a + 5 * (5 - C.length) + 1 + (4 - r) ≤ n + 1) : ∃ p, f9_readsRank (f9_reads n) (nI r) X = some p ∧ zPo t L r a o W dg C g p := by
  rw [f9_readsRank]
  by_cases q : r = 3
  · subst q
    obtain ⟨p, p1, p2⟩ := ih0 X a o W dg C g h hc1 hc5 hg (by omega)
    refine ⟨p, ?_, p2⟩
    rw [if_pos (show nI 3 = 3 from rfl), p1, Option.bind_some]
    have : zbl p.1 = some p.1 := by
      rcases p2 with p2 | p2 <;> rw [p2.1] <;> rfl
    rw [this, Option.bind_some]
  · rw [if_neg (show ¬ nI r = 3 from nI_ne (b := 3) q (by omega) (by omega)), nI_1]
    obtain ⟨p, p1, p2⟩ := ih1 (r + 1) X a o W dg C g (by omega) (fun c W' z => by have := hw c W' z; omega) (fun q => absurd q (by omega)) h hc1 hc5 hg (by omega)
    rw [p1, Option.bind_some]
    rcases p2 with ⟨e0, a1, o1, P1, dg1, C1, e1, k1, k2, k3, k4, k5, k6, k7, k8, k9, k10, k11⟩ | ⟨e0, k0⟩
    · rw [e0, if_neg (show ¬ (1 : Int32) = 0 by decide)]
      have haL := k7.1.2.1
      have hz : zfuel = 5000 := rfl
      exact r_loop hL (by omega) ih1 hw hC hc1 hc5 hg hn (L - a1 + 1) zfuel a1 o1 P1 dg1 C1 e1 p.2 (by omega) (by omega) ⟨k1, k2, k3, fun c hc => by have := k4 c hc; omega, k5, k6, k7, k8, k9, fun _ => k10 (by omega), k11⟩ (fun _ => k10 (by omega))
    · rw [e0, if_pos (show (0 : Int32) = 0 from rfl)]
      exact ⟨_, rfl, Or.inr ⟨rfl, k0⟩⟩
theorem r_reads (hL : L ≤ 40) : ∀ n, zI0 t L n ∧ zI1 t L n := by
  intro n
  induction n with
  | zero => exact ⟨fun X a o W dg C g h h1 h2 h3 h4 => absurd h4 (by omega), fun r X a o W dg C g h h1 h2 h3 h4 h5 h6 h7 => absurd h7 (by omega)⟩
  | succ n ih =>
    refine ⟨fun X a o W dg C g h h1 h2 h3 h4 => ?_, fun r X a o W dg C g hr hw hC h h1 h2 h3 h4 => ?_⟩
    · rw [f9_reads, if_pos rfl]
      exact r_thing hL ih.1 ih.2 h h1 h2 h3 h4
    · rw [f9_reads, if_neg (by omega)]
      exact r_rank hL hr ih.1 ih.2 hw hC h h1 h2 h3 h4
end RV
