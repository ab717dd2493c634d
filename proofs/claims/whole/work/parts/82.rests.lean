/-! rests -/
def zrg (v x y : Nat) : Bool := zrb v x y && zrb v y x
def zrso (v x : Nat) (s : zPr) : zPr := zfo (zpst (zrg v) x) 0 s 10
theorem zrso_b {v : Nat} : ∀ n, n ≤ 10 → (zfo (zrso v) 0 (0, []) n).1 ≤ 10 * n ∧ ((zfo (zrso v) 0 (0, []) n).1 = 0 → (zfo (zrso v) 0 (0, []) n).2 = []) := by
  intro n
  induction n with
  | zero => intro _; exact ⟨Nat.le_refl _, fun _ => rfl⟩
  | succ n ih =>
    intro h
    obtain ⟨i1, i2⟩ := ih (by omega)
    rw [zfo]
    unfold zrso at i1 i2 ⊢
    have := zfo_b (g := zrg v) (a := 0 + n) (k := 0) (s := zfo (fun x s => zfo (zpst (zrg v) x) 0 s 10) 0 (0, []) n) 10
    exact ⟨by omega, zfo_n i2 _⟩
theorem zP_rests_ok : zP_rests zInv := by
  intro c M v hc h
  have fin0 : zInv (c + 1) (zsi M 39 0 0) := zInv_to h (S := []) (s := [0]) (zOut.rf.si 39 0 0 (Or.inr ⟨rfl, by simp⟩)) (Or.inl rfl) (Or.inl rfl) (Or.inl rfl) (Or.inl rfl) (Or.inl rfl) (Or.inl rfl) (Or.inl rfl) (Or.inl rfl)
  have out : (v < 0 ∨ nI 21 ≤ v) → ∃ (r : Int32) (M1 M2 : zM), f8_rests v M = some (r, M1) ∧ f9_rests v M1 = some (r, M2) ∧ zInv (c + 1) M2 := by
    intro hv
    refine ⟨-1, M, zsi M 39 0 0, ?_, ?_, fin0⟩
    · rw [f8_rests]
      rcases hv with hv | hv
      · rw [if_pos hv]
      · have g := zix_big (by omega) hv
        rw [if_neg g.1, if_neg (show ¬ v ≤ 20 from (g.2 20 (by omega)).1)]
    · have q : f9_in v.toInt64 0 20 = some 0 := by
        rcases hv with hv | hv
        · exact in_neg (n := 20) (by omega) hv
        · exact in_big (n := 20) (by omega) hv
      rw [f9_rests, q]
      rfl
  rcases pk_ix v (n := 21) (by omega) with hv | hv | ⟨v, hv, rfl⟩
  · exact out (Or.inl hv)
  · exact out (Or.inr hv)
  have key8 : ∃ M1, f8_rests (nI v) M = some (nI (zfo (zrso v) 0 (0, []) 10).1, M1) ∧ zR8 M1 (zfo (zrso v) 0 (0, []) 10).2 := by
    rw [f8_rests, if_neg (nI_pos (by omega)), if_pos (show nI v ≤ 20 from nI_le (b := 20) (by omega) (by omega)), f3_clear, Option.bind_some]
    refine zloopP (F := fun f n x => f8_rests_23 f (nI v) (nI (zfo (zrso v) 0 (0, []) n).1) (nI n) x) (I := fun n x => zR8 x (zfo (zrso v) 0 (0, []) n).2) (P := fun o => ∃ M1, o = some (nI (zfo (zrso v) 0 (0, []) 10).1, M1) ∧ zR8 M1 (zfo (zrso v) 0 (0, []) 10).2) 10 (by omega) (k0 := 0) (by omega) (fun f n x _ hn hx => Or.inl ?_) (fun f x hx => ⟨x, ?_, hx⟩) (x := zsi M 9 1 0) (zR8_nil M)
    · obtain ⟨sb, sn⟩ := zrso_b (v := v) n (by omega)
      have e1 : zfo (zrso v) 0 (0, []) (n + 1) = zfo (zpst (zrg v) n) 0 (zfo (zrso v) 0 (0, []) n) 10 := by
        rw [zfo, Nat.zero_add, zrso]
      rw [e1]
      generalize zfo (zrso v) 0 (0, []) n = s0 at hx sb sn
      have inner : ∃ y, f8_rests_32 (f8_rests_84 (f8_rests_23 f)) zfuel (nI v) (nI s0.1) (nI n) 0 x = f8_rests_23 f (nI v) (nI (zfo (zpst (zrg v) n) 0 s0 10).1) (nI (n + 1)) y ∧ zR8 y (zfo (zpst (zrg v) n) 0 s0 10).2 := by
        refine zloopP (F := fun g b y => f8_rests_32 (f8_rests_84 (f8_rests_23 f)) g (nI v) (nI (zfo (zpst (zrg v) n) 0 s0 b).1) (nI n) (nI b) y) (I := fun b y => zR8 y (zfo (zpst (zrg v) n) 0 s0 b).2) (P := fun o => ∃ y, o = f8_rests_23 f (nI v) (nI (zfo (zpst (zrg v) n) 0 s0 10).1) (nI (n + 1)) y ∧ zR8 y (zfo (zpst (zrg v) n) 0 s0 10).2) 10 (by omega) (k0 := 0) (by omega) (fun g b y hb0 hb hy => Or.inl ?_) (fun g y hy => ?_) (x := x) hx
        · have tb := zfo_b (g := zrg v) (a := n) (k := 0) (s := s0) b
          have tn := zfo_n (g := zrg v) (a := n) (k := 0) sn b
          have e2 : zfo (zpst (zrg v) n) 0 s0 (b + 1) = zpst (zrg v) n b (zfo (zpst (zrg v) n) 0 s0 b) := by
            rw [zfo, Nat.zero_add]
          rw [e2]
          generalize zfo (zpst (zrg v) n) 0 s0 b = s1 at hy tb tn
          have r1 := (rests_b v hv n hn b hb).1
          have r2 := (rests_b v hv b hb n hn).1
          have o78 : ∀ c X, f8_rests_78 (f8_rests_32 (f8_rests_84 (f8_rests_23 f)) g) (nI v) c (nI n) (nI b) X = f8_rests_32 (f8_rests_84 (f8_rests_23 f)) g (nI v) c (nI n) (nI (b + 1)) X := by
            intro c X
            rw [f8_rests_78, nI_1]
          have no : zrg v n b = false → f8_rests_32 (f8_rests_84 (f8_rests_23 f)) (g + 1) (nI v) (nI s1.1) (nI n) (nI b) y = f8_rests_32 (f8_rests_84 (f8_rests_23 f)) g (nI v) (nI s1.1) (nI n) (nI (b + 1)) y := by
            intro hg
            rw [f8_rests_32, if_neg (show ¬ (9 : Int32) < nI b from nI_nlt (a := 9) (by omega) (by omega)), r1, Option.bind_some]
            unfold zrg at hg
            cases q1 : zrb v n b
            · rw [if_pos (show nI (zi false) = 0 from rfl), o78]
            · rw [q1] at hg
              have q2 : zrb v b n = false := hg
              rw [if_neg (show ¬ nI (zi true) = 0 by decide), r2, q2, Option.bind_some, if_pos (show nI (zi false) = 0 from rfl), o78]
          cases hg : zrg v n b
          · refine ⟨y, ?_, ?_⟩
            · rw [no hg, zpst, hg, if_neg (by decide)]
            · rw [zpst, hg, if_neg (by decide)]
              exact hy
          · have q1 : zrb v n b = true := by
              unfold zrg at hg
              simp at hg
              exact hg.1
            have q2 : zrb v b n = true := by
              unfold zrg at hg
              simp at hg
              exact hg.2
            have start : f8_rests_32 (f8_rests_84 (f8_rests_23 f)) (g + 1) (nI v) (nI s1.1) (nI n) (nI b) y = (if nI s1.1 = 0 then (f3_tell_ (nI n).toInt64 (nI b).toInt64 y).bind fun M3 => f8_rests_75 (f8_rests_32 (f8_rests_84 (f8_rests_23 f)) g) (nI v) (nI s1.1) (nI n) (nI b) M3 else f8_rests_75 (f8_rests_32 (f8_rests_84 (f8_rests_23 f)) g) (nI v) (nI s1.1) (nI n) (nI b) y) := by
              rw [f8_rests_32, if_neg (show ¬ (9 : Int32) < nI b from nI_nlt (a := 9) (by omega) (by omega)), r1, q1, Option.bind_some, if_neg (show ¬ nI (zi true) = 0 by decide), r2, q2, Option.bind_some, if_neg (show ¬ nI (zi true) = 0 by decide)]
            by_cases h0 : s1.1 = 0
            · obtain ⟨z, z1, z2⟩ := c_tell2 (nI n).toInt64 (nI b).toInt64 y
              refine ⟨z, ?_, ?_⟩
              · rw [start, if_pos (by rw [h0]; rfl), z1, Option.bind_some, f8_rests_75, o78, nI_1, zpst, hg, if_pos rfl]
              · rw [zpst, hg, if_pos rfl, if_pos h0]
                exact z2
            · refine ⟨y, ?_, ?_⟩
              · rw [start, if_neg (nI_ne0 (by omega) (by omega)), f8_rests_75, o78, nI_1, zpst, hg, if_pos rfl]
              · rw [zpst, hg, if_pos rfl, if_neg h0]
                exact hy
        · refine ⟨y, ?_, hy⟩
          show f8_rests_32 (f8_rests_84 (f8_rests_23 f)) (g + 1) (nI v) (nI (zfo (zpst (zrg v) n) 0 s0 10).1) (nI n) (nI 10) y = _
          rw [f8_rests_32, if_pos (by decide), f8_rests_84, nI_1]
      obtain ⟨y, y1, y2⟩ := inner
      refine ⟨y, ?_, y2⟩
      show f8_rests_23 (f + 1) _ (nI s0.1) (nI n) x = _
      rw [f8_rests_23, if_neg (show ¬ (9 : Int32) < nI n from nI_nlt (a := 9) (by omega) (by omega)), y1]
    · show f8_rests_23 (f + 1) _ _ (nI 10) x = _
      rw [f8_rests_23, if_pos (by decide)]
  obtain ⟨M1, h8, r8⟩ := key8
  have o8 := o_X8_rests h8
  have key9 : ∃ M1', f9_rests (nI v) M1 = some (nI (zfo (zrso v) 0 (0, []) 10).1, M1') ∧ zR9 M1' (zfo (zrso v) 0 (0, []) 10).2 := by
    have q : f9_in (nI v).toInt64 0 20 = some 1 := in_ok (n := 20) (by omega) (by omega)
    rw [f9_rests, q, Option.bind_some, if_neg (by decide)]
    refine zloopP (F := fun f n x => f9_rests_28 f (nI v) (nI (zfo (zrso v) 0 (0, []) n).1) (nI n) x) (I := fun n x => zR9 x (zfo (zrso v) 0 (0, []) n).2) (P := fun o => ∃ M1, o = some (nI (zfo (zrso v) 0 (0, []) 10).1, M1) ∧ zR9 M1 (zfo (zrso v) 0 (0, []) 10).2) 10 (by omega) (k0 := 0) (by omega) (fun f n x _ hn hx => Or.inl ?_) (fun f x hx => ⟨x, ?_, hx⟩) (x := zsi (zsi M1 39 0 0) 39 1 0) (zR9_nil _)
    · obtain ⟨sb, sn⟩ := zrso_b (v := v) n (by omega)
      have e1 : zfo (zrso v) 0 (0, []) (n + 1) = zfo (zpst (zrg v) n) 0 (zfo (zrso v) 0 (0, []) n) 10 := by
        rw [zfo, Nat.zero_add, zrso]
      rw [e1]
      generalize zfo (zrso v) 0 (0, []) n = s0 at hx sb sn
      have inner : ∃ y, f9_rests_37 (f9_rests_90 (f9_rests_28 f)) zfuel (nI v) (nI s0.1) (nI n) 0 x = f9_rests_28 f (nI v) (nI (zfo (zpst (zrg v) n) 0 s0 10).1) (nI (n + 1)) y ∧ zR9 y (zfo (zpst (zrg v) n) 0 s0 10).2 := by
        refine zloopP (F := fun g b y => f9_rests_37 (f9_rests_90 (f9_rests_28 f)) g (nI v) (nI (zfo (zpst (zrg v) n) 0 s0 b).1) (nI n) (nI b) y) (I := fun b y => zR9 y (zfo (zpst (zrg v) n) 0 s0 b).2) (P := fun o => ∃ y, o = f9_rests_28 f (nI v) (nI (zfo (zpst (zrg v) n) 0 s0 10).1) (nI (n + 1)) y ∧ zR9 y (zfo (zpst (zrg v) n) 0 s0 10).2) 10 (by omega) (k0 := 0) (by omega) (fun g b y hb0 hb hy => Or.inl ?_) (fun g y hy => ?_) (x := x) hx
        · have tb := zfo_b (g := zrg v) (a := n) (k := 0) (s := s0) b
          have tn := zfo_n (g := zrg v) (a := n) (k := 0) sn b
          have e2 : zfo (zpst (zrg v) n) 0 s0 (b + 1) = zpst (zrg v) n b (zfo (zpst (zrg v) n) 0 s0 b) := by
            rw [zfo, Nat.zero_add]
          rw [e2]
          generalize zfo (zpst (zrg v) n) 0 s0 b = s1 at hy tb tn
          have r1 := (rests_b v hv n hn b hb).2
          have r2 := (rests_b v hv b hb n hn).2
          have o78 : ∀ c X, f9_rests_84 (f9_rests_37 (f9_rests_90 (f9_rests_28 f)) g) (nI v) c (nI n) (nI b) X = f9_rests_37 (f9_rests_90 (f9_rests_28 f)) g (nI v) c (nI n) (nI (b + 1)) X := by
            intro c X
            rw [f9_rests_84, nI_1]
          have no : zrg v n b = false → f9_rests_37 (f9_rests_90 (f9_rests_28 f)) (g + 1) (nI v) (nI s1.1) (nI n) (nI b) y = f9_rests_37 (f9_rests_90 (f9_rests_28 f)) g (nI v) (nI s1.1) (nI n) (nI (b + 1)) y := by
            intro hg
            rw [f9_rests_37, if_neg (show ¬ (9 : Int32) < nI b from nI_nlt (a := 9) (by omega) (by omega)), r1, Option.bind_some]
            unfold zrg at hg
            cases q1 : zrb v n b
            · rw [if_pos (show nI (zi false) = 0 from rfl), o78]
            · rw [q1] at hg
              have q2 : zrb v b n = false := hg
              rw [if_neg (show ¬ nI (zi true) = 0 by decide), r2, q2, Option.bind_some, if_pos (show nI (zi false) = 0 from rfl), o78]
          cases hg : zrg v n b
          · refine ⟨y, ?_, ?_⟩
            · rw [no hg, zpst, hg, if_neg (by decide)]
            · rw [zpst, hg, if_neg (by decide)]
              exact hy
          · have q1 : zrb v n b = true := by
              unfold zrg at hg
              simp at hg
              exact hg.1
            have q2 : zrb v b n = true := by
              unfold zrg at hg
              simp at hg
              exact hg.2
            have start : f9_rests_37 (f9_rests_90 (f9_rests_28 f)) (g + 1) (nI v) (nI s1.1) (nI n) (nI b) y = (if nI s1.1 = 0 then (f9_enters (nI n).toInt64 y).bind fun M3 => (f9_enters (nI b).toInt64 M3).bind fun M4 => f9_rests_81 (f9_rests_37 (f9_rests_90 (f9_rests_28 f)) g) (nI v) (nI s1.1) (nI n) (nI b) M4 else f9_rests_81 (f9_rests_37 (f9_rests_90 (f9_rests_28 f)) g) (nI v) (nI s1.1) (nI n) (nI b) y) := by
              rw [f9_rests_37, if_neg (show ¬ (9 : Int32) < nI b from nI_nlt (a := 9) (by omega) (by omega)), r1, q1, Option.bind_some, if_neg (show ¬ nI (zi true) = 0 by decide), r2, q2, Option.bind_some, if_neg (show ¬ nI (zi true) = 0 by decide)]
            by_cases h0 : s1.1 = 0
            · rw [tn h0] at hy
              obtain ⟨z0, z1, z2⟩ := hy.add (by simp) (nI n).toInt64
              obtain ⟨z, z3, z4⟩ := z2.add (by simp) (nI b).toInt64
              refine ⟨z, ?_, ?_⟩
              · rw [start, if_pos (by rw [h0]; rfl), z1, Option.bind_some, z3, Option.bind_some, f9_rests_81, o78, nI_1, zpst, hg, if_pos rfl]
              · rw [zpst, hg, if_pos rfl, if_pos h0]
                exact z4
            · refine ⟨y, ?_, ?_⟩
              · rw [start, if_neg (nI_ne0 (by omega) (by omega)), f9_rests_81, o78, nI_1, zpst, hg, if_pos rfl]
              · rw [zpst, hg, if_pos rfl, if_neg h0]
                exact hy
        · refine ⟨y, ?_, hy⟩
          show f9_rests_37 (f9_rests_90 (f9_rests_28 f)) (g + 1) (nI v) (nI (zfo (zpst (zrg v) n) 0 s0 10).1) (nI n) (nI 10) y = _
          rw [f9_rests_37, if_pos (by decide), f9_rests_90, nI_1]
      obtain ⟨y, y1, y2⟩ := inner
      refine ⟨y, ?_, y2⟩
      show f9_rests_28 (f + 1) _ (nI s0.1) (nI n) x = _
      rw [f9_rests_28, if_neg (show ¬ (9 : Int32) < nI n from nI_nlt (a := 9) (by omega) (by omega)), y1]
    · show f9_rests_28 (f + 1) _ _ (nI 10) x = _
      rw [f9_rests_28, if_pos (by decide)]
  obtain ⟨M2, h9, r9⟩ := key9
  exact ⟨_, _, _, h8, h9, zq h o8 (o_X9_rests h9) r8 r9 rfl rfl⟩
