/-! thread, next, nights, later -/
theorem iE_c {M : zM} (h : iE M) : ∃ t, zCc M 11 t ∧ zCr M t := by
  obtain ⟨t, h1, h2, h3, h4, h5⟩ := h
  exact ⟨t, ⟨h1, h2, h3, h4⟩, h1, h4, h5⟩
def zlo (p e : Nat) (w : Nat → Nat) (kd i : Nat) : Nat := if zth p e w kd i = 0 ∨ zth p e w kd i = 2 ^ zmany p e (1 - kd) - 1 then 1 else 0
theorem c_loose1 {M : zM} {k p e : Nat} {w : Nat → Nat} (h : zWc M k p e w) (hc : zCl p e w) {kd i : Nat} (hk : kd < 2) (hi : i < zmany p e kd) : f7_isLoose k (nI kd) (nI i) M = some (nI (zlo p e w kd i)) := by
  have hm := zmany_le hc kd
  have hm1 := zfull_lt (zmany_le hc (1 - kd)).2
  have hb := zth_lt64 hc kd i
  rw [f7_isLoose, c_cells h hk (by omega), Option.bind_some, zlo]
  by_cases g : zth p e w kd i = 0
  · rw [if_pos (by rw [g]; rfl), if_pos (Or.inl g)]
    rfl
  · rw [if_neg (nI_ne0 (by omega) (by omega)), c_full h hc hk, Option.bind_some]
    by_cases g2 : zth p e w kd i = 2 ^ zmany p e (1 - kd) - 1
    · rw [if_pos (by rw [g2]), if_pos (Or.inr g2)]
      rfl
    · rw [if_neg (nI_ne g2 (by omega) (by omega)), if_neg (by omega)]
      rfl
theorem r_loose1 {M : zM} {k p e : Nat} {w : Nat → Nat} (h : zRr M k p e w) (hc : zCl p e w) {kd i : Nat} (hk : kd < 2) (hi : i < zmany p e kd) : f9_isLoose k (nI kd) (nI i) M = some (nI (zlo p e w kd i)) := by
  have hm := zmany_le hc kd
  have hm1 := zfull_lt (zmany_le hc (1 - kd)).2
  have hb := zth_lt64 hc kd i
  rw [f9_isLoose, r_bits h hc hk hi, Option.bind_some, zlo]
  by_cases g : zth p e w kd i = 0
  · rw [if_pos (by rw [g]; rfl), if_pos (Or.inl g)]
    rfl
  · rw [if_neg (nI_ne0 (by omega) (by omega)), r_cells h hk, Option.bind_some, r_full (zmany_le hc (1 - kd)).2, Option.bind_some]
    by_cases g2 : zth p e w kd i = 2 ^ zmany p e (1 - kd) - 1
    · rw [if_pos (by rw [g2]), if_pos (Or.inr g2)]
      rfl
    · rw [if_neg (nI_ne g2 (by omega) (by omega)), if_neg (by omega)]
      rfl
theorem zlo_01 (p e : Nat) (w : Nat → Nat) (kd i : Nat) : zlo p e w kd i = 0 ∨ zlo p e w kd i = 1 := by
  unfold zlo
  split
  · exact Or.inr rfl
  · exact Or.inl rfl
theorem zP_thread_ok : zP_thread zInv := by
  intro c M v1 v2 v3 hc h
  obtain ⟨p, e, w, hA⟩ := h.1
  obtain ⟨hc1, hW, hR, hN⟩ := id hA
  obtain ⟨t, tc, tr⟩ := iE_c h.2.2.2.2.1
  have no : (gx8_thread v1 v2 v3 M = some ()) → f9_thread v1 v2 v3 M = some (0, zsi (zsi M 39 0 0) 39 0 1) → (∃ (r : Int32) (M1 M2 : zM), f8_thread v1 v2 v3 M = some (r, M1) ∧ f9_thread v1 v2 v3 (zsj M1 67 0 r.toInt64) = some (r, M2) ∧ f9_thrown M2 = some 0 ∧ M2.2 67 0 = r.toInt64 ∧ zInv (c + 1) M2) ∨ ∃ (r : Int32) (M2 : zM), gx8_thread v1 v2 v3 M = some () ∧ f9_thread v1 v2 v3 M = some (r, M2) ∧ f9_thrown M2 = some 1 ∧ zInv (c + 1) M2 := by
    intro h8 h9
    exact Or.inr ⟨_, _, h8, h9, by simp [f9_thrown, zsi1], zInv_to h (o_X9_thread h9) (Or.inl rfl) (Or.inl rfl) (Or.inl rfl) (Or.inl rfl) (Or.inl rfl) (Or.inl rfl) (Or.inl rfl) (Or.inl rfl)⟩
  have hR0 : zRr (zsi M 39 0 0) 41 p e w := zRr_si hR (by omega)
  by_cases hv : zVd p e v1 v2
  · obtain ⟨a, b, ha, hb, rfl, rfl⟩ := hv
    have yes : ∀ (r : Int32) (M1 : zM), f8_thread (nI a) (nI b) v3 M = some (r, M1) → (∀ X, zRr X 41 p e w → X.1 41 8 = M.1 41 8 → zCr X t → ∃ X', f9_thread (nI a) (nI b) v3 X = some (r, X') ∧ X'.1 39 0 = 0 ∧ X'.2 67 0 = X.2 67 0) → (∃ (r : Int32) (M1 M2 : zM), f8_thread (nI a) (nI b) v3 M = some (r, M1) ∧ f9_thread (nI a) (nI b) v3 (zsj M1 67 0 r.toInt64) = some (r, M2) ∧ f9_thrown M2 = some 0 ∧ M2.2 67 0 = r.toInt64 ∧ zInv (c + 1) M2) ∨ ∃ (r : Int32) (M2 : zM), gx8_thread (nI a) (nI b) v3 M = some () ∧ f9_thread (nI a) (nI b) v3 M = some (r, M2) ∧ f9_thrown M2 = some 1 ∧ zInv (c + 1) M2 := by
      intro r M1 h8 h9
      have o8 := o_X8_thread h8
      have o67 := o8.trans (zO67 M1 r.toInt64)
      have m41 := (o67.1 41 (by simp) (by simp)).1
      obtain ⟨X', k1, k2, k3⟩ := h9 (zsj M1 67 0 r.toInt64) (hR.to m41) (by rw [m41]) (tr.to (o67.2 14 (by simp) (by simp)) (o67.1 45 (by simp) (by simp)).1)
      exact Or.inl ⟨_, _, _, h8, k1, by rw [f9_thrown, k2], by rw [k3]; simp [zsj2], zInv_to h (o67.trans (o_X9_thread k1)) (Or.inl rfl) (Or.inl rfl) (Or.inl rfl) (Or.inl rfl) (Or.inl rfl) (Or.inl rfl) (Or.inl rfl) (Or.inl rfl)⟩
    have b8 : v3 < 0 ∨ nI 5 ≤ v3 → gx8_thread (nI a) (nI b) v3 M = some () ∧ f9_thread (nI a) (nI b) v3 M = some (0, zsi (zsi M 39 0 0) 39 0 1) := by
      intro hv
      constructor
      · rw [gx8_thread, c_has_yes hW hc1 ha hb, Option.bind_some, if_neg (by decide)]
        rcases hv with hv | hv
        · rw [if_pos hv]
        · have g := zix_big (by omega) hv
          rw [if_neg g.1, if_neg (show ¬ v3 ≤ 4 from (g.2 4 (by omega)).1)]
      · have q : f9_in v3.toInt64 0 4 = some 0 := by
          rcases hv with hv | hv
          · exact in_neg (n := 4) (by omega) hv
          · exact in_big (n := 4) (by omega) hv
        rw [f9_thread, r_thr_yes hR0 hc1 ha hb, Option.bind_some, if_neg (by decide), q]
        rfl
    rcases pk_ix v3 (n := 5) (by omega) with hv | hv | ⟨j, hj, rfl⟩
    · obtain ⟨h8, h9⟩ := b8 (Or.inl hv)
      exact no h8 h9
    · obtain ⟨h8, h9⟩ := b8 (Or.inr hv)
      exact no h8 h9
    have q4 : f9_in (nI j).toInt64 0 4 = some 1 := in_ok (n := 4) (by omega) (by omega)
    have hm := zmany_le hc1 a
    have s8 : f8_thread (nI a) (nI b) (nI j) M = (if nI j = 0 then (f7_cellsOf 1 (nI a) (nI b) M).bind fun x2 => some (x2, M) else if nI j = 1 then (f7_changesOf 1 (nI a) (nI b) M).bind fun x2 => some (x2, M) else if nI j = 2 then (f7_likesOf 1 (nI a) (nI b) M).bind fun x2 => some (x2, M) else if nI j = 3 then (f7_isLoose 1 (nI a) (nI b) M).bind fun x2 => some ((if x2 = 0 then 0 else 1), M) else (f4_pullOf 11 1 (nI a) (nI b) M).bind fun p2 => some ((100 : Int32) + p2.1, p2.2)) := by
      rw [f8_thread, c_has_yes hW hc1 ha hb, Option.bind_some, if_neg (by decide), if_neg (nI_pos (by omega)), if_pos (show nI j ≤ 4 from nI_le (b := 4) (by omega) (by omega))]
    have s9 : ∀ X, zRr X 41 p e w → f9_thread (nI a) (nI b) (nI j) X = (if nI j = 0 then some (nI (zth p e w a b), zsi X 39 0 0) else if nI j = 1 then (f9_cellsOf 41 (nI a) (zsi X 39 0 0)).bind fun x4 => (f9_changesOf (nI (zth p e w a b)) x4).bind fun x5 => some (x5, zsi X 39 0 0) else if nI j = 2 then (f9_alike 41 (nI a) (nI b) (zsi X 39 0 0)).bind fun x4 => some (x4, zsi X 39 0 0) else if nI j = 3 then (f9_isLoose 41 (nI a) (nI b) (zsi X 39 0 0)).bind fun x4 => (f9_flag x4).bind fun x5 => some (x5, zsi X 39 0 0) else (f9_pull 41 (nI a) (nI b) (zsi X 39 0 0)).bind fun p4 => some ((100 : Int32) + p4.1, p4.2)) := by
      intro X hX
      have hX0 : zRr (zsi X 39 0 0) 41 p e w := zRr_si hX (by omega)
      rw [f9_thread, r_thr_yes hX0 hc1 ha hb, Option.bind_some, if_neg (by decide), q4, Option.bind_some, if_neg (by decide), r_bits hX0 hc1 ha hb, Option.bind_some]
    rcases (show j = 0 ∨ j = 1 ∨ j = 2 ∨ j = 3 ∨ j = 4 by omega) with rfl | rfl | rfl | rfl | rfl
    · refine yes (nI (zth p e w a b)) M ?_ (fun X hX _ _ => ⟨zsi X 39 0 0, ?_, by simp [zsi1], by simp [zsi2]⟩)
      · rw [s8, if_pos (by rfl), c_cells hW ha (by omega)]
        rfl
      · rw [s9 X hX, if_pos (by rfl)]
    · refine yes (nI (zchg (zmany p e (1 - a)) (zth p e w a b))) M ?_ (fun X hX _ _ => ⟨zsi X 39 0 0, ?_, by simp [zsi1], by simp [zsi2]⟩)
      · rw [s8, if_neg (by decide), if_pos (by rfl), c_changes hW hc1 ha (by omega)]
        rfl
      · have hX0 : zRr (zsi X 39 0 0) 41 p e w := zRr_si hX (by omega)
        rw [s9 X hX, if_neg (by decide), if_pos (by rfl), r_cells hX0 ha, Option.bind_some, r_changes (M := M) (a := 0) hc1]
        rfl
    · refine yes (nI (zlk p e w a b)) M ?_ (fun X hX _ _ => ⟨zsi X 39 0 0, ?_, by simp [zsi1], by simp [zsi2]⟩)
      · rw [s8, if_neg (by decide), if_neg (by decide), if_pos (by rfl), c_likes hW hc1 ha hb]
        rfl
      · have hX0 : zRr (zsi X 39 0 0) 41 p e w := zRr_si hX (by omega)
        rw [s9 X hX, if_neg (by decide), if_neg (by decide), if_pos (by rfl), r_likes hX0 hc1 ha hb]
        rfl
    · refine yes (nI (zlo p e w a b)) M ?_ (fun X hX _ _ => ⟨zsi X 39 0 0, ?_, by simp [zsi1], by simp [zsi2]⟩)
      · rw [s8, if_neg (by decide), if_neg (by decide), if_neg (by decide), if_pos (by rfl), c_loose1 hW hc1 ha hb, Option.bind_some]
        rcases zlo_01 p e w a b with g | g <;> rw [g] <;> rfl
      · have hX0 : zRr (zsi X 39 0 0) 41 p e w := zRr_si hX (by omega)
        rw [s9 X hX, if_neg (by decide), if_neg (by decide), if_neg (by decide), if_pos (by rfl), r_loose1 hX0 hc1 ha hb, Option.bind_some]
        rcases zlo_01 p e w a b with g | g <;> rw [g] <;> rfl
    · obtain ⟨M1, y1, y2⟩ := c_pull tc hW hc1 (by omega) (by omega) ha hb
      refine yes (100 + zpull p e w (M.1 1 2) t a b) M1 ?_ (fun X hX hX8 hXt => ?_)
      · rw [s8, if_neg (by decide), if_neg (by decide), if_neg (by decide), if_neg (by decide), y1]
        rfl
      · have hX0 : zRr (zsi X 39 0 0) 41 p e w := zRr_si hX (by omega)
        obtain ⟨X', z1, z2⟩ := r_pull (hXt.to (M' := zsi X 39 0 0) (by simp [zsi1]) (by funext j; simp [zsi1])) hX0 hc1 (by omega) ha hb (by omega)
        have o := o_X9_pull z1
        refine ⟨X', ?_, ?_, ?_⟩
        · rw [s9 X hX, if_neg (by decide), if_neg (by decide), if_neg (by decide), if_neg (by decide), z1]
          have e8 : (zsi X 39 0 0).1 41 8 = M.1 1 2 := by
            rw [← hN, ← hX8]
            simp [zsi1]
          rw [e8]
          rfl
        · rw [z2 39 (by omega) (by omega)]
          simp [zsi1]
        · rw [(o.1 67 (by simp) (by simp)).2]
          simp [zsi2]
  · refine no ?_ ?_
    · rw [gx8_thread, c_has_no hW hc1 hv]
      rfl
    · rw [f9_thread, r_thr_no hR0 hc1 hv]
      rfl
theorem zP_next_ok : zP_next zInv := by
  intro c M hc h
  obtain ⟨p, e, w, hA⟩ := h.1
  obtain ⟨hc1, hW, hR, hN⟩ := id hA
  obtain ⟨t, tc, tr⟩ := iE_c h.2.2.2.2.1
  have hC : zSC (p, e, w, M.1 1 2) := hc1
  obtain ⟨M1, y1, y2⟩ := c_gS (S := (p, e, w, M.1 1 2)) tc ⟨hW, rfl⟩ hC (by omega) (by omega)
  have hg := zSg_thr (t := t) hC
  rcases zSx_cases (t := t) hC with ⟨h1, h2⟩ | ⟨h1, h2⟩
  · have h8 : f8_next M = some (-2, M1) := by
      rw [f8_next, y1, h2]
      rfl
    have o8 := o_X8_next h8
    have m41 := (o8.1 41 (by simp) (by simp)).1
    have hR1 : zRr (zsi M1 39 0 0) 41 p e w := zRr_si (hR.to m41) (by omega)
    obtain ⟨M2, z1, z2⟩ := r_next (tr.to (M' := zsi M1 39 0 0) (by simp [zsi1, o8.2 14 (by simp) (by simp)]) (by funext j; simp [zsi1, (o8.1 45 (by simp) (by simp)).1])) hR1 hc1 (by omega) (by omega)
    have e8 : (zsi M1 39 0 0).1 41 8 = M.1 1 2 := by simp [zsi1, m41, hN]
    rw [e8] at z1
    have h9 : f9_next M1 = some (-2, M2) := by
      rw [f9_next, z1, show zgx p e (zpull p e w (M.1 1 2) t) = -2 from h2]
      rfl
    have oo := (y2 : ∀ q, q ≠ 11 + 4 → M1.1 q = M.1 q)
    refine ⟨_, _, _, h8, h9, zInv_to h (o8.trans (o_X9_next h9)) (Or.inl rfl) (Or.inl rfl) (Or.inr ?_) (Or.inl rfl) (Or.inl rfl) (Or.inl rfl) (Or.inl rfl) (Or.inl rfl)⟩
    obtain ⟨L, hL8, hL9⟩ := h.2.2.1
    have og := o_X4_goesOf y1
    have on := o_X9_nextOf z1
    have o0 : zOut [] [0] M1 (zsi M1 39 0 0) := zOut.rf.si 39 0 0 (Or.inr ⟨rfl, by simp⟩)
    have ot := (og.trans o0).trans on
    exact iC_to (ot.same rfl) ⟨L, hL8, hL9⟩
  · have hm := zmany_le hc1 (zSg t (p, e, w, M.1 1 2) / 6)
    have tc1 : zCc M1 11 t := tc.to (y2 11 (by omega)) (y2 12 (by omega))
    have hW1 : zWc M1 1 p e w := hW.to (y2 1 (by omega)) (y2 2 (by omega))
    obtain ⟨M1', u1, u2⟩ := c_pull tc1 hW1 hc1 (by omega) (by omega) (kd := zSg t (p, e, w, M.1 1 2) / 6) (i := zSg t (p, e, w, M.1 1 2) % 6) (by omega) hg.2
    rw [y2 1 (by omega)] at u1
    obtain ⟨M1'', k1, k2⟩ := c_tell (Int32.toInt64 (100 + zpull p e w (M.1 1 2) t (zSg t (p, e, w, M.1 1 2) / 6) (zSg t (p, e, w, M.1 1 2) % 6))) M1'
    have h8 : f8_next M = some (nI (zSg t (p, e, w, M.1 1 2)), M1'') := by
      rw [f8_next, y1, Option.bind_some, h2]
      simp only []
      rw [if_pos (nI_pos' (by omega)), zl6, nI_div (by omega) (by omega) (by omega), nI_rem (by omega) (by omega) (by omega), u1, Option.bind_some]
      simp only []
      rw [k1]
      rfl
    have o8 := o_X8_next h8
    have m41 := (o8.1 41 (by simp) (by simp)).1
    have hR1 : zRr (zsi M1'' 39 0 0) 41 p e w := zRr_si (hR.to m41) (by omega)
    have tr1 : zCr (zsi M1'' 39 0 0) t := tr.to (by simp [zsi1, o8.2 14 (by simp) (by simp)]) (by funext j; simp [zsi1, (o8.1 45 (by simp) (by simp)).1])
    obtain ⟨M2, z1, z2⟩ := r_next tr1 hR1 hc1 (by omega) (by omega)
    have e8 : (zsi M1'' 39 0 0).1 41 8 = M.1 1 2 := by simp [zsi1, m41, hN]
    rw [e8] at z1
    have hR2 : zRr (zsi M2 39 1 0) 41 p e w := zRr_si (hR1.to (z2 41 (by omega) (by omega))) (by omega)
    have tr2 : zCr (zsi M2 39 1 0) t := tr1.to (by simp [zsi1, z2 39 (by omega) (by omega)]) (by funext j; simp [zsi1, z2 45 (by omega) (by omega)])
    obtain ⟨M3, v1, v2⟩ := r_pull tr2 hR2 hc1 (by omega) (kd := zSg t (p, e, w, M.1 1 2) / 6) (i := zSg t (p, e, w, M.1 1 2) % 6) (by omega) hg.2 (by omega)
    have e82 : (zsi M2 39 1 0).1 41 8 = M.1 1 2 := by rw [← e8]; simp [zsi1, z2 41 (by omega) (by omega)]
    rw [e82] at v1
    have hz : zR9 M3 [] := by
      have o := o_X9_pull v1
      exact zR9_to (o.same rfl) (zR9_nil M2)
    obtain ⟨M4, r1, r2⟩ := hz.add (by simp) (Int32.toInt64 (100 + zpull p e w (M.1 1 2) t (zSg t (p, e, w, M.1 1 2) / 6) (zSg t (p, e, w, M.1 1 2) % 6)))
    have h9 : f9_next M1'' = some (nI (zSg t (p, e, w, M.1 1 2)), M4) := by
      rw [f9_next, z1, Option.bind_some, show zgx p e (zpull p e w (M.1 1 2) t) = nI (zSg t (p, e, w, M.1 1 2)) from h2]
      simp only []
      rw [if_neg (nI_pos (by omega)), zl6, nI_div (by omega) (by omega) (by omega), nI_rem (by omega) (by omega) (by omega), v1, Option.bind_some]
      simp only []
      rw [r1]
      rfl
    have o9 := o_X9_next h9
    exact ⟨_, _, _, h8, h9, zInv_to h (o8.trans o9) (Or.inl rfl) (Or.inl rfl) (Or.inr ⟨_, zR8_to (o9.same rfl) k2, r2⟩) (Or.inl rfl) (Or.inl rfl) (Or.inl rfl) (Or.inl rfl) (Or.inl rfl)⟩
