/-! years -/
def znr (R : Int32) : Int32 := R * 1103515245 + 12345
def zdr (n : Nat) (R : Int32) : Nat := (znr R).toBitVec.toNat / 65536 % n
theorem zushr_n (v : Int32) {s : Nat} (hs : s < 32) : zushr v (nI s) = nI (v.toBitVec.toNat / 2 ^ s) := by
  apply Int32.toBitVec_inj.mp
  apply BitVec.eq_of_toNat_eq
  have e : (zushr v (nI s)).toBitVec.toNat = v.toBitVec.toNat / 2 ^ s := pk_ushr v (nI s) s (zs_u s hs)
  have hl : v.toBitVec.toNat / 2 ^ s < 2 ^ 32 := Nat.lt_of_le_of_lt (Nat.div_le_self _ _) v.toBitVec.isLt
  rw [e, pk_tn hl]
theorem zdr_e {n : Nat} (h0 : 0 < n) (hn : n < 1000) (R : Int32) : zmod (zushr (znr R) 16) (nI n) = some (nI (zdr n R)) := by
  have hb := (znr R).toBitVec.isLt
  have e : zushr (znr R) 16 = nI ((znr R).toBitVec.toNat / 65536) := zushr_n (znr R) (s := 16) (by omega)
  rw [e, zmod, if_neg (nI_ne0 h0 (by omega)), nI_rem (by omega) h0 (by omega)]
  rfl
theorem c_drawn {M : zM} {R : Int32} (h : M.1 0 12 = R) {n : Nat} (h0 : 0 < n) (hn : n < 1000) : f8_drawnBelow (nI n) M = some (nI (zdr n R), zsi M 0 12 (znr R)) := by
  have e : (zsi M 0 12 (znr R)).1 0 12 = znr R := by simp [zsi1]
  have e2 : M.1 0 12 * 1103515245 + 12345 = znr R := by rw [h]; rfl
  rw [f8_drawnBelow, if_neg (nI_nle h0 (by omega)), e2, e, zdr_e h0 hn]
  rfl
theorem r_drawn {M : zM} {R : Int32} (h : M.1 39 37 = R) {n : Nat} (h0 : 0 < n) (hn : n < 1000) : f9_drawn (nI n) M = some (nI (zdr n R), zsi M 39 37 (znr R)) := by
  have e : (zsi M 39 37 (znr R)).1 39 37 = znr R := by simp [zsi1]
  have e2 : M.1 39 37 * 1103515245 + 12345 = znr R := by rw [h]; rfl
  rw [f9_drawn, e2, e, zdr_e h0 hn]
  rfl
theorem zdr_lt {n : Nat} (h0 : 0 < n) (R : Int32) : zdr n R < n := Nat.mod_lt _ h0
noncomputable def zyr (D : Nat → Int32 → Nat) (N : Int32 → Int32) (t : List Nat) (X : zS4 × Int32) : zS4 × Int32 :=
  if D 4 X.2 < 2 then (zN1 t X.1, N X.2)
  else if D 4 X.2 = 2 then ((X.1.1, X.1.2.1, zfW X.1.2.2.1 (D X.1.1 (N X.2)) (D X.1.2.1 (N (N X.2))), X.1.2.2.2), N (N (N X.2)))
  else (if zmany X.1.1 X.1.2.1 (D 2 (N X.2)) = 6 then X.1 else (zuP X.1.1 (D 2 (N X.2)), zuE X.1.2.1 (D 2 (N X.2)), zuW X.1.1 X.1.2.2.1 (D 2 (N X.2)) (D (zmany X.1.1 X.1.2.1 (D 2 (N X.2)) + 1) (N (N X.2))) (D 64 (N (N (N X.2))) &&& (2 ^ zmany X.1.1 X.1.2.1 (1 - D 2 (N X.2)) - 1)), X.1.2.2.2), N (N (N (N X.2))))
noncomputable def zyn (D : Nat → Int32 → Nat) (N : Int32 → Int32) (t : List Nat) (X : zS4 × Int32) : Nat → zS4 × Int32
  | 0 => X
  | n + 1 => zyr D N t (zyn D N t X n)
theorem zand_pw (x n : Nat) : x &&& (2 ^ n - 1) < 2 ^ n := by
  rw [Nat.and_two_pow_sub_one_eq_mod]
  exact Nat.mod_lt _ (Nat.two_pow_pos n)
def zD1 (D : Nat → Int32 → Nat) : Prop := ∀ (n : Nat), 0 < n → ∀ R, D n R < n
def zD2 (D : Nat → Int32 → Nat) (N : Int32 → Int32) : Prop := ∀ (M : zM) (R : Int32) (n : Nat), M.1 0 12 = R → 0 < n → n < 1000 → f8_drawnBelow (nI n) M = some (nI (D n R), zsi M 0 12 (N R))
def zD3 (D : Nat → Int32 → Nat) (N : Int32 → Int32) : Prop := ∀ (M : zM) (R : Int32) (n : Nat), M.1 39 37 = R → 0 < n → n < 1000 → f9_drawn (nI n) M = some (nI (D n R), zsi M 39 37 (N R))
section YA
variable {D : Nat → Int32 → Nat} {N : Int32 → Int32}
theorem zyr_C {t : List Nat} {X : zS4 × Int32} (hd1 : zD1 D) (hc : zSC X.1) : zSC (zyr D N t X).1 := by
  unfold zyr
  by_cases h1 : D 4 X.2 < 2
  · rw [if_pos h1]
    exact zN1_C hc
  · rw [if_neg h1]
    by_cases h2 : D 4 X.2 = 2
    · rw [if_pos h2]
      exact zCl_f hc (hd1 _ hc.1 _) (hd1 _ hc.2.2.1 _)
    · rw [if_neg h2]
      have hk := hd1 (2) (by omega) (N X.2)
      have hm := zmany_le hc (D 2 (N X.2))
      by_cases h3 : zmany X.1.1 X.1.2.1 (D 2 (N X.2)) = 6
      · rw [if_pos h3]
        exact hc
      · rw [if_neg h3]
        have hi := hd1 (zmany X.1.1 X.1.2.1 (D 2 (N X.2)) + 1) (by omega) (N (N X.2))
        exact zCl_u hc hk (by omega) (by omega) (zand_pw _ _)
theorem zyn_C {t : List Nat} {X : zS4 × Int32} (hd1 : zD1 D) (hc : zSC X.1) (n : Nat) : zSC (zyn D N t X n).1 := by
  induction n with
  | zero => exact hc
  | succ n ih => exact zyr_C hd1 ih
end YA
theorem zWS_si0 {M : zM} {k : Nat} {S : zS4} (h : zWS M k S) {a j : Nat} {v : Int32} (h1 : a ≠ k) (h2 : a ≠ k + 1) : zWS (zsi M a j v) k S :=
  h.to (by rw [zsi_ne (Ne.symm h1)]) (by rw [zsi_ne (Ne.symm h2)])
theorem zRS_si0 {M : zM} {k : Nat} {S : zS4} (h : zRS M k S) {a j : Nat} {v : Int32} (h1 : a ≠ k) : zRS (zsi M a j v) k S :=
  h.to (by rw [zsi_ne (Ne.symm h1)])
section YR
variable {D : Nat → Int32 → Nat} {N : Int32 → Int32} {t : List Nat} {X : zS4 × Int32}
theorem c_yr {f n j : Nat} {x : zM} (hd1 : zD1 D) (hd2 : zD2 D N) (hc : zSC X.1) (hj : j < n) (hn : n < 100) (h : zWS x 3 X.1 ∧ zCc x 11 t ∧ x.1 0 12 = X.2) : ∃ y, f8_years_31 (f + 1) (nI n) (nI j) x = f8_years_31 f (nI n) (nI (j + 1)) y ∧ (zWS y 3 (zyr D N t X).1 ∧ zCc y 11 t ∧ y.1 0 12 = (zyr D N t X).2) := by
  obtain ⟨x1, x2, x3⟩ := h
  have hd := hd1 (4) (by omega) X.2
  have a1 := zWS_si0 (v := N X.2) (j := 12) x1 (a := 0) (by omega) (by omega)
  have a2 : zCc (zsi x 0 12 (N X.2)) 11 t := x2.to (by rw [zsi_ne (by omega)]) (by rw [zsi_ne (by omega)])
  have a3 : (zsi x 0 12 (N X.2)).1 0 12 = N X.2 := by simp [zsi1]
  have c0 : f8_drawnBelow 4 x = some (nI (D 4 X.2), zsi x 0 12 (N X.2)) := hd2 _ _ 4 x3 (by omega) (by omega)
  have start : f8_years_31 (f + 1) (nI n) (nI j) x = (if (2 : Int32) ≤ nI (D 4 X.2) then (if nI (D 4 X.2) = 2 then (f8_drawnBelow ((zsi x 0 12 (N X.2)).1 3 0) (zsi x 0 12 (N X.2))).bind fun p2 => (f8_drawnBelow (p2.2.1 3 1) p2.2).bind fun p3 => (f7_turnCell 3 p2.1 p3.1 p3.2).bind fun p4 => f8_years_121 (f8_years_31 f) (nI n) (nI j) p4.2 else (f8_weaveDrawn (zsi x 0 12 (N X.2))).bind fun M2 => f8_years_121 (f8_years_31 f) (nI n) (nI j) M2) else (f4_goesOf 11 3 (zsi x 0 12 (N X.2))).bind fun p2 => (f7_passNight 3 p2.1 p2.2).bind fun M3 => f8_years_121 (f8_years_31 f) (nI n) (nI j) M3) := by
    rw [f8_years_31, if_neg (nI_ge hj (by omega)), c0, Option.bind_some]
  rw [start]
  have o121 : ∀ y, f8_years_121 (f8_years_31 f) (nI n) (nI j) y = f8_years_31 f (nI n) (nI (j + 1)) y := by
    intro y
    rw [f8_years_121, nI_1]
  by_cases h1 : D 4 X.2 < 2
  · have ey : zyr D N t X = (zN1 t X.1, N X.2) := by rw [zyr, if_pos h1]
    rw [ey]
    obtain ⟨z, z1, z2⟩ := c_gS a2 a1 hc (by omega) (by omega)
    have oz := o_X4_goesOf z1
    obtain ⟨u, u1, u2, u3⟩ := c_pass (t := t) (a1.to (oz.1 3 (by simp) (by simp)).1 (oz.1 4 (by simp) (by simp)).1) hc (by omega)
    have oa := oz.trans (o_X7_passNight u1)
    refine ⟨u, ?_, u2, a2.to (oa.1 11 (by simp) (by simp)).1 (oa.1 12 (by simp) (by simp)).1, by rw [(oa.1 0 (by simp) (by simp)).1, a3]⟩
    rw [if_neg (show ¬ (2 : Int32) ≤ nI (D 4 X.2) from nI_ge (b := 2) (by omega) (by omega)), z1, Option.bind_some]
    simp only []
    rw [u1, Option.bind_some, o121]
  · rw [if_pos (show (2 : Int32) ≤ nI (D 4 X.2) from nI_le (a := 2) (by omega) (by omega))]
    by_cases h2 : D 4 X.2 = 2
    · have ey : zyr D N t X = ((X.1.1, X.1.2.1, zfW X.1.2.2.1 (D X.1.1 (N X.2)) (D X.1.2.1 (N (N X.2))), X.1.2.2.2), N (N (N X.2))) := by rw [zyr, if_neg h1, if_pos h2]
      rw [ey]
      have hp := hc.2.1
      have he := hc.2.2.2.1
      have b1 := hd2 _ _ (X.1.1) a3 hc.1 (by omega)
      have w1 := zWS_si0 (v := N (N X.2)) (j := 12) a1 (a := 0) (by omega) (by omega)
      have b2 := hd2 (zsi (zsi x 0 12 (N X.2)) 0 12 (N (N X.2))) (N (N X.2)) (X.1.2.1) (by simp [zsi1]) hc.2.2.1 (by omega)
      have w2 := zWS_si0 (v := N (N (N X.2))) (j := 12) w1 (a := 0) (by omega) (by omega)
      obtain ⟨u, u1, u2, u3⟩ := c_flip w2.1 hc (hd1 _ hc.1 (N X.2)) (hd1 _ hc.2.2.1 (N (N X.2)))
      have oa := o_X7_turnCell u1
      refine ⟨u, ?_, ⟨u2, by rw [u3]; exact w2.2⟩, ?_, ?_⟩
      · rw [if_pos (by rw [h2]; rfl), a1.1.1, b1, Option.bind_some]
        simp only []
        rw [w1.1.2.1, b2, Option.bind_some]
        simp only []
        rw [u1, Option.bind_some, o121]
      · refine x2.to ?_ ?_
        · rw [(oa.1 11 (by simp) (by simp)).1]
          funext i
          simp [zsi1]
        · rw [(oa.1 12 (by simp) (by simp)).1]
          funext i
          simp [zsi1]
      · rw [(oa.1 0 (by simp) (by simp)).1]
        simp [zsi1]
    · rw [if_neg (show ¬ nI (D 4 X.2) = 2 from nI_ne (b := 2) h2 (by omega) (by omega))]
      have hk := hd1 (2) (by omega) (N X.2)
      have hm := zmany_le hc (D 2 (N X.2))
      have hm1 := zmany_le hc (1 - D 2 (N X.2))
      have hi := hd1 (zmany X.1.1 X.1.2.1 (D 2 (N X.2)) + 1) (by omega) (N (N X.2))
      have b1 : f8_drawnBelow 2 (zsi x 0 12 (N X.2)) = _ := hd2 _ _ (2) a3 (by omega) (by omega)
      have w1 := zWS_si0 (v := N (N X.2)) (j := 12) a1 (a := 0) (by omega) (by omega)
      have b2 := hd2 (zsi (zsi x 0 12 (N X.2)) 0 12 (N (N X.2))) (N (N X.2)) (zmany X.1.1 X.1.2.1 (D 2 (N X.2)) + 1) (by simp [zsi1]) (by omega) (by omega)
      have w2 := zWS_si0 (v := N (N (N X.2))) (j := 12) w1 (a := 0) (by omega) (by omega)
      have b3 : f8_drawnBelow 64 (zsi (zsi (zsi x 0 12 (N X.2)) 0 12 (N (N X.2))) 0 12 (N (N (N X.2)))) = _ := hd2 (zsi (zsi (zsi x 0 12 (N X.2)) 0 12 (N (N X.2))) 0 12 (N (N (N X.2)))) (N (N (N X.2))) (64) (by simp [zsi1]) (by omega) (by omega)
      have w3 := zWS_si0 (v := N (N (N (N X.2)))) (j := 12) w2 (a := 0) (by omega) (by omega)
      generalize hY : zsi (zsi (zsi (zsi x 0 12 (N X.2)) 0 12 (N (N X.2))) 0 12 (N (N (N X.2)))) 0 12 (N (N (N (N X.2)))) = Y at w3 b3
      have yo : ∀ q, q ≠ 0 → Y.1 q = x.1 q := by
        intro q hq
        rw [← hY]
        funext i
        simp [zsi1, hq]
      have y0 : Y.1 0 12 = N (N (N (N X.2))) := by rw [← hY]; simp [zsi1]
      have wd : f8_weaveDrawn (zsi x 0 12 (N X.2)) = (f7_weaveIn 3 (nI (D 2 (N X.2))) (nI (D (zmany X.1.1 X.1.2.1 (D 2 (N X.2)) + 1) (N (N X.2)))) (nI (D 64 (N (N (N X.2))) &&& (2 ^ zmany X.1.1 X.1.2.1 (1 - D 2 (N X.2)) - 1))) Y).bind fun p6 => some p6.2 := by
        rw [f8_weaveDrawn, b1, Option.bind_some]
        simp only []
        rw [c_size w1.1 hk, Option.bind_some, nI_1, b2, Option.bind_some]
        simp only []
        rw [b3, Option.bind_some]
        simp only []
        rw [c_full w3.1 hc hk, Option.bind_some, nI_and]
      rw [wd]
      by_cases h6 : zmany X.1.1 X.1.2.1 (D 2 (N X.2)) = 6
      · have ey : zyr D N t X = (X.1, N (N (N (N X.2)))) := by rw [zyr, if_neg h1, if_neg h2, if_pos h6]
        rw [ey]
        have q : ∃ r, f7_weaveIn 3 (nI (D 2 (N X.2))) (nI (D (zmany X.1.1 X.1.2.1 (D 2 (N X.2)) + 1) (N (N X.2)))) (nI (D 64 (N (N (N X.2))) &&& (2 ^ zmany X.1.1 X.1.2.1 (1 - D 2 (N X.2)) - 1))) Y = some (r, Y) := by
          rcases weave_cases hc (nI (D 2 (N X.2))) (nI (D (zmany X.1.1 X.1.2.1 (D 2 (N X.2)) + 1) (N (N X.2)))) (nI (D 64 (N (N (N X.2))) &&& (2 ^ zmany X.1.1 X.1.2.1 (1 - D 2 (N X.2)) - 1))) with ⟨g1, -⟩ | ⟨g1, -⟩ | ⟨a, b, v, ha, hb, hm6, hv, e1, -, -⟩
          · exact ⟨_, g1 Y 3 w3.1⟩
          · exact ⟨_, g1 Y 3 w3.1⟩
          · rw [nI_eq (by omega) (by omega)] at e1
            rw [e1] at h6
            omega
        obtain ⟨r, q⟩ := q
        refine ⟨Y, ?_, w3, x2.to (yo 11 (by omega)) (yo 12 (by omega)), y0⟩
        rw [q, Option.bind_some, Option.bind_some, o121]
      · have ey : zyr D N t X = ((zuP X.1.1 (D 2 (N X.2)), zuE X.1.2.1 (D 2 (N X.2)), zuW X.1.1 X.1.2.2.1 (D 2 (N X.2)) (D (zmany X.1.1 X.1.2.1 (D 2 (N X.2)) + 1) (N (N X.2))) (D 64 (N (N (N X.2))) &&& (2 ^ zmany X.1.1 X.1.2.1 (1 - D 2 (N X.2)) - 1)), X.1.2.2.2), N (N (N (N X.2)))) := by rw [zyr, if_neg h1, if_neg h2, if_neg h6]
        rw [ey]
        obtain ⟨u, u1, u2, u3⟩ := c_weave w3.1 hc hk (show D (zmany X.1.1 X.1.2.1 (D 2 (N X.2)) + 1) (N (N X.2)) ≤ zmany X.1.1 X.1.2.1 (D 2 (N X.2)) by omega) (by omega) (zand_pw (D 64 (N (N (N X.2)))) _)
        have oa := o_X7_weaveIn u1
        refine ⟨u, ?_, ⟨u2, by rw [u3]; exact w3.2⟩, x2.to ?_ ?_, ?_⟩
        · rw [u1, Option.bind_some, Option.bind_some, o121]
        · rw [(oa.1 11 (by simp) (by simp)).1, yo 11 (by omega)]
        · rw [(oa.1 12 (by simp) (by simp)).1, yo 12 (by omega)]
        · rw [(oa.1 0 (by simp) (by simp)).1, y0]
theorem zCr_si {x : zM} {t : List Nat} (h : zCr x t) {j : Nat} {v : Int32} (hj : j ≠ 14) : zCr (zsi x 39 j v) t :=
  h.to (by rw [zsi1, if_neg (fun q => hj q.2.symm)]) (by rw [zsi_ne (by omega)])
theorem r_yr {f n j : Nat} {x : zM} (hd1 : zD1 D) (hd3 : zD3 D N) (hc : zSC X.1) (hj : j < n) (hn : n < 100) (h : zRS x 42 X.1 ∧ zCr x t ∧ x.1 39 37 = X.2) : ∃ y, f9_years_37 (f + 1) (nI n) (nI j) x = f9_years_37 f (nI n) (nI (j + 1)) y ∧ (zRS y 42 (zyr D N t X).1 ∧ zCr y t ∧ y.1 39 37 = (zyr D N t X).2) := by
  obtain ⟨x1, x2, x3⟩ := h
  have hd := hd1 (4) (by omega) X.2
  have a1 := zRS_si0 (v := N X.2) (j := 37) x1 (a := 39) (by omega)
  have a2 : zCr (zsi x 39 37 (N X.2)) t := zCr_si x2 (by omega)
  have a3 : (zsi x 39 37 (N X.2)).1 39 37 = N X.2 := by simp [zsi1]
  have c0 : f9_drawn 4 x = some (nI (D 4 X.2), zsi x 39 37 (N X.2)) := hd3 _ _ 4 x3 (by omega) (by omega)
  have o165 : ∀ y, f9_years_165 (f9_years_37 f) (nI n) (nI j) y = f9_years_37 f (nI n) (nI (j + 1)) y := by
    intro y
    rw [f9_years_165, nI_1]
  by_cases h1 : D 4 X.2 < 2
  · have ey : zyr D N t X = (zN1 t X.1, N X.2) := by rw [zyr, if_pos h1]
    rw [ey]
    obtain ⟨z, z1, z2, z3⟩ := r_gS a2 a1 hc (by omega) (by omega)
    have oz := o_X9_nightGoes z1
    refine ⟨z, ?_, z2, a2.to (oz.2 14 (by simp) (by simp)) (oz.1 45 (by simp) (by simp)).1, by rw [oz.2 37 (by simp) (by simp), a3]⟩
    rw [f9_years_37, if_neg (nI_ge hj (by omega)), c0, Option.bind_some]
    simp only []
    rw [if_neg (show ¬ (2 : Int32) ≤ nI (D 4 X.2) from nI_ge (b := 2) (by omega) (by omega)), z1, Option.bind_some]
    simp only []
    rw [o165]
  · have i1 := show (2 : Int32) ≤ nI (D 4 X.2) from nI_le (a := 2) (by omega) (by omega)
    by_cases h2 : D 4 X.2 = 2
    · have ey : zyr D N t X = ((X.1.1, X.1.2.1, zfW X.1.2.2.1 (D X.1.1 (N X.2)) (D X.1.2.1 (N (N X.2))), X.1.2.2.2), N (N (N X.2))) := by rw [zyr, if_neg h1, if_pos h2]
      rw [ey]
      have hp := hc.2.1
      have he := hc.2.2.2.1
      have b1 := hd3 _ _ (X.1.1) a3 hc.1 (by omega)
      have w1 := zRS_si0 (v := N (N X.2)) (j := 37) a1 (a := 39) (by omega)
      have b2 := hd3 (zsi (zsi x 39 37 (N X.2)) 39 37 (N (N X.2))) (N (N X.2)) (X.1.2.1) (by simp [zsi1]) hc.2.2.1 (by omega)
      have w2 := zRS_si0 (v := N (N (N X.2))) (j := 37) w1 (a := 39) (by omega)
      have t2 := zCr_si (v := N (N (N X.2))) (zCr_si (v := N (N X.2)) a2 (j := 37) (by omega)) (j := 37) (by omega)
      obtain ⟨u, u1, u2, u3⟩ := r_flip w2.1 hc (hd1 _ hc.1 (N X.2)) (hd1 _ hc.2.2.1 (N (N X.2)))
      have oa := o_X9_flipsOne u1
      refine ⟨u, ?_, ⟨u2, by rw [u3]; exact w2.2⟩, t2.to (oa.2 14 (by simp) (by simp)) (oa.1 45 (by simp) (by simp)).1, ?_⟩
      · rw [f9_years_37, if_neg (nI_ge hj (by omega)), c0, Option.bind_some]
        simp only []
        rw [if_pos i1, if_pos (by rw [h2]; rfl), a1.1.1, b1, Option.bind_some]
        simp only []
        rw [w1.1.2.1, b2, Option.bind_some]
        simp only []
        rw [u1, Option.bind_some]
        simp only []
        rw [o165]
      · rw [oa.2 37 (by simp) (by simp)]
        simp [zsi1]
    · have i2 := show ¬ nI (D 4 X.2) = 2 from nI_ne (b := 2) h2 (by omega) (by omega)
      have hk := hd1 (2) (by omega) (N X.2)
      have hm := zmany_le hc (D 2 (N X.2))
      have hm1 := zmany_le hc (1 - D 2 (N X.2))
      have hi := hd1 (zmany X.1.1 X.1.2.1 (D 2 (N X.2)) + 1) (by omega) (N (N X.2))
      have b1 : f9_drawn 2 (zsi x 39 37 (N X.2)) = _ := hd3 _ _ (2) a3 (by omega) (by omega)
      have w1 := zRS_si0 (v := N (N X.2)) (j := 37) a1 (a := 39) (by omega)
      have b2 := hd3 (zsi (zsi x 39 37 (N X.2)) 39 37 (N (N X.2))) (N (N X.2)) (zmany X.1.1 X.1.2.1 (D 2 (N X.2)) + 1) (by simp [zsi1]) (by omega) (by omega)
      have w2 := zRS_si0 (v := N (N (N X.2))) (j := 37) w1 (a := 39) (by omega)
      have b3 : f9_drawn 64 (zsi (zsi (zsi x 39 37 (N X.2)) 39 37 (N (N X.2))) 39 37 (N (N (N X.2)))) = _ := hd3 (zsi (zsi (zsi x 39 37 (N X.2)) 39 37 (N (N X.2))) 39 37 (N (N (N X.2)))) (N (N (N X.2))) (64) (by simp [zsi1]) (by omega) (by omega)
      have w3 := zRS_si0 (v := N (N (N (N X.2)))) (j := 37) w2 (a := 39) (by omega)
      have t3 := zCr_si (v := N (N (N (N X.2)))) (zCr_si (v := N (N (N X.2))) (zCr_si (v := N (N X.2)) a2 (j := 37) (by omega)) (j := 37) (by omega)) (j := 37) (by omega)
      generalize hY : zsi (zsi (zsi (zsi x 39 37 (N X.2)) 39 37 (N (N X.2))) 39 37 (N (N (N X.2)))) 39 37 (N (N (N (N X.2)))) = Y at w3 b3 t3
      have y0 : Y.1 39 37 = N (N (N (N X.2))) := by rw [← hY]; simp [zsi1]
      have hk2 : 1 - D 2 (N X.2) < 2 := by omega
      have wd : f9_years_37 (f + 1) (nI n) (nI j) x = (f9_weavesIn 42 (nI (D 2 (N X.2))) (nI (D (zmany X.1.1 X.1.2.1 (D 2 (N X.2)) + 1) (N (N X.2)))) (nI (D 64 (N (N (N X.2))) &&& (2 ^ zmany X.1.1 X.1.2.1 (1 - D 2 (N X.2)) - 1))) Y).bind fun p8 => f9_years_165 (f9_years_37 f) (nI n) (nI j) p8.2 := by
        rw [f9_years_37, if_neg (nI_ge hj (by omega)), c0, Option.bind_some]
        simp only []
        rw [if_pos i1, if_neg i2, b1, Option.bind_some]
        simp only []
        rw [r_many w1.1 hk, Option.bind_some, nI_1, b2, Option.bind_some]
        simp only []
        rw [b3, Option.bind_some]
        simp only []
        rw [r_cells w3.1 hk, Option.bind_some, r_full hm1.2, Option.bind_some, nI_and]
      rw [wd]
      by_cases h6 : zmany X.1.1 X.1.2.1 (D 2 (N X.2)) = 6
      · have ey : zyr D N t X = (X.1, N (N (N (N X.2)))) := by rw [zyr, if_neg h1, if_neg h2, if_pos h6]
        rw [ey]
        have q : ∃ r, f9_weavesIn 42 (nI (D 2 (N X.2))) (nI (D (zmany X.1.1 X.1.2.1 (D 2 (N X.2)) + 1) (N (N X.2)))) (nI (D 64 (N (N (N X.2))) &&& (2 ^ zmany X.1.1 X.1.2.1 (1 - D 2 (N X.2)) - 1))) Y = some (r, Y) := by
          rcases weave_cases hc (nI (D 2 (N X.2))) (nI (D (zmany X.1.1 X.1.2.1 (D 2 (N X.2)) + 1) (N (N X.2)))) (nI (D 64 (N (N (N X.2))) &&& (2 ^ zmany X.1.1 X.1.2.1 (1 - D 2 (N X.2)) - 1))) with ⟨-, g1⟩ | ⟨-, g1⟩ | ⟨a, b, v, ha, hb, hm6, hv, e1, -, -⟩
          · exact ⟨_, g1 Y 42 w3.1⟩
          · exact ⟨_, g1 Y 42 w3.1⟩
          · rw [nI_eq (by omega) (by omega)] at e1
            rw [e1] at h6
            omega
        obtain ⟨r, q⟩ := q
        refine ⟨Y, ?_, w3, t3, y0⟩
        rw [q, Option.bind_some, o165]
      · have ey : zyr D N t X = ((zuP X.1.1 (D 2 (N X.2)), zuE X.1.2.1 (D 2 (N X.2)), zuW X.1.1 X.1.2.2.1 (D 2 (N X.2)) (D (zmany X.1.1 X.1.2.1 (D 2 (N X.2)) + 1) (N (N X.2))) (D 64 (N (N (N X.2))) &&& (2 ^ zmany X.1.1 X.1.2.1 (1 - D 2 (N X.2)) - 1)), X.1.2.2.2), N (N (N (N X.2)))) := by rw [zyr, if_neg h1, if_neg h2, if_neg h6]
        rw [ey]
        obtain ⟨u, u1, u2, u3⟩ := r_weave w3.1 hc hk (show D (zmany X.1.1 X.1.2.1 (D 2 (N X.2)) + 1) (N (N X.2)) ≤ zmany X.1.1 X.1.2.1 (D 2 (N X.2)) by omega) (by omega) (zand_pw (D 64 (N (N (N X.2)))) _)
        have oa := o_X9_weavesIn u1
        refine ⟨u, ?_, ⟨u2, by rw [u3]; exact w3.2⟩, t3.to (oa.2 14 (by simp) (by simp)) (oa.1 45 (by simp) (by simp)).1, by rw [oa.2 37 (by simp) (by simp), y0]⟩
        rw [u1, Option.bind_some, o165]
end YR
theorem zD_ok : zD1 zdr ∧ zD2 zdr znr ∧ zD3 zdr znr := ⟨fun _ h R => zdr_lt h R, fun _ _ _ h h0 hn => c_drawn h h0 hn, fun _ _ _ h h0 hn => r_drawn h h0 hn⟩
theorem zP_years_ok : zP_years zInv := by
  intro c M v1 v2 hc h
  obtain ⟨p, e, w, hA⟩ := h.1
  obtain ⟨t, tc, tr⟩ := iE_c h.2.2.2.2.1
  obtain ⟨hC, hW, hR⟩ := iA_S hA
  generalize (p, e, w, M.1 1 2) = S at hC hW hR
  have inn : f9_in v2.toInt64 1 60 = some (if v2 < 1 then 0 else if 60 < v2 then 0 else 1) := in_i (lo := 1) (hi := 60) rfl rfl
  have out : f8_years v1 v2 M = some (-1, M) → f9_in v2.toInt64 1 60 = some 0 → ∃ (r : Int32) (M1 M2 : zM), f8_years v1 v2 M = some (r, M1) ∧ f9_years v1 v2 M1 = some (r, M2) ∧ zInv (c + 1) M2 := by
    intro h8 hi
    refine ⟨_, _, zsi M 39 0 0, h8, ?_, zInv_to h (S := []) (s := [0]) (zOut.rf.si 39 0 0 (Or.inr ⟨rfl, by simp⟩)) (Or.inl rfl) (Or.inl rfl) (Or.inl rfl) (Or.inl rfl) (Or.inl rfl) (Or.inl rfl) (Or.inl rfl) (Or.inl rfl)⟩
    rw [f9_years, hi]
    rfl
  rcases pk_ix v2 (n := 61) (by omega) with hv | hv | ⟨n, hn, rfl⟩
  · have g : v2 < 1 := (zix_neg hv 1 (by omega)).2.2.1
    refine out ?_ ?_
    · rw [f8_years, if_pos g]
    · rw [inn, if_pos g]
  · have g := zix_big (by omega) hv
    have g1 : ¬ v2 < 1 := (g.2 1 (by omega)).2.2.1
    have g2 : ¬ v2 ≤ 60 := (g.2 60 (by omega)).1
    have g3 : 60 < v2 := (g.2 60 (by omega)).2.1
    refine out ?_ ?_
    · rw [f8_years, if_neg g1, if_neg g2]
    · rw [inn, if_neg g1, if_pos g3]
  by_cases hn0 : n = 0
  · subst hn0
    refine out ?_ ?_
    · rw [f8_years, if_pos (by decide)]
    · rw [inn, if_pos (by decide)]
  have j1 : ¬ nI n < 1 := nI_nlt (b := 1) (by omega) (by omega)
  have j2 : nI n ≤ 60 := nI_le (b := 60) (by omega) (by omega)
  have j3 : ¬ (60 : Int32) < nI n := nI_nlt (a := 60) (by omega) (by omega)
  obtain ⟨d1, d2, d3⟩ := zD_ok
  generalize zdr = D at d1 d2 d3
  generalize znr = N at d2 d3
  obtain ⟨M1, k1, k2⟩ := c_become (a := 3) (M := zsi M 0 12 v1) (zWS_si0 hW (by omega) (by omega)) (by omega)
  have o1 := o_X7_become k1
  have tc1 : zCc M1 11 t := tc.to (by rw [(o1.1 11 (by simp) (by simp)).1, zsi_ne (by omega)]) (by rw [(o1.1 12 (by simp) (by simp)).1, zsi_ne (by omega)])
  have m0 : M1.1 0 12 = v1 := by rw [(o1.1 0 (by simp) (by simp)).1]; simp [zsi1]
  have hCn := zyn_C (N := N) (t := t) (X := (S, v1)) d1 hC n
  rcases hS' : (zyn D N t (S, v1) n).1 with ⟨p', e', w', nt'⟩
  have cl : ∃ M2, f8_years_31 zfuel (nI n) 0 M1 = some (nI (p' + e'), M2) ∧ zR8 M2 [(nI (zovs p' w')).toInt64, (nI (zi (zHbS (p', e', w', nt')))).toInt64] := by
    refine zloopP (F := fun f j x => f8_years_31 f (nI n) (nI j) x) (I := fun j x => zWS x 3 (zyn D N t (S, v1) j).1 ∧ zCc x 11 t ∧ x.1 0 12 = (zyn D N t (S, v1) j).2) (P := fun o => ∃ M2, o = some (nI (p' + e'), M2) ∧ zR8 M2 [(nI (zovs p' w')).toInt64, (nI (zi (zHbS (p', e', w', nt')))).toInt64]) n (by omega) (k0 := 0) (by omega) (fun f j x _ hj hx => Or.inl (c_yr d1 d2 (zyn_C d1 hC j) hj (by omega) hx)) (fun f x hx => ?_) (x := M1) ⟨k2, tc1, m0⟩
    obtain ⟨x1, x2, x3⟩ := hx
    rw [hS'] at x1 hCn
    obtain ⟨y, y1⟩ := c_isTog x1 hCn (by omega)
    have oy := o_X0_isTogether y1
    obtain ⟨z, z1, z2⟩ := c_tell2 (nI (zovs p' w')).toInt64 (nI (zi (zHbS (p', e', w', nt')))).toInt64 y
    have oz := oy.trans (o_X3_tell_ z1)
    have zW := x1.to (oz.1 3 (by simp) (by simp)).1 (oz.1 4 (by simp) (by simp)).1
    refine ⟨z, ?_, z2⟩
    have eb : (if nI (zi (zHbS (p', e', w', nt'))) = 0 then (0 : Int64) else 1) = (nI (zi (zHbS (p', e', w', nt')))).toInt64 := by
      cases zHbS (p', e', w', nt') <;> rfl
    show f8_years_31 (f + 1) (nI n) (nI n) x = _
    rw [f8_years_31, if_pos (nI_le (Nat.le_refl _) (by omega)), c_overs x1.1 hCn, Option.bind_some, y1, Option.bind_some]
    simp only []
    rw [eb, z1, Option.bind_some, f7_threads, zW.1.1, zW.1.2.1, nI_add, Option.bind_some]
  obtain ⟨M2, cl1, cl2⟩ := cl
  have h8 : f8_years v1 (nI n) M = some (nI (p' + e'), M2) := by rw [f8_years, if_neg j1, if_pos j2, k1, Option.bind_some, cl1]
  have o8 := o_X8_years h8
  have o0 : zOut [] [0, 37] M2 (zsi (zsi M2 39 0 0) 39 37 v1) := (zOut.rf.si 39 0 0 (Or.inr ⟨rfl, by simp⟩)).si 39 37 _ (Or.inr ⟨rfl, by simp⟩)
  have oa := o8.trans o0
  obtain ⟨X1, a1, a2⟩ := r_copyS (hR.to (oa.1 41 (by simp) (by simp)).1) hC
  have oX1 := o_X9_copies a1
  have ob := oa.trans oX1
  have tr1 : zCr X1 t := tr.to (ob.2 14 (by simp) (by simp)) (ob.1 45 (by simp) (by simp)).1
  have x37 : X1.1 39 37 = v1 := by rw [oX1.2 37 (by simp) (by simp)]; simp [zsi1]
  have rl : ∃ X2, f9_years_37 zfuel (nI n) 0 X1 = some (nI (p' + e'), X2) ∧ zR9 X2 [(nI (zovs p' w')).toInt64, (nI (zi (zHbS (p', e', w', nt')))).toInt64] := by
    refine zloopP (F := fun f j x => f9_years_37 f (nI n) (nI j) x) (I := fun j x => zRS x 42 (zyn D N t (S, v1) j).1 ∧ zCr x t ∧ x.1 39 37 = (zyn D N t (S, v1) j).2) (P := fun o => ∃ X2, o = some (nI (p' + e'), X2) ∧ zR9 X2 [(nI (zovs p' w')).toInt64, (nI (zi (zHbS (p', e', w', nt')))).toInt64]) n (by omega) (k0 := 0) (by omega) (fun f j x _ hj hx => Or.inl (r_yr d1 d3 (zyn_C d1 hC j) hj (by omega) hx)) (fun f x hx => ?_) (x := X1) ⟨a2, tr1, x37⟩
    obtain ⟨x1, x2, x3⟩ := hx
    rw [hS'] at x1 hCn
    have x1' := zRS_si0 (v := 0) (j := 1) x1 (a := 39) (by omega)
    obtain ⟨y, y1, y2⟩ := r_tell (nI (zovs p' w')).toInt64 x
    have oy := o_X9_enters y1
    have yR := x1'.to (oy.1 42 (by simp) (by simp)).1
    obtain ⟨u, u1, -⟩ := r_doesHang yR hCn (by omega) (by omega)
    have ou := o_X9_doesHang u1
    have u2 : zR9 u _ := zR9_to (ou.same rfl) y2
    obtain ⟨z, z1, z2⟩ := u2.add (by simp) (nI (zi (zHbS (p', e', w', nt')))).toInt64
    have zR := yR.to ((ou.trans (o_X9_enters z1)).1 42 (by simp) (by simp)).1
    refine ⟨z, ?_, z2⟩
    have eb : f9_flag (nI (zi (zHbS (p', e', w', nt')))) = some (nI (zi (zHbS (p', e', w', nt')))) := by
      cases zHbS (p', e', w', nt') <;> rfl
    show f9_years_37 (f + 1) (nI n) (nI n) x = _
    rw [f9_years_37, if_pos (nI_le (Nat.le_refl _) (by omega)), r_overs x1'.1 hCn, Option.bind_some, y1, Option.bind_some, u1, Option.bind_some]
    simp only []
    rw [eb, Option.bind_some, z1, Option.bind_some, f9_threadsOf, zR.1.1, zR.1.2.1, nI_add, Option.bind_some]
  obtain ⟨X2, rl1, rl2⟩ := rl
  have h9 : f9_years v1 (nI n) M2 = some (nI (p' + e'), X2) := by
    rw [f9_years, inn, if_neg j1, if_neg j3, Option.bind_some, if_neg (by decide), a1, Option.bind_some, rl1]
  exact ⟨_, _, _, h8, h9, zq h o8 (o_X9_years h9) cl2 rl2 rfl rfl⟩
