/-! law -/
noncomputable def zcdf (l cr : List Nat) (S : zS4) : Nat → Nat
  | 0 => 0
  | k + 1 => zcdf l cr S k + (if zSx l (zNn l k S) = zSx cr (zNn cr k S) then 0 else 1)
def zthr (S : zS4) : Int32 := nI (S.1 + S.2.1)
section LW
variable {M X : zM} {S : zS4} {l cr : List Nat}
theorem zcdf_s {k : Nat} : nI (zcdf l cr S k) + (if zSx l (zNn l k S) = zSx cr (zNn cr k S) then 0 else 1) = nI (zcdf l cr S (k + 1)) := by
  rw [zcdf]
  by_cases g : zSx l (zNn l k S) = zSx cr (zNn cr k S)
  · rw [if_pos g, if_pos g, Int32.add_zero]
    rfl
  · rw [if_neg g, if_neg g, nI_1]
theorem c_law (hl : zCc M 16 l) (hcr : zCc M 11 cr) (h3 : zWS M 3 S) (h5 : zWS M 5 S) (hC : zSC S) : ∃ Y, f8_law_57 zfuel 0 0 M = some (nI (zcdf l cr S 10), Y) ∧ zR8 Y [(zthr (zNn l 10 S)).toInt64, (zthr (zNn cr 10 S)).toInt64] ∧ Y.1 7 = M.1 7 := by
  refine zloopP (F := fun f k x => f8_law_57 f (nI (zcdf l cr S k)) (nI k) x) (I := fun k x => zWS x 3 (zNn l k S) ∧ zWS x 5 (zNn cr k S) ∧ zCc x 16 l ∧ zCc x 11 cr ∧ x.1 7 = M.1 7) (P := fun o => ∃ Y, o = some (nI (zcdf l cr S 10), Y) ∧ zR8 Y [(zthr (zNn l 10 S)).toInt64, (zthr (zNn cr 10 S)).toInt64] ∧ Y.1 7 = M.1 7) 10 (by omega) (k0 := 0) (by omega) (fun f k x _ hk hx => Or.inl ?_) (fun f x hx => ?_) (x := M) ⟨h3, h5, hl, hcr, rfl⟩
  · obtain ⟨x3, x5, x16, x11, x7⟩ := hx
    have c3 := zNn_C (t := l) hC k
    have c5 := zNn_C (t := cr) hC k
    obtain ⟨y, y1, y2⟩ := c_gS x16 x3 c3 (by omega) (by omega)
    have yo : ∀ q, q ≠ 20 → y.1 q = x.1 q := fun q hq => y2 q hq
    obtain ⟨z, z1, z2⟩ := c_gS (x11.to (yo 11 (by omega)) (yo 12 (by omega))) (x5.to (yo 5 (by omega)) (yo 6 (by omega))) c5 (by omega) (by omega)
    have zo : ∀ q, q ≠ 20 → q ≠ 15 → z.1 q = x.1 q := fun q hq hq2 => (z2 q hq2).trans (yo q hq)
    obtain ⟨u, u1, u2, u3⟩ := c_pass (t := l) (x3.to (zo 3 (by omega) (by omega)) (zo 4 (by omega) (by omega))) c3 (by omega)
    have uo : ∀ q, q ≠ 20 → q ≠ 15 → q ≠ 3 → q ≠ 4 → q ≠ 39 → u.1 q = x.1 q := fun q h1 h2 h3 h4 h5 => (u3 q h3 h4 h5).trans (zo q h1 h2)
    obtain ⟨v, v1, v2, v3⟩ := c_pass (t := cr) (x5.to (uo 5 (by omega) (by omega) (by omega) (by omega) (by omega)) (uo 6 (by omega) (by omega) (by omega) (by omega) (by omega))) c5 (by omega)
    have vo : ∀ q, q ≠ 20 → q ≠ 15 → q ≠ 3 → q ≠ 4 → q ≠ 39 → q ≠ 5 → q ≠ 6 → v.1 q = x.1 q := fun q h1 h2 h3 h4 h5 h6 h7 => (v3 q h6 h7 h5).trans (uo q h1 h2 h3 h4 h5)
    refine ⟨v, ?_, u2.to (v3 3 (by omega) (by omega) (by omega)) (v3 4 (by omega) (by omega) (by omega)), v2, x16.to (vo 16 (by omega) (by omega) (by omega) (by omega) (by omega) (by omega) (by omega)) (vo 17 (by omega) (by omega) (by omega) (by omega) (by omega) (by omega) (by omega)), x11.to (vo 11 (by omega) (by omega) (by omega) (by omega) (by omega) (by omega) (by omega)) (vo 12 (by omega) (by omega) (by omega) (by omega) (by omega) (by omega) (by omega)), (vo 7 (by omega) (by omega) (by omega) (by omega) (by omega) (by omega) (by omega)).trans x7⟩
    show f8_law_57 (f + 1) (nI (zcdf l cr S k)) (nI k) x = _
    rw [f8_law_57, if_neg (show ¬ (10 : Int32) ≤ nI k from nI_ge (b := 10) hk (by omega)), y1, Option.bind_some]
    simp only []
    rw [z1, Option.bind_some]
    simp only []
    rw [u1, Option.bind_some, v1, Option.bind_some, zcdf_s, nI_1]
  · obtain ⟨x3, x5, x16, x11, x7⟩ := hx
    obtain ⟨z, z1, z2⟩ := c_tell2 (zthr (zNn l 10 S)).toInt64 (zthr (zNn cr 10 S)).toInt64 x
    have oz := o_X3_tell_ z1
    refine ⟨z, ?_, z2, ((oz.1 7 (by simp) (by omega)).1).trans x7⟩
    have t3 : f7_threads 3 x = some (zthr (zNn l 10 S)) := by rw [f7_threads, x3.1.1, x3.1.2.1, nI_add, zthr]
    have t5 : f7_threads 5 x = some (zthr (zNn cr 10 S)) := by rw [f7_threads, x5.1.1, x5.1.2.1, nI_add, zthr]
    show f8_law_57 (f + 1) (nI (zcdf l cr S 10)) (nI 10) x = _
    rw [f8_law_57, if_pos (show (10 : Int32) ≤ nI 10 by decide), t3, Option.bind_some, t5, Option.bind_some, z1, Option.bind_some]
theorem r_law35 (h42 : zRS X 42 S) (hcr : zCr X cr) (hC : zSC S) : ∃ Y, f9_law_35 zfuel 0 X = f9_law_77 zfuel (zthr (zNn cr 10 S)) (Y.1 39 14) 0 Y ∧ (∀ j, j < 10 → Y.1 63 j = zSx cr (zNn cr j S)) ∧ zOut [47, 48, 42, 63] [] X Y := by
  refine zloopP (F := fun f k x => f9_law_35 f (nI k) x) (I := fun k x => zRS x 42 (zNn cr k S) ∧ zCr x cr ∧ (∀ j, j < k → x.1 63 j = zSx cr (zNn cr j S)) ∧ zOut [47, 48, 42, 63] [] X x) (P := fun o => ∃ Y, o = f9_law_77 zfuel (zthr (zNn cr 10 S)) (Y.1 39 14) 0 Y ∧ (∀ j, j < 10 → Y.1 63 j = zSx cr (zNn cr j S)) ∧ zOut [47, 48, 42, 63] [] X Y) 10 (by omega) (k0 := 0) (by omega) (fun f k x _ hk hx => Or.inl ?_) (fun f x hx => ?_) (x := X) ⟨h42, hcr, fun j hj => absurd hj (by omega), zOut.rf⟩
  · obtain ⟨x1, x2, x3, x4⟩ := hx
    obtain ⟨y, y1, y2, y3⟩ := r_gS x2 x1 (zNn_C hC k) (by omega) (by omega)
    have oy := o_X9_nightGoes y1
    refine ⟨zsi y 63 k (zSx cr (zNn cr k S)), ?_, y2.to (zsi_ne (by omega)), (x2.to (oy.2 14 (by simp) (by simp)) (oy.1 45 (by simp) (by simp)).1).to (by rw [zsi_ne (by omega)]) (zsi_ne (by omega)), fun j hj => ?_, (x4.call oy (by simp) (by simp)).si 63 k _ (Or.inl (by simp))⟩
    · show f9_law_35 (f + 1) (nI k) x = _
      rw [f9_law_35, if_neg (show ¬ (10 : Int32) ≤ nI k from nI_ge (b := 10) hk (by omega)), y1, Option.bind_some]
      simp only []
      rw [zpI_n (by omega) (by omega), Option.bind_some, nI_1]
    · rw [zsi1]
      by_cases q : j = k
      · rw [if_pos ⟨rfl, q⟩, q]
      · rw [if_neg (fun z => q z.2), y3 63 (by omega) (by omega) (by omega) (by omega)]
        exact x3 j (by omega)
  · obtain ⟨x1, x2, x3, x4⟩ := hx
    refine ⟨x, ?_, x3, x4⟩
    have t3 : f9_threadsOf 42 x = some (zthr (zNn cr 10 S)) := by rw [f9_threadsOf, x1.1.1, x1.1.2.1, nI_add, zthr]
    show f9_law_35 (f + 1) (nI 10) x = _
    rw [f9_law_35, if_pos (show (10 : Int32) ≤ nI 10 by decide), t3, Option.bind_some]
theorem r_law77 {kc : Nat} (h14 : X.1 39 14 = nI kc) (hk : kc ≤ 40) (v2 v3 : Int32) : ∃ Y, f9_law_77 zfuel v2 v3 0 X = ((f9_laysCode 46 (Y.1 39 15) Y).bind fun M1 => (f9_copies 42 41 M1).bind fun M2 => f9_law_135 zfuel v2 v3 0 0 M2) ∧ (∀ i, i < kc → Y.1 62 i = X.1 45 i) ∧ zOut [62] [] X Y := by
  refine zloopP (F := fun f k x => f9_law_77 f v2 v3 (nI k) x) (I := fun k x => (∀ i, i < k → x.1 62 i = X.1 45 i) ∧ zOut [62] [] X x) (P := fun o => ∃ Y, o = ((f9_laysCode 46 (Y.1 39 15) Y).bind fun M1 => (f9_copies 42 41 M1).bind fun M2 => f9_law_135 zfuel v2 v3 0 0 M2) ∧ (∀ i, i < kc → Y.1 62 i = X.1 45 i) ∧ zOut [62] [] X Y) kc (by omega) (k0 := 0) (by omega) (fun f k x _ hk hx => Or.inl ?_) (fun f x hx => ?_) (x := X) ⟨fun j hj => absurd hj (by omega), zOut.rf⟩
  · obtain ⟨x1, x2⟩ := hx
    have e14 : x.1 39 14 = nI kc := (x2.2 14 (by simp) (by simp)).trans h14
    have e45 : x.1 45 = X.1 45 := (x2.1 45 (by simp) (by omega)).1
    refine ⟨zsi x 62 k (X.1 45 k), ?_, fun j hj => ?_, x2.si 62 k _ (Or.inl (by simp))⟩
    · show f9_law_77 (f + 1) v2 v3 (nI k) x = _
      rw [f9_law_77, e14, if_neg (nI_ge hk (by omega)), zaI_n (by omega) (by omega), Option.bind_some, zpI_n (by omega) (by omega), Option.bind_some, nI_1, e45]
    · rw [zsi1]
      by_cases q : j = k
      · rw [if_pos ⟨rfl, q⟩, q]
      · rw [if_neg (fun z => q z.2)]
        exact x1 j (by omega)
  · obtain ⟨x1, x2⟩ := hx
    have e14 : x.1 39 14 = nI kc := (x2.2 14 (by simp) (by simp)).trans h14
    refine ⟨x, ?_, x1, x2⟩
    show f9_law_77 (f + 1) v2 v3 (nI kc) x = _
    rw [f9_law_77, e14, if_pos (nI_le (Nat.le_refl _) (by omega))]
theorem r_law135 {kc : Nat} (hk : kc ≤ 40) (v2 : Int32) (h42 : zRS X 42 S) (hl : zCr X l) (hC : zSC S) (h63 : ∀ j, j < 10 → X.1 63 j = zSx cr (zNn cr j S)) : ∃ Y, f9_law_135 zfuel v2 (nI kc) 0 0 X = some (nI (zcdf l cr S 10), Y) ∧ zR9 Y [(zthr (zNn l 10 S)).toInt64, v2.toInt64] ∧ Y.1 39 14 = nI kc ∧ (∀ i, i < kc → Y.1 45 i = X.1 62 i) ∧ Y.1 39 7 = X.1 39 7 := by
  refine zloopP (F := fun f k x => f9_law_135 f v2 (nI kc) (nI (zcdf l cr S k)) (nI k) x) (I := fun k x => zRS x 42 (zNn l k S) ∧ zCr x l ∧ x.1 63 = X.1 63 ∧ x.1 62 = X.1 62 ∧ x.1 39 7 = X.1 39 7) (P := fun o => ∃ Y, o = some (nI (zcdf l cr S 10), Y) ∧ zR9 Y [(zthr (zNn l 10 S)).toInt64, v2.toInt64] ∧ Y.1 39 14 = nI kc ∧ (∀ i, i < kc → Y.1 45 i = X.1 62 i) ∧ Y.1 39 7 = X.1 39 7) 10 (by omega) (k0 := 0) (by omega) (fun f k x _ hk2 hx => Or.inl ?_) (fun f x hx => ?_) (x := X) ⟨h42, hl, rfl, rfl, rfl⟩
  · obtain ⟨x1, x2, x3, x4, x5⟩ := hx
    obtain ⟨y, y1, y2, y3⟩ := r_gS x2 x1 (zNn_C hC k) (by omega) (by omega)
    have oy := o_X9_nightGoes y1
    have e63 : y.1 63 k = zSx cr (zNn cr k S) := by rw [y3 63 (by omega) (by omega) (by omega) (by omega), x3, h63 k hk2]
    refine ⟨y, ?_, y2, x2.to (oy.2 14 (by simp) (by simp)) (oy.1 45 (by simp) (by simp)).1, (y3 63 (by omega) (by omega) (by omega) (by omega)).trans x3, (y3 62 (by omega) (by omega) (by omega) (by omega)).trans x4, (oy.2 7 (by simp) (by simp)).trans x5⟩
    show f9_law_135 (f + 1) v2 (nI kc) (nI (zcdf l cr S k)) (nI k) x = _
    rw [f9_law_135, if_neg (show ¬ (10 : Int32) ≤ nI k from nI_ge (b := 10) hk2 (by omega)), y1, Option.bind_some]
    simp only []
    have ef : f9_flag (if zSx l (zNn l k S) = zSx cr (zNn cr k S) then 0 else 1) = some (if zSx l (zNn l k S) = zSx cr (zNn cr k S) then 0 else 1) := by
      by_cases g : zSx l (zNn l k S) = zSx cr (zNn cr k S)
      · rw [if_pos g]
        rfl
      · rw [if_neg g]
        rfl
    rw [zaI_n (by omega) (by omega), Option.bind_some, e63, ef, Option.bind_some, zcdf_s, nI_1]
  · obtain ⟨x1, x2, x3, x4, x5⟩ := hx
    obtain ⟨y, y1, y2, y3⟩ := r_laysC (a1 := 62) (by omega) (by omega) (k := kc) (by omega) x
    have oy := o_X9_laysCode y1
    have yR : zRS (zsi y 39 1 0) 42 (zNn l 10 S) := x1.to (by rw [zsi_ne (by omega), (oy.1 42 (by simp) (by omega)).1])
    have t3 : f9_threadsOf 42 (zsi y 39 1 0) = some (zthr (zNn l 10 S)) := by rw [f9_threadsOf, yR.1.1, yR.1.2.1, nI_add, zthr]
    obtain ⟨z, z1, z2⟩ := r_tell (zthr (zNn l 10 S)).toInt64 y
    obtain ⟨u, u1, u2⟩ := z2.add (by simp) v2.toInt64
    have oz := o_X9_enters z1
    have ou := o_X9_enters u1
    refine ⟨u, ?_, u2, ?_, fun i hi => ?_, by rw [ou.2 7 (by simp) (by simp), oz.2 7 (by simp) (by simp), zsi1, if_neg (by omega), oy.2 7 (by simp) (by simp), x5]⟩
    · show f9_law_135 (f + 1) v2 (nI kc) (nI (zcdf l cr S 10)) (nI 10) x = _
      rw [f9_law_135, if_pos (show (10 : Int32) ≤ nI 10 by decide), y1, Option.bind_some, t3, Option.bind_some, z1, Option.bind_some, u1, Option.bind_some]
    · rw [ou.2 14 (by simp) (by simp), oz.2 14 (by simp) (by simp), zsi1, if_neg (by omega)]
      exact y2
    · rw [(ou.1 45 (by simp) (by omega)).1, (oz.1 45 (by simp) (by omega)).1, zsi_ne (by omega), y3 i hi, x4]
theorem zlaw_f : ∀ s, s < 100 → ((-1 - nI s : Int32) + 1) - 10000 = -10000 - nI s := by decide +kernel
theorem zP_law_ok : zP_law zInv := by
  intro c M hc h
  obtain ⟨n, t, hB⟩ := h.2.1
  obtain ⟨p, e, w, hA⟩ := h.1
  obtain ⟨cr, hE⟩ := h.2.2.2.2.1
  obtain ⟨hC, hW, hR⟩ := iA_S hA
  generalize hS : ((p, e, w, M.1 1 2) : zS4) = S at hC hW hR
  rcases ru_two (iBn_tx hB) (iBn_tr hB) with ⟨s, M1, hs, y8, a9⟩ | ⟨M1, y8, a9⟩
  · obtain ⟨X, y9, y7⟩ := a9 _ (rtxr hB y8)
    have h8 : f8_law M = some (-10000 - nI s, zsi M1 7 1 0) := by
      rw [f8_law, y8, Option.bind_some]
      show (if nI s = -1 then _ else _) = _
      rw [if_neg (nI_nm1 (by omega))]
    have h9 : f9_law (zsi M1 7 1 0) = some (-10000 - nI s, X) := by
      rw [f9_law, y9, Option.bind_some]
      show (if 0 ≤ -1 - nI s then _ else some (((-1 - nI s : Int32) + 1) - 10000, X)) = _
      rw [if_neg (Int32.not_le.mpr (nI_neg1 (by omega))), zlaw_f s hs]
    exact ⟨_, _, _, h8, h9, rtext h y8 y9 y7⟩
  · have oy := o_X4_readFrom y8
    have W1 : zWS (zsi M1 7 1 0) 1 S := (hW.to (oy.1 1 (by simp) (by omega)).1 (oy.1 2 (by simp) (by omega)).1).to (zsi_ne (by omega)) (zsi_ne (by omega))
    obtain ⟨M2, b1, b2⟩ := c_become (a := 3) W1 (by omega)
    have ob := o_X7_become b1
    obtain ⟨M3, d1, d2⟩ := c_become (a := 5) (W1.to (ob.1 1 (by simp) (by omega)).1 (ob.1 2 (by simp) (by omega)).1) (by omega)
    have od := o_X7_become d1
    -- any list of codes that the reference finds is the class's
    have key : ∀ l, zCc M1 16 l → ∃ Y, f8_law M = some (nI (zcdf l cr S 10), Y) ∧ zR8 Y [(zthr (zNn l 10 S)).toInt64, (zthr (zNn cr 10 S)).toInt64] ∧ Y.1 7 1 = 0 := by
      intro l hl
      have tl : zCc M3 16 l := ((hl.to (M' := zsi M1 7 1 0) (zsi_ne (by omega)) (zsi_ne (by omega))).to (ob.1 16 (by simp) (by omega)).1 (ob.1 17 (by simp) (by omega)).1).to (od.1 16 (by simp) (by omega)).1 (od.1 17 (by simp) (by omega)).1
      have hcc : zCc M 11 cr := ⟨hE.1, hE.2.1, hE.2.2.1, hE.2.2.2.1⟩
      have tc : zCc M3 11 cr := (((hcc.to (oy.1 11 (by simp) (by omega)).1 (oy.1 12 (by simp) (by omega)).1).to (M' := zsi M1 7 1 0) (zsi_ne (by omega)) (zsi_ne (by omega))).to (ob.1 11 (by simp) (by omega)).1 (ob.1 12 (by simp) (by omega)).1).to (od.1 11 (by simp) (by omega)).1 (od.1 12 (by simp) (by omega)).1
      obtain ⟨Y, q1, q2, q3⟩ := c_law tl tc (b2.to (od.1 3 (by simp) (by omega)).1 (od.1 4 (by simp) (by omega)).1) d2 hC
      refine ⟨Y, ?_, q2, by rw [q3, (od.1 7 (by simp) (by omega)).1, (ob.1 7 (by simp) (by omega)).1, zsi1, if_pos ⟨rfl, rfl⟩]⟩
      rw [f8_law, y8, Option.bind_some]
      show (if (-1 : Int32) = -1 then (f7_become 3 1 (zsi M1 7 1 0)).bind fun M2 => (f7_become 5 1 M2).bind fun M3 => f8_law_57 zfuel 0 0 M3 else _) = _
      rw [if_pos rfl, b1, Option.bind_some, d1, Option.bind_some, q1]
    obtain ⟨l0, X0, -, -, lc0, -⟩ := a9 _ (iBn_tr hB)
    obtain ⟨Y0, h8, r8, e70⟩ := key l0 lc0
    have o8 := o_X8_law h8
    have hX : zTr (zsi Y0 39 0 0) n t := by
      refine (iBn_tr hB).to ?_ ?_
      · rw [zsi1, if_neg (by decide), o8.2 7 (by simp) (by simp)]
      · rw [zsi_ne (by omega), (o8.1 43 (by simp) (by simp)).1]
    obtain ⟨l, X, y9, y7, lc, lr⟩ := a9 _ hX
    obtain ⟨Y0', h8', r8', -⟩ := key l lc
    have e8 := Prod.mk.inj (Option.some.inj (h8.symm.trans h8'))
    rw [← e8.2] at r8'
    rw [e8.1] at h8
    have o9 := (zOut.rf.si 39 0 0 (Or.inr ⟨rfl, by simp⟩) : zOut [] [0] Y0 (zsi Y0 39 0 0)).trans (o_X9_readsRule y9)
    have oX := o8.trans o9
    have hRX : zRS X 41 S := hR.to (oX.1 41 (by simp) (by omega)).1
    have hcX : zCr X cr := (show zCr M cr from ⟨hE.1, hE.2.2.2.1, hE.2.2.2.2⟩).to (oX.2 14 (by simp) (by simp)) (oX.1 45 (by simp) (by omega)).1
    obtain ⟨kc, kc1, kc2, kc3⟩ : ∃ kc, kc ≤ 40 ∧ M.1 39 14 = nI kc ∧ ((kc = cr.length ∧ ∀ i c, cr[i]? = some c → M.1 45 i = nI (zcr c)) ∨ (kc = 0 ∧ cr = [1099, 1105, 1045])) := by
      rcases hE.2.2.2.2 with q | q
      · exact ⟨cr.length, hE.1, q.1, Or.inl ⟨rfl, q.2⟩⟩
      · exact ⟨0, by omega, q.1, Or.inr ⟨rfl, q.2⟩⟩
    obtain ⟨kl, kl1, kl2, kl3⟩ : ∃ k, k ≤ 40 ∧ X.1 39 15 = nI k ∧ ((k = l.length ∧ ∀ i c, l[i]? = some c → X.1 46 i = nI (zcr c)) ∨ (k = 0 ∧ l = [1099, 1105, 1045])) := by
      rcases lr with lr | lr
      · exact ⟨l.length, lc.1, lr.1, Or.inl ⟨rfl, lr.2⟩⟩
      · exact ⟨0, by omega, lr.1, Or.inr ⟨rfl, lr.2⟩⟩
    obtain ⟨A, A1, A2⟩ := r_copyS hRX hC
    have oA := o_X9_copies A1
    obtain ⟨B, B1, B2, oB⟩ := r_law35 A2 (hcX.to (oA.2 14 (by simp) (by simp)) (oA.1 45 (by simp) (by omega)).1) hC
    have oAB := oA.trans oB
    have eB14 : B.1 39 14 = nI kc := by rw [oAB.2 14 (by simp) (by simp), oX.2 14 (by simp) (by simp), kc2]
    obtain ⟨D, D1, D2, oD⟩ := r_law77 (X := B) eB14 kc1 (zthr (zNn cr 10 S)) (nI kc)
    have oAD := oAB.trans oD
    have eD15 : D.1 39 15 = nI kl := by rw [oAD.2 15 (by simp) (by simp), kl2]
    obtain ⟨E, E1, E2, E3⟩ := r_laysC (a1 := 46) (by omega) (by omega) (k := kl) (by omega) D
    have oE := o_X9_laysCode E1
    have oAE := oAD.trans oE
    have hCE : zCr E l := by
      refine ⟨lc.1, lc.2.2.2, ?_⟩
      rcases kl3 with ⟨k3, k4⟩ | ⟨k3, k4⟩
      · refine Or.inl ⟨by rw [E2, k3], fun i c hi => ?_⟩
        have hil := (List.getElem?_eq_some_iff.mp hi).1
        rw [E3 i (by omega), (oAD.1 46 (by simp) (by omega)).1]
        exact k4 i c hi
      · exact Or.inr ⟨by rw [E2, k3]; rfl, k4⟩
    obtain ⟨G, G1, G2⟩ := r_copyS (hRX.to (oAE.1 41 (by simp) (by omega)).1) hC
    have oG := o_X9_copies G1
    obtain ⟨Y, Y1, Y2, Y3, Y4, Y5⟩ := r_law135 kc1 (zthr (zNn cr 10 S)) G2 (hCE.to (oG.2 14 (by simp) (by simp)) (oG.1 45 (by simp) (by omega)).1) hC (cr := cr) (fun j hj => by rw [(oG.1 63 (by simp) (by omega)).1, (oE.1 63 (by simp) (by omega)).1, (oD.1 63 (by simp) (by omega)).1, B2 j hj])
    have h9 : f9_law Y0 = some (nI (zcdf l cr S 10), Y) := by
      rw [f9_law, y9, Option.bind_some]
      show (if (0 : Int32) ≤ 0 then (f9_copies 42 41 X).bind fun M2 => f9_law_35 zfuel 0 M2 else _) = _
      rw [if_pos (by decide), A1, Option.bind_some, B1, eB14, D1, eD15, E1, Option.bind_some, G1, Option.bind_some, Y1]
    have o9' := o_X9_law h9
    have oall := o8.trans o9'
    refine ⟨_, _, _, h8, h9, zInv_to h oall (Or.inl rfl) (Or.inr ⟨0, fun _ => 0, by omega, ?_, ?_, fun i hi => absurd hi (by omega)⟩) (Or.inr ⟨_, zR8_to (o9'.same rfl) r8', Y2⟩) (Or.inl rfl) (Or.inr ⟨cr, hE.1, ?_, fun i c hi => ?_, hE.2.2.2.1, ?_⟩) (Or.inl rfl) (Or.inl rfl) (Or.inl rfl)⟩
    · rw [(o9'.1 7 (by simp) (by omega)).1, e70]
      rfl
    · rw [Y5, oG.2 7 (by simp) (by simp), oAE.2 7 (by simp) (by simp)]
      exact y7
    · rw [(oall.1 11 (by simp) (by omega)).1]
      exact hE.2.1
    · rw [(oall.1 12 (by simp) (by omega)).1]
      exact hE.2.2.1 i c hi
    · rcases kc3 with ⟨k3, k4⟩ | ⟨k3, k4⟩
      · refine Or.inl ⟨by rw [Y3, k3], fun i c hi => ?_⟩
        have hil := (List.getElem?_eq_some_iff.mp hi).1
        rw [Y4 i (by omega), (oG.1 62 (by simp) (by omega)).1, (oE.1 62 (by simp) (by omega)).1, D2 i (by omega), (oAB.1 45 (by simp) (by omega)).1, (oX.1 45 (by simp) (by omega)).1]
        exact k4 i c hi
      · exact Or.inr ⟨by rw [Y3, k3]; rfl, k4⟩
end LW
