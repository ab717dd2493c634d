/-! weaves, draws, flips, mirrors -/
section WS
variable {p e : Nat} {w : Nat → Nat}
theorem in01 (a : Nat) (ha : a < 2) : f9_in (nI a).toInt64 0 1 = some 1 := in_ok (n := 1) (by omega) (by omega)
theorem r_full {n : Nat} (h : n ≤ 6) : f9_full (nI n) = some (nI (2 ^ n - 1)) := full_n n (by omega)
theorem weave_cases (hc : zCl p e w) (kd i v : Int32) : (∀ M k, zWc M k p e w → f7_weaveIn k kd i v M = some (-1, M)) ∧ (∀ X a, zRr X a p e w → f9_weavesIn a kd i v X = some (-1, X)) ∨ (∀ M k, zWc M k p e w → f7_weaveIn k kd i v M = some (-2, M)) ∧ (∀ X a, zRr X a p e w → f9_weavesIn a kd i v X = some (-2, X)) ∨ ∃ a b x, a < 2 ∧ b ≤ zmany p e a ∧ zmany p e a < 6 ∧ x < 2 ^ zmany p e (1 - a) ∧ kd = nI a ∧ i = nI b ∧ v = nI x := by
  have bad : (kd < 0 ∨ nI 2 ≤ kd) → (∀ M k, zWc M k p e w → f7_weaveIn k kd i v M = some (-1, M)) ∧ (∀ X a, zRr X a p e w → f9_weavesIn a kd i v X = some (-1, X)) := by
    intro hk
    have n0 : ¬ kd = 0 ∧ ¬ kd = 1 := by
      rcases hk with hk | hk
      · exact ⟨(zix_neg hk 0 (by omega)).2.2.2.2, (zix_neg hk 1 (by omega)).2.2.2.2⟩
      · exact ⟨((zix_big (by omega) hk).2 0 (by omega)).2.2.2.2, ((zix_big (by omega) hk).2 1 (by omega)).2.2.2.2⟩
    have q : f9_in kd.toInt64 0 1 = some 0 := by
      rcases hk with hk | hk
      · exact in_neg (n := 1) (by omega) hk
      · exact in_big (n := 1) (by omega) hk
    refine ⟨fun M k hW => ?_, fun X a hR => ?_⟩
    · rw [f7_weaveIn, if_neg n0.1, if_neg n0.2]
    · rw [f9_weavesIn, q]
      rfl
  rcases pk_ix kd (n := 2) (by omega) with hk | hk | ⟨a, ha, rfl⟩
  · exact Or.inl (bad (Or.inl hk))
  · exact Or.inl (bad (Or.inr hk))
  have hm := zmany_le hc a
  have hm1 := zmany_le hc (1 - a)
  have hpw := zfull_lt hm1.2
  have e9 : ∀ M k, f7_weaveIn k (nI a) i v M = f7_weaveIn_9 k (nI a) i v M := by
    intro M k
    rw [f7_weaveIn]
    rcases (show a = 0 ∨ a = 1 by omega) with rfl | rfl
    · rfl
    · rfl
  rcases pk_ix i (n := zmany p e a + 1) (by omega) with hi | hi | ⟨b, hb, rfl⟩
  · refine Or.inl ⟨fun M k hW => ?_, fun X a' hR => ?_⟩
    · rw [e9, f7_weaveIn_9, if_pos hi]
    · rw [f9_weavesIn, in01 a ha, Option.bind_some, if_neg (by decide), r_many hR ha, Option.bind_some, in_neg (by omega) hi]
      rfl
  · refine Or.inl ⟨fun M k hW => ?_, fun X a' hR => ?_⟩
    · have g := zix_big (by omega) hi
      rw [e9, f7_weaveIn_9, if_neg g.1, c_size hW ha, Option.bind_some, if_neg (g.2 _ (by omega)).1]
    · rw [f9_weavesIn, in01 a ha, Option.bind_some, if_neg (by decide), r_many hR ha, Option.bind_some, in_big (by omega) hi]
      rfl
  rcases pk_ix v (n := 2 ^ zmany p e (1 - a) - 1 + 1) (by omega) with hv | hv | ⟨x, hx, rfl⟩
  · refine Or.inl ⟨fun M k hW => ?_, fun X a' hR => ?_⟩
    · rw [e9, f7_weaveIn_9, if_neg (nI_pos (by omega)), c_size hW ha, Option.bind_some, if_pos (nI_le (by omega) (by omega)), if_pos hv]
    · rw [f9_weavesIn, in01 a ha, Option.bind_some, if_neg (by decide), r_many hR ha, Option.bind_some, in_ok (by omega) (by omega), Option.bind_some, if_neg (by decide), r_cells hR ha, Option.bind_some, r_full hm1.2, Option.bind_some, in_neg (by omega) hv]
      rfl
  · refine Or.inl ⟨fun M k hW => ?_, fun X a' hR => ?_⟩
    · have g := zix_big (by omega) hv
      rw [e9, f7_weaveIn_9, if_neg (nI_pos (by omega)), c_size hW ha, Option.bind_some, if_pos (nI_le (by omega) (by omega)), if_neg g.1, c_full hW hc ha, Option.bind_some, if_neg (g.2 _ (by omega)).1]
    · rw [f9_weavesIn, in01 a ha, Option.bind_some, if_neg (by decide), r_many hR ha, Option.bind_some, in_ok (by omega) (by omega), Option.bind_some, if_neg (by decide), r_cells hR ha, Option.bind_some, r_full hm1.2, Option.bind_some, in_big (by omega) hv]
      rfl
  by_cases h6 : zmany p e a = 6
  · refine Or.inr (Or.inl ⟨fun M k hW => ?_, fun X a' hR => ?_⟩)
    · rw [e9, f7_weaveIn_9, if_neg (nI_pos (by omega)), c_size hW ha, Option.bind_some, if_pos (nI_le (by omega) (by omega)), if_neg (nI_pos (by omega)), c_full hW hc ha, Option.bind_some, if_pos (nI_le (by omega) (by omega)), Option.bind_some, h6]
      rfl
    · rw [f9_weavesIn, in01 a ha, Option.bind_some, if_neg (by decide), r_many hR ha, Option.bind_some, in_ok (by omega) (by omega), Option.bind_some, if_neg (by decide), r_cells hR ha, Option.bind_some, r_full hm1.2, Option.bind_some, in_ok (by omega) (by omega), Option.bind_some, if_neg (by decide), Option.bind_some, h6]
      rfl
  · exact Or.inr (Or.inr ⟨a, b, x, ha, by omega, by omega, by omega, rfl, rfl, rfl⟩)
theorem r_weave {X : zM} {a : Nat} (hR : zRr X a p e w) (hc : zCl p e w) {kd i v : Nat} (hk : kd < 2) (hi : i ≤ zmany p e kd) (hm : zmany p e kd < 6) (hv : v < 2 ^ zmany p e (1 - kd)) : ∃ X', f9_weavesIn a (nI kd) (nI i) (nI v) X = some (nI (zmany p e kd + 1), X') ∧ zRr X' a (zuP p kd) (zuE e kd) (zuW p w kd i v) ∧ X'.1 a 8 = X.1 a 8 := by
  have hm1 := zmany_le hc (1 - kd)
  have hpw := zfull_lt hm1.2
  obtain ⟨X', h1, h2, h3⟩ := r_comes hR hc.2.1 (fun i hi => hc.lt64 i) hk hi hm hc.2.2.2.1 (v := v) (by omega)
  refine ⟨X', ?_, h2, h3⟩
  rw [f9_weavesIn, in01 kd hk, Option.bind_some, if_neg (by decide), r_many hR hk, Option.bind_some, in_ok (by omega) (by omega), Option.bind_some, if_neg (by decide), r_cells hR hk, Option.bind_some, r_full hm1.2, Option.bind_some, in_ok (by omega) (by omega), Option.bind_some, if_neg (by decide), Option.bind_some, zl6, if_neg (nI_ne (by omega) (by omega) (by omega)), h1, Option.bind_some, r_many h2 hk]
  rcases (show kd = 0 ∨ kd = 1 by omega) with rfl | rfl
  · rfl
  · rfl
end WS
theorem zP_weaves_ok : zP_weaves zInv := by
  intro c M v1 v2 v3 hc h
  obtain ⟨p, e, w, hA⟩ := h.1
  obtain ⟨hc1, hW, hR, hN⟩ := id hA
  refine zact h hA (f8 := f8_weaves v1 v2 v3) (f9 := f9_weaves v1 v2 v3) (op8 := f7_weaveIn 1 v1 v2 v3) (op9 := f9_weavesIn 41 v1 v2 v3) rfl (fun X => rfl) ?_
  rcases weave_cases hc1 v1 v2 v3 with ⟨a1, a2⟩ | ⟨a1, a2⟩ | ⟨a, b, x, ha, hb, hm, hx, rfl, rfl, rfl⟩
  · exact Or.inl ⟨-1, by decide, a1 M 1 hW, fun X hX => ⟨X, a2 X 41 hX, hX, rfl, zOut.rf⟩⟩
  · exact Or.inl ⟨-2, by decide, a1 M 1 hW, fun X hX => ⟨X, a2 X 41 hX, hX, rfl, zOut.rf⟩⟩
  · obtain ⟨M8, k1, k2, k3⟩ := c_weave hW hc1 ha hb hm hx
    refine Or.inr ⟨zmany p e a + 1, _, _, _, M8, by omega, k1, zCl_u hc1 ha hb hm hx, k2, k3, o_X7_weaveIn k1, fun X hX => ?_⟩
    obtain ⟨X', y1, y2, y3⟩ := r_weave hX hc1 ha hb hm hx
    exact ⟨X', y1, y2, y3, (o_X9_weavesIn y1).mono (by simp) (by simp)⟩
section DS
variable {p e : Nat} {w : Nat → Nat}
theorem r_draw {X : zM} (hR : zRr X 41 p e w) (hc : zCl p e w) {kd i : Nat} (hk : kd < 2) (hi : i < zmany p e kd) (hm : 2 ≤ zmany p e kd) : ∃ X', f9_drawsOut (nI kd) (nI i) X = some (nI (zth p e w kd i), X') ∧ zRr X' 41 (zdP p kd) (zdE e kd) (zdW w kd i) ∧ X'.1 41 8 = X.1 41 8 := by
  have hm6 := (zmany_le hc kd).2
  obtain ⟨X', h1, h2, h3⟩ := r_goes hR hc.2.1 (fun i hi => hc.lt64 i) hk hi hc.2.2.2.1
  refine ⟨X', ?_, h2, h3⟩
  rw [f9_drawsOut, r_thr_yes hR hc hk hi, Option.bind_some, if_neg (by decide), r_many hR hk, Option.bind_some, zl1, if_neg (nI_ne (by omega) (by omega) (by omega)), r_bits hR hc hk hi, Option.bind_some, h1]
  rfl
theorem draw_cases (hc : zCl p e w) (kd i : Int32) : (∃ r, r < 0 ∧ (∀ M k, zWc M k p e w → f7_drawOut k kd i M = some (r, M)) ∧ ∀ X, zRr X 41 p e w → f9_drawsOut kd i X = some (r, X)) ∨ ∃ a b, a < 2 ∧ b < zmany p e a ∧ 2 ≤ zmany p e a ∧ kd = nI a ∧ i = nI b := by
  by_cases hv : zVd p e kd i
  · obtain ⟨a, b, ha, hb, rfl, rfl⟩ := hv
    have hm := zmany_le hc a
    by_cases h1 : zmany p e a = 1
    · refine Or.inl ⟨-2, by decide, fun M k hW => ?_, fun X hR => ?_⟩
      · rw [f7_drawOut, c_has_yes hW hc ha hb, Option.bind_some, if_neg (by decide), c_size hW ha, Option.bind_some, h1]
        rfl
      · rw [f9_drawsOut, r_thr_yes hR hc ha hb, Option.bind_some, if_neg (by decide), r_many hR ha, Option.bind_some, h1]
        rfl
    · exact Or.inr ⟨a, b, ha, hb, by omega, rfl, rfl⟩
  · refine Or.inl ⟨-1, by decide, fun M k hW => ?_, fun X hR => ?_⟩
    · rw [f7_drawOut, c_has_no hW hc hv]
      rfl
    · rw [f9_drawsOut, r_thr_no hR hc hv]
      rfl
theorem r_flip {X : zM} {k : Nat} (hR : zRr X k p e w) (hc : zCl p e w) {a b : Nat} (ha : a < p) (hb : b < e) : ∃ X', f9_flipsOne k (nI a) (nI b) X = some (nI (zovs p (zfW w a b)), X') ∧ zRr X' k p e (zfW w a b) ∧ X'.1 k 8 = X.1 k 8 := by
  have hp := hc.2.1
  have he := hc.2.2.2.1
  have hz := zpw6 (n := b) (by omega)
  have q1 : f9_isThread k 0 (nI a) X = some 1 := r_thr_yes hR hc (a := 0) (by omega) ha
  have q2 : f9_isThread k 1 (nI b) X = some 1 := r_thr_yes hR hc (a := 1) (by omega) hb
  have hR' : zRr (zsi X k a (nI (w a ^^^ 2 ^ b))) k p e (zfW w a b) := by
    refine ⟨?_, ?_, fun t ht => ?_⟩
    · rw [zsi1, if_neg (by omega)]; exact hR.1
    · rw [zsi1, if_neg (by omega)]; exact hR.2.1
    · rw [zsi1, zfW]
      by_cases g : t = a
      · rw [if_pos ⟨rfl, g⟩, if_pos g]
      · rw [if_neg (by omega), if_neg g, hR.2.2 t ht]
  refine ⟨_, ?_, hR', by rw [zsi1, if_neg (by omega)]⟩
  rw [f9_flipsOne, q1, Option.bind_some, if_neg (by decide), q2, Option.bind_some, if_neg (by decide), zaI_n (by omega) (by omega), hR.2.2 a ha, Option.bind_some, zl1, nI_shl (by omega) (by omega), nI_xor, zpI_n (by omega) (by omega), Option.bind_some, Nat.one_mul, r_overs hR' (zCl_f hc ha hb)]
  rfl
theorem flip_no (hc : zCl p e w) {a b : Int32} (hv : ¬ (zVd p e 0 a ∧ zVd p e 1 b)) : (∀ M k, zWc M k p e w → f7_turnCell k a b M = some (-1, M)) ∧ ∀ X k, zRr X k p e w → f9_flipsOne k a b X = some (-1, X) := by
  refine ⟨fun M k hW => ?_, fun X k hR => ?_⟩
  · rw [f7_turnCell, c_cross_no hW hc hv]
    rfl
  · rw [f9_flipsOne]
    by_cases h0 : zVd p e 0 a
    · obtain ⟨a', ha, rfl⟩ := zVd_0 hc h0
      have q1 : f9_isThread k 0 (nI a') X = some 1 := r_thr_yes hR hc (a := 0) (by omega) ha
      rw [q1, Option.bind_some, if_neg (by decide), r_thr_no hR hc (fun q => hv ⟨h0, q⟩)]
      rfl
    · rw [r_thr_no hR hc h0]
      rfl
end DS
theorem zP_draws_ok : zP_draws zInv := by
  intro c M v1 v2 hc h
  obtain ⟨p, e, w, hA⟩ := h.1
  obtain ⟨hc1, hW, hR, hN⟩ := id hA
  refine zact h hA (f8 := f8_draws v1 v2) (f9 := f9_draws v1 v2) (op8 := f7_drawOut 1 v1 v2) (op9 := f9_drawsOut v1 v2) rfl (fun X => rfl) ?_
  rcases draw_cases hc1 v1 v2 with ⟨r, hr, a1, a2⟩ | ⟨a, b, ha, hb, hm, rfl, rfl⟩
  · exact Or.inl ⟨r, hr, a1 M 1 hW, fun X hX => ⟨X, a2 X hX, hX, rfl, zOut.rf⟩⟩
  · obtain ⟨M8, k1, k2, k3⟩ := c_draw hW hc1 ha hb hm
    have h64 := zth_lt64 hc1 a b
    refine Or.inr ⟨zth p e w a b, _, _, _, M8, by omega, k1, zCl_d hc1 ha hb hm, k2, k3, o_X7_drawOut k1, fun X hX => ?_⟩
    obtain ⟨X', y1, y2, y3⟩ := r_draw hX hc1 ha hb hm
    exact ⟨X', y1, y2, y3, (o_X9_drawsOut y1).mono (by simp) (by simp)⟩
theorem zovs_lt (p : Nat) (w : Nat → Nat) (hp : p ≤ 6) : zovs p w < 2 ^ 31 := by
  have h12 : ∀ x, zbc x ≤ 12 := by
    intro x
    have : ∀ n, ((List.range n).map fun i => x / 2 ^ i % 2).sum ≤ n := by
      intro n
      induction n with
      | zero => simp
      | succ n ih =>
        rw [List.range_succ, List.map_append, List.sum_append]
        simp
        omega
    exact this 12
  have := zsum_le (g := fun i => zbc (w i)) (b := 12) (n := p) (fun i _ => h12 _)
  unfold zovs
  omega
theorem zP_flips_ok : zP_flips zInv := by
  intro c M v1 v2 hc h
  obtain ⟨p, e, w, hA⟩ := h.1
  obtain ⟨hc1, hW, hR, hN⟩ := id hA
  refine zact h hA (f8 := f8_flips v1 v2) (f9 := f9_flips v1 v2) (op8 := f7_turnCell 1 v1 v2) (op9 := f9_flipsOne 41 v1 v2) rfl (fun X => rfl) ?_
  by_cases hv : zVd p e 0 v1 ∧ zVd p e 1 v2
  · obtain ⟨a, ha, rfl⟩ := zVd_0 hc1 hv.1
    obtain ⟨b, hb, rfl⟩ := zVd_1 hc1 hv.2
    obtain ⟨M8, k1, k2, k3⟩ := c_flip hW hc1 ha hb
    refine Or.inr ⟨_, _, _, _, M8, zovs_lt _ _ hc1.2.1, k1, zCl_f hc1 ha hb, k2, k3, (o_X7_turnCell k1).mono (by simp) (by simp), fun X hX => ?_⟩
    obtain ⟨X', y1, y2, y3⟩ := r_flip hX hc1 ha hb
    exact ⟨X', y1, y2, y3, (o_X9_flipsOne y1).mono (by simp) (by simp)⟩
  · obtain ⟨a1, a2⟩ := flip_no hc1 hv
    exact Or.inl ⟨-1, by decide, a1 M 1 hW, fun X hX => ⟨X, a2 X 41 hX, hX, rfl, zOut.rf⟩⟩
