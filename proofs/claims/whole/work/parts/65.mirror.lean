/-! mirrors, sheet -/
theorem r_copies {a b : Nat} (hab : a ≠ b) (M : zM) : ∃ M', f9_copies a b M = some M' ∧ ∀ j, j < 9 → M'.1 a j = M.1 b j := by
  rw [f9_copies]
  refine zloopP (F := fun f j x => f9_copies_2 a b f (nI j) x) (I := fun j x => (∀ i, x.1 b i = M.1 b i) ∧ ∀ i, i < j → x.1 a i = M.1 b i) (P := fun o => ∃ M', o = some M' ∧ ∀ j, j < 9 → M'.1 a j = M.1 b j) 9 (by omega) (k0 := 0) (by omega) (fun f j x _ hj hx => Or.inl ?_) (fun f x hx => ?_) ⟨fun _ => rfl, fun i hi => by omega⟩
  · obtain ⟨x1, x2⟩ := hx
    refine ⟨zsi x a j (M.1 b j), ?_, fun i => ?_, fun i hi => ?_⟩
    · show f9_copies_2 a b (f + 1) (nI j) x = _
      rw [f9_copies_2]
      simp (disch := omega) only [zl0, zl1, zl2, zl3, zl4, zl5, zl6, zl7, zl8, zl9, zl10, zl11, zl12, nI_add, nI_sub, nI_mul, zaI_n, zaJ_n, zpI_n, zpJ_n, Option.bind_some, nI_le, nI_ge, nI_lt, nI_nlt, nI_ne, ↓reduceIte, if_true, if_false, x1]
    · rw [zsi1, if_neg (fun q => hab q.1.symm), x1]
    · rw [zsi1]
      by_cases g : i = j
      · subst g
        rw [if_pos ⟨rfl, rfl⟩]
      · rw [if_neg (by omega)]
        exact x2 i (by omega)
  · refine ⟨x, ?_, hx.2⟩
    show f9_copies_2 a b (f + 1) (nI 9) x = _
    rw [f9_copies_2, if_pos (by decide)]
theorem zRr.cp {M M' : zM} {a b p e : Nat} {w : Nat → Nat} (h : zRr M b p e w) (hp : p ≤ 6) (hj : ∀ j, j < 9 → M'.1 a j = M.1 b j) : zRr M' a p e w := by
  refine ⟨by rw [hj 6 (by omega)]; exact h.1, by rw [hj 7 (by omega)]; exact h.2.1, fun i hi => by rw [hj i (by omega)]; exact h.2.2 i hi⟩
theorem zRr.wc {M : zM} {a p e p' e' : Nat} {w w' : Nat → Nat} (h : zRr M a p e w) (hp : p = p') (he : e = e') (hw : ∀ i, i < p → w i = w' i) : zRr M a p' e' w' := by
  subst hp
  subst he
  exact ⟨h.1, h.2.1, fun i hi => by rw [h.2.2 i hi, hw i hi]⟩
def zmk1 (e v : Nat) : Nat → Nat
  | 0 => v
  | k + 1 => zwi (zwo (zmk1 e v k) k) k (v / 2 ^ (e - 1 - k) % 2)
def zmk (p e : Nat) (w : Nat → Nat) (kd k : Nat) : Nat → Nat := if kd = 0 then fun t => if t < k then w (p - 1 - t) else w t else fun t => zmk1 e (w t) k
theorem zmk1_e : ∀ e, e < 7 → ∀ v, v < 2 ^ e → zmk1 e v e = zrev v e := by decide +kernel
theorem zmk1_lt : ∀ e, e < 7 → ∀ v, v < 2 ^ e → ∀ k, k < e + 1 → zmk1 e v k < 64 := by decide +kernel
theorem zrev_bit : ∀ e, e < 7 → ∀ v, v < 2 ^ e → ∀ k, k < e → zrev v e / 2 ^ k % 2 = v / 2 ^ (e - 1 - k) % 2 := by decide +kernel
theorem zcolp_congr {w w' : Nat → Nat} {j j' n : Nat} (h : ∀ t, t < n → w t / 2 ^ j % 2 = w' t / 2 ^ j' % 2) : zcolp w j n = zcolp w' j' n := by
  induction n with
  | zero => rfl
  | succ n ih => rw [zcolp, zcolp, ih (fun t ht => h t (by omega)), h n (by omega)]
section MR
variable {p e : Nat} {w : Nat → Nat}
theorem zth_mir (hc : zCl p e w) {kd k : Nat} (hk : kd < 2) (hi : k < zmany p e kd) : zth p e (zmW p e w kd) kd k = zth p e w kd (zmany p e kd - 1 - k) := by
  obtain ⟨c1, c2, c3, c4, c5, c6⟩ := id hc
  rcases (show kd = 0 ∨ kd = 1 by omega) with rfl | rfl
  · have hi : k < p := hi
    show (if k < p then w (p - 1 - k) else 0) = w (p - 1 - k)
    rw [if_pos hi]
  · have hi : k < e := hi
    show zcol p e (fun j => zrev (w j) e) k = zcol p e w (e - 1 - k)
    rw [zcol, if_pos hi, zcol, if_pos (by omega)]
    exact zcolp_congr (fun t ht => zrev_bit e (by omega) _ (c5 t ht) k hi)
theorem r_mirror {X : zM} (hR : zRr X 41 p e w) (hc : zCl p e w) {kd : Nat} (hk : kd < 2) : ∃ X', f9_mirrorsAll (nI kd) X = some (nI (zmir p e w kd), X') ∧ zRr X' 41 p e (zmW p e w kd) ∧ X'.1 41 8 = X.1 41 8 := by
  have hm := zmany_le hc kd
  obtain ⟨c1, c2, c3, c4, c5, c6⟩ := id hc
  obtain ⟨X1, y1, y2⟩ := r_copies (a := 42) (b := 41) (by omega) X
  have o1 := o_X9_copies y1
  have e41 : X1.1 41 = X.1 41 := (o1.1 41 (by simp) (by simp)).1
  have hR1 : zRr X1 41 p e w := by simp only [zRr, e41]; exact hR
  have hR2 : zRr X1 42 p e w := hR.cp c2 y2
  rw [f9_mirrorsAll, in01 kd hk, Option.bind_some, if_neg (by decide), y1, Option.bind_some, r_many hR1 hk, Option.bind_some]
  refine zloopP (F := fun f k x => f9_mirrorsAll_34 f (nI kd) (nI (zmany p e kd)) (nI k) x) (I := fun k x => zRr x 42 p e w ∧ zRr x 41 p e (zmk p e w kd k) ∧ x.1 41 8 = X.1 41 8) (P := fun o => ∃ X', o = some (nI (zmir p e w kd), X') ∧ zRr X' 41 p e (zmW p e w kd) ∧ X'.1 41 8 = X.1 41 8) (zmany p e kd) (by omega) (k0 := 0) (by omega) (fun f k x _ hj hx => Or.inl ?_) (fun f x hx => ?_) ⟨hR2, hR1.wc rfl rfl (fun i hi => by
    unfold zmk
    split
    · dsimp only
      rw [if_neg (by omega)]
    · rfl), by rw [e41]⟩
  · obtain ⟨x1, x2, x3⟩ := hx
    have hlt : ∀ i, i < p → zmk p e w kd k i < 64 := by
      intro i hi
      unfold zmk
      split
      · dsimp only
        split
        · exact hc.lt64 _
        · exact hc.lt64 _
      · rename_i hk0
        have : zmany p e kd = e := by unfold zmany; rw [if_neg hk0]
        exact zmk1_lt e (by omega) _ (c5 i hi) k (by omega)
    obtain ⟨x', z1, z2, z3⟩ := r_goes x2 c2 hlt hk hj c4
    have o2 := o_X9_goes z1
    have hb := zth_lt64 hc kd (zmany p e kd - 1 - k)
    have hlt' : ∀ i, i < zdP p kd → zdW (zmk p e w kd k) kd k i < 64 := by
      intro i hi
      unfold zdW
      split
      · rename_i hk0
        have hp : zdP p kd = p - 1 := by unfold zdP; rw [if_pos hk0]
        dsimp only
        split
        · exact hlt _ (by omega)
        · exact hlt _ (by omega)
      · rename_i hk0
        have hp : zdP p kd = p := by unfold zdP; rw [if_neg hk0]
        exact zwo_64 k (by omega) _ (hlt i (by omega))
    have hmd : zmany (zdP p kd) (zdE e kd) kd = zmany p e kd - 1 := by
      rcases (show kd = 0 ∨ kd = 1 by omega) with rfl | rfl
      · rfl
      · rfl
    obtain ⟨x'', u1, u2, u3⟩ := r_comes (i := k) z2 (by unfold zdP; split <;> omega) hlt' hk (by rw [hmd]; omega) (by rw [hmd]; omega) (by unfold zdE; split <;> omega) hb
    have o3 := o_X9_comes u1
    refine ⟨x'', ?_, ?_, ?_, by rw [u3, z3, x3]⟩
    · show f9_mirrorsAll_34 (f + 1) _ _ (nI k) x = _
      rw [f9_mirrorsAll_34, if_neg (nI_ge hj (by omega)), zl1, nI_sub (by omega), nI_sub (by omega), r_bits x1 hc hk (by omega), Option.bind_some, z1, Option.bind_some, u1, Option.bind_some, nI_add]
    · have q1 := (o2.1 42 (by simp) (by simp)).1
      have q2 := (o3.1 42 (by simp) (by simp)).1
      simp only [zRr, q1, q2]
      exact x1
    · refine u2.wc ?_ ?_ (fun i hi => ?_)
      · unfold zuP zdP
        split <;> omega
      · unfold zuE zdE
        split <;> omega
      · rcases (show kd = 0 ∨ kd = 1 by omega) with rfl | rfl
        · have hi : i < p - 1 + 1 := hi
          have hj : k < p := hj
          show (if i < k then (if i < k then (if i < k then w (p - 1 - i) else w i) else (if i + 1 < k then w (p - 1 - (i + 1)) else w (i + 1))) else if i = k then w (p - 1 - k) else (if i - 1 < k then (if i - 1 < k then w (p - 1 - (i - 1)) else w (i - 1)) else (if i - 1 + 1 < k then w (p - 1 - (i - 1 + 1)) else w (i - 1 + 1)))) = if i < k + 1 then w (p - 1 - i) else w i
          by_cases g : i < k
          · rw [if_pos g, if_pos g, if_pos g, if_pos (by omega)]
          · rw [if_neg g]
            by_cases g2 : i = k
            · rw [if_pos g2, if_pos (by omega), g2]
            · rw [if_neg g2, if_neg (by omega), if_neg (by omega), if_neg (by omega)]
              congr 1
              omega
        · have hi : i < p := hi
          have hj : k < e := hj
          show (if i < p then zwi (zwo (zmk1 e (w i) k) k) k (1 - zcol p e w (e - 1 - k) / 2 ^ i % 2) else 0) = zmk1 e (w i) (k + 1)
          rw [if_pos hi, zcol_bit (by omega) hi, zmk1]
          congr 1
          omega
  · obtain ⟨x1, x2, x3⟩ := hx
    have x2' : zRr x 41 p e (zmW p e w kd) := x2.wc rfl rfl (fun i hi => by
      rcases (show kd = 0 ∨ kd = 1 by omega) with rfl | rfl
      · show (if i < p then w (p - 1 - i) else w i) = if i < p then w (p - 1 - i) else 0
        rw [if_pos hi, if_pos hi]
      · exact zmk1_e e (by omega) _ (c5 i hi))
    have hc' := zCl_m hc hk
    refine ⟨x, ?_, x2', x3⟩
    show f9_mirrorsAll_34 (f + 1) _ _ (nI (zmany p e kd)) x = _
    rw [f9_mirrorsAll_34, if_pos (nI_le (Nat.le_refl _) (by omega))]
    refine zloop0 (F := fun f n => f9_mirrorsAll_85 f (nI kd) (nI (zmany p e kd)) (nI (zsum (fun i => if zth p e w kd i = zth p e w kd (zmany p e kd - 1 - i) then 0 else 1) n)) (nI n) x) (zmany p e kd) (by omega) (fun f n hn => ?_) (fun f => ?_)
    · show f9_mirrorsAll_85 (f + 1) _ _ _ (nI n) x = _
      have b1 := zth_lt64 hc kd n
      have b2 := zth_lt64 hc kd (zmany p e kd - 1 - n)
      rw [f9_mirrorsAll_85, if_neg (nI_ge hn (by omega)), r_bits x2' hc' hk hn, Option.bind_some, r_bits x1 hc hk hn, Option.bind_some, zth_mir hc hk hn, zsum]
      by_cases g : zth p e w kd n = zth p e w kd (zmany p e kd - 1 - n)
      · rw [if_pos g, if_pos (by rw [g])]
        show f9_mirrorsAll_85 f _ _ (nI _ + nI 0) (nI n + nI 1) x = _
        rw [nI_add, nI_add]
      · rw [if_neg g, if_neg (nI_ne (fun q => g q.symm) (by omega) (by omega))]
        show f9_mirrorsAll_85 f _ _ (nI _ + nI 1) (nI n + nI 1) x = _
        rw [nI_add, nI_add]
    · show f9_mirrorsAll_85 (f + 1) _ _ _ (nI (zmany p e kd)) x = _
      rw [f9_mirrorsAll_85, if_pos (nI_le (Nat.le_refl _) (by omega))]
      rfl
end MR
theorem zmir_lt {p e : Nat} {w : Nat → Nat} (hc : zCl p e w) (kd : Nat) : zmir p e w kd < 2 ^ 31 := by
  have hm := zmany_le hc kd
  have := zsum_le (g := fun i => if zth p e w kd i = zth p e w kd (zmany p e kd - 1 - i) then 0 else 1) (b := 1) (n := zmany p e kd) (fun i _ => by
    show (if _ then 0 else 1) ≤ 1
    split <;> omega)
  unfold zmir
  omega
theorem zP_mirrors_ok : zP_mirrors zInv := by
  intro c M v1 hc h
  obtain ⟨p, e, w, hA⟩ := h.1
  obtain ⟨hc1, hW, hR, hN⟩ := id hA
  refine zact h hA (f8 := f8_mirrors v1) (f9 := f9_mirrors v1) (op8 := f7_turnRound 1 v1) (op9 := f9_mirrorsAll v1) rfl (fun X => rfl) ?_
  have bad : (v1 < 0 ∨ nI 2 ≤ v1) → f7_turnRound 1 v1 M = some (-1, M) ∧ ∀ X, f9_mirrorsAll v1 X = some (-1, X) := by
    intro hk
    have n0 : ¬ v1 = 0 ∧ ¬ v1 = 1 := by
      rcases hk with hk | hk
      · exact ⟨(zix_neg hk 0 (by omega)).2.2.2.2, (zix_neg hk 1 (by omega)).2.2.2.2⟩
      · exact ⟨((zix_big (by omega) hk).2 0 (by omega)).2.2.2.2, ((zix_big (by omega) hk).2 1 (by omega)).2.2.2.2⟩
    have q : f9_in v1.toInt64 0 1 = some 0 := by
      rcases hk with hk | hk
      · exact in_neg (n := 1) (by omega) hk
      · exact in_big (n := 1) (by omega) hk
    refine ⟨?_, fun X => ?_⟩
    · rw [f7_turnRound, if_neg n0.1, if_neg n0.2]
    · rw [f9_mirrorsAll, q]
      rfl
  rcases pk_ix v1 (n := 2) (by omega) with hk | hk | ⟨a, ha, rfl⟩
  · exact Or.inl ⟨-1, by decide, (bad (Or.inl hk)).1, fun X hX => ⟨X, (bad (Or.inl hk)).2 X, hX, rfl, zOut.rf⟩⟩
  · exact Or.inl ⟨-1, by decide, (bad (Or.inr hk)).1, fun X hX => ⟨X, (bad (Or.inr hk)).2 X, hX, rfl, zOut.rf⟩⟩
  · obtain ⟨M8, k1, k2, k3⟩ := c_mirror hW hc1 ha
    refine Or.inr ⟨_, _, _, _, M8, zmir_lt hc1 a, k1, zCl_m hc1 ha, k2, k3, (o_X7_turnRound k1).mono (by simp) (by simp), fun X hX => ?_⟩
    obtain ⟨X', y1, y2, y3⟩ := r_mirror hX hc1 ha
    exact ⟨X', y1, y2, y3, o_X9_mirrorsAll y1⟩
/-! sheet -/
theorem zby_w : ∀ e, e < 7 → (nI (2 ^ e - 1)).toBitVec.toNat = 2 ^ e - 1 := by decide +kernel
theorem zsh_int (x : Int32) {e : Nat} (he : e < 7) : x &&& nI (2 ^ e - 1) = nI (x.toBitVec.toNat % 2 ^ e) := pk_and x e (zby_w e he)
theorem zsh_byte (x : Int32) {e : Nat} (he : e < 7) : (Int8.toInt32 (Int32.toInt8 x)) &&& nI (2 ^ e - 1) = nI (x.toBitVec.toNat % 2 ^ e) := by
  rw [zsh_int _ he]
  congr 1
  rw [Int8.toBitVec_toInt32, Int32.toBitVec_toInt8]
  apply Nat.eq_of_testBit_eq
  intro i
  rw [Nat.testBit_mod_two_pow, Nat.testBit_mod_two_pow]
  by_cases hi : i < e
  · have h1 : ((x.toBitVec.signExtend 8).signExtend 32).getLsbD i = x.toBitVec.getLsbD i := by
      simp only [BitVec.getLsbD_signExtend, show i < 32 by omega, show i < 8 by omega, decide_true, Bool.true_and, if_true]
    simp only [hi, decide_true, Bool.true_and]
    exact h1
  · simp [hi]
theorem zsh_short (x : Int32) {e : Nat} (he : e < 7) : (Int16.toInt32 (Int32.toInt16 x)) &&& nI (2 ^ e - 1) = nI (x.toBitVec.toNat % 2 ^ e) := by
  rw [zsh_int _ he]
  congr 1
  rw [Int16.toBitVec_toInt32, Int32.toBitVec_toInt16]
  apply Nat.eq_of_testBit_eq
  intro i
  rw [Nat.testBit_mod_two_pow, Nat.testBit_mod_two_pow]
  by_cases hi : i < e
  · have h1 : ((x.toBitVec.signExtend 16).signExtend 32).getLsbD i = x.toBitVec.getLsbD i := by
      simp only [BitVec.getLsbD_signExtend, show i < 32 by omega, show i < 16 by omega, decide_true, Bool.true_and, if_true]
    simp only [hi, decide_true, Bool.true_and]
    exact h1
  · simp [hi]
def zsv (f step : Int32) (j : Nat) : Int32 := f + nI j * step
def zsW (p e m : Nat) (f step : Int32) : Nat → Nat := fun j => if j < p ∧ j < m then (zsv f step j).toBitVec.toNat % 2 ^ e else 0
theorem zsW_in {p e m : Nat} {f step : Int32} {j : Nat} (h1 : j < p) (h2 : j < m) : zsW p e m f step j = (zsv f step j).toBitVec.toNat % 2 ^ e := by
  unfold zsW
  rw [if_pos ⟨h1, h2⟩]
theorem zsW_out {p e m : Nat} {f step : Int32} {j : Nat} (h : ¬ (j < p ∧ j < m)) : zsW p e m f step j = 0 := by
  unfold zsW
  rw [if_neg h]
theorem zsv_succ (f step : Int32) (j : Nat) : zsv f step j + step = zsv f step (j + 1) := by
  unfold zsv
  rw [nI_succ, Int32.succ_mul, Int32.add_assoc]
theorem zCl_s {p e : Nat} {w : Nat → Nat} (hc : zCl p e w) (m : Nat) (f step : Int32) : zCl p e (zsW p e m f step) := by
  obtain ⟨c1, c2, c3, c4, c5, c6⟩ := id hc
  refine ⟨c1, c2, c3, c4, fun j hj => ?_, fun j hj => ?_⟩
  · unfold zsW
    split
    · exact Nat.mod_lt _ (Nat.two_pow_pos e)
    · exact Nat.two_pow_pos e
  · unfold zsW
    rw [if_neg (by omega)]
section SH
variable {p e : Nat} {w : Nat → Nat}
theorem c_fill {M : zM} {k : Nat} (h : zWc M k p e w) (hc : zCl p e w) {m : Nat} (hm : m ≤ 6) (f step : Int32) : ∃ M', f7_fillPicks k (nI m) f step M = some (nI (zsum (zsW p e m f step) p), M') ∧ zWc M' k p e (zsW p e m f step) ∧ M'.1 k = M.1 k := by
  have hc' := zCl_s hc m f step
  obtain ⟨c1, c2, c3, c4, c5, c6⟩ := id hc
  obtain ⟨w0, w1, w2, w3⟩ := id h
  rw [f7_fillPicks]
  refine zloopP (F := fun g j x => f7_fillPicks_6 k g (nI m) f step (nI (zsum (zsW p e m f step) j)) (nI j) x) (I := fun j x => x.1 k = M.1 k ∧ ∀ t, t < 6 → x.1 (k + 1) t = nI (if t < j then zsW p e m f step t else w t)) (P := fun o => ∃ M', o = some (nI (zsum (zsW p e m f step) p), M') ∧ zWc M' k p e (zsW p e m f step) ∧ M'.1 k = M.1 k) p (by omega) (k0 := 0) (by omega) (fun g j x _ hj hx => Or.inl ?_) (fun g x hx => ?_) ⟨rfl, fun t ht => by simp [w2 t ht]⟩
  · obtain ⟨x1, x2⟩ := hx
    refine ⟨zsi x (k + 1) j (nI (zsW p e m f step j)), ?_, ?_, fun t ht => ?_⟩
    · show f7_fillPicks_6 k (g + 1) _ _ _ _ (nI j) x = _
      have e0 : x.1 k 0 = nI p := by rw [x1, w0]
      have e1 : x.1 k 1 = nI e := by rw [x1, w1]
      have key : ∀ s1 : Int32, s1 = nI (zsW p e m f step j) → f7_fillPicks_43 k (f7_fillPicks_6 k g) (nI m) f step (nI (zsum (zsW p e m f step) j)) (nI j) (nI j) s1 x = f7_fillPicks_6 k g (nI m) f step (nI (zsum (zsW p e m f step) (j + 1))) (nI (j + 1)) (zsi x (k + 1) j (nI (zsW p e m f step j))) := by
        rintro s1 rfl
        rw [f7_fillPicks_43]
        simp (disch := omega) only [zl0, zl1, zl2, zl3, zl4, zl5, zl6, zl7, zl8, zl9, zl10, zl11, zl12, nI_add, nI_sub, nI_mul, zaI_n, zaJ_n, zpI_n, zpJ_n, Option.bind_some, nI_le, nI_ge, nI_lt, nI_nlt, nI_ne, ↓reduceIte, if_true, if_false]
        rw [zsi1, if_pos ⟨rfl, rfl⟩, nI_add]
        rfl
      rw [f7_fillPicks_6, e0, if_neg (nI_ge hj (by omega))]
      by_cases hjm : m ≤ j
      · rw [if_pos (nI_le hjm (by omega))]
        refine key 0 ?_
        unfold zsW
        rw [if_neg (by omega)]
        rfl
      · rw [if_neg (nI_ge (by omega) (by omega))]
        have q : f7_fullOf k 0 x = some (nI (2 ^ e - 1)) := by
          have hz := zfull_lt c4
          rw [f7_fullOf, if_pos rfl, e1, zl1, nI_shl (by omega) (by omega), Nat.one_mul, nI_sub hz.2]
        rw [q, Option.bind_some]
        refine key _ ?_
        unfold zsW
        rw [if_pos ⟨hj, by omega⟩]
        exact zsh_int _ (by omega)
    · funext t
      simp [zsi1, x1]
    · rw [zsi1]
      by_cases htj : t = j
      · subst htj
        rw [if_pos ⟨rfl, rfl⟩, if_pos (by omega)]
      · rw [if_neg (by omega), x2 t ht]
        congr 1
        by_cases g : t < j
        · rw [if_pos g, if_pos (by omega)]
        · rw [if_neg g, if_neg (by omega)]
  · obtain ⟨x1, x2⟩ := hx
    obtain ⟨M', y1, y2, y3⟩ := c_settle (M := x) (k := k) (p := p) (e := e) (w := zsW p e m f step) (by rw [x1, w0]) (by rw [x1, w1]) (fun t ht => by
      rw [x2 t ht]
      congr 1
      by_cases g : t < p
      · rw [if_pos g]
      · rw [if_neg g, c6 t (by omega)]
        unfold zsW
        rw [if_neg (by omega)]) hc'
    refine ⟨M', ?_, y2, by rw [y3, x1]⟩
    show f7_fillPicks_6 k (g + 1) _ _ _ _ (nI p) x = _
    rw [f7_fillPicks_6, x1, w0, if_pos (nI_le (Nat.le_refl _) (by omega)), y1]
    rfl
theorem r_fill {M : zM} (h : zRr M 41 p e w) (hc : zCl p e w) {kd v2 : Int32} {m : Nat} (hm : m ≤ 6) (hk3 : (kd = 3 ∧ m = 0) ∨ (¬ kd = 3 ∧ v2 = nI m)) (f step : Int32) : ∃ M', f9_sheet_46 zfuel kd v2 step 0 f 0 M = some ((if kd = 3 then -3 else nI (zsum (zsW p e m f step) p)), M') ∧ zRr M' 41 p e (zsW p e m f step) ∧ M'.1 41 8 = M.1 41 8 := by
  obtain ⟨c1, c2, c3, c4, c5, c6⟩ := id hc
  have e00 : zsv f step 0 = f := by
    unfold zsv
    rw [show nI 0 = 0 from rfl, Int32.zero_mul, Int32.add_zero]
  rw [show f9_sheet_46 zfuel kd v2 step 0 f 0 M = f9_sheet_46 zfuel kd v2 step (nI (zsum (zsW p e m f step) 0)) (zsv f step 0) (nI 0) M by rw [e00]; rfl]
  refine zloopP (F := fun g j x => f9_sheet_46 g kd v2 step (nI (zsum (zsW p e m f step) j)) (zsv f step j) (nI j) x) (I := fun j x => x.1 41 6 = nI p ∧ x.1 41 7 = nI e ∧ x.1 41 8 = M.1 41 8 ∧ ∀ t, t < j → x.1 41 t = nI (zsW p e m f step t)) (P := fun o => ∃ M', o = some ((if kd = 3 then -3 else nI (zsum (zsW p e m f step) p)), M') ∧ zRr M' 41 p e (zsW p e m f step) ∧ M'.1 41 8 = M.1 41 8) p (by omega) (k0 := 0) (by omega) (fun g j x _ hj hx => Or.inl ?_) (fun g x hx => ?_) ⟨h.1, h.2.1, rfl, fun t ht => by omega⟩
  · obtain ⟨x1, x2, x3, x4⟩ := hx
    refine ⟨zsi x 41 j (nI (zsW p e m f step j)), ?_, ?_, ?_, ?_, fun t ht => ?_⟩
    · show f9_sheet_46 (g + 1) _ _ _ _ _ (nI j) x = _
      have key : ∀ s1 : Int32, s1 = nI (zsW p e m f step j) → f9_sheet_117 (f9_sheet_46 g) kd v2 step (nI (zsum (zsW p e m f step) j)) (zsv f step j) (nI j) (nI j) s1 x = f9_sheet_46 g kd v2 step (nI (zsum (zsW p e m f step) (j + 1))) (zsv f step (j + 1)) (nI (j + 1)) (zsi x 41 j (nI (zsW p e m f step j))) := by
        rintro s1 rfl
        rw [f9_sheet_117]
        simp (disch := omega) only [zl0, zl1, zl2, zl3, zl4, zl5, zl6, zl7, zl8, zl9, zl10, zl11, zl12, nI_add, nI_sub, nI_mul, zaI_n, zaJ_n, zpI_n, zpJ_n, Option.bind_some, nI_le, nI_ge, nI_lt, nI_nlt, nI_ne, ↓reduceIte, if_true, if_false, zsv_succ]
        rw [zsi1, if_pos ⟨rfl, rfl⟩, nI_add]
        rfl
      rw [f9_sheet_46, x1, if_neg (nI_ge hj (by omega))]
      rcases hk3 with ⟨rfl, rfl⟩ | ⟨hk3, rfl⟩
      · rw [if_pos rfl]
        exact key 0 (by rw [zsW_out (by omega)]; rfl)
      · rw [if_neg hk3]
        by_cases hjm : j < m
        · rw [if_pos (nI_lt hjm (by omega)), x2, r_full c4, Option.bind_some]
          refine key _ ?_
          rw [zsW_in hj hjm]
          by_cases k0 : kd = 0
          · rw [if_pos k0]
            exact zsh_byte _ (by omega)
          · rw [if_neg k0]
            by_cases k1 : kd = 1
            · rw [if_pos k1]
              exact zsh_short _ (by omega)
            · rw [if_neg k1]
              exact zsh_int _ (by omega)
        · rw [if_neg (nI_nlt (by omega) (by omega))]
          exact key 0 (by rw [zsW_out (by omega)]; rfl)
    · rw [zsi1, if_neg (by omega), x1]
    · rw [zsi1, if_neg (by omega), x2]
    · rw [zsi1, if_neg (by omega), x3]
    · rw [zsi1]
      by_cases htj : t = j
      · subst htj
        rw [if_pos ⟨rfl, rfl⟩]
      · rw [if_neg (by omega)]
        exact x4 t (by omega)
  · obtain ⟨x1, x2, x3, x4⟩ := hx
    refine ⟨x, ?_, ⟨x1, x2, x4⟩, x3⟩
    show f9_sheet_46 (g + 1) _ _ _ _ _ (nI p) x = _
    rw [f9_sheet_46, x1, if_pos (nI_le (Nat.le_refl _) (by omega))]
end SH
theorem zP_sheet_ok : zP_sheet zInv := by
  intro c M v1 v2 v3 v4 hc h
  obtain ⟨p, e, w, hA⟩ := h.1
  obtain ⟨hc1, hW, hR, hN⟩ := id hA
  have fin0 : zInv (c + 1) (zsi M 39 0 0) := zInv_to h (S := []) (s := [0]) (zOut.rf.si 39 0 0 (Or.inr ⟨rfl, by simp⟩)) (Or.inl rfl) (Or.inl rfl) (Or.inl rfl) (Or.inl rfl) (Or.inl rfl) (Or.inl rfl) (Or.inl rfl) (Or.inl rfl)
  have hz6 : (6 : Int32) = nI 6 := rfl
  rcases pk_ix v1 (n := 4) (by omega) with hk | hk | ⟨a, ha, rfl⟩
  · have h8 : f8_sheet v1 v2 v3 v4 M = some (-1, M) := by rw [f8_sheet, if_pos hk]
    have h9 : f9_sheet v1 v2 v3 v4 M = some (-1, zsi M 39 0 0) := by
      have q : f9_in v1.toInt64 0 3 = some 0 := in_neg (n := 3) (by omega) hk
      rw [f9_sheet, q]
      rfl
    exact ⟨_, _, _, h8, h9, fin0⟩
  · have g := zix_big (by omega) hk
    have h8 : f8_sheet v1 v2 v3 v4 M = some (-1, M) := by
      rw [f8_sheet, if_neg g.1, if_pos (show (3 : Int32) < v1 from (g.2 3 (by omega)).2.1)]
    have h9 : f9_sheet v1 v2 v3 v4 M = some (-1, zsi M 39 0 0) := by
      have q : f9_in v1.toInt64 0 3 = some 0 := in_big (n := 3) (by omega) hk
      rw [f9_sheet, q]
      rfl
    exact ⟨_, _, _, h8, h9, fin0⟩
  have q : f9_in (nI a).toInt64 0 3 = some 1 := in_ok (n := 3) (by omega) (by omega)
  have go : ∀ m, m ≤ 6 → (a = 3 ∧ m = 0 ∨ a < 3 ∧ v2 = nI m) → v2 ≤ 6 → (a = 3 ∨ 0 ≤ v2) → ∃ (r : Int32) (M1 M2 : zM), f8_sheet (nI a) v2 v3 v4 M = some (r, M1) ∧ f9_sheet (nI a) v2 v3 v4 M1 = some (r, M2) ∧ zInv (c + 1) M2 := by
    intro m hm hmm h6 h0
    obtain ⟨M1, k1, k2, k3⟩ := c_fill hW hc1 hm v3 v4
    have o1 := o_X7_fillPicks k1
    have ea : (if nI a = 3 then (0 : Int32) else v2) = nI m := by
      rcases hmm with ⟨rfl, rfl⟩ | ⟨h3, rfl⟩
      · rfl
      · rw [if_neg (show ¬ nI a = 3 from nI_ne (b := 3) (by omega) (by omega) (by omega))]
    have h8 : f8_sheet (nI a) v2 v3 v4 M = some ((if nI a = 3 then -3 else nI (zsum (zsW p e m v3 v4) p)), M1) := by
      have q2 : f8_sheet_29 (nI a) v2 v3 v4 M = some ((if nI a = 3 then -3 else nI (zsum (zsW p e m v3 v4) p)), M1) := by
        rw [f8_sheet_29, ea, k1]
        rfl
      rw [f8_sheet, if_neg (nI_pos (by omega)), if_neg (show ¬ (3 : Int32) < nI a from nI_nlt (a := 3) (b := a) (by omega) (by omega)), if_pos h6]
      by_cases h3 : (3 : Int32) ≤ nI a
      · rw [if_pos h3, q2]
      · rw [if_neg h3]
        rcases h0 with h0 | h0
        · subst h0
          exact absurd (show (3 : Int32) ≤ nI 3 by decide) h3
        · rw [if_pos h0, q2]
    have m41 : M1.1 41 = M.1 41 := (o1.1 41 (by simp) (by simp)).1
    have hR1 : zRr (zsi M1 39 0 0) 41 p e w := zRr_si (by simp only [zRr, m41]; exact hR) (by omega)
    obtain ⟨M2, y1, y2, y3⟩ := r_fill hR1 hc1 (kd := nI a) (v2 := v2) hm (by
      rcases hmm with ⟨rfl, rfl⟩ | ⟨h3, rfl⟩
      · exact Or.inl ⟨rfl, rfl⟩
      · exact Or.inr ⟨nI_ne (b := 3) (by omega) (by omega) (by omega), rfl⟩) v3 v4
    have h9 : f9_sheet (nI a) v2 v3 v4 M1 = some ((if nI a = 3 then -3 else nI (zsum (zsW p e m v3 v4) p)), M2) := by
      have q2 : f9_sheet_37 (nI a) v2 v3 v4 (zsi M1 39 0 0) = some ((if nI a = 3 then -3 else nI (zsum (zsW p e m v3 v4) p)), M2) := by
        rw [f9_sheet_37, y1]
      rw [f9_sheet, q, Option.bind_some, if_neg (by decide), if_pos h6]
      by_cases h3 : nI a = 3
      · rw [if_pos h3, q2]
      · rw [if_neg h3]
        rcases h0 with h0 | h0
        · subst h0
          exact absurd rfl h3
        · rw [if_pos h0, q2]
    have o2 := o_X9_sheet h9
    have r1 := (o2.1 1 (by simp) (by simp)).1
    have r2 := (o2.1 2 (by simp) (by simp)).1
    refine ⟨_, _, _, h8, h9, zInv_to h ((o_X8_sheet h8).trans o2) (Or.inr ⟨p, e, _, zCl_s hc1 m v3 v4, ?_, y2, ?_⟩) (Or.inl rfl) (Or.inl rfl) (Or.inl rfl) (Or.inl rfl) (Or.inl rfl) (Or.inl rfl) (Or.inl rfl)⟩
    · simp only [zWc, r1, r2]
      exact k2
    · rw [y3, r1, k3, ← hN]
      simp [zsi1, m41]
  rcases pk_ix v2 (n := 7) (by omega) with hv | hv | ⟨m, hm, rfl⟩
  · have h6 : v2 ≤ 6 := (zix_neg hv 6 (by omega)).1
    by_cases h3 : a = 3
    · exact go 0 (by omega) (Or.inl ⟨h3, rfl⟩) h6 (Or.inl h3)
    · have n0 : ¬ 0 ≤ v2 := fun q => Int32.not_lt.mpr q hv
      have h8 : f8_sheet (nI a) v2 v3 v4 M = some (-2, M) := by
        rw [f8_sheet, if_neg (nI_pos (by omega)), if_neg (show ¬ (3 : Int32) < nI a from nI_nlt (a := 3) (b := a) (by omega) (by omega)), if_pos h6, if_neg (show ¬ (3 : Int32) ≤ nI a from nI_ge (a := a) (b := 3) (by omega) (by omega)), if_neg n0]
      have h9 : f9_sheet (nI a) v2 v3 v4 M = some (-2, zsi M 39 0 0) := by
        rw [f9_sheet, q, Option.bind_some, if_neg (by decide), if_pos h6, if_neg (show ¬ nI a = 3 from nI_ne (b := 3) h3 (by omega) (by omega)), if_neg n0]
      exact ⟨_, _, _, h8, h9, fin0⟩
  · have n6 : ¬ v2 ≤ 6 := ((zix_big (by omega) hv).2 6 (by omega)).1
    have h8 : f8_sheet (nI a) v2 v3 v4 M = some (-1, M) := by
      rw [f8_sheet, if_neg (nI_pos (by omega)), if_neg (show ¬ (3 : Int32) < nI a from nI_nlt (a := 3) (b := a) (by omega) (by omega)), if_neg n6]
    have h9 : f9_sheet (nI a) v2 v3 v4 M = some (-1, zsi M 39 0 0) := by
      rw [f9_sheet, q, Option.bind_some, if_neg (by decide), if_neg n6]
    exact ⟨_, _, _, h8, h9, fin0⟩
  · by_cases h3 : a = 3
    · exact go 0 (by omega) (Or.inl ⟨h3, rfl⟩) (nI_le (b := 6) (by omega) (by omega)) (Or.inl h3)
    · exact go m (by omega) (Or.inr ⟨by omega, rfl⟩) (nI_le (b := 6) (by omega) (by omega)) (Or.inr (nI_pos' (by omega)))
