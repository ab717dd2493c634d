/-! rule -/
section RU
variable {M X : zM} {n : Nat} {t : Nat → Nat}
theorem r_laysC {a1 : Nat} (ha : a1 ≠ 45) (ha2 : a1 ≠ 39) {k : Nat} (hk : k ≤ 80) (X : zM) : ∃ Y, f9_laysCode a1 (nI k) X = some Y ∧ Y.1 39 14 = nI k ∧ (∀ i, i < k → Y.1 45 i = X.1 a1 i) := by
  rw [f9_laysCode]
  refine zloopP (F := fun f i x => f9_laysCode_7 a1 f (nI k) (nI i) x) (I := fun i x => x.1 39 14 = nI k ∧ (∀ j, x.1 a1 j = X.1 a1 j) ∧ ∀ j, j < i → x.1 45 j = X.1 a1 j) (P := fun o => ∃ Y, o = some Y ∧ Y.1 39 14 = nI k ∧ (∀ i, i < k → Y.1 45 i = X.1 a1 i)) k (by omega) (Nat.zero_le _) (fun f i x _ hi hx => Or.inl ?_) (fun f x hx => ?_) ⟨by rw [zsi1, if_pos ⟨rfl, rfl⟩], fun j => by rw [zsi_ne ha2], fun j hj => absurd hj (by omega)⟩
  · obtain ⟨x1, x2, x3⟩ := hx
    refine ⟨zsi x 45 i (x.1 a1 i), ?_, by rw [zsi_ne (by omega)]; exact x1, fun j => by rw [zsi_ne ha]; exact x2 j, fun j hj => ?_⟩
    · show f9_laysCode_7 a1 (f + 1) (nI k) (nI i) x = _
      rw [f9_laysCode_7, if_neg (nI_ge hi (by omega)), zaI_n (by omega) (by omega), Option.bind_some, zpI_n (by omega) (by omega), Option.bind_some, nI_1]
    · rw [zsi1]
      by_cases q : j = i
      · rw [if_pos ⟨rfl, q⟩, q]
        exact x2 i
      · rw [if_neg (fun z => q z.2)]
        exact x3 j (by omega)
  · obtain ⟨x1, x2, x3⟩ := hx
    refine ⟨x, ?_, x1, x3⟩
    show f9_laysCode_7 a1 (f + 1) (nI k) (nI k) x = _
    rw [f9_laysCode_7, if_pos (nI_le (Nat.le_refl _) (by omega))]
theorem zcpI_to {M : zM} {src dst n : Nat} {i : Nat} (hi : i < n) : (zcpI M src dst n).1 dst i = M.1 src i := by
  simp only [zcpI, if_true]
  rw [pk_cpy_in (by omega) (by omega), show 0 + (i - 0) = i by omega]
theorem ru_class0 (hM : zTx M 0 t) : ∃ M1, f4_readFrom 16 M = some (-1, M1) ∧ zCc M1 16 [1099, 1105, 1045] := by
  have e7 : (zsi (zsi (zsi (zsi (zsi M 16 1 0) 16 3 0) 16 5 0) 19 0 (vp_nar .boolean 0)) 16 7 1).1 7 1 = 0 := by
    rw [zsi_ne (by omega), zsi_ne (by omega), zsi_ne (by omega), zsi_ne (by omega), zsi_ne (by omega)]
    exact hM.2.1
  refine ⟨zpp 16 (zsi (zsi (zsi (zsi (zsi M 16 1 0) 16 3 0) 16 5 0) 19 0 (vp_nar .boolean 0)) 16 7 1), ?_, by decide, ?_, ?_, rfl⟩
  · rw [f4_readFrom, show (0 : Int32) = nI 0 from rfl, zpZ_n (by omega) (by omega), Option.bind_some]
    show (if (zsi (zsi (zsi (zsi (zsi M 16 1 0) 16 3 0) 16 5 0) 19 0 (vp_nar .boolean 0)) 16 7 1).1 7 1 = 0 then _ else _) = _
    rw [if_pos e7, pp_ok 16 _ (by simp [zsi1]; rfl)]
    rfl
  · simp [zpp, zsi1]
    rfl
  · intro i c hi
    match i, hi with
    | 0, hi =>
      have : 1099 = c := by simpa using hi
      rw [← this]
      simp [zpp, zsi1]
      rfl
    | 1, hi =>
      have : 1105 = c := by simpa using hi
      rw [← this]
      simp [zpp, zsi1]
      rfl
    | 2, hi =>
      have : 1045 = c := by simpa using hi
      rw [← this]
      simp [zpp, zsi1]
      rfl
    | i + 3, hi => simp at hi
theorem ru_start (hM : zTx M n t) (hn : n ≠ 0) : ∃ x, f4_readFrom 16 M = f4_readFrom_52 16 zfuel (nI (min n 40)) (nI 0) x ∧ zTx x n t ∧ zcM x ([], [], 0, [false], true) 0 := by
  have e7 : (zsi (zsi (zsi (zsi (zsi M 16 1 0) 16 3 0) 16 5 0) 19 0 (vp_nar .boolean 0)) 16 7 1).1 7 1 = nI n := by
    rw [zsi_ne (by omega), zsi_ne (by omega), zsi_ne (by omega), zsi_ne (by omega), zsi_ne (by omega)]
    exact hM.2.1
  have hn80 := hM.1
  refine ⟨zsi (zsi (zsi (zsi (zsi M 16 1 0) 16 3 0) 16 5 0) 19 0 (vp_nar .boolean 0)) 16 7 1, ?_, hM.to ?_ ?_, ⟨by decide, by decide, by decide, rfl, fun c hc => absurd hc (by simp), fun q => Bool.noConfusion (show true = false from q)⟩, ⟨?_, fun i c hi => by simp at hi⟩, ⟨?_, fun i c hi => by simp at hi⟩, ⟨?_, fun i c hi => ?_⟩, ?_, fun q => Bool.noConfusion (show true = false from q)⟩
  · rw [f4_readFrom, show (0 : Int32) = nI 0 from rfl, zpZ_n (by omega) (by omega), Option.bind_some]
    show (if (zsi (zsi (zsi (zsi (zsi M 16 1 0) 16 3 0) 16 5 0) 19 0 (vp_nar .boolean 0)) 16 7 1).1 7 1 = 0 then _ else f4_readFrom_52 16 zfuel (zmin ((zsi (zsi (zsi (zsi (zsi M 16 1 0) 16 3 0) 16 5 0) 19 0 (vp_nar .boolean 0)) 16 7 1).1 7 1) 40) _ _) = _
    rw [e7, if_neg (show ¬ nI n = 0 from nI_ne (b := 0) hn (by omega) (by omega)), show zmin (nI n) 40 = nI (min n 40) from zmin_n (b := 40) (by omega) (by omega)]
  · rw [zsi_ne (by omega), zsi_ne (by omega), zsi_ne (by omega), zsi_ne (by omega), zsi_ne (by omega)]
  · rw [zsi_ne (by omega), zsi_ne (by omega), zsi_ne (by omega), zsi_ne (by omega), zsi_ne (by omega)]
  · simp [zsi1] <;> try rfl
  · simp [zsi1] <;> try rfl
  · simp [zsi1] <;> try rfl
  · match i, hi with
    | 0, hi =>
      have : false = c := by simpa using hi
      rw [← this]
      simp [zsi1]
      rfl
    | i + 1, hi => simp at hi
  · simp [zsi1] <;> try rfl
theorem ru_pair (hM : zTx M n t) (hX : zTr X n t) : (∃ s M1 X1, s < 100 ∧ f4_readFrom 16 M = some (nI s, M1) ∧ f9_readsRule X = some (-1 - nI s, X1) ∧ X1.1 39 7 = nI 0) ∨ (∃ l M1 X1, f4_readFrom 16 M = some (-1, M1) ∧ f9_readsRule X = some (0, X1) ∧ X1.1 39 7 = nI 0 ∧ zCc M1 16 l ∧ ((X1.1 39 15 = nI l.length ∧ ∀ i c, l[i]? = some c → X1.1 46 i = nI (zcr c)) ∨ (X1.1 39 15 = nI 0 ∧ l = [1099, 1105, 1045]))) := by
  have hn := hM.1
  have hz : zfuel = 5000 := rfl
  obtain ⟨X0, b1, b2, b3⟩ := r_begins hX (m := 40) (by omega)
  have hX1 : zrX (zsi X0 39 15 (nI 0)) (min n 40) 0 t 0 [] := ⟨b2.to (by rw [zsi1, if_neg (by omega)]) (by rw [zsi1, if_neg (by omega)]) (zsi_ne (by omega)) (by rw [zsi1, if_neg (by omega)]), by rw [zsi1, if_neg (by omega)]; exact b3, by rw [zsi1, if_pos ⟨rfl, rfl⟩]; rfl, fun i c hi => by simp at hi⟩
  by_cases n0 : n = 0
  · subst n0
    obtain ⟨M1, m1, m2⟩ := ru_class0 hM
    refine Or.inr ⟨[1099, 1105, 1045], M1, zsi X0 39 15 (nI 0), m1, ?_, hX1.1.2.2.2.2.2, m2, Or.inr ⟨by rw [zsi1, if_pos ⟨rfl, rfl⟩], rfl⟩⟩
    have hf := r_faultOf (X := zsi X0 39 15 (nI 0)) (n := 0) (q := 0) (m := 40) (by omega) (by omega) hX1.1 true
    rw [if_pos ⟨rfl, rfl⟩, if_pos (by omega)] at hf
    rw [f9_readsRule, show (40 : Int32) = nI 40 from rfl, b1, Option.bind_some, if_pos (show nI 0 = 0 from rfl), f9_readsRule_29, show (40 : Int32) = nI 40 from rfl, show (1 : Int32) = nI (zi true) from rfl, show (0 : Int32) = nI 0 from rfl, hf, Option.bind_some]
  · obtain ⟨x, x1, x2, x3⟩ := ru_start hM n0
    rw [x1]
    obtain ⟨p, p1, p2⟩ := (r_reads (L := min n 40) (t := t) (by omega) 200).2 0 (zsi X0 39 15 (nI 0)) 0 [] [] 0 [false] [] (by omega) (fun c W' z => by cases z) (fun _ => rfl) hX1 (by decide) (by decide) (by decide) (by show min n 40 - 0 + 5 * (5 - 1) + 1 + (4 - 0) ≤ 200; omega)
    have er : f9_readsRule X = (f9_faultOf (nI n) (nI 40) (if p.1 = 0 then 0 else 1) p.2).bind fun x1 => some (x1, p.2) := by
      rw [f9_readsRule, show (40 : Int32) = nI 40 from rfl, b1, Option.bind_some, if_neg (show ¬ nI n = 0 from nI_ne (b := 0) n0 (by omega) (by omega))]
      show (f9_reads 200 1 (nI 0) (zsi X0 39 15 (nI 0))).bind _ = _
      rw [p1, Option.bind_some, f9_readsRule_29]
      rfl
    rw [er]
    rcases p2 with ⟨e0, a', o', P, dg', C', e, k1, k2, k3, k4, k5, k6, k7, k8, k9, k10, k11⟩ | ⟨e0, q, st', k, k1, k2, k3, k4, k5, k6⟩
    · obtain ⟨y, y1, y2, y3⟩ := c_runs (n := n) (t := t) (L := min n 40) (by omega) (by omega) (a' - 0) 0 _ _ x zfuel k1.2 (by omega) (by omega) x2 x3
      rw [show 0 + (a' - 0) = a' by omega] at y1 y3
      have ef := r_faultOf (m := 40) hn (by omega) k7.1 true
      rw [show nI (zi true) = 1 from rfl] at ef
      rw [y1, e0, if_neg (show ¬ (1 : Int32) = 0 by decide), ef, show zfuel - (a' - 0) = (4999 - a') + 1 by omega]
      by_cases z : a' < min n 40
      · obtain ⟨k11, k12⟩ := k11 z
        have hz := zJ_none (o := o') (W := P ++ []) k11 (Or.inr (show C'.length ≤ 1 by rw [k9]; decide)) k12
        rcases c_step y2 y3 (by omega) z (by omega) (4999 - a') with ⟨st', w, w1, w2⟩ | ⟨w1, w, w2⟩
        · rw [hz] at w1
          cases w1
        · refine Or.inl ⟨a', w, p.2, by omega, w2, ?_, k7.1.2.2.2.2.2⟩
          rw [if_neg (fun q => by omega), if_neg (by omega), Option.bind_some]
      · have ha : a' = min n 40 := by omega
        have ce := c_end (f := 4999 - a') y2 rfl (ha ▸ y3)
        rw [show nI a' = nI (min n 40) from congrArg nI ha, ce, if_pos (show true = true ∧ a' = min n 40 from ⟨rfl, ha⟩)]
        by_cases z2 : 40 < n
        · rw [if_pos z2, if_neg (show ¬ n ≤ 40 by omega)]
          exact Or.inl ⟨40, y, p.2, by omega, rfl, rfl, k7.1.2.2.2.2.2⟩
        · rw [if_neg z2, if_pos (show n ≤ 40 by omega)]
          have ec : C'.length = 1 := k9
          rw [if_neg (show ¬ (((o', P ++ [], dg', C', false) : zL5).2.2.2.2 = true ∨ 1 < ((o', P ++ [], dg', C', false) : zL5).2.2.2.1.length) from fun q => by
            rcases q with q | q
            · exact Bool.noConfusion (show false = true from q)
            · exact absurd (show 1 < C'.length from q) (by omega))]
          obtain ⟨⟨w1, w2, w3, w4, w5, w6⟩, hO, hW, hC, h7, h6⟩ := y3
          obtain ⟨u, u1, u2, u3, u4, u5⟩ := c_release (b := 1) (by omega) (P ++ []) o' zfuel y (by have : o'.length + (P ++ []).length ≤ a' := w1; omega) hO hW (by have : o'.length + (P ++ []).length ≤ a' := w1; omega) (fun c hc => (w5 c hc).1)
          rw [zrel_all P o' [] k4, k3] at u2
          have u2' : zmO u e := u2
          have el : e.length ≤ 40 := by omega
          refine Or.inr ⟨e, u, p.2, by rw [f4_release, show (1 : Int32) = nI 1 from rfl, u1]; rfl, rfl, k7.1.2.2.2.2.2, ⟨el, u2'.1, u2'.2, k5 0⟩, Or.inl ⟨k7.2.2.1, k7.2.2.2⟩⟩
    · obtain ⟨y, y1, y2, y3⟩ := c_runs (n := n) (t := t) (L := min n 40) (by omega) (by omega) (q - 0) 0 _ _ x zfuel k1.2 (by omega) (by omega) x2 x3
      rw [show 0 + (q - 0) = q by omega] at y1 y3
      have ef := r_faultOf (m := 40) hn (by omega) k3 false
      rw [show nI (zi false) = 0 from rfl] at ef
      rw [y1, e0, if_pos (show (0 : Int32) = 0 from rfl), ef, if_neg (fun z => Bool.noConfusion z.1), show zfuel - (q - 0) = (4999 - q) + 1 by omega]
      rcases k6 with ⟨z, z2⟩ | ⟨z, z2⟩
      · rcases c_step y2 y3 (by omega) z (by omega) (4999 - q) with ⟨st2, w, w1, w2⟩ | ⟨w1, w, w2⟩
        · rw [z2] at w1
          cases w1
        · refine Or.inl ⟨q, w, p.2, by omega, w2, ?_, k3.2.2.2.2.2⟩
          rw [if_neg (by omega), Option.bind_some]
      · have ce := c_end (f := 4999 - q) y2 rfl (z ▸ y3)
        rw [show nI q = nI (min n 40) from congrArg nI z, ce]
        by_cases z3 : 40 < n
        · rw [if_pos z3, if_pos (show 40 < n ∧ 40 ≤ q by omega)]
          exact Or.inl ⟨40, y, p.2, by omega, rfl, rfl, k3.2.2.2.2.2⟩
        · rw [if_neg z3, if_pos z2, if_neg (show ¬ (40 < n ∧ 40 ≤ q) by omega)]
          exact Or.inl ⟨n, y, p.2, by omega, rfl, by rw [show min n 40 = n by omega]; rfl, k3.2.2.2.2.2⟩
end RU
