/-! a rule worked out: class and reference -/
theorem bind_lf {c : Nat} (h : zlf c) : f4_bindingOf (nI c) = some 0 := by
  unfold zlf at h
  rcases h with h | rfl | rfl | rfl | rfl | rfl | rfl | rfl | rfl
  · rw [f4_bindingOf, if_neg (show ¬ nI c = 1042 from nI_ne (b := 1042) (by omega) (by omega) (by omega)), if_neg (show ¬ nI c = 1043 from nI_ne (b := 1043) (by omega) (by omega) (by omega)), if_neg (show ¬ nI c = 1045 from nI_ne (b := 1045) (by omega) (by omega) (by omega)), if_neg (show ¬ nI c = 1047 from nI_ne (b := 1047) (by omega) (by omega) (by omega)), if_neg (show ¬ nI c = 1060 from nI_ne (b := 1060) (by omega) (by omega) (by omega)), if_neg (show ¬ nI c = 1061 from nI_ne (b := 1061) (by omega) (by omega) (by omega)), if_neg (show ¬ nI c = 1062 from nI_ne (b := 1062) (by omega) (by omega) (by omega)), if_neg (show ¬ nI c = 1256 from nI_ne (b := 1256) (by omega) (by omega) (by omega))]
  all_goals rfl
theorem bind_op {c : Nat} (h : zop c) : ∃ b, b < 5 ∧ 0 < b ∧ f4_bindingOf (nI c) = some (nI b) := by
  unfold zop at h
  rcases h with rfl | rfl | rfl | rfl | rfl | rfl | rfl
  · exact ⟨1, by omega, by omega, rfl⟩
  · exact ⟨1, by omega, by omega, rfl⟩
  · exact ⟨1, by omega, by omega, rfl⟩
  · exact ⟨2, by omega, by omega, rfl⟩
  · exact ⟨2, by omega, by omega, rfl⟩
  · exact ⟨3, by omega, by omega, rfl⟩
  · exact ⟨3, by omega, by omega, rfl⟩
theorem zlt01 (a b : Int32) : (if b ≤ a then (0 : Int32) else 1) = if a < b then 1 else 0 := by
  by_cases h : a < b
  · rw [if_pos h, if_neg (fun q => Int32.not_lt.mpr q h)]
  · rw [if_neg h, if_pos (Int32.not_lt.mp h)]
theorem zdiv01 (a b : Int32) : (if b = 0 then some (0 : Int32) else (zdiv a b).bind fun x1 => some x1) = some (if b = 0 then 0 else a / b) := by
  by_cases h : b = 0
  · rw [if_pos h, if_pos h]
  · rw [if_neg h, if_neg h, zdiv, if_neg h]
    rfl
theorem joined_n {c : Nat} (h : zop c) (a b : Int32) : f4_joined (nI c - 1000) a b = some (zjn c a b) := by
  unfold zop at h
  rcases h with rfl | rfl | rfl | rfl | rfl | rfl | rfl
  · show some (if b ≤ a then (0 : Int32) else 1) = some (if a < b then 1 else 0)
    rw [zlt01]
  · show some (if a ≤ b then (0 : Int32) else 1) = some (if b < a then 1 else 0)
    rw [zlt01]
  · rfl
  · rfl
  · rfl
  · rfl
  · exact zdiv01 a b
theorem flag_if (c : Prop) [Decidable c] : f9_flag (if c then (1 : Int32) else 0) = some (if c then 1 else 0) := flag1
theorem worked_n {c : Nat} (h : zop c) (a b : Int32) : f9_worked (nI (zcr c) - 2000) a b = some (zjn c a b) := by
  unfold zop at h
  rcases h with rfl | rfl | rfl | rfl | rfl | rfl | rfl
  · show ((f9_flag (if b ≤ a then (0 : Int32) else 1)).bind fun x1 => some x1) = some (if a < b then 1 else 0)
    rw [zlt01, flag_if]
    rfl
  · show ((f9_flag (if a ≤ b then (0 : Int32) else 1)).bind fun x1 => some x1) = some (if b < a then 1 else 0)
    rw [zlt01, flag_if]
    rfl
  · show ((f9_flag (if a = b then (1 : Int32) else 0)).bind fun x1 => some x1) = some (if a = b then 1 else 0)
    rw [flag_if]
    rfl
  · rfl
  · rfl
  · rfl
  · exact zdiv01 a b
def zCc (M : zM) (a : Nat) (t : List Nat) : Prop := t.length ≤ 40 ∧ M.1 a 1 = nI t.length ∧ (∀ i c, t[i]? = some c → M.1 (a + 1) i = nI c) ∧ zcsl t 0 = some 1
def zCr (M : zM) (t : List Nat) : Prop := t.length ≤ 40 ∧ zcsl t 0 = some 1 ∧ ((M.1 39 14 = nI t.length ∧ ∀ i c, t[i]? = some c → M.1 45 i = nI (zcr c)) ∨ (M.1 39 14 = 0 ∧ t = [1099, 1105, 1045]))
section PU
variable {M : zM} {a k p e : Nat} {w : Nat → Nat} {t : List Nat}
theorem c_pull (ht : zCc M a t) (h : zWc M k p e w) (hc : zCl p e w) (hk1 : k < a) (hk2 : k + 1 < a) {kd i : Nat} (hk : kd < 2) (hi : i < zmany p e kd) : ∃ M', f4_pullOf a k (nI kd) (nI i) M = some (zpull p e w (M.1 k 2) t kd i, M') ∧ ∀ q, q ≠ a + 4 → M'.1 q = M.1 q := by
  obtain ⟨t1, t2, t3, t4⟩ := ht
  have hm := zmany_le hc kd
  rw [f4_pullOf]
  refine zloopP (F := fun f n x => f4_pullOf_6 a k f (nI kd) (nI i) (nI (zpk (ztr p e w (M.1 k 2) kd i) t n).1) (nI n) x) (I := fun n x => (∀ q, q ≠ a + 4 → x.1 q = M.1 q) ∧ ∀ j, j < (zpk (ztr p e w (M.1 k 2) kd i) t n).1 → x.1 (a + 4) j = (zpk (ztr p e w (M.1 k 2) kd i) t n).2 j) (P := fun o => ∃ M', o = some (zpull p e w (M.1 k 2) t kd i, M') ∧ ∀ q, q ≠ a + 4 → M'.1 q = M.1 q) t.length (by omega) (k0 := 0) (by omega) (fun f n x _ hn hx => Or.inl ?_) (fun f x hx => ?_) ⟨fun q hq => rfl, fun j hj => absurd hj (Nat.not_lt_zero _)⟩
  · obtain ⟨x1, x2⟩ := hx
    obtain ⟨c, hcc⟩ : ∃ c, t[n]? = some c := ⟨_, List.getElem?_eq_getElem hn⟩
    obtain ⟨s1, s2, s3⟩ := zpk_step (tr := ztr p e w (M.1 k 2) kd i) t4 hcc
    have hW : zWc x k p e w := by simp only [zWc, x1 k (by omega), x1 (k + 1) (by omega)]; exact h
    have e1 : x.1 a 1 = nI t.length := by rw [x1 a (by omega), t2]
    have e2 : x.1 (a + 1) n = nI c := by rw [x1 (a + 1) (by omega), t3 n c hcc]
    have nt : x.1 k 2 = M.1 k 2 := by rw [x1 k (by omega)]
    generalize hs : zpk (ztr p e w (M.1 k 2) kd i) t n = s at s1 s2 s3 x2
    obtain ⟨hh, g⟩ := s
    simp only at s2 s3 x2
    have open6 : ∀ (X : zM) (v4 : Int32), f4_pullOf_163 a k (f4_pullOf_6 a k f) (nI kd) (nI i) v4 (nI n) X = f4_pullOf_6 a k f (nI kd) (nI i) v4 (nI (n + 1)) X := by
      intro X v4
      rw [f4_pullOf_163, nI_1]
    rcases s2 with ⟨hl, -⟩ | ⟨ho, h2⟩ | ⟨rfl, h1⟩
    · have es : zst1 (ztr p e w (M.1 k 2) kd i) c (hh, g) = (hh + 1, upd g hh (ztr p e w (M.1 k 2) kd i c)) := by rw [zst1, if_pos hl]
      refine ⟨zsi x (a + 4) hh (ztr p e w (M.1 k 2) kd i c), ?_, fun q hq => ?_, fun j hj => ?_⟩
      · show f4_pullOf_6 a k (f + 1) _ _ _ (nI n) x = f4_pullOf_6 a k f _ _ (nI (zpk _ t (n + 1)).1) _ _
        rw [s1, es, f4_pullOf_6, e1, if_neg (nI_ge hn (by omega)), zaI_n (by omega) (by omega), e2, Option.bind_some, bind_lf hl, Option.bind_some, if_pos rfl, if_neg (show ¬ (40 : Int32) ≤ nI hh from nI_ge (b := 40) (by omega) (by omega))]
        have fin : ∀ v, v = ztr p e w (M.1 k 2) kd i c → f4_pullOf_77 a k (f4_pullOf_6 a k f) (nI kd) (nI i) (nI hh) (nI n) (nI hh) v x = f4_pullOf_6 a k f (nI kd) (nI i) (nI (hh + 1)) (nI (n + 1)) (zsi x (a + 4) hh (ztr p e w (M.1 k 2) kd i c)) := by
          rintro v rfl
          rw [f4_pullOf_77, zpI_n (by omega) (by omega), Option.bind_some, open6, nI_1]
        by_cases hc1 : c < 1000
        · rw [if_neg (show ¬ (1000 : Int32) ≤ nI c from nI_ge (b := 1000) hc1 (by omega))]
          exact fin _ (by rw [ztr, if_pos hc1])
        · have hc2 : c < 2000 := by unfold zlf at hl; omega
          rw [if_pos (show (1000 : Int32) ≤ nI c from nI_le (a := 1000) (by omega) (by omega)), c_trait hW hc hk hi hl (by omega), Option.bind_some, nt]
          exact fin _ rfl
      · funext j
        rw [zsi1, if_neg (fun q2 => hq q2.1), x1 q hq]
      · rw [s1, es] at hj ⊢
        simp only at hj ⊢
        rw [zsi1]
        by_cases hjh : j = hh
        · rw [if_pos ⟨rfl, hjh⟩, hjh, pk_us]
        · rw [if_neg (fun q2 => hjh q2.2), pk_un hjh]
          exact x2 j (by omega)
    · obtain ⟨b, hb1, hb2, hb3⟩ := bind_op ho
      have es : zst1 (ztr p e w (M.1 k 2) kd i) c (hh, g) = (hh - 1, upd g (hh - 2) (zjn c (g (hh - 2)) (g (hh - 1)))) := by rw [zst1, if_neg (zop_nlf ho).1, if_neg (zop_nlf ho).2]
      refine ⟨zsi x (a + 4) (hh - 2) (zjn c (g (hh - 2)) (g (hh - 1))), ?_, fun q hq => ?_, fun j hj => ?_⟩
      · show f4_pullOf_6 a k (f + 1) _ _ _ (nI n) x = f4_pullOf_6 a k f _ _ (nI (zpk _ t (n + 1)).1) _ _
        have hc2 : c < 2000 := by unfold zop at ho; omega
        rw [s1, es, f4_pullOf_6, e1, if_neg (nI_ge hn (by omega)), zaI_n (by omega) (by omega), e2, Option.bind_some, hb3, Option.bind_some, if_neg (nI_ne0 hb2 (by omega)), f4_pullOf_84, if_neg (show ¬ nI c = 1256 from nI_ne (b := 1256) (zop_nlf ho).2 (by omega) (by omega)), f4_pullOf_120, if_neg (show ¬ nI hh < 2 from nI_nlt (b := 2) (by omega) (by omega)), nI_dec (by omega), zl1, nI_sub (by omega), zaI_n (by omega) (by omega), x2 _ (by omega), Option.bind_some, zaI_n (by omega) (by omega), x2 _ (by omega), Option.bind_some, show hh - 1 - 1 = hh - 2 by omega, joined_n ho, Option.bind_some, zpI_n (by omega) (by omega), Option.bind_some, open6]
      · funext j
        rw [zsi1, if_neg (fun q2 => hq q2.1), x1 q hq]
      · rw [s1, es] at hj ⊢
        simp only at hj ⊢
        rw [zsi1]
        by_cases hjh : j = hh - 2
        · rw [if_pos ⟨rfl, hjh⟩, hjh, pk_us]
        · rw [if_neg (fun q2 => hjh q2.2), pk_un hjh]
          exact x2 j (by omega)
    · have es : zst1 (ztr p e w (M.1 k 2) kd i) 1256 (hh, g) = (hh, upd g (hh - 1) (-(g (hh - 1)))) := by rw [zst1, if_neg (by unfold zlf; omega), if_pos rfl]
      refine ⟨zsi x (a + 4) (hh - 1) (-(g (hh - 1))), ?_, fun q hq => ?_, fun j hj => ?_⟩
      · show f4_pullOf_6 a k (f + 1) _ _ _ (nI n) x = f4_pullOf_6 a k f _ _ (nI (zpk _ t (n + 1)).1) _ _
        rw [s1, es, f4_pullOf_6, e1, if_neg (nI_ge hn (by omega)), zaI_n (by omega) (by omega), e2, Option.bind_some, show f4_bindingOf (nI 1256) = some 4 from rfl, Option.bind_some, if_neg (by decide), f4_pullOf_84, if_pos (show nI 1256 = 1256 from rfl), zl1, if_neg (nI_nlt (by omega) (by omega)), nI_sub (by omega), zaI_n (by omega) (by omega), x2 _ (by omega), Option.bind_some, zpI_n (by omega) (by omega), Option.bind_some, open6]
      · funext j
        rw [zsi1, if_neg (fun q2 => hq q2.1), x1 q hq]
      · rw [s1, es] at hj ⊢
        simp only at hj ⊢
        rw [zsi1]
        by_cases hjh : j = hh - 1
        · rw [if_pos ⟨rfl, hjh⟩, hjh, pk_us]
        · rw [if_neg (fun q2 => hjh q2.2), pk_un hjh]
          exact x2 j (by omega)
  · obtain ⟨x1, x2⟩ := hx
    refine ⟨x, ?_, x1⟩
    show f4_pullOf_6 a k (f + 1) _ _ _ (nI t.length) x = _
    rw [f4_pullOf_6, x1 a (by omega), t2, if_pos (nI_le (Nat.le_refl _) (by omega)), x2 0 (by rw [zpk_end t4]; omega)]
    rfl
end PU
