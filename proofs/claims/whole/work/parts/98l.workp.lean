/-! a work's text: an act -/
def zid (s : Nat) : Nat := if s = 100 then 2 else if s = 109 then 4 else if s = 110 then 0 else if s = 116 then 3 else if s = 119 then 1 else 5
def zll (i : Nat) : Nat := zlen.getD i 0
theorem zid_e : ∀ s, s < 256 → f8_digitsOf (nI s) = some (zid s) ∧ zid s < 6 := by decide +kernel
theorem zll_e : ∀ i, i < 6 → zslen i = some (nI (zll i)) ∧ zll i < 5 ∧ zsemp i = some (if i = 5 then 1 else 0) := by decide +kernel
theorem zll_ch : ∀ i, i < 6 → ∀ k, k < 5 → k < zll i → zschr i (nI k) = some (nI (zsgn i k)) ∧ 49 ≤ zsgn i k ∧ zsgn i k < 58 := by decide +kernel
section WP
variable {M : zM} {n : Nat} {t : Nat → Nat}
def zwL (n : Nat) : Nat := min n 60
theorem wf_s (h : zTx M n t) {f i p : Nat} (hi : i < 6) (hp : p < zwL n) : f8_workFault_22 (f + 1) i (nI (zll i)) (nI (zwL n)) (nI p) M = if zid (t p) = 5 then some (nI p) else f8_workFault_22 f (zid (t p)) (nI 0) (nI (zwL n)) (nI (p + 1)) M := by
  have hL : zwL n ≤ 60 ∧ zwL n ≤ n := by unfold zwL; omega
  have ht := (h.2.2 p (by omega)).1
  obtain ⟨a1, a2⟩ := zid_e _ ht
  rw [f8_workFault_22, if_neg (nI_ge hp (by omega)), c_at h (by omega), Option.bind_some, (zll_e i hi).1, Option.bind_some, if_pos rfl, a1, Option.bind_some, (zll_e _ a2).2.2, Option.bind_some]
  by_cases g : zid (t p) = 5
  · rw [if_pos g, if_neg (by decide), if_pos g]
  · rw [if_neg g, if_pos rfl, f8_workFault_88, nI_1, if_neg g]
    rfl
theorem wf_d (h : zTx M n t) {f i k p : Nat} (hi : i < 6) (hk : k < zll i) (hp : p < zwL n) : f8_workFault_22 (f + 1) i (nI k) (nI (zwL n)) (nI p) M = if 48 ≤ t p ∧ t p ≤ zsgn i k then f8_workFault_22 f i (nI (k + 1)) (nI (zwL n)) (nI (p + 1)) M else some (nI p) := by
  have hL : zwL n ≤ 60 ∧ zwL n ≤ n := by unfold zwL; omega
  have ht := (h.2.2 p (by omega)).1
  have hl := (zll_e i hi).2.1
  obtain ⟨b1, b2, b3⟩ := zll_ch i hi k (by omega) hk
  rw [f8_workFault_22, if_neg (nI_ge hp (by omega)), c_at h (by omega), Option.bind_some, (zll_e i hi).1, Option.bind_some, if_neg (nI_ne (by omega) (by omega) (by omega))]
  by_cases g : 48 ≤ t p
  · rw [if_neg (show ¬ nI (t p) < 48 from nI_nlt (b := 48) g (by omega)), b1, Option.bind_some]
    by_cases g2 : t p ≤ zsgn i k
    · rw [if_pos (nI_le g2 (by omega)), if_pos ⟨g, g2⟩, f8_workFault_88, nI_1, nI_1]
    · rw [if_neg (nI_ge (by omega) (by omega)), if_neg (fun q => g2 q.2)]
  · rw [if_pos (show nI (t p) < 48 from nI_lt (b := 48) (by omega) (by omega)), if_neg (fun q => g q.1)]
theorem wf_e (h : zTx M n t) {f i k : Nat} (hi : i < 6) (hk : k ≤ zll i) : f8_workFault_22 (f + 1) i (nI k) (nI (zwL n)) (nI (zwL n)) M = some (if 60 < n then nI 60 else if k = zll i then -1 else nI n) := by
  have hn := h.1
  have hL : zwL n ≤ 60 ∧ zwL n ≤ n := by unfold zwL; omega
  have hl := (zll_e i hi).2.1
  rw [f8_workFault_22, if_pos (nI_le (Nat.le_refl _) (by omega)), h.2.1]
  by_cases g : 60 < n
  · rw [if_neg (show ¬ nI n ≤ 60 from nI_ge (a := 60) g (by omega)), if_pos g]
    rfl
  · rw [if_pos (show nI n ≤ 60 from nI_le (b := 60) (by omega) (by omega)), (zll_e i hi).1, Option.bind_some, if_neg g]
    by_cases g2 : k = zll i
    · rw [if_pos (by rw [g2]; exact nI_le (Nat.le_refl _) (by omega)), if_pos g2]
    · rw [if_neg (nI_ge (by omega) (by omega)), if_neg g2]
/-- digits of an act that are as they must be -/
def zgg (t : Nat → Nat) (i k p : Nat) : Prop := 48 ≤ t p ∧ t p ≤ zsgn i k
theorem wf_ds (h : zTx M n t) {i p : Nat} (hi : i < 6) : ∀ m k f, k + m ≤ zll i → p + m ≤ zwL n → (∀ j, j < m → zgg t i (k + j) (p + j)) → f8_workFault_22 (f + m) i (nI k) (nI (zwL n)) (nI p) M = f8_workFault_22 f i (nI (k + m)) (nI (zwL n)) (nI (p + m)) M := by
  intro m
  induction m with
  | zero => exact fun _ _ _ _ _ => rfl
  | succ m ih =>
    intro k f hk hp hg
    rw [show f + (m + 1) = (f + 1) + m by omega, ih k (f + 1) (by omega) (by omega) (fun j hj => hg j (by omega)), wf_d h hi (by omega) (by omega), if_pos (show 48 ≤ t (p + m) ∧ t (p + m) ≤ zsgn i (k + m) from hg m (by omega))]
    rfl
/-- the class reads an act -/
theorem wf_act (h : zTx M n t) {i p f : Nat} (hi : i < 6) (h5 : zid (t p) ≠ 5) (hp : p + 1 + zll (zid (t p)) ≤ zwL n) (hg : ∀ j, j < zll (zid (t p)) → zgg t (zid (t p)) j (p + 1 + j)) : f8_workFault_22 (f + (1 + zll (zid (t p)))) i (nI (zll i)) (nI (zwL n)) (nI p) M = f8_workFault_22 f (zid (t p)) (nI (zll (zid (t p)))) (nI (zwL n)) (nI (p + 1 + zll (zid (t p)))) M := by
  have hL : zwL n ≤ 60 ∧ zwL n ≤ n := by unfold zwL; omega
  have a2 := (zid_e _ (h.2.2 p (by omega)).1).2
  rw [show f + (1 + zll (zid (t p))) = (f + zll (zid (t p))) + 1 by omega, wf_s h hi (by omega), if_neg h5, wf_ds h a2 (zll (zid (t p))) 0 f (by omega) (by omega) (fun j hj => by rw [Nat.zero_add]; exact hg j hj), Nat.zero_add]
/-- or finds its fault -/
theorem wf_bad (h : zTx M n t) {i p m f : Nat} (hi : i < 6) (h5 : zid (t p) ≠ 5) (hm : m < zll (zid (t p))) (hp : p + 1 + m ≤ zwL n) (hg : ∀ j, j < m → zgg t (zid (t p)) j (p + 1 + j)) (hb : p + 1 + m = zwL n ∨ ¬ zgg t (zid (t p)) m (p + 1 + m)) : f8_workFault_22 (f + 1 + (1 + m)) i (nI (zll i)) (nI (zwL n)) (nI p) M = some (if p + 1 + m = zwL n then (if 60 < n then nI 60 else nI n) else nI (p + 1 + m)) := by
  have hL : zwL n ≤ 60 ∧ zwL n ≤ n := by unfold zwL; omega
  have a2 := (zid_e _ (h.2.2 p (by omega)).1).2
  rw [show f + 1 + (1 + m) = (f + 1 + m) + 1 by omega, wf_s h hi (by omega), if_neg h5, wf_ds h a2 m 0 (f + 1) (by omega) (by omega) (fun j hj => by rw [Nat.zero_add]; exact hg j hj), Nat.zero_add]
  by_cases g : p + 1 + m = zwL n
  · rw [g, wf_e h a2 (by omega), if_pos rfl, if_neg (show ¬ m = zll (zid (t p)) by omega)]
  · rw [wf_d h a2 hm (by omega), if_neg g, if_neg (show ¬ (48 ≤ t (p + 1 + m) ∧ t (p + 1 + m) ≤ zsgn (zid (t p)) m) from hb.elim (fun q => absurd q g) id)]
/-! the reference: digits -/
theorem r_isDig {a : Nat} (h : zRt M n a t) : f9_isDigit M = some (nI (zi (decide (a < n) && (decide (48 ≤ t a) && decide (t a ≤ 57))))) := by
  obtain ⟨h1, h2, h3, h4, h5, h6⟩ := h
  rw [f9_isDigit, h3, h4]
  by_cases ha : a = n
  · rw [if_pos (nI_le (by omega) (by omega)), decide_eq_false (by omega)]
    rfl
  · have ht := (h5 a (by omega)).1
    rw [if_neg (nI_ge (by omega) (by omega)), zaI_n (by omega) (by omega), (h5 a (by omega)).2, Option.bind_some, in_i (lo := nI 48) (hi := nI 57) (lo' := 48) (hi' := 57) rfl rfl, Option.bind_some, decide_eq_true (by omega), Bool.true_and]
    by_cases g1 : 48 ≤ t a
    · rw [if_neg (nI_nlt g1 (by omega)), decide_eq_true g1, Bool.true_and]
      by_cases g2 : t a ≤ 57
      · rw [if_neg (nI_nlt g2 (by omega)), decide_eq_true g2]
        rfl
      · rw [if_pos (nI_lt (by omega) (by omega)), decide_eq_false g2]
        rfl
    · rw [if_pos (nI_lt (by omega) (by omega)), decide_eq_false g1]
      rfl
theorem r_num1 {a : Nat} (h : zRt M n a t) : (a < n ∧ 48 ≤ t a ∧ t a ≤ 57 ∧ f9_number 1 M = some (nI (t a - 48), zsi M 39 8 (nI (a + 1)))) ∨ ((a = n ∨ ¬ (48 ≤ t a ∧ t a ≤ 57)) ∧ f9_number 1 M = some (-1, M)) := by
  have hd := r_isDig h
  obtain ⟨h1, h2, h3, h4, h5, h6⟩ := id h
  by_cases g : a < n ∧ 48 ≤ t a ∧ t a ≤ 57
  · rw [decide_eq_true g.1, decide_eq_true g.2.1, decide_eq_true g.2.2] at hd
    refine Or.inl ⟨g.1, g.2.1, g.2.2, ?_⟩
    rw [f9_number, hd, Option.bind_some, if_neg (by decide)]
    show f9_number_13 (4998 + 1 + 1) 1 0 0 M = _
    rw [f9_number_13, if_neg (by decide), hd, Option.bind_some, if_neg (by decide), h4, zaI_n (by omega) (by omega), (h5 a g.1).2, Option.bind_some, f9_number_13, if_pos (by decide), nI_1]
    have e1 : ((10 : Int32) * 0 + nI (t a)) - 48 = nI (t a - 48) := by
      rw [show (10 : Int32) * 0 = nI 0 from rfl, nI_add, Nat.zero_add]
      exact nI_sub (b := 48) g.2.1
    rw [e1]
  · refine Or.inr ⟨?_, ?_⟩
    · by_cases q : a = n
      · exact Or.inl q
      · exact Or.inr (fun r => g ⟨by omega, r⟩)
    · have : (decide (a < n) && (decide (48 ≤ t a) && decide (t a ≤ 57))) = false := by
        cases r : (decide (a < n) && (decide (48 ≤ t a) && decide (t a ≤ 57)))
        · rfl
        · rw [Bool.and_eq_true, Bool.and_eq_true] at r
          exact absurd ⟨of_decide_eq_true r.1, of_decide_eq_true r.2.1, of_decide_eq_true r.2.2⟩ g
      rw [this] at hd
      rw [f9_number, hd, Option.bind_some, if_pos (show nI (zi false) = 0 from rfl)]
end WP
