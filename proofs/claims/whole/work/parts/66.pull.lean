/-! how a rule is worked out: the pile of values, told by a height and a function -/
def zjn (c : Nat) (a b : Int32) : Int32 := if c = 1042 then a * b else if c = 1043 then a + b else if c = 1045 then a - b else if c = 1060 then (if a < b then 1 else 0) else if c = 1061 then (if a = b then 1 else 0) else if c = 1062 then (if b < a then 1 else 0) else if b = 0 then 0 else a / b
def zlf (c : Nat) : Prop := c < 1000 ∨ c = 1107 ∨ c = 1105 ∨ c = 1111 ∨ c = 1099 ∨ c = 1108 ∨ c = 1101 ∨ c = 1115 ∨ c = 1110
def zop (c : Nat) : Prop := c = 1060 ∨ c = 1062 ∨ c = 1061 ∨ c = 1043 ∨ c = 1045 ∨ c = 1042 ∨ c = 1047
theorem zcs_cases {c h h' : Nat} (hz : zcs c h = some h') : (zlf c ∧ h' = h + 1) ∨ (zop c ∧ 2 ≤ h ∧ h' = h - 1) ∨ (c = 1256 ∧ 1 ≤ h ∧ h' = h) := by
  unfold zcs at hz
  split at hz
  · rename_i q
    exact Or.inl ⟨q, by simpa using hz.symm⟩
  · split at hz
    · rename_i q
      split at hz
      · cases hz
      · exact Or.inr (Or.inl ⟨q, by omega, by simpa using hz.symm⟩)
    · split at hz
      · rename_i q
        split at hz
        · cases hz
        · exact Or.inr (Or.inr ⟨q, by omega, by simpa using hz.symm⟩)
      · cases hz
theorem zop_nlf {c : Nat} (h : zop c) : ¬ zlf c ∧ ¬ c = 1256 := by
  unfold zop at h
  unfold zlf
  omega
noncomputable def zst1 (tr : Nat → Int32) (c : Nat) (s : Nat × (Nat → Int32)) : Nat × (Nat → Int32) :=
  @ite _ (zlf c) (Classical.propDecidable _) (s.1 + 1, upd s.2 s.1 (tr c)) (if c = 1256 then (s.1, upd s.2 (s.1 - 1) (-(s.2 (s.1 - 1)))) else (s.1 - 1, upd s.2 (s.1 - 2) (zjn c (s.2 (s.1 - 2)) (s.2 (s.1 - 1)))))
noncomputable def zst (tr : Nat → Int32) : List Nat → Nat × (Nat → Int32) → Nat × (Nat → Int32)
  | [], s => s
  | c :: r, s => zst tr r (zst1 tr c s)
theorem zst_app (tr : Nat → Int32) (a b : List Nat) (s : Nat × (Nat → Int32)) : zst tr (a ++ b) s = zst tr b (zst tr a s) := by
  induction a generalizing s with
  | nil => rfl
  | cons c r ih => exact ih _
theorem zcsl_app (a b : List Nat) (h : Nat) : zcsl (a ++ b) h = (zcsl a h).bind (zcsl b) := by
  induction a generalizing h with
  | nil => rfl
  | cons c r ih =>
    show (zcs c h).bind (zcsl (r ++ b)) = ((zcs c h).bind (zcsl r)).bind (zcsl b)
    cases zcs c h with
    | none => rfl
    | some h' => exact ih h'
theorem zst1_h {tr : Nat → Int32} {c h' : Nat} {s : Nat × (Nat → Int32)} (hz : zcs c s.1 = some h') : (zst1 tr c s).1 = h' := by
  rcases zcs_cases hz with ⟨q, e⟩ | ⟨q, e1, e2⟩ | ⟨q, e1, e2⟩
  · rw [zst1, if_pos q, e]
  · rw [zst1, if_neg (zop_nlf q).1, if_neg (zop_nlf q).2, e2]
  · rw [zst1, if_neg (by unfold zlf; omega), if_pos q, e2]
theorem zst_h {tr : Nat → Int32} (t : List Nat) {h' : Nat} {s : Nat × (Nat → Int32)} (hz : zcsl t s.1 = some h') : (zst tr t s).1 = h' := by
  induction t generalizing s with
  | nil => simpa [zcsl, zst] using hz
  | cons c r ih =>
    rw [zcsl] at hz
    cases hc : zcs c s.1 with
    | none => rw [hc] at hz; cases hz
    | some h1 =>
      rw [hc] at hz
      rw [zst]
      exact ih (by rw [zst1_h hc]; exact hz)
theorem zcsl_le (t : List Nat) {h h' : Nat} (hz : zcsl t h = some h') : h' ≤ h + t.length := by
  induction t generalizing h with
  | nil => simp [zcsl] at hz; simp [hz]
  | cons c r ih =>
    rw [zcsl] at hz
    cases hc : zcs c h with
    | none => rw [hc] at hz; cases hz
    | some h1 =>
      rw [hc] at hz
      have := ih hz
      rcases zcs_cases hc with ⟨q, e⟩ | ⟨q, e1, e2⟩ | ⟨q, e1, e2⟩ <;> simp <;> omega
/-- the pile behind k codes -/
noncomputable def zpk (tr : Nat → Int32) (t : List Nat) (k : Nat) : Nat × (Nat → Int32) := zst tr (t.take k) (0, fun _ => 0)
theorem zpk_step {tr : Nat → Int32} {t : List Nat} (hz : zcsl t 0 = some 1) {k c : Nat} (hc : t[k]? = some c) : zpk tr t (k + 1) = zst1 tr c (zpk tr t k) ∧ ((zlf c ∧ True) ∨ (zop c ∧ 2 ≤ (zpk tr t k).1) ∨ (c = 1256 ∧ 1 ≤ (zpk tr t k).1)) ∧ (zpk tr t k).1 ≤ k := by
  have hk : k < t.length := (List.getElem?_eq_some_iff.mp hc).1
  have e1 : t.take (k + 1) = t.take k ++ [c] := by rw [List.take_add_one, hc]; rfl
  have e2 : t = t.take k ++ t.drop k := (List.take_append_drop k t).symm
  have e3 : t.drop k = c :: t.drop (k + 1) := by
    rw [List.drop_eq_getElem_cons hk]
    congr 1
    exact (List.getElem?_eq_some_iff.mp hc).2
  rw [e2, zcsl_app] at hz
  cases h0 : zcsl (t.take k) 0 with
  | none => rw [h0] at hz; cases hz
  | some h =>
    rw [h0] at hz
    have hp : (zpk tr t k).1 = h := zst_h _ h0
    have hl := zcsl_le _ h0
    rw [Option.bind_some, e3, zcsl] at hz
    cases h2 : zcs c h with
    | none => rw [h2] at hz; cases hz
    | some h' =>
      refine ⟨by rw [zpk, e1, zst_app]; rfl, ?_, by rw [hp]; simp at hl; omega⟩
      rw [hp]
      rcases zcs_cases h2 with ⟨q, -⟩ | ⟨q, e, -⟩ | ⟨q, e, -⟩
      · exact Or.inl ⟨q, trivial⟩
      · exact Or.inr (Or.inl ⟨q, e⟩)
      · exact Or.inr (Or.inr ⟨q, e⟩)
theorem zpk_end {tr : Nat → Int32} {t : List Nat} (hz : zcsl t 0 = some 1) : (zpk tr t t.length).1 = 1 := by
  rw [zpk, List.take_length]
  exact zst_h t hz
/-! the traits of a thread -/
def zlk (p e : Nat) (w : Nat → Nat) (kd i : Nat) : Nat := zsum (fun j => if j ≠ i ∧ zth p e w kd j = zth p e w kd i then 1 else 0) (zmany p e kd)
def ztr (p e : Nat) (w : Nat → Nat) (nt : Int32) (kd i c : Nat) : Int32 := if c < 1000 then nI c else if c = 1107 then nI kd else if c = 1105 then nI i else if c = 1111 then nI (zbc (zth p e w kd i)) else if c = 1099 then nI (zchg (zmany p e (1 - kd)) (zth p e w kd i)) else if c = 1108 then nI (zmany p e (1 - kd)) else if c = 1101 then (if i = 0 ∨ i = zmany p e kd - 1 then 1 else 0) else if c = 1115 then nI (zlk p e w kd i) else zrem nt 7
noncomputable def zpull (p e : Nat) (w : Nat → Nat) (nt : Int32) (t : List Nat) (kd i : Nat) : Int32 := zmax (-99) (zmin 99 ((zpk (ztr p e w nt kd i) t t.length).2 0))
section TR
variable {M : zM} {k p e : Nat} {w : Nat → Nat}
theorem c_likes (h : zWc M k p e w) (hc : zCl p e w) {kd i : Nat} (hk : kd < 2) (hi : i < zmany p e kd) : f7_likesOf k (nI kd) (nI i) M = some (nI (zlk p e w kd i)) := by
  have hm := zmany_le hc kd
  rw [f7_likesOf]
  refine zloop0 (F := fun f n => f7_likesOf_5 k f (nI kd) (nI i) (nI (zsum (fun j => if j ≠ i ∧ zth p e w kd j = zth p e w kd i then 1 else 0) n)) (nI n) M) (zmany p e kd) (by omega) (fun f n hn => ?_) (fun f => ?_)
  · show f7_likesOf_5 k (f + 1) _ _ _ (nI n) M = _
    have b1 := zth_lt64 hc kd n
    have b2 := zth_lt64 hc kd i
    rw [f7_likesOf_5, c_size h hk, Option.bind_some, if_neg (nI_ge hn (by omega)), zsum]
    by_cases g : n = i
    · rw [if_pos (by rw [g]), if_neg (fun q => q.1 g), f7_likesOf_43]
      show f7_likesOf_5 k f _ _ (nI _ + nI 0) (nI n + nI 1) M = _
      rw [nI_add, nI_add]
    · rw [if_neg (nI_ne g (by omega) (by omega)), c_cells h hk (by omega), Option.bind_some, c_cells h hk (by omega), Option.bind_some]
      by_cases g2 : zth p e w kd n = zth p e w kd i
      · rw [if_pos (by rw [g2]), if_pos ⟨g, g2⟩, f7_likesOf_43]
        show f7_likesOf_5 k f _ _ (nI _ + nI 1) (nI n + nI 1) M = _
        rw [nI_add, nI_add]
      · rw [if_neg (nI_ne g2 (by omega) (by omega)), if_neg (fun q => g2 q.2), f7_likesOf_43]
        show f7_likesOf_5 k f _ _ (nI _ + nI 0) (nI n + nI 1) M = _
        rw [nI_add, nI_add]
  · show f7_likesOf_5 k (f + 1) _ _ _ (nI (zmany p e kd)) M = _
    rw [f7_likesOf_5, c_size h hk, Option.bind_some, if_pos (nI_le (Nat.le_refl _) (by omega))]
    rfl
theorem r_likes (h : zRr M k p e w) (hc : zCl p e w) {kd i : Nat} (hk : kd < 2) (hi : i < zmany p e kd) : f9_alike k (nI kd) (nI i) M = some (nI (zlk p e w kd i)) := by
  have hm := zmany_le hc kd
  rw [f9_alike]
  refine zloop0 (F := fun f n => f9_alike_5 k f (nI kd) (nI i) (nI (zsum (fun j => if j ≠ i ∧ zth p e w kd j = zth p e w kd i then 1 else 0) n)) (nI n) M) (zmany p e kd) (by omega) (fun f n hn => ?_) (fun f => ?_)
  · show f9_alike_5 k (f + 1) _ _ _ (nI n) M = _
    have b1 := zth_lt64 hc kd n
    have b2 := zth_lt64 hc kd i
    rw [f9_alike_5, r_many h hk, Option.bind_some, if_neg (nI_ge hn (by omega)), zsum]
    by_cases g : n = i
    · rw [if_pos (by rw [g]), if_neg (fun q => q.1 g), f9_alike_43]
      show f9_alike_5 k f _ _ (nI _ + nI 0) (nI n + nI 1) M = _
      rw [nI_add, nI_add]
    · rw [if_neg (nI_ne g (by omega) (by omega)), r_bits h hc hk hn, Option.bind_some, r_bits h hc hk hi, Option.bind_some]
      by_cases g2 : zth p e w kd n = zth p e w kd i
      · rw [if_pos (by rw [g2]), if_pos ⟨g, g2⟩, f9_alike_43]
        show f9_alike_5 k f _ _ (nI _ + nI 1) (nI n + nI 1) M = _
        rw [nI_add, nI_add]
      · rw [if_neg (nI_ne g2 (by omega) (by omega)), if_neg (fun q => g2 q.2), f9_alike_43]
        show f9_alike_5 k f _ _ (nI _ + nI 0) (nI n + nI 1) M = _
        rw [nI_add, nI_add]
  · show f9_alike_5 k (f + 1) _ _ _ (nI (zmany p e kd)) M = _
    rw [f9_alike_5, r_many h hk, Option.bind_some, if_pos (nI_le (Nat.le_refl _) (by omega))]
    rfl
/-- the class's traits -/
theorem c_trait (h : zWc M k p e w) (hc : zCl p e w) {kd i c : Nat} (hk : kd < 2) (hi : i < zmany p e kd) (hl : zlf c) (hc1 : 1000 ≤ c) : f4_traitOf (nI c - 1000) k (nI kd) (nI i) M = some (ztr p e w (M.1 k 2) kd i c) := by
  have hm := zmany_le hc kd
  have hb := zth_lt64 hc kd i
  have hl' : c = 1107 ∨ c = 1105 ∨ c = 1111 ∨ c = 1099 ∨ c = 1108 ∨ c = 1101 ∨ c = 1115 ∨ c = 1110 := by
    unfold zlf at hl
    omega
  rcases hl' with rfl | rfl | rfl | rfl | rfl | rfl | rfl | rfl
  · rfl
  · rfl
  · show ((f7_cellsOf k (nI kd) (nI i) M).bind fun x1 => (fJ6_bitCount x1).bind fun x2 => some x2) = some (nI (zbc (zth p e w kd i)))
    rw [c_cells h hk (by omega), Option.bind_some, bc_n (by omega)]
    rfl
  · show ((f7_changesOf k (nI kd) (nI i) M).bind fun x1 => some x1) = some (nI (zchg (zmany p e (1 - kd)) (zth p e w kd i)))
    rw [c_changes h hc hk (by omega)]
    rfl
  · show ((f7_sizeOf k (1 - nI kd) M).bind fun x1 => some x1) = some (nI (zmany p e (1 - kd)))
    rw [zl1, nI_sub (by omega), c_size h (by omega)]
    rfl
  · show (if nI i = 0 then some 1 else (f7_sizeOf k (nI kd) M).bind fun x1 => some (if nI i = x1 - 1 then 1 else 0)) = some (if i = 0 ∨ i = zmany p e kd - 1 then 1 else 0)
    by_cases g : i = 0
    · rw [if_pos (by rw [g]; rfl), if_pos (Or.inl g)]
    · rw [if_neg (nI_ne0 (by omega) (by omega)), c_size h hk, Option.bind_some, zl1, nI_sub (by omega)]
      by_cases g2 : i = zmany p e kd - 1
      · rw [if_pos (by rw [← g2]), if_pos (Or.inr g2)]
      · rw [if_neg (nI_ne g2 (by omega) (by omega)), if_neg (by omega)]
  · show ((f7_likesOf k (nI kd) (nI i) M).bind fun x1 => some x1) = some (nI (zlk p e w kd i))
    rw [c_likes h hc hk hi]
    rfl
  · rfl
end TR
