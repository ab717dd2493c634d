def zrgo (t : Nat → Nat) : Nat → Nat → zL5 → Option zL5
  | 0, _, st => some st
  | k + 1, a, st => (zstp (t a) st).bind fun s => zrgo t k (a + 1) s
theorem zrgo_add (t : Nat → Nat) : ∀ (j k a : Nat) (st : zL5), zrgo t (j + k) a st = (zrgo t j a st).bind fun s => zrgo t k (a + j) s := by
  intro j
  induction j with
  | zero =>
    intro k a st
    rw [Nat.zero_add]
    rfl
  | succ j ih =>
    intro k a st
    rw [show j + 1 + k = (j + k) + 1 by omega, zrgo, zrgo]
    cases zstp (t a) st with
    | none => rfl
    | some s =>
      show zrgo t (j + k) (a + 1) s = (zrgo t j (a + 1) s).bind _
      rw [ih, show a + 1 + j = a + (j + 1) by omega]
def zR (t : Nat → Nat) (a : Nat) (st : zL5) (b : Nat) (st' : zL5) : Prop := a ≤ b ∧ zrgo t (b - a) a st = some st'
theorem zR.rf {t : Nat → Nat} {a : Nat} {st : zL5} : zR t a st a st := ⟨Nat.le_refl _, by rw [Nat.sub_self]; rfl⟩
theorem zR.tr {t : Nat → Nat} {a b c : Nat} {s1 s2 s3 : zL5} (h1 : zR t a s1 b s2) (h2 : zR t b s2 c s3) : zR t a s1 c s3 := by
  refine ⟨by have := h1.1; have := h2.1; omega, ?_⟩
  have := zrgo_add t (b - a) (c - b) a s1
  rw [h1.2, Option.bind_some, show a + (b - a) = b by have := h1.1; omega, h2.2, show b - a + (c - b) = c - a by have := h1.1; have := h2.1; omega] at this
  exact this
theorem zR.st {t : Nat → Nat} {a : Nat} {s1 s2 : zL5} (h : zstp (t a) s1 = some s2) : zR t a s1 (a + 1) s2 := by
  refine ⟨by omega, ?_⟩
  rw [show a + 1 - a = 0 + 1 by omega, zrgo, h]
  rfl
section RL
variable {x : zM} {n : Nat} {t : Nat → Nat}
theorem c_step {L p : Nat} {st : zL5} (hT : zTx x n t) (h : zcM x st p) (hpn : p < n) (hpL : p < L) (hL : L ≤ 40) (f : Nat) : (∃ st' y, zstp (t p) st = some st' ∧ f4_readFrom_52 16 (f + 1) (nI L) (nI p) x = f4_readFrom_52 16 f (nI L) (nI (p + 1)) y ∧ zTx y n t ∧ zcM y st' (p + 1)) ∨ (zstp (t p) st = none ∧ ∃ y, f4_readFrom_52 16 (f + 1) (nI L) (nI p) x = some (nI p, y)) := by
  have ht := (hT.2.2 p hpn).1
  have h7 := h.2.2.2.2.1
  by_cases hw : st.2.2.2.2 = true
  · have ez : zstp (t p) st = zstT (t p) st := if_pos hw
    rw [hw] at h7
    rw [ez]
    have eu : f4_readFrom_52 16 (f + 1) (nI L) (nI p) x = (f4_takesThing 16 (nI (t p)) x).bind fun p2 => if p2.1 = 0 then some (nI p, p2.2) else f4_readFrom_94 16 (f4_readFrom_52 16 f) (nI L) (nI p) p2.2 := by
      rw [f4_readFrom_52, if_neg (nI_ge hpL (by omega)), c_at hT hpn, Option.bind_some, h7, if_neg (show ¬ nI (zi true) = 0 by decide)]
    rw [eu]
    rcases c_thing h hw (by omega) ht with ⟨st', y, y1, y2, y3⟩ | ⟨y1, y, y2⟩
    · refine Or.inl ⟨st', y, y1, ?_, ?_, y3⟩
      · rw [y2, Option.bind_some, if_neg (show ¬ (1 : Int32) = 0 by decide), f4_readFrom_94, nI_1]
      · have o := o_X4_takesThing y2
        exact hT.to (o.1 7 (by simp) (by omega)).1 (o.1 8 (by simp) (by omega)).1
    · refine Or.inr ⟨y1, y, ?_⟩
      rw [y2, Option.bind_some, if_pos rfl]
  · have hw' : st.2.2.2.2 = false := by simpa using hw
    have ez : zstp (t p) st = zstJ (t p) st := if_neg hw
    rw [hw'] at h7
    rw [ez]
    have eu : f4_readFrom_52 16 (f + 1) (nI L) (nI p) x = (f4_takesJoin 16 (nI (t p)) x).bind fun p2 => if p2.1 = 0 then some (nI p, p2.2) else f4_readFrom_94 16 (f4_readFrom_52 16 f) (nI L) (nI p) p2.2 := by
      rw [f4_readFrom_52, if_neg (nI_ge hpL (by omega)), c_at hT hpn, Option.bind_some, h7, if_pos (show nI (zi false) = 0 from rfl)]
    rw [eu]
    rcases c_join h hw' (by omega) ht with ⟨st', y, y1, y2, y3⟩ | ⟨y1, y, y2⟩
    · refine Or.inl ⟨st', y, y1, ?_, ?_, y3⟩
      · rw [y2, Option.bind_some, if_neg (show ¬ (1 : Int32) = 0 by decide), f4_readFrom_94, nI_1]
      · have o := o_X4_takesJoin y2
        exact hT.to (o.1 7 (by simp) (by omega)).1 (o.1 8 (by simp) (by omega)).1
    · refine Or.inr ⟨y1, y, ?_⟩
      rw [y2, Option.bind_some, if_pos rfl]
theorem c_runs {L : Nat} (hL : L ≤ 40) (hLn : L ≤ n) : ∀ (k p : Nat) (st st' : zL5) (x : zM) (f : Nat), zrgo t k p st = some st' → p + k ≤ L → k < f → zTx x n t → zcM x st p → ∃ y, f4_readFrom_52 16 f (nI L) (nI p) x = f4_readFrom_52 16 (f - k) (nI L) (nI (p + k)) y ∧ zTx y n t ∧ zcM y st' (p + k) := by
  intro k
  induction k with
  | zero =>
    intro p st st' x f hg hk hf hT h
    have : st = st' := Option.some.inj hg
    subst this
    exact ⟨x, rfl, hT, h⟩
  | succ k ih =>
    intro p st st' x f hg hk hf hT h
    obtain ⟨f, rfl⟩ : ∃ g, f = g + 1 := ⟨f - 1, by omega⟩
    rw [zrgo] at hg
    rcases c_step hT h (by omega) (by omega) hL f with ⟨s1, y, y1, y2, y3, y4⟩ | ⟨y1, y, y2⟩
    · rw [y1, Option.bind_some] at hg
      obtain ⟨z, z1, z2, z3⟩ := ih (p + 1) s1 st' y f hg (by omega) (by omega) y3 y4
      refine ⟨z, ?_, z2, ?_⟩
      · rw [y2, z1, show f + 1 - (k + 1) = f - k by omega, show p + 1 + k = p + (k + 1) by omega]
      · rw [show p + (k + 1) = p + 1 + k by omega]
        exact z3
    · rw [y1] at hg
      cases hg
theorem c_end {st : zL5} {L f : Nat} (hT : zTx x n t) (hL : L = min n 40) (h : zcM x st L) : f4_readFrom_52 16 (f + 1) (nI L) (nI L) x = if 40 < n then some (nI 40, x) else if st.2.2.2.2 = true ∨ 1 < st.2.2.2.1.length then some (nI n, x) else (f4_release 16 1 x).bind fun M1 => some (-1, M1) := by
  obtain ⟨⟨w1, w2, w3, w4, w5, w6⟩, hO, hW, hC, h7, h6⟩ := h
  have hn := hT.1
  have e7 : x.1 7 1 = nI n := hT.2.1
  have h5 := hC.1
  rw [f4_readFrom_52, if_pos (nI_le (Nat.le_refl _) (by omega)), e7, h7, h5]
  by_cases g : 40 < n
  · rw [if_pos g, if_neg (show ¬ nI n ≤ 40 from nI_ge (b := n) (a := 40) g (by omega))]
    rfl
  · rw [if_neg g, if_pos (show nI n ≤ 40 from nI_le (b := 40) (by omega) (by omega))]
    cases hw : st.2.2.2.2 with
    | true => rw [if_neg (show ¬ nI (zi true) = 0 by decide), if_pos (Or.inl rfl)]
    | false =>
      rw [if_pos (show nI (zi false) = 0 from rfl)]
      by_cases g2 : 1 < st.2.2.2.1.length
      · rw [if_neg (nI_nle (by omega) (by omega)), if_pos (Or.inr g2)]
      · rw [if_neg (show ¬ (false = true ∨ 1 < st.2.2.2.1.length) from fun q => q.elim Bool.noConfusion g2), show st.2.2.2.1.length - 1 = 0 by omega, if_pos (show nI 0 ≤ 0 by decide)]
theorem zrel_all {b : Nat} : ∀ (P o W : List Nat), (∀ c, c ∈ P → b ≤ zbi c) → zrel b o (P ++ W) = zrel b (o ++ P) W := by
  intro P
  induction P with
  | nil =>
    intro o W _
    simp
  | cons c r ih =>
    intro o W h
    show zrel b o (c :: (r ++ W)) = _
    have := h c List.mem_cons_self
    rw [zrel, if_neg (by omega), ih (o ++ [c]) W (fun d hd => h d (List.mem_cons_of_mem _ hd)), List.append_assoc]
    rfl
def zhd (r : Nat) (W : List Nat) : Prop := ∀ c W', W = c :: W' → zbi c ≤ r
theorem zrel_stop {b r : Nat} (hb : r < b) (o W : List Nat) (h : zhd r W) : zrel b o W = (o, W) := by
  cases W with
  | nil => rfl
  | cons c W' => rw [zrel, if_pos (by have := h c W' rfl; omega)]
end RL
