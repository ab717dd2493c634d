/-! the invariant of the pure part, by components, and what keeps each -/
def zR8 (M : zM) (L : List Int64) : Prop := M.1 9 1 = nI L.length ∧ L.length ≤ 8 ∧ ∀ i v, L[i]? = some v → M.2 10 i = v
def zR9 (M : zM) (L : List Int64) : Prop := M.1 39 1 = nI L.length ∧ L.length ≤ 23 ∧ ∀ i v, L[i]? = some v → M.2 40 i = v
def zshN (p e : Nat) (w : Nat → Nat) : Nat := p + 8 * e + 64 * (w 0 + 64 * (w 1 + 64 * (w 2 + 64 * (w 3 + 64 * (w 4 + 64 * w 5)))))
/-- a cloth kept by the class as one number, by the reference as nine -/
def zKp (sh : Int64) (nt : Int32) (f : Nat → Int32) (p e : Nat) (w : Nat → Nat) : Prop := zCl p e w ∧ sh = lN (zshN p e w) ∧ nt = f 8 ∧ f 6 = nI p ∧ f 7 = nI e ∧ ∀ j, j < p → f j = nI (w j)
/-- codes of a rule: of the class the code, of the reference the one that stands for it -/
def zcr (c : Nat) : Nat := if c < 1000 then c else match c with
  | 1107 => 1000 | 1105 => 1001 | 1111 => 1002 | 1099 => 1003 | 1108 => 1004 | 1101 => 1005 | 1115 => 1006 | 1110 => 1007
  | 1060 => 2000 | 1062 => 2001 | 1061 => 2002 | 1043 => 2003 | 1045 => 2004 | 1042 => 2005 | 1047 => 2006
  | _ => 3000
/-- how high the pile of values is behind a code, from a height (none: it can't be done) -/
def zcs (c h : Nat) : Option Nat :=
  if c < 1000 ∨ c = 1107 ∨ c = 1105 ∨ c = 1111 ∨ c = 1099 ∨ c = 1108 ∨ c = 1101 ∨ c = 1115 ∨ c = 1110 then some (h + 1)
  else if c = 1060 ∨ c = 1062 ∨ c = 1061 ∨ c = 1043 ∨ c = 1045 ∨ c = 1042 ∨ c = 1047 then (if h < 2 then none else some (h - 1))
  else if c = 1256 then (if h < 1 then none else some h) else none
def zcsl : List Nat → Nat → Option Nat
  | [], h => some h
  | c :: r, h => (zcs c h).bind (zcsl r)
def iA (M : zM) (p e : Nat) (w : Nat → Nat) : Prop := zCl p e w ∧ zWc M 1 p e w ∧ zRr M 41 p e w ∧ M.1 41 8 = M.1 1 2
def iAx (M : zM) : Prop := ∃ p e w, iA M p e w
def iBn (M : zM) (n : Nat) (t : Nat → Nat) : Prop := n ≤ 80 ∧ M.1 7 1 = nI n ∧ M.1 39 7 = nI n ∧ ∀ i, i < n → t i < 256 ∧ M.1 8 i = nI (t i) ∧ M.1 43 i = nI (t i)
def iB (M : zM) : Prop := ∃ n t, iBn M n t
def iC (M : zM) : Prop := ∃ L, zR8 M L ∧ zR9 M L
def iDn (M : zM) (n : Nat) (a b : Nat → Nat) : Prop := n ≤ 12 ∧ M.1 30 2 = nI n ∧ M.1 39 32 = nI n ∧ ∀ i, i < n → a i < 5 ∧ b i ≤ 6 ∧ (a i = 3 → b i ≤ 1) ∧ M.1 31 i = nI (a i) ∧ M.1 32 i = nI (b i) ∧ M.1 60 i = nI (a i) ∧ M.1 61 i = nI (b i)
def iD (M : zM) : Prop := ∃ n a b, iDn M n a b
/-- a list of codes as class and reference hold it (places of the class's rule and its code; the reference's length and code) -/
def zCo (M : zM) (a : Nat) (long : Int32) (b : Nat) (t : List Nat) : Prop := t.length ≤ 40 ∧ M.1 a 1 = nI t.length ∧ (∀ i c, t[i]? = some c → M.1 (a + 1) i = nI c) ∧ zcsl t 0 = some 1 ∧ ((long = nI t.length ∧ ∀ i c, t[i]? = some c → M.1 b i = nI (zcr c)) ∨ (long = 0 ∧ t = [1099, 1105, 1045]))
def iE (M : zM) : Prop := ∃ t, zCo M 11 (M.1 39 14) 45 t
def iF (M : zM) : Prop := ∃ n, n ≤ 15 ∧ M.1 33 2 = nI n ∧ M.1 39 18 = nI n ∧ ∀ i, i < n → ∃ p e w, zKp (M.2 34 i) (M.1 35 i) (fun j => M.1 49 (9 * i + j)) p e w
def iG (c : Nat) (M : zM) : Prop := ∃ ch, ch ≤ c ∧ M.1 39 5 = nI ch ∧ ∀ i, i < 3 → (M.2 37 i = 0 ∧ (M.1 64 i = 0 ∨ ∃ kc, kc < ch ∧ M.1 65 i = nI kc)) ∨ (M.1 64 i = 1 ∧ M.1 65 i = nI ch ∧ ∃ p e w, zKp (M.2 37 i) (M.1 38 i) (fun j => M.1 66 (9 * i + j)) p e w)
/-- what was told stays so: places, slots of 39 -/
def zsame (P p : List Nat) (M M' : zM) : Prop := (∀ k, k ∈ P → M'.1 k = M.1 k ∧ M'.2 k = M.2 k) ∧ ∀ j, j ∈ p → M'.1 39 j = M.1 39 j
def zdis (P p S s : List Nat) : Bool := P.all (fun k => !S.contains k && !(k == 39)) && (p.all (fun j => !s.contains j) && (p.isEmpty || !S.contains 39))
theorem zOut.same {S s P p : List Nat} {M M' : zM} (ho : zOut S s M M') (h : zdis P p S s = true) : zsame P p M M' := by
  simp only [zdis, Bool.and_eq_true, List.all_eq_true, Bool.not_eq_true', beq_eq_false_iff_ne, Bool.or_eq_true] at h
  obtain ⟨h1, h2, h3⟩ := h
  refine ⟨fun k hk => ho.1 k (by have := (h1 k hk).1; simpa using this) (h1 k hk).2, fun j hj => ho.2 j (by have := h2 j hj; simpa using this) ?_⟩
  rcases h3 with h3 | h3
  · rw [List.isEmpty_iff] at h3
    subst h3
    cases hj
  · simpa using h3
theorem zOut.mono {S s S' s' : List Nat} {M M' : zM} (ho : zOut S s M M') (h1 : ∀ k, k ∈ S → k ∈ S') (h2 : ∀ k, k ∈ s → k ∈ s') : zOut S' s' M M' := zOut.rf.call ho h1 h2
theorem zOut.trans {S s S' s' : List Nat} {M M' M'' : zM} (ho : zOut S s M M') (h1 : zOut S' s' M' M'') : zOut (S ++ S') (s ++ s') M M'' :=
  (ho.mono (fun _ h => List.mem_append_left _ h) (fun _ h => List.mem_append_left _ h)).call h1 (fun _ h => List.mem_append_right _ h) (fun _ h => List.mem_append_right _ h)
section IT
variable {M M' : zM}
theorem iA_to {p e : Nat} {w : Nat → Nat} (h : zsame [1, 2, 41] [] M M') (q : iA M p e w) : iA M' p e w := by
  have e1 := (h.1 1 (by simp)).1
  have e2 := (h.1 2 (by simp)).1
  have e3 := (h.1 41 (by simp)).1
  simp only [iA, zWc, zRr, e1, e2, e3] at q ⊢
  exact q
theorem iBn_to {n : Nat} {t : Nat → Nat} (h : zsame [7, 8, 43] [7] M M') (q : iBn M n t) : iBn M' n t := by
  have e1 := (h.1 7 (by simp)).1
  have e2 := (h.1 8 (by simp)).1
  have e3 := (h.1 43 (by simp)).1
  have e4 := h.2 7 (by simp)
  simp only [iBn, e1, e2, e3, e4] at q ⊢
  exact q
theorem zR8_to {L : List Int64} (h : zsame [9, 10] [] M M') (q : zR8 M L) : zR8 M' L := by
  have e1 := (h.1 9 (by simp)).1
  have e2 := (h.1 10 (by simp)).2
  simp only [zR8, e1, e2] at q ⊢
  exact q
theorem zR9_to {L : List Int64} (h : zsame [40] [1] M M') (q : zR9 M L) : zR9 M' L := by
  have e2 := (h.1 40 (by simp)).2
  have e4 := h.2 1 (by simp)
  simp only [zR9, e2, e4] at q ⊢
  exact q
theorem iC_to (h : zsame [9, 10, 40] [1] M M') (q : iC M) : iC M' := by
  obtain ⟨L, a, b⟩ := q
  exact ⟨L, zR8_to ⟨fun k hk => h.1 k (by simp at hk ⊢; omega), fun j hj => absurd hj (by simp)⟩ a, zR9_to ⟨fun k hk => h.1 k (by simp at hk ⊢; omega), h.2⟩ b⟩
theorem iDn_to {n : Nat} {a b : Nat → Nat} (h : zsame [30, 31, 32, 60, 61] [32] M M') (q : iDn M n a b) : iDn M' n a b := by
  have e1 := (h.1 30 (by simp)).1
  have e2 := (h.1 31 (by simp)).1
  have e3 := (h.1 32 (by simp)).1
  have e5 := (h.1 60 (by simp)).1
  have e6 := (h.1 61 (by simp)).1
  have e4 := h.2 32 (by simp)
  simp only [iDn, e1, e2, e3, e4, e5, e6] at q ⊢
  exact q
theorem iE_to (h : zsame [11, 12, 45] [14] M M') (q : iE M) : iE M' := by
  have e1 := (h.1 11 (by simp)).1
  have e2 := (h.1 12 (by simp)).1
  have e3 := (h.1 45 (by simp)).1
  have e4 := h.2 14 (by simp)
  simp only [iE, zCo, e1, e2, e3, e4] at q ⊢
  exact q
theorem iF_to (h : zsame [33, 34, 35, 49] [18] M M') (q : iF M) : iF M' := by
  have e1 := (h.1 33 (by simp)).1
  have e2 := (h.1 34 (by simp)).2
  have e3 := (h.1 35 (by simp)).1
  have e5 := (h.1 49 (by simp)).1
  have e4 := h.2 18 (by simp)
  simp only [iF, e1, e2, e3, e4, e5] at q ⊢
  exact q
theorem iG_to {c : Nat} (h : zsame [37, 38, 64, 65, 66] [5] M M') (q : iG c M) : iG (c + 1) M' := by
  have e1 := (h.1 37 (by simp)).2
  have e2 := (h.1 38 (by simp)).1
  have e3 := (h.1 64 (by simp)).1
  have e5 := (h.1 65 (by simp)).1
  have e6 := (h.1 66 (by simp)).1
  have e4 := h.2 5 (by simp)
  simp only [iG, e1, e2, e3, e4, e5, e6] at q ⊢
  obtain ⟨ch, h1, h2⟩ := q
  exact ⟨ch, by omega, h2⟩
end IT
/-! which sets of threads hang together -/
def zbel (p e : Nat) (w : Nat → Nat) (t : Nat) : Nat := if t < 6 then w t * 64 else zcol p e w (t - 6)
def zabv (p e : Nat) (w : Nat → Nat) (t : Nat) : Nat := if t < 6 then (2 ^ e - 1 - w t) * 64 else 2 ^ p - 1 - zcol p e w (t - 6)
def zlow (f : Nat) : Nat := ((List.range 12).find? (fun i => f / 2 ^ i % 2 == 1)).getD 12
def zdf (a b : Nat) : Nat := a ^^^ (a &&& b)
/-- those that one comes to, step by step: seen, and of these the ones that one goes on from -/
def zri (tb : Nat → Nat) (s f : Nat) : Nat → Nat × Nat
  | 0 => (2 ^ f, 2 ^ f)
  | k + 1 => if (zri tb s f k).2 = 0 then zri tb s f k else ((zri tb s f k).1 ||| zdf (tb (zlow (zri tb s f k).2) &&& s) (zri tb s f k).1, ((zri tb s f k).2 - 2 ^ zlow (zri tb s f k).2) ||| zdf (tb (zlow (zri tb s f k).2) &&& s) (zri tb s f k).1)
def zreach (tb : Nat → Nat) (s f : Nat) : Nat := (zri tb s f 12).1
def zHb (p e : Nat) (w : Nat → Nat) (s : Nat) : Bool := decide (s ≠ 0 ∧ zreach (zbel p e w) s (zlow s) = s ∧ zreach (zabv p e w) s (zlow s) = s)
def zall (p e : Nat) : Nat := 2 ^ p - 1 + (2 ^ e - 1) * 64
noncomputable def zcnt (P : Nat → Prop) : Nat → Nat
  | 0 => 0
  | n + 1 => zcnt P n + @ite _ (P n) (Classical.propDecidable _) 1 0
def zTab (M : zM) (p e : Nat) (w : Nat → Nat) : Prop := (∃ H : Nat → Nat, (∀ i, i < 64 → H i < 2 ^ 64 ∧ M.2 24 i = lN (H i)) ∧ ∀ i j, i < 2 ^ e → j < 2 ^ p → ((H i).testBit j = true ↔ zHb p e w (64 * i + j) = true)) ∧ ∀ k, k < 13 → M.1 26 k = nI (zcnt (fun s => zbc s = k ∧ s &&& zall p e = s ∧ zHb p e w s = true) 4096)
def iH (M : zM) : Prop := M.2 21 5 = 0 ∨ ∃ p e w, zCl p e w ∧ M.2 21 5 = lN (zshN p e w) ∧ zTab M p e w
theorem iH_to {M M' : zM} (h : zsame [21, 24, 26] [] M M') (q : iH M) : iH M' := by
  have e1 := (h.1 21 (by simp)).2
  have e2 := (h.1 24 (by simp)).2
  have e3 := (h.1 26 (by simp)).1
  simp only [iH, zTab, e1, e2, e3] at q ⊢
  exact q
def zInv (c : Nat) (M : zM) : Prop := iAx M ∧ iB M ∧ iC M ∧ iD M ∧ iE M ∧ iF M ∧ iG c M ∧ iH M
theorem zInv_to {S s : List Nat} {M M' : zM} {c : Nat} (h : zInv c M) (ho : zOut S s M M') (a : zdis [1, 2, 41] [] S s = true ∨ iAx M') (b : zdis [7, 8, 43] [7] S s = true ∨ iB M') (cc : zdis [9, 10, 40] [1] S s = true ∨ iC M') (d : zdis [30, 31, 32, 60, 61] [32] S s = true ∨ iD M') (e : zdis [11, 12, 45] [14] S s = true ∨ iE M') (f : zdis [33, 34, 35, 49] [18] S s = true ∨ iF M') (g : zdis [37, 38, 64, 65, 66] [5] S s = true ∨ iG (c + 1) M') (hh : zdis [21, 24, 26] [] S s = true ∨ iH M') : zInv (c + 1) M' := by
  obtain ⟨h1, h2, h3, h4, h5, h6, h7, h8⟩ := h
  refine ⟨a.elim (fun q => ?_) id, b.elim (fun q => ?_) id, cc.elim (fun q => iC_to (ho.same q) h3) id, d.elim (fun q => ?_) id, e.elim (fun q => iE_to (ho.same q) h5) id, f.elim (fun q => iF_to (ho.same q) h6) id, g.elim (fun q => iG_to (ho.same q) h7) id, hh.elim (fun q => iH_to (ho.same q) h8) id⟩
  · obtain ⟨p, e, w, hw⟩ := h1
    exact ⟨p, e, w, iA_to (ho.same q) hw⟩
  · obtain ⟨n, t, hw⟩ := h2
    exact ⟨n, t, iBn_to (ho.same q) hw⟩
  · obtain ⟨n, a, b, hw⟩ := h4
    exact ⟨n, a, b, iDn_to (ho.same q) hw⟩
theorem zInv_mono (c : Nat) (M : zM) (h : zInv c M) : zInv (c + 1) M := zInv_to h (S := []) (s := []) zOut.rf (Or.inl rfl) (Or.inl rfl) (Or.inl rfl) (Or.inl rfl) (Or.inl rfl) (Or.inl rfl) (Or.inl rfl) (Or.inl rfl)
