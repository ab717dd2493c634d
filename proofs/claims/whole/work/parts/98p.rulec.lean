/-! a rule's text: the class's machine -/
def zbi (c : Nat) : Nat := if c = 1042 ∨ c = 1047 then 3 else if c = 1043 ∨ c = 1045 then 2 else if c = 1060 ∨ c = 1061 ∨ c = 1062 then 1 else if c = 1256 then 4 else 0
theorem zbi_e : ∀ c, c < 1300 → f4_bindingOf (nI c) = some (nI (zbi c)) := by
  have k : ∀ a, a < 40 → ∀ b, b < 40 → f4_bindingOf (nI (40 * a + b)) = some (nI (zbi (40 * a + b))) := by decide +kernel
  intro c hc
  have := k (c / 40) (by omega) (c % 40) (by omega)
  rwa [show 40 * (c / 40) + c % 40 = c by omega] at this
theorem zbi_lt (c : Nat) : zbi c < 5 := by
  unfold zbi
  split
  · omega
  · split
    · omega
    · split
      · omega
      · split <;> omega
abbrev zL5 : Type := List Nat × List Nat × Nat × List Bool × Bool
def zrel (b : Nat) : List Nat → List Nat → List Nat × List Nat
  | o, [] => (o, [])
  | o, c :: r => if zbi c < b then (o, c :: r) else zrel b (o ++ [c]) r
def ztrt (s : Nat) : Bool := decide (s = 99 ∨ s = 101 ∨ s = 105 ∨ s = 107 ∨ s = 108 ∨ s = 110 ∨ s = 111 ∨ s = 115)
theorem ztrt_e : ∀ s, s < 256 → f4_isTrait (nI s) = some (nI (zi (ztrt s))) := by decide +kernel
def zstT (s : Nat) (st : zL5) : Option zL5 :=
  if s = 45 then some (st.1, 1256 :: st.2.1, st.2.2.1, st.2.2.2.1, true)
  else if s = 40 then (if st.2.2.2.1.length < 5 then some (st.1, 1040 :: st.2.1, st.2.2.1, false :: st.2.2.2.1, true) else none)
  else if 48 ≤ s ∧ s ≤ 57 then some (st.1 ++ [s - 48], st.2.1, 1, st.2.2.2.1, false)
  else if ztrt s = true then some (st.1 ++ [1000 + s], st.2.1, 3, st.2.2.2.1, false)
  else none
def zstJ (s : Nat) (st : zL5) : Option zL5 :=
  if 48 ≤ s ∧ s ≤ 57 then (if 3 ≤ st.2.2.1 then none else some (st.1.dropLast ++ [10 * st.1.getLastD 0 + (s - 48)], st.2.1, st.2.2.1 + 1, st.2.2.2.1, false))
  else if s = 41 then (if st.2.2.2.1.length ≤ 1 then none else some ((zrel 1 st.1 st.2.1).1, (zrel 1 st.1 st.2.1).2.tail, 3, st.2.2.2.1.tail, false))
  else if zbi (1000 + s) = 0 then none
  else if zbi (1000 + s) = 1 ∧ st.2.2.2.1.headD false = true then none
  else some ((zrel (zbi (1000 + s)) st.1 st.2.1).1, (1000 + s) :: (zrel (zbi (1000 + s)) st.1 st.2.1).2, st.2.2.1, (st.2.2.2.1.headD false || zbi (1000 + s) == 1) :: st.2.2.2.1.tail, true)
def zstp (s : Nat) (st : zL5) : Option zL5 := if st.2.2.2.2 = true then zstT s st else zstJ s st
def zcnt4 : List Nat → Nat
  | [] => 0
  | c :: r => (if c = 1040 then 1 else 0) + zcnt4 r
/-- what stands of a state, whatever holds it -/
def zwfs (st : zL5) (p : Nat) : Prop := st.1.length + st.2.1.length ≤ p ∧ 1 ≤ st.2.2.2.1.length ∧ st.2.2.2.1.length ≤ 5 ∧ zcnt4 st.2.1 + 1 = st.2.2.2.1.length ∧ (∀ c, c ∈ st.2.1 → c < 1300 ∧ (c = 1040 ∨ 1 ≤ zbi c)) ∧ (st.2.2.2.2 = false → st.1 ≠ [] ∧ st.2.2.1 ≤ 3)
/-- the class's memory of it -/
def zmO (x : zM) (o : List Nat) : Prop := x.1 16 1 = nI o.length ∧ ∀ i c, o[i]? = some c → x.1 17 i = nI c
def zmW2 (x : zM) (l : List Nat) : Prop := x.1 16 3 = nI l.length ∧ ∀ k c, l[k]? = some c → x.1 18 (l.length - 1 - k) = nI c
def zmC (x : zM) (l : List Bool) : Prop := x.1 16 5 = nI (l.length - 1) ∧ ∀ k b, l[k]? = some b → x.1 19 (l.length - 1 - k) = nI (zi b)
def zcM (x : zM) (st : zL5) (p : Nat) : Prop := zwfs st p ∧ zmO x st.1 ∧ zmW2 x st.2.1 ∧ zmC x st.2.2.2.1 ∧ x.1 16 7 = nI (zi st.2.2.2.2) ∧ (st.2.2.2.2 = false → x.1 16 6 = nI st.2.2.1)
section RC
variable {x : zM}
theorem zmO.ap {o : List Nat} (h : zmO x o) (ho : o.length < 40) (v : Nat) : ∃ y, f4_emit 16 (nI v) x = some y ∧ zmO y (o ++ [v]) ∧ (∀ k, k ≠ 16 → k ≠ 17 → y.1 k = x.1 k) ∧ ∀ j, j ≠ 1 → y.1 16 j = x.1 16 j := by
  obtain ⟨h1, h2⟩ := h
  refine ⟨zsi (zsi x 17 o.length (nI v)) 16 1 (nI (o.length + 1)), ?_, ⟨by simp [zsi1], fun i c hi => ?_⟩, fun k k1 k2 => by rw [zsi_ne k1, zsi_ne k2], fun j hj => by simp [zsi1, hj]⟩
  · have e : (zsi x 17 o.length (nI v)).1 16 1 = nI o.length := by simp [zsi1, h1]
    rw [f4_emit, h1, if_neg (show ¬ (40 : Int32) ≤ nI o.length from nI_ge (b := 40) ho (by omega)), zpI_n ho (by omega), Option.bind_some, e, nI_1]
  · rw [zsi_ne (by omega), zsi1]
    by_cases g : i = o.length
    · rw [if_pos ⟨rfl, g⟩]
      rw [g, List.getElem?_append_right (Nat.le_refl _), Nat.sub_self] at hi
      have : v = c := by simpa using hi
      rw [this]
    · rw [if_neg (fun q => g q.2)]
      have hl := (List.getElem?_eq_some_iff.mp hi).1
      rw [List.length_append] at hl
      have hl2 : i < o.length := by
        have : i < o.length + 1 := hl
        omega
      rw [List.getElem?_append_left hl2] at hi
      exact h2 i c hi
theorem zmW2.pu {l : List Nat} (h : zmW2 x l) (hl : l.length < 40) (v : Nat) : ∃ y, f4_hold 16 (nI v) x = some y ∧ zmW2 y (v :: l) ∧ (∀ k, k ≠ 16 → k ≠ 18 → y.1 k = x.1 k) ∧ ∀ j, j ≠ 3 → y.1 16 j = x.1 16 j := by
  obtain ⟨h1, h2⟩ := h
  refine ⟨zsi (zsi x 18 l.length (nI v)) 16 3 (nI (l.length + 1)), ?_, ⟨by simp [zsi1], fun k c hi => ?_⟩, fun k k1 k2 => by rw [zsi_ne k1, zsi_ne k2], fun j hj => by simp [zsi1, hj]⟩
  · have e : (zsi x 18 l.length (nI v)).1 16 3 = nI l.length := by simp [zsi1, h1]
    rw [f4_hold, h1, if_neg (show ¬ (40 : Int32) ≤ nI l.length from nI_ge (b := 40) hl (by omega)), zpI_n hl (by omega), Option.bind_some, e, nI_1]
  · rw [zsi_ne (by omega), zsi1, List.length_cons]
    have hk := (List.getElem?_eq_some_iff.mp hi).1
    rw [List.length_cons] at hk
    cases k with
    | zero =>
      have : v = c := by simpa using hi
      rw [if_pos ⟨rfl, by omega⟩, this]
    | succ k =>
      rw [if_neg (by omega), show l.length + 1 - 1 - (k + 1) = l.length - 1 - k by omega]
      exact h2 k c (by simpa using hi)
theorem zmW2.po {l : List Nat} {v : Nat} (h : zmW2 x (v :: l)) {y : zM} (h1 : y.1 16 3 = nI l.length) (h2 : y.1 18 = x.1 18) : zmW2 y l := by
  refine ⟨h1, fun k c hi => ?_⟩
  have := h.2 (k + 1) c (by simpa using hi)
  rw [List.length_cons, show l.length + 1 - 1 - (k + 1) = l.length - 1 - k by omega] at this
  rw [h2]
  exact this
theorem zmO.to {o : List Nat} {y : zM} (h : zmO x o) (h1 : y.1 16 1 = x.1 16 1) (h2 : y.1 17 = x.1 17) : zmO y o := by
  simp only [zmO, h1, h2]
  exact h
theorem zmW2.to {l : List Nat} {y : zM} (h : zmW2 x l) (h1 : y.1 16 3 = x.1 16 3) (h2 : y.1 18 = x.1 18) : zmW2 y l := by
  simp only [zmW2, h1, h2]
  exact h
theorem zmC.to {l : List Bool} {y : zM} (h : zmC x l) (h1 : y.1 16 5 = x.1 16 5) (h2 : y.1 19 = x.1 19) : zmC y l := by
  simp only [zmC, h1, h2]
  exact h
/-- signs that wait come out -/
theorem c_release {b : Nat} (hb : b < 5) : ∀ (l o : List Nat) (f : Nat) (x : zM), l.length < f → zmO x o → zmW2 x l → o.length + l.length < 41 → (∀ c, c ∈ l → c < 1300) → ∃ y, f4_release_0 16 f (nI b) x = some y ∧ zmO y (zrel b o l).1 ∧ zmW2 y (zrel b o l).2 ∧ (∀ k, k ≠ 16 → k ≠ 17 → y.1 k = x.1 k) ∧ ∀ j, j ≠ 1 → j ≠ 3 → y.1 16 j = x.1 16 j := by
  intro l
  induction l with
  | nil =>
    intro o f x hf h1 h2 h3 h4
    obtain ⟨f, rfl⟩ : ∃ g, f = g + 1 := ⟨f - 1, by omega⟩
    refine ⟨x, ?_, h1, h2, fun _ _ _ => rfl, fun _ _ _ => rfl⟩
    rw [f4_release_0, h2.1, if_pos (show nI ([] : List Nat).length ≤ 0 by decide)]
  | cons c r ih =>
    intro o f x hf h1 h2 h3 h4
    obtain ⟨f, rfl⟩ : ∃ g, f = g + 1 := ⟨f - 1, by omega⟩
    rw [List.length_cons] at hf h3
    have hcl := h4 c (List.mem_cons_self)
    have hbc := zbi_lt c
    have ht : x.1 18 r.length = nI c := by
      have := h2.2 0 c rfl
      rw [List.length_cons] at this
      simpa using this
    have e3 : x.1 16 3 = nI (r.length + 1) := h2.1
    have st : f4_release_0 16 (f + 1) (nI b) x = if zbi c < b then some x else (f4_emit 16 (nI c) (zsi x 16 3 (nI r.length))).bind fun M4 => f4_release_0 16 f (nI b) M4 := by
      have em : nI (r.length + 1) - 1 = nI r.length := nI_sub (a := r.length + 1) (b := 1) (by omega)
      have er : (zsi x 16 3 (nI r.length)).1 16 3 = nI r.length := by simp [zsi1]
      rw [f4_release_0, e3, if_neg (nI_nle (by omega) (by omega)), em, zaI_n (by omega) (by omega), ht, Option.bind_some, zbi_e c hcl, Option.bind_some]
      by_cases g : zbi c < b
      · rw [if_pos (nI_lt g (by omega)), if_pos g]
      · rw [if_neg (nI_nlt (by omega) (by omega)), if_neg g, er, zaI_n (by omega) (by omega), zsi_ne (by omega), ht, Option.bind_some]
    rw [st, zrel]
    by_cases g : zbi c < b
    · rw [if_pos g, if_pos g]
      exact ⟨x, rfl, h1, h2, fun _ _ _ => rfl, fun _ _ _ => rfl⟩
    · rw [if_neg g, if_neg g]
      have a1 : zmO (zsi x 16 3 (nI r.length)) o := h1.to (by simp [zsi1]) (zsi_ne (by omega))
      have a2 : zmW2 (zsi x 16 3 (nI r.length)) r := h2.po (by simp [zsi1]) (zsi_ne (by omega))
      obtain ⟨y, y1, y2, y3, y4⟩ := a1.ap (by omega) c
      rw [y1, Option.bind_some]
      obtain ⟨z, z1, z2, z3, z4, z5⟩ := ih (o ++ [c]) f y (by omega) y2 (a2.to (y4 3 (by omega)) (y3 18 (by omega) (by omega))) (by rw [List.length_append]; show o.length + 1 + r.length < 41; omega) (fun d hd => h4 d (List.mem_cons_of_mem _ hd))
      refine ⟨z, z1, z2, z3, fun k k1 k2 => by rw [z4 k k1 k2, y3 k k1 k2, zsi_ne k1], fun j j1 j2 => by rw [z5 j j1 j2, y4 j j1, zsi1, if_neg (fun q => j2 q.2)]⟩
theorem zrel_len (b : Nat) : ∀ (l o : List Nat), (zrel b o l).1.length + (zrel b o l).2.length = o.length + l.length ∧ ((zrel b o l).1 = [] → o = []) ∧ (∀ c, c ∈ (zrel b o l).2 → c ∈ l) ∧ (1 ≤ b → zcnt4 (zrel b o l).2 = zcnt4 l) := by
  intro l
  induction l with
  | nil => exact fun o => ⟨rfl, fun q => q, fun c hc => hc, fun _ => rfl⟩
  | cons c r ih =>
    intro o
    rw [zrel]
    by_cases g : zbi c < b
    · rw [if_pos g]
      exact ⟨rfl, fun q => q, fun d hd => hd, fun _ => rfl⟩
    · rw [if_neg g]
      obtain ⟨i1, i2, i3, i4⟩ := ih (o ++ [c])
      refine ⟨?_, fun q => ?_, fun d hd => List.mem_cons_of_mem _ (i3 d hd), fun hb => ?_⟩
      · have e1 : (o ++ [c]).length = o.length + 1 := by simp
        have e2 : (c :: r).length = r.length + 1 := rfl
        omega
      · have := i2 q
        simp at this
      · have hc : c ≠ 1040 := by
          intro q
          subst q
          exact g (show zbi 1040 < b by have : zbi 1040 = 0 := rfl; omega)
        rw [i4 hb, zcnt4, if_neg hc, Nat.zero_add]
theorem zrel_top (b : Nat) : ∀ (l o : List Nat) c r, (zrel b o l).2 = c :: r → zbi c < b := by
  intro l
  induction l with
  | nil => exact fun o c r q => by simp [zrel] at q
  | cons d r' ih =>
    intro o c r q
    rw [zrel] at q
    by_cases g : zbi d < b
    · rw [if_pos g] at q
      have : d = c := (List.cons.inj q).1
      rw [← this]
      exact g
    · rw [if_neg g] at q
      exact ih _ _ _ q
theorem c_thing {st : zL5} {p s : Nat} (h : zcM x st p) (hw : st.2.2.2.2 = true) (hp : p < 40) (hs : s < 256) : (∃ st' y, zstT s st = some st' ∧ f4_takesThing 16 (nI s) x = some (1, y) ∧ zcM y st' (p + 1)) ∨ (zstT s st = none ∧ ∃ y, f4_takesThing 16 (nI s) x = some (0, y)) := by
  obtain ⟨o, l, dg, cm, wt⟩ := st
  simp only [] at hw
  subst hw
  obtain ⟨⟨w1, w2, w3, w4, w5, w6⟩, hO, hW, hC, h7, h6⟩ := h
  simp only [] at w1 w2 w3 w4 w5 w6 hO hW hC h7 h6
  unfold zstT
  simp only []
  by_cases g1 : s = 45
  · subst g1
    obtain ⟨y, y1, y2, y3, y4⟩ := hW.pu (by omega) 1256
    refine Or.inl ⟨_, y, if_pos rfl, ?_, ⟨by simp only [List.length_cons]; omega, w2, w3, ?_, ?_, fun q => Bool.noConfusion (show true = false from q)⟩, hO.to (y4 1 (by omega)) (y3 17 (by omega) (by omega)), y2, hC.to (y4 5 (by omega)) (y3 19 (by omega) (by omega)), by rw [y4 7 (by omega)]; exact h7, fun q => Bool.noConfusion (show true = false from q)⟩
    · rw [f4_takesThing, if_pos (show nI 45 = 45 from rfl), show (1256 : Int32) = nI 1256 from rfl, y1]
      rfl
    · show zcnt4 (1256 :: l) + 1 = _
      rw [zcnt4, if_neg (by decide), Nat.zero_add]
      exact w4
    · intro c hc
      rcases List.mem_cons.mp hc with q | q
      · subst q
        exact ⟨by omega, Or.inr (by decide)⟩
      · exact w5 c q
  · rw [if_neg g1]
    have i1 : ¬ nI s = 45 := nI_ne (b := 45) g1 (by omega) (by omega)
    by_cases g2 : s = 40
    · subst g2
      rw [if_pos rfl]
      by_cases g3 : cm.length < 5
      · rw [if_pos g3]
        have e5 : (zsi x 16 5 (nI (cm.length - 1) + 1)).1 16 5 = nI cm.length := by
          rw [zsi1, if_pos ⟨rfl, rfl⟩, nI_1]
          congr 1
          omega
        have aW : zmW2 (zsi (zsi x 16 5 (nI (cm.length - 1) + 1)) 19 cm.length (nI 0)) l := hW.to (by simp [zsi1]) (by rw [zsi_ne (by omega), zsi_ne (by omega)])
        obtain ⟨y, y1, y2, y3, y4⟩ := aW.pu (by omega) 1040
        refine Or.inl ⟨_, y, rfl, ?_, ⟨by simp only [List.length_cons]; omega, by simp only [List.length_cons]; omega, by simp only [List.length_cons]; omega, ?_, ?_, fun q => Bool.noConfusion (show true = false from q)⟩, hO.to (by rw [y4 1 (by omega)]; simp [zsi1]) (by rw [y3 17 (by omega) (by omega), zsi_ne (by omega), zsi_ne (by omega)]), y2, ⟨?_, ?_⟩, by rw [y4 7 (by omega)]; simpa [zsi1] using h7, fun q => Bool.noConfusion (show true = false from q)⟩
        · rw [f4_takesThing, if_neg (by decide), if_pos (by decide), hC.1, if_pos (show nI (cm.length - 1) < 4 from nI_lt (b := 4) (by omega) (by omega)), e5, zpZ_n (by omega) (by omega), Option.bind_some, show vp_nar .boolean 0 = nI 0 from rfl, show (1040 : Int32) = nI 1040 from rfl, y1]
          rfl
        · show zcnt4 (1040 :: l) + 1 = (false :: cm).length
          rw [zcnt4, if_pos rfl, List.length_cons]
          omega
        · intro c hc
          rcases List.mem_cons.mp hc with q | q
          · subst q
            exact ⟨by omega, Or.inl rfl⟩
          · exact w5 c q
        · show y.1 16 5 = nI ((false :: cm).length - 1)
          rw [y4 5 (by omega), zsi_ne (by omega), e5, List.length_cons]
          rfl
        · intro k b hk
          show y.1 19 ((false :: cm).length - 1 - k) = nI (zi b)
          rw [y3 19 (by omega) (by omega), zsi1, zsi_ne (by omega), List.length_cons]
          have hkl := (List.getElem?_eq_some_iff.mp hk).1
          rw [List.length_cons] at hkl
          cases k with
          | zero =>
            have : false = b := by simpa using hk
            rw [if_pos ⟨rfl, by omega⟩, ← this]
            rfl
          | succ k =>
            rw [if_neg (by omega), show cm.length + 1 - 1 - (k + 1) = cm.length - 1 - k by omega]
            exact hC.2 k b (by simpa using hk)
      · rw [if_neg g3]
        refine Or.inr ⟨rfl, x, ?_⟩
        rw [f4_takesThing, if_neg (by decide), if_pos (by decide), hC.1, if_neg (show ¬ nI (cm.length - 1) < 4 from nI_nlt (b := 4) (by omega) (by omega))]
    · rw [if_neg g2]
      have i2 : ¬ nI s = 40 := nI_ne (b := 40) g2 (by omega) (by omega)
      have ed : (if nI s < 48 then (0 : Int32) else (if (57 : Int32) < nI s then 0 else 1)) = nI (zi (decide (48 ≤ s ∧ s ≤ 57))) := by
        by_cases q1 : 48 ≤ s
        · rw [if_neg (show ¬ nI s < 48 from nI_nlt (b := 48) q1 (by omega))]
          by_cases q2 : s ≤ 57
          · rw [if_neg (show ¬ (57 : Int32) < nI s from nI_nlt (a := 57) q2 (by omega)), decide_eq_true ⟨q1, q2⟩]
            rfl
          · rw [if_pos (show (57 : Int32) < nI s from nI_lt (a := 57) (by omega) (by omega)), decide_eq_false (fun q => q2 q.2)]
            rfl
        · rw [if_pos (show nI s < 48 from nI_lt (b := 48) (by omega) (by omega)), decide_eq_false (fun q => q1 q.1)]
          rfl
      have fin : ∀ v d : Nat, d ≤ 3 → ∃ y, ((f4_emit 16 (nI v) x).bind fun M1 => some ((1 : Int32), (zsi (zsi M1 16 6 (nI d)) 16 7 0))) = some (1, y) ∧ zcM y (o ++ [v], l, d, cm, false) (p + 1) := by
        intro v d hd
        obtain ⟨y, y1, y2, y3, y4⟩ := hO.ap (by omega) v
        refine ⟨zsi (zsi y 16 6 (nI d)) 16 7 0, by rw [y1]; rfl, ⟨by simp only [List.length_append]; show o.length + 1 + l.length ≤ _; omega, w2, w3, w4, w5, fun _ => ⟨by simp, hd⟩⟩, y2.to (by simp [zsi1]) (by rw [zsi_ne (by omega), zsi_ne (by omega)]), hW.to (by simp [zsi1, y4 3 (by omega)]) (by rw [zsi_ne (by omega), zsi_ne (by omega), y3 18 (by omega) (by omega)]), hC.to (by simp [zsi1, y4 5 (by omega)]) (by rw [zsi_ne (by omega), zsi_ne (by omega), y3 19 (by omega) (by omega)]), by simp [zsi1]; rfl, fun _ => by simp [zsi1]⟩
      by_cases g3 : 48 ≤ s ∧ s ≤ 57
      · rw [if_pos g3]
        rw [decide_eq_true g3] at ed
        obtain ⟨y, y1, y2⟩ := fin (s - 48) 1 (by omega)
        refine Or.inl ⟨_, y, rfl, ?_, y2⟩
        rw [f4_takesThing, if_neg i1, if_neg i2, ed, if_neg (by decide), f4_takesThing_91, if_neg (by decide), if_neg (by decide), show nI s - 48 = nI (s - 48) from nI_sub (b := 48) g3.1]
        exact y1
      · rw [if_neg g3]
        rw [decide_eq_false g3] at ed
        by_cases g4 : ztrt s = true
        · rw [if_pos g4]
          obtain ⟨y, y1, y2⟩ := fin (1000 + s) 3 (by omega)
          refine Or.inl ⟨_, y, rfl, ?_, y2⟩
          rw [f4_takesThing, if_neg i1, if_neg i2, ed, if_pos (show nI (zi false) = 0 from rfl), ztrt_e s hs, Option.bind_some, g4, if_neg (by decide), f4_takesThing_91, if_pos (show nI (zi false) = 0 from rfl), if_pos (show nI (zi false) = 0 from rfl), show (1000 : Int32) + nI s = nI (1000 + s) from nI_add 1000 s]
          exact y1
        · rw [if_neg g4]
          have g4' : ztrt s = false := by simpa using g4
          refine Or.inr ⟨rfl, x, ?_⟩
          rw [f4_takesThing, if_neg i1, if_neg i2, ed, if_pos (show nI (zi false) = 0 from rfl), ztrt_e s hs, Option.bind_some, g4', if_pos (show nI (zi false) = 0 from rfl)]
end RC
