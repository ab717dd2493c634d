/-! the words of the told functions: reads and writes that look at their bounds -/
def zaI (M : zM) (n a : Nat) (i : Int32) : Option Int32 := if i < 0 ∨ n ≤ i.toNatClampNeg then none else some (M.1 a i.toNatClampNeg)
def zaJ (M : zM) (n a : Nat) (i : Int32) : Option Int64 := if i < 0 ∨ n ≤ i.toNatClampNeg then none else some (M.2 a i.toNatClampNeg)
def zpI (M : zM) (n a : Nat) (i v : Int32) : Option zM := if i < 0 ∨ n ≤ i.toNatClampNeg then none else some (zsi M a i.toNatClampNeg v)
def zpJ (M : zM) (n a : Nat) (i : Int32) (v : Int64) : Option zM := if i < 0 ∨ n ≤ i.toNatClampNeg then none else some (zsj M a i.toNatClampNeg v)
def zpZ (M : zM) (n a : Nat) (i v : Int32) : Option zM := zpI M n a i (vp_nar .boolean v)
def zdiv (x y : Int32) : Option Int32 := if y = 0 then none else some (x / y)
def zmod (x y : Int32) : Option Int32 := if y = 0 then none else some (zrem x y)
def zldiv (x y : Int64) : Option Int64 := if y = 0 then none else some (x / y)
def zlmod (x y : Int64) : Option Int64 := if y = 0 then none else some (zlrem x y)
def zbl (x : Int32) : Option Int32 := if x = 0 ∨ x = 1 then some x else none
def zfuel : Nat := 5000
def zmax (x y : Int32) : Int32 := if x < y then y else x
def zmin (x y : Int32) : Int32 := if y < x then y else x
theorem z_oi {α : Type} {c : Prop} {h : Decidable c} {a v : α} (e : (if c then none else some a) = some v) : ¬ c ∧ v = a := by
  by_cases hc : c
  · rw [if_pos hc] at e; cases e
  · rw [if_neg hc] at e; cases e; exact ⟨hc, rfl⟩
theorem z_bind {α β : Type} {o : Option α} {f : α → Option β} {r : β} (h : o.bind f = some r) : ∃ a, o = some a ∧ f a = some r := Option.bind_eq_some_iff.mp h
theorem zbl_ok {x v : Int32} (h : zbl x = some v) : v = x ∧ narrow .boolean (.int x) = .int x := by
  by_cases hc : x = 0 ∨ x = 1
  · rw [zbl, if_pos hc] at h
    cases h
    rcases hc with rfl | rfl <;> exact ⟨rfl, rfl⟩
  · rw [zbl, if_neg hc] at h; cases h
section ZO
variable {T : List zN} {own : String} {code : ByteArray} {nL : Nat} {B : zB} {cells slots pc : Nat} {ls ls' : List (Nat × Value)} {st : List Value} {M M' : zM}
theorem zo_iald {o n : Nat} {i v : Int32} (hT : T[o]? = some (.inl (0, n))) (hx : zaI M n o i = some v) (hd : decode code pc = .ok (.iaload, 1)) (k : zJ T own code nL B cells slots (pc + 1) ls (.int v :: st) M) : zJ T own code nL B cells slots pc ls (.int i :: .ref o :: st) M := by
  obtain ⟨h1, rfl⟩ := z_oi hx
  exact zg_iald hT h1 hd k
theorem zo_zald {o n : Nat} {i v : Int32} (hT : T[o]? = some (.inl (2, n))) (hx : zaI M n o i = some v) (hd : decode code pc = .ok (.baload, 1)) (k : zJ T own code nL B cells slots (pc + 1) ls (.int v :: st) M) : zJ T own code nL B cells slots pc ls (.int i :: .ref o :: st) M := by
  obtain ⟨h1, rfl⟩ := z_oi hx
  exact zg_zald hT h1 hd k
theorem zo_lald {o n : Nat} {i : Int32} {v : Int64} (hT : T[o]? = some (.inl (1, n))) (hx : zaJ M n o i = some v) (hd : decode code pc = .ok (.laload, 1)) (k : zJ T own code nL B cells slots (pc + 1) ls (.long v :: st) M) : zJ T own code nL B cells slots pc ls (.int i :: .ref o :: st) M := by
  obtain ⟨h1, rfl⟩ := z_oi hx
  exact zg_lald hT h1 hd k
theorem zo_iast {o n : Nat} {i v : Int32} (hT : T[o]? = some (.inl (0, n))) (hx : zpI M n o i v = some M') (hd : decode code pc = .ok (.iastore, 1)) (k : zJ T own code nL B cells slots (pc + 1) ls st M') : zJ T own code nL B cells slots pc ls (.int v :: .int i :: .ref o :: st) M := by
  obtain ⟨h1, rfl⟩ := z_oi hx
  exact zg_iast hT h1 hd k
theorem zo_zast {o n : Nat} {i v : Int32} (hT : T[o]? = some (.inl (2, n))) (hx : zpZ M n o i v = some M') (hd : decode code pc = .ok (.bastore, 1)) (k : zJ T own code nL B cells slots (pc + 1) ls st M') : zJ T own code nL B cells slots pc ls (.int v :: .int i :: .ref o :: st) M := by
  obtain ⟨h1, rfl⟩ := z_oi hx
  exact zg_zast hT h1 hd k
theorem zo_last {o n : Nat} {i : Int32} {v : Int64} (hT : T[o]? = some (.inl (1, n))) (hx : zpJ M n o i v = some M') (hd : decode code pc = .ok (.lastore, 1)) (k : zJ T own code nL B cells slots (pc + 1) ls st M') : zJ T own code nL B cells slots pc ls (.long v :: .int i :: .ref o :: st) M := by
  obtain ⟨h1, rfl⟩ := z_oi hx
  exact zg_last hT h1 hd k
-- at a written place
theorem zo_ialdc {o n : Nat} {i : Int32} (j : Nat) (hT : T[o]? = some (.inl (0, n))) (hj : ¬ i < 0 ∧ i.toNatClampNeg = j) (hn : Nat.blt j n = true) (hd : decode code pc = .ok (.iaload, 1)) (k : zJ T own code nL B cells slots (pc + 1) ls (.int (M.1 o j) :: st) M) : zJ T own code nL B cells slots pc ls (.int i :: .ref o :: st) M := by
  obtain ⟨h0, rfl⟩ := hj
  have hlt : i.toNatClampNeg < n := by simpa using hn
  exact zg_iald hT (fun h => by rcases h with h | h; exact h0 h; omega) hd k
theorem zo_iastc {o n : Nat} {i v : Int32} (j : Nat) (hT : T[o]? = some (.inl (0, n))) (hj : ¬ i < 0 ∧ i.toNatClampNeg = j) (hn : Nat.blt j n = true) (hd : decode code pc = .ok (.iastore, 1)) (k : zJ T own code nL B cells slots (pc + 1) ls st (zsi M o j v)) : zJ T own code nL B cells slots pc ls (.int v :: .int i :: .ref o :: st) M := by
  obtain ⟨h0, rfl⟩ := hj
  have hlt : i.toNatClampNeg < n := by simpa using hn
  exact zg_iast hT (fun h => by rcases h with h | h; exact h0 h; omega) hd k
theorem zo_idiv {x y v : Int32} (hx : zdiv x y = some v) (hd : decode code pc = .ok (.idiv, 1)) (k : zJ T own code nL B cells slots (pc + 1) ls (.int v :: st) M) : zJ T own code nL B cells slots pc ls (.int y :: .int x :: st) M := by
  obtain ⟨h1, rfl⟩ := z_oi hx
  exact zg_idiv h1 hd k
theorem zo_irem {x y v : Int32} (hx : zmod x y = some v) (hd : decode code pc = .ok (.irem, 1)) (k : zJ T own code nL B cells slots (pc + 1) ls (.int v :: st) M) : zJ T own code nL B cells slots pc ls (.int y :: .int x :: st) M := by
  obtain ⟨h1, rfl⟩ := z_oi hx
  exact zg_irem h1 hd k
theorem zo_ldiv {x y v : Int64} (hx : zldiv x y = some v) (hd : decode code pc = .ok (.ldiv, 1)) (k : zJ T own code nL B cells slots (pc + 1) ls (.long v :: st) M) : zJ T own code nL B cells slots pc ls (.long y :: .long x :: st) M := by
  obtain ⟨h1, rfl⟩ := z_oi hx
  exact zg_ldiv h1 hd k
theorem zo_lrem {x y v : Int64} (hx : zlmod x y = some v) (hd : decode code pc = .ok (.lrem, 1)) (k : zJ T own code nL B cells slots (pc + 1) ls (.long v :: st) M) : zJ T own code nL B cells slots pc ls (.long y :: .long x :: st) M := by
  obtain ⟨h1, rfl⟩ := z_oi hx
  exact zg_lrem h1 hd k
theorem zo_getr {i ci j o : Nat} {lay : List Nat} (o' off : Nat) (ho : o + (off + 1) = o') (hf : zFL own i ci j) (hT : T[o]? = some (.inr (ci, lay))) (hj : lay[j]? = some (off + 3)) (hd : decode code pc = .ok (.getfield i, 3)) (k : zJ T own code nL B cells slots (pc + 3) ls (.ref o' :: st) M) : zJ T own code nL B cells slots pc ls (.ref o :: st) M := by
  subst ho
  exact zg_getr off hf hT hj hd k
theorem zo_sub (ks : List Nat) (hs : ks.filterMap (fun k => ls[k]?) = ls') (k : zJ T own code nL B cells slots pc ls' st M) : zJ T own code nL B cells slots pc ls st M := by
  refine zg_drop (fun q hq => ?_) k
  rw [← hs] at hq
  obtain ⟨i, -, hi⟩ := List.mem_filterMap.mp hq
  exact List.mem_of_getElem? hi
/-- Math.max, Math.min -/
theorem zo_max {i : Nat} {x y : Int32} (hL : zLS own i Lib.Math.max.name) (hR : 1 ≤ B.1.frames ∧ (st.map Value.category).sum + 13 ≤ B.1.locals ∧ cells ≤ B.1.cells ∧ slots ≤ B.1.slots) (hI : Cond.initialized "java/lang/Math" ∈ z_tb) (hc : Cond.code Lib.Math.max.name Lib.Math.max.code 2 (some .int) ∈ z_tb) (hd : decode code pc = .ok (.invokestatic i, 3)) (k : zJ T own code nL B cells slots (pc + 3) ls (.int (zmax x y) :: st) M) : zJ T own code nL B cells slots pc ls (.int y :: .int x :: st) M := by
  intro p l e s m args below meth c E H locs a hC hB hX hP hS hl
  exact va_mmax hC.1 hC.2.1 (hC.2.2.1.trans hl.1.symm) hC.2.2.2.1 (hC.2.2.2.2 _ hL.1) (hC.2.2.2.2 _ hL.2) (hC.2.2.2.2 _ hI) (hC.2.2.2.2 _ hc) hR.1 (by rw [List.map_map, show ((fun v => v.category) ∘ zv E) = Value.category from funext fun v => zv_cat E v]; exact hR.2.1) hR.2.2.1 hR.2.2.2 hd (k p l e s m args below meth c E H locs a hC hB hX hP hS hl)
theorem zo_min {i : Nat} {x y : Int32} (hL : zLS own i Lib.Math.min.name) (hR : 1 ≤ B.1.frames ∧ (st.map Value.category).sum + 13 ≤ B.1.locals ∧ cells ≤ B.1.cells ∧ slots ≤ B.1.slots) (hI : Cond.initialized "java/lang/Math" ∈ z_tb) (hc : Cond.code Lib.Math.min.name Lib.Math.min.code 2 (some .int) ∈ z_tb) (hd : decode code pc = .ok (.invokestatic i, 3)) (k : zJ T own code nL B cells slots (pc + 3) ls (.int (zmin x y) :: st) M) : zJ T own code nL B cells slots pc ls (.int y :: .int x :: st) M := by
  intro p l e s m args below meth c E H locs a hC hB hX hP hS hl
  exact va_mmin hC.1 hC.2.1 (hC.2.2.1.trans hl.1.symm) hC.2.2.2.1 (hC.2.2.2.2 _ hL.1) (hC.2.2.2.2 _ hL.2) (hC.2.2.2.2 _ hI) (hC.2.2.2.2 _ hc) hR.1 (by rw [List.map_map, show ((fun v => v.category) ∘ zv E) = Value.category from funext fun v => zv_cat E v]; exact hR.2.1) hR.2.2.1 hR.2.2.2 hd (k p l e s m args below meth c E H locs a hC hB hX hP hS hl)
/-- System.arraycopy of a whole row of ints -/
def zcpI (M : zM) (src dst n : Nat) : zM := (fun k => if k = dst then va_cpy (M.1 src) (M.1 dst) 0 0 n else M.1 k, M.2)
theorem zo_copy {i src dst n0 n1 : Nat} (nn : Nat) {n : Int32} (hL : zLS own i arraycopyName) (hN : Cond.native arraycopyName ∈ z_tb) (hI : Cond.initialized "java/lang/System" ∈ z_tb) (hT0 : T[src]? = some (.inl (0, n0))) (hT1 : T[dst]? = some (.inl (0, n1))) (hn : ¬ n < 0 ∧ n.toNatClampNeg = nn) (h0 : Nat.ble nn n0 = true) (h1 : Nat.ble nn n1 = true) (hR : 1 ≤ B.1.frames ∧ (st.map Value.category).sum + (nativeFrameWords "java/lang/System" "arraycopy" 5 + 11) ≤ B.1.locals) (hd : decode code pc = .ok (.invokestatic i, 3)) (k : zJ T own code nL B cells slots (pc + 3) ls st (zcpI M src dst nn)) : zJ T own code nL B cells slots pc ls (.int n :: .int 0 :: .ref dst :: .int 0 :: .ref src :: st) M := by
  obtain ⟨hn0, rfl⟩ := hn
  have h0 : n.toNatClampNeg ≤ n0 := by simpa using h0
  have h1 : n.toNatClampNeg ≤ n1 := by simpa using h1
  intro p l e s m args below meth c E H locs a hC hB hX hP hS hl
  refine va_copyi hC.1 hC.2.1 (hC.2.2.1.trans hl.1.symm) hC.2.2.2.1 (hC.2.2.2.2 _ hL.1) (hC.2.2.2.2 _ hN) (hC.2.2.2.2 _ hL.2) (hC.2.2.2.2 _ hI) hX.1 hP (hX.2.1.va M) hS src dst 0 0 (zw_get hT0) (zw_get hT1) rfl rfl rfl (by decide) (by decide) hn0 (by simpa using h0) (by simpa using h1) (fun _ _ => rfl) hR.1 (by rw [List.map_map, show ((fun v => v.category) ∘ zv E) = Value.category from funext fun v => zv_cat E v]; exact hR.2) hd (fun H1 locs1 q1 q2 q3 => ?_)
  rw [zw_put (M := M) (E := E) (M' := zcpI M src dst n.toNatClampNeg) hT1 (by simp [zc, zcpI]) (fun k' hk => by simp [zcpI, hk]) (fun _ _ => rfl)] at q1
  exact k p l e s m args below meth c E H1 locs1 a hC hB hX q1 q3 hl
end ZO
