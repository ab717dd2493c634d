/-! making objects and arrays: the world grows -/
def zext (E : zE) (n q : Nat) : zE := (E.1, fun j => if j = n then q else zad E j, E.2.2)
def zExt (n : Nat) (E E1 : zE) : Prop := E1.1 = E.1 ∧ E1.2.2 = E.2.2 ∧ ∀ k, (k < n ∨ 1000 ≤ k) → zad E1 k = zad E k
theorem zExt.rf (n : Nat) (E : zE) : zExt n E E := ⟨rfl, rfl, fun _ _ => rfl⟩
theorem zExt.tr {n n1 : Nat} {E E1 E2 : zE} (hn : n ≤ n1) (h : zExt n E E1) (h1 : zExt n1 E1 E2) : zExt n E E2 := ⟨h1.1.trans h.1, h1.2.1.trans h.2.1, fun k hk => (h1.2.2 k (hk.imp (fun q => Nat.lt_of_lt_of_le q hn) id)).trans (h.2.2 k hk)⟩
theorem zExt.mono {n n1 : Nat} {E E1 : zE} (hn : n ≤ n1) (h : zExt n1 E E1) : zExt n E E1 := zExt.tr hn (zExt.rf n E) h
theorem zext_ext {E : zE} {n q : Nat} (hn : n < 1000) : zExt n E (zext E n q) := ⟨rfl, rfl, fun k hk => by
  have : k ≠ n := by omega
  simp [zext, zad, this]⟩
def zfr (M : zM) (n : Nat) : zM := (fun k => if k = n then fun _ => 0 else M.1 k, fun k => if k = n then fun _ => 0 else M.2 k)
theorem zfr_ne {M : zM} {n k : Nat} (h : k ≠ n) : (zfr M n).1 k = M.1 k ∧ (zfr M n).2 k = M.2 k := by simp [zfr, h]
/-- a value speaks of no object of a number from n on, but for those beyond 1000 -/
def zok (n : Nat) : Value → Bool
  | .ref k => Nat.blt k n || Nat.ble 1000 k
  | _ => true
theorem zok_ext {n : Nat} {E E1 : zE} (h : zExt n E E1) {v : Value} (hv : zok n v = true) : zv E1 v = zv E v := by
  cases v with
  | ref k =>
    simp only [zok, Bool.or_eq_true] at hv
    show Value.ref _ = Value.ref _
    rw [h.2.2 k (hv.imp (fun q => by simpa using q) (fun q => by simpa using q))]
  | _ => rfl
theorem zok_st {n : Nat} {E E1 : zE} (h : zExt n E E1) {st : List Value} (hs : st.all (zok n) = true) : st.map (zv E1) = st.map (zv E) := by
  apply List.map_congr_left
  intro v hv
  exact zok_ext h (List.all_eq_true.mp hs v hv)
theorem zok_ls {n : Nat} {E E1 : zE} (h : zExt n E E1) {ls : List (Nat × Value)} (hs : ls.all (fun q => zok n q.2) = true) : ls.map (fun q => (q.1, zv E1 q.2)) = ls.map (fun q => (q.1, zv E q.2)) := by
  apply List.map_congr_left
  intro q hq
  rw [zok_ext h (List.all_eq_true.mp hs q hq)]
/-- every object of the list speaks of objects of the list -/
def zwf (T : List zN) : Prop := ∀ (k ci : Nat) (lay : List Nat) (j sk : Nat), T[k]? = some (.inr (ci, lay)) → lay[j]? = some sk → 3 ≤ sk → k + (sk - 2) < T.length
def zwfb (T : List zN) : Bool := (T.zipIdx).all fun q => match q.1 with
  | .inl _ => true
  | .inr o => o.2.all fun sk => Nat.blt sk 3 || Nat.blt (q.2 + (sk - 2)) T.length
theorem zwf_of {T : List zN} (h : zwfb T = true) : zwf T := by
  intro k ci lay j sk h1 h2 h3
  have hm : ((.inr (ci, lay) : zN), k) ∈ T.zipIdx := by
    rw [List.mem_zipIdx_iff_getElem?]
    exact h1
  have h4 := List.all_eq_true.mp h _ hm
  have h5 := List.all_eq_true.mp h4 sk (List.mem_of_getElem? h2)
  simp only [Bool.or_eq_true] at h5
  rcases h5 with h5 | h5
  · exact absurd (by simpa using h5) (Nat.not_lt.mpr h3)
  · simpa using h5
theorem zc_ext {T : List zN} {E E1 : zE} {M M1 : zM} {k : Nat} {t : zN} (h : zExt T.length E E1) (hw : zwf T) (ht : T[k]? = some t) (h1 : M1.1 k = M.1 k) (h2 : M1.2 k = M.2 k) : zc E1 M1 k t = zc E M k t := by
  cases t with
  | inl a => simp [zc, zcy, h.2.1, h1, h2]
  | inr o =>
    simp only [zc, zfs]
    congr 2
    apply List.ext_getElem?
    intro j
    simp only [List.getElem?_mapIdx]
    cases hj : o.2[j]? with
    | none => rfl
    | some sk =>
      show some (zsl E1 M1 k j sk) = some (zsl E M k j sk)
      rcases sk with _ | _ | _ | off
      · simp [zsl, h1]
      · simp [zsl, h2]
      · rfl
      · have := hw k o.1 o.2 j (off + 3) ht hj (by omega)
        simp only [zsl]
        rw [h.2.2 _ (Or.inl (by simpa using this))]
theorem zw_ext {T : List zN} {E E1 : zE} {M M1 : zM} (h : zExt T.length E E1) (hw : zwf T) (hM : ∀ k, k < T.length → M1.1 k = M.1 k ∧ M1.2 k = M.2 k) : zw T E1 M1 = zw T E M := by
  apply List.ext_getElem?
  intro k
  simp only [zw, List.getElem?_mapIdx]
  cases ht : T[k]? with
  | none => rfl
  | some t =>
    have hk : k < T.length := (List.getElem?_eq_some_iff.mp ht).1
    show some (zad E1 k, zc E1 M1 k t) = some (zad E k, zc E M k t)
    rw [h.2.2 k (Or.inl hk), zc_ext h hw ht (hM k hk).1 (hM k hk).2]
theorem zw_push {T : List zN} {E : zE} {M : zM} {q : Nat} {t : zN} (hn : T.length < 1000) (hw : zwf T) : zw (T ++ [t]) (zext E T.length q) (zfr M T.length) = zw T E M ++ [(q, zc (zext E T.length q) (zfr M T.length) T.length t)] := by
  have e : zw T (zext E T.length q) (zfr M T.length) = zw T E M := zw_ext (zext_ext hn) hw (fun k hk => zfr_ne (by omega))
  rw [← e]
  apply List.ext_getElem?
  intro k
  by_cases hk : k < T.length
  · rw [List.getElem?_append_left (by rw [zw_len]; exact hk)]
    simp only [zw, List.getElem?_mapIdx]
    rw [List.getElem?_append_left hk]
  · rw [List.getElem?_append_right (by rw [zw_len]; omega), zw_len]
    simp only [zw, List.getElem?_mapIdx]
    rw [List.getElem?_append_right (by omega)]
    by_cases h0 : k - T.length = 0
    · rw [h0]
      have : k = T.length := by omega
      subst this
      simp [zext, zad]
    · have : (([t] : List zN))[k - T.length]? = none := by simp; omega
      rw [this]
      have : ([(q, zc (zext E T.length q) (zfr M T.length) T.length t)] : va_W)[k - T.length]? = none := by simp; omega
      rw [this]
      rfl
/-- what B must allow, so that the world may grow: from n objects on -/
def zGrow (B : zB) (n : Nat) : Prop :=
  (∀ l meth c E s args, B.2.2.1 l meth c E s args → ∀ q, s.heap.size ≤ q → B.2.1 E s q) ∧ (∀ l meth c E E1 s args, zExt n E E1 → B.2.2.1 l meth c E s args → B.2.2.1 l meth c E1 s args) ∧ (∀ E E1 s, B.2.1 E s = B.2.1 E1 s) ∧ ∀ s args below E E1, B.2.2.2 s args below E = B.2.2.2 s args below E1
theorem zGrow.mono {B : zB} {n n1 : Nat} (h : zGrow B n) (hn : n ≤ n1) : zGrow B n1 := ⟨h.1, fun l meth c E E1 s args h1 h2 => h.2.1 l meth c E E1 s args (h1.mono hn) h2, h.2.2⟩
theorem zX.ext {T T1 : List zN} {E E1 : zE} {A : Nat → Prop} {s : State} (hn : T.length ≤ 1000) (h : zX T E A s) (he : zExt T.length E E1) (hD : zD T1 E1 A) : zX T1 E1 A s := by
  obtain ⟨h1, h2, h3, h4, h5, h6, h7⟩ := h
  have e1 : ztys E1 = ztys E := by simp [ztys, zcy, he.2.1]
  have ea : ∀ i, zad E1 (1000 + i) = zad E (1000 + i) := fun i => he.2.2 _ (Or.inr (by omega))
  have eb : ∀ i, zad E1 (2000 + i) = zad E (2000 + i) := fun i => he.2.2 _ (Or.inr (by omega))
  refine ⟨by rw [e1, he.1]; exact h1, hD, ?_, fun i q hi => by rw [ea]; exact h4 i q hi, h5, by rw [he.2.2 3000 (Or.inr (by omega))]; exact h6, h7⟩
  rw [show (fun i => zad E1 (1000 + i)) = fun i => zad E (1000 + i) from funext ea, show (fun i => zad E1 (2000 + i)) = fun i => zad E (2000 + i) from funext eb]
  exact h3
section ZA
variable {T T' : List zN} {own : String} {code : ByteArray} {nL : Nat} {B : zB} {cells slots pc : Nat} {ls ls' : List (Nat × Value)} {st : List Value} {M : zM}
theorem zD_push {E : zE} {q : Nat} {A : Nat → Prop} {t : zN} (hn : T.length < 1000) (h : va_D A (zw (T ++ [t]) (zext E T.length q) M)) : zD (T ++ [t]) (zext E T.length q) A := by
  refine ⟨fun i j hi hj e => ?_, fun i hi => ?_⟩
  · have h1 := zw_get (E := zext E T.length q) (M := M) (List.getElem?_eq_getElem hi)
    have h2 := zw_get (E := zext E T.length q) (M := M) (List.getElem?_eq_getElem hj)
    exact h.1 i j _ _ h1 h2 e
  · exact h.2 i _ (zw_get (E := zext E T.length q) (M := M) (List.getElem?_eq_getElem hi))
theorem zfs_noE {E E1 : zE} {M : zM} {k : Nat} {lay : List Nat} (h : lay.all (fun sk => Nat.blt sk 3) = true) : zfs E M k lay = zfs E1 M k lay := by
  apply List.ext_getElem?
  intro j
  simp only [zfs, List.getElem?_mapIdx]
  cases hj : lay[j]? with
  | none => rfl
  | some sk =>
    have h3 : sk < 3 := by simpa using List.all_eq_true.mp h sk (List.mem_of_getElem? hj)
    show some (zsl E M k j sk) = some (zsl E1 M k j sk)
    rcases sk with _ | _ | _ | off
    · rfl
    · rfl
    · rfl
    · omega
/-- the machine behind a making: what is due of the next judgement -/
theorem z_grown {p : Program} {l : Launch} {e : Env} {s : State} {m : MethodId} {args : Array Value} {below : List Frame} {meth : Method} {c : Code} {E : zE} {H1 : Heap} {locs : List Loc} {a : Array Slot} {t : zN} {q : Nat} {x : va_E} {cells' slots' pc' : Nat} (hn1 : T.length < 1000) (hw : zwf T) (hg : zGrow B T.length) (hst : st.all (zok T.length) = true) (hls : ls.all (fun q => zok T.length q.2) = true)
    (hC : p.tables.exec = Jvm.exec ∧ c.code = code ∧ c.maxLocals = nL ∧ s.vm.findClass own = some m.cls ∧ ∀ w ∈ z_tb, w.before args s = true) (hB : B.2.2.1 l meth c E s args) (hX : zX T E (B.2.1 E s) s) (hl : lv_has a nL (ls.map (fun q => (q.1, zv E q.2))))
    (hx : x = zc (zext E T.length q) (zfr M T.length) T.length t) (q1 : va_P E.1 vwCl (zw T E M ++ [(q, x)]) H1) (q2 : va_D (B.2.1 E s) (zw T E M ++ [(q, x)])) (q3 : va_S (B.2.1 E s) s.heap H1 locs) (k : zJ (T ++ [t]) own code nL B cells' slots' pc' ls (.ref T.length :: st) (zfr M T.length)) : W p l e B.1 s m args below meth c H1 locs cells' slots' (B.2.2.2 s args below E) (F0 m pc' a (.ref q :: st.map (zv E))) := by
  have hE := zext_ext (E := E) (q := q) hn1
  rw [hx, ← zw_push hn1 hw] at q1 q2
  have eA : B.2.1 (zext E T.length q) s = B.2.1 E s := hg.2.2.1 _ _ _
  have hk := k p l e s m args below meth c (zext E T.length q) H1 locs a hC (hg.2.1 l meth c E _ s args hE hB) (by rw [eA]; exact hX.ext (by omega) hE (zD_push hn1 q2)) q1 (by rw [eA]; exact q3) (by rw [zok_ls hE hls]; exact hl)
  rw [hg.2.2.2 s args below (zext E T.length q) E] at hk
  have e2 : (Value.ref T.length :: st).map (zv (zext E T.length q)) = .ref q :: st.map (zv E) := by
    rw [List.map_cons, zok_st hE hst]
    simp [zv, zad, zext]
  rw [e2] at hk
  exact hk
theorem zg_new {C : String} {Tt : u_T} {N ci i n : Nat} {lay : List Nat} (ty : Nat → FieldType) (hty : ∀ k, k < N → parseFieldDescriptor (Tt k).2.2.1 = some (ty k)) (hin : ∀ w ∈ u_ws C Tt N, w ∈ z_tb) (hcl : Cond.classLink own i C ∈ z_tb) (hins : Cond.instantiable C N ∈ z_tb) (hini : Cond.initialized C ∈ z_tb) (hc : vwCl[ci]? = some (C, Tt, N)) (hlay : lay.all (fun sk => Nat.blt sk 3) = true) (hdef : ∀ (E : zE) (M : zM) (n j : Nat), j < N → defaultValue (ty j) = vp_V (zfs E (zfr M n) n lay) j)
    (hn : T.length = n) (hT : T ++ [.inr (ci, lay)] = T') (hn1 : Nat.blt n 1000 = true) (hw : zwfb T = true) (hg : zGrow B n) (hst : st.all (zok n) = true) (hls : ls.all (fun q => zok n q.2) = true) (hcells : cells + 1 ≤ B.1.cells) (hslots : slots + N ≤ B.1.slots) (hd : decode code pc = .ok (.new i, 3)) (k : zJ T' own code nL B (cells + 1) (slots + N) (pc + 3) ls (.ref n :: st) (zfr M n)) : zJ T own code nL B cells slots pc ls st M := by
  subst hn
  subst hT
  have hn1 : T.length < 1000 := by simpa using hn1
  intro p l e s m args below meth c E H locs a hC hB hX hP hS hl
  refine va_new (ci := ci) (fs := zfs E (zfr M T.length) T.length lay) hC.1 hC.2.1 hC.2.2.2.2 hin ty hty hC.2.2.2.1 (hC.2.2.2.2 _ hcl) (hC.2.2.2.2 _ hins) (hC.2.2.2.2 _ hini) hX.1 hP (hX.2.1.va M) hS (hg.1 l meth c E s args hB) hc (fun j hj => hdef _ _ _ j hj) hcells hslots hd (fun q H1 q1 q2 q3 => ?_)
  exact z_grown hn1 (zwf_of hw) hg hst hls hC hB hX hl (by show Sum.inr _ = Sum.inr _; rw [zfs_noE hlay]) q1 q2 q3 k
theorem zg_newa {n N : Nat} {x : Int32} (ty : Nat) (atype : ArrayType) (hat : newarray.typeOf atype = zty ty) (hty : ty < 3) (harr : Cond.arrayClass (newarray.typeOf atype) ∈ z_tb) (hx : ¬ x < 0 ∧ x.toNatClampNeg = N) (hb : N * componentBytes (zty ty) ≤ 536870912)
    (hn : T.length = n) (hT : T ++ [.inl (ty, N)] = T') (hn1 : Nat.blt n 1000 = true) (hw : zwfb T = true) (hg : zGrow B n) (hst : st.all (zok n) = true) (hls : ls.all (fun q => zok n q.2) = true) (hcells : cells + 1 ≤ B.1.cells) (hslots : slots + N ≤ B.1.slots) (hd : decode code pc = .ok (.newarray atype, 2)) (k : zJ T' own code nL B (cells + 1) (slots + N) (pc + 2) ls (.ref n :: st) (zfr M n)) : zJ T own code nL B cells slots pc ls (.int x :: st) M := by
  subst hn
  subst hT
  have hn1 : T.length < 1000 := by simpa using hn1
  intro p l e s m args below meth c E H locs a hC hB hX hP hS hl
  have ht : (ztys E)[ty]? = some (zcy E ty, zty ty) := by
    rcases (show ty = 0 ∨ ty = 1 ∨ ty = 2 by omega) with rfl | rfl | rfl <;> rfl
  refine va_newa (a0 := (N, if ty = 1 then .inr (.inl (fun _ => 0)) else .inl (fun _ => 0))) hC.1 hC.2.1 (hC.2.2.2.2 _ harr) hat hX.1 hP (hX.2.1.va M) hS (hg.1 l meth c E s args hB) (fun cA => ?_) hx.1 hx.2 hb hcells hslots hd (fun q cA H1 q0 q1 q2 q3 => ?_)
  · rcases (show ty = 0 ∨ ty = 1 ∨ ty = 2 by omega) with rfl | rfl | rfl <;> rfl
  · have hcA : cA = zcy E ty := by
      have h1 := (q0.2 3 (cA, zty ty) rfl).2
      have h2 := (hX.1.2 ty _ ht).2
      rcases (show ty = 0 ∨ ty = 1 ∨ ty = 2 by omega) with rfl | rfl | rfl <;> exact Option.some.inj ((Eq.symm h1).trans h2)
    refine z_grown hn1 (zwf_of hw) hg hst hls hC hB hX hl ?_ q1 q2 q3 k
    subst hcA
    rcases (show ty = 0 ∨ ty = 1 ∨ ty = 2 by omega) with rfl | rfl | rfl <;> simp [zc, zfr, zext, zcy]
/-- a final field gets its object -/
theorem zg_putref {i ci j o : Nat} {lay lay' : List Nat} (off : Nat) {C : String} {Tt : u_T} {N : Nat} {ty0 : Nat → FieldType} (hty : ∀ k, k < N → parseFieldDescriptor (Tt k).2.2.1 = some (ty0 k)) (hnm : ∀ a, a < N → ∀ b, b < N → a ≠ b → (Tt a).2.1 ≠ (Tt b).2.1) (hin : ∀ w ∈ u_ws C Tt N, w ∈ z_tb) (hc : vwCl[ci]? = some (C, Tt, N)) (hj : j < N) (hlink : Cond.fieldLink own i (Tt j).1 (Tt j).2.1 (Tt j).2.2.1 ∈ z_tb) (hfin : (Tt j).2.2.2 = true) (hdecl : (Tt j).1 = own) (hr : (ty0 j = .object ((ty0 j).toString) ∨ True)) (hnar : ∀ q : Nat, narrow (ty0 j) (.ref q) = .ref q) (hfit : ∀ q : Nat, fits (ty0 j) (.ref q) = true)
    (hB1 : ∀ l meth c E s args, B.2.2.1 l meth c E s args → meth.name = "<init>") (hT : T[o]? = some (.inr (ci, lay))) (hlay : lay[j]? = some 2) (hlay' : lay.set j (off + 3) = lay') (hT' : T.set o (.inr (ci, lay')) = T') (hd : decode code pc = .ok (.putfield i, 3)) (k : zJ T' own code nL B cells slots (pc + 3) ls st M) : zJ T own code nL B cells slots pc ls (.ref (o + (off + 1)) :: .ref o :: st) M := by
  subst hlay'
  subst hT'
  have hlen : T.length = (T.set o (.inr (ci, lay.set j (off + 3)))).length := by simp
  have ho : o < T.length := (List.getElem?_eq_some_iff.mp hT).1
  intro p l e s m args below meth c E H locs a hC hB hX hP hS hl
  have hlen2 : j < (zfs E M o lay).length := by simp [zfs]; exact (List.getElem?_eq_some_iff.mp hlay).1
  refine va_putF (C := C) (T := Tt) (N := N) (ref := (Tt j).1) (fs := zfs E M o lay) (v := .ref (zad E (o + (off + 1)))) hC.1 hC.2.1 hC.2.2.2.2 hin ty0 hty hnm hC.2.2.2.1 hX.1 hP (hX.2.1.va M) hS o (zw_get hT) hc j hj (hC.2.2.2.2 _ hlink) (fun _ h => h) hfin (hB1 l meth c E s args hB) hdecl (hty j hj) (hnar _) (hfit _) hlen2 hd (fun H1 locs1 q1 q2 q3 => ?_)
  have e1 : (zw T E M).set o (zad E o, .inr (ci, (zfs E M o lay).set j (.ref (zad E (o + (off + 1)))))) = zw (T.set o (.inr (ci, lay.set j (off + 3)))) E M := by
    apply List.ext_getElem?
    intro x
    by_cases hx : x = o
    · subst hx
      rw [List.getElem?_set_self (by rw [zw_len]; exact ho)]
      rw [zw_get (t := .inr (ci, lay.set j (off + 3))) (by rw [List.getElem?_set_self ho])]
      simp only [zc]
      congr 4
      apply List.ext_getElem?
      intro y
      by_cases hy : y = j
      · subst hy
        rw [List.getElem?_set_self hlen2, zfs_get (by rw [List.getElem?_set_self (List.getElem?_eq_some_iff.mp hlay).1])]
        rfl
      · rw [List.getElem?_set_ne (Ne.symm hy)]
        simp only [zfs, List.getElem?_mapIdx]
        rw [List.getElem?_set_ne (Ne.symm hy)]
    · rw [List.getElem?_set_ne (Ne.symm hx)]
      simp only [zw, List.getElem?_mapIdx]
      rw [List.getElem?_set_ne (Ne.symm hx)]
  rw [e1] at q1
  refine k p l e s m args below meth c E H1 locs1 a hC hB ⟨hX.1, ⟨fun i j hi hj => hX.2.1.1 i j (by rw [hlen]; exact hi) (by rw [hlen]; exact hj), fun i hi => hX.2.1.2 i (by rw [hlen]; exact hi)⟩, hX.2.2⟩ q1 q3 hl
theorem zg_obj {i o : Nat} (hL : Cond.methodLink own i Lib.objectInit ∈ z_tb) (hI : Cond.instanceMethod Lib.objectInit ∈ z_tb) (hc : Cond.code Lib.objectInit ⟨#[0xb1]⟩ 1 none ∈ z_tb) (hR : 1 ≤ B.1.frames ∧ (st.map Value.category).sum + 12 ≤ B.1.locals) (hd : decode code pc = .ok (.invokespecial i, 3)) (k : zJ T own code nL B cells slots (pc + 3) ls st M) : zJ T own code nL B cells slots pc ls (.ref o :: st) M := by
  intro p l e s m args below meth c E H locs a hC hB hX hP hS hl
  refine W.objInit hC.1 hC.2.1 hC.2.2.2.1 (hC.2.2.2.2 _ hL) (hC.2.2.2.2 _ hI) (hC.2.2.2.2 _ hc) rfl (hl.1.trans hC.2.2.1.symm) rfl hd hR.1 ?_ (k p l e s m args below meth c E H locs a hC hB hX hP hS hl)
  show 2 * 0 + _ + 12 ≤ _
  rw [List.map_map, show ((fun v => v.category) ∘ zv E) = Value.category from funext fun v => zv_cat E v]
  have := hR.2
  omega
end ZA
