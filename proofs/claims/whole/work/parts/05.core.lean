/-! the world of the objects, told by a list T of their kinds and a memory M of numbers: an address k of the memory is the place k of T; a field that holds an object tells how far behind its own object that one stands -/
abbrev zM : Type := (Nat → Nat → Int32) × (Nat → Nat → Int64)
abbrev zE : Type := va_G × (Nat → Nat) × (Nat → ClassId)
def zad (E : zE) : Nat → Nat := E.2.1
def zcy (E : zE) : Nat → ClassId := E.2.2
def zv (E : zE) (v : Value) : Value := match v with
  | .ref k => .ref (zad E k)
  | v => v
def zty (c : Nat) : FieldType := match c with
  | 0 => .int
  | 1 => .long
  | _ => .boolean
abbrev ztys (E : zE) : List (ClassId × FieldType) := [(zcy E 0, .int), (zcy E 1, .long), (zcy E 2, .boolean)]
def zsl (E : zE) (M : zM) (k j : Nat) (sk : Nat) : Value := match sk with
  | 0 => .int (M.1 k j)
  | 1 => .long (M.2 k j)
  | 2 => .null
  | off + 3 => .ref (zad E (k + (off + 1)))
def zfs (E : zE) (M : zM) (k : Nat) (lay : List Nat) : List Value := lay.mapIdx (fun j sk => zsl E M k j sk)
def zc (E : zE) (M : zM) (k : Nat) (t : zN) : va_E := match t with
  | .inl a => .inl (zcy E a.1, a.2, if a.1 = 1 then .inr (.inl (M.2 k)) else .inl (M.1 k))
  | .inr o => .inr (o.1, zfs E M k o.2)
def zw (T : List zN) (E : zE) (M : zM) : va_W := T.mapIdx (fun k t => (zad E k, zc E M k t))
def zsi (M : zM) (k j : Nat) (v : Int32) : zM := (fun k' => if k' = k then upd (M.1 k) j v else M.1 k', M.2)
def zsj (M : zM) (k j : Nat) (v : Int64) : zM := (M.1, fun k' => if k' = k then vp_updL (M.2 k) j v else M.2 k')
theorem zw_get {T : List zN} {E : zE} {M : zM} {k : Nat} {t : zN} (h : T[k]? = some t) : (zw T E M)[k]? = some (zad E k, zc E M k t) := by
  simp [zw, List.getElem?_mapIdx, h]
theorem zw_len (T : List zN) (E : zE) (M : zM) : (zw T E M).length = T.length := by simp [zw]
theorem zw_at {T : List zN} {E : zE} {M : zM} {k : Nat} {q : Nat × va_E} (h : (zw T E M)[k]? = some q) : ∃ t, T[k]? = some t ∧ q = (zad E k, zc E M k t) := by
  simp only [zw, List.getElem?_mapIdx, Option.map_eq_some_iff] at h
  obtain ⟨t, h1, h2⟩ := h
  exact ⟨t, h1, h2.symm⟩
theorem zfs_get {E : zE} {M : zM} {k j sk : Nat} {lay : List Nat} (h : lay[j]? = some sk) : (zfs E M k lay)[j]? = some (zsl E M k j sk) := by
  simp [zfs, List.getElem?_mapIdx, h]
theorem zsi_ne {M : zM} {k j k' : Nat} {v : Int32} (h : k' ≠ k) : (zsi M k j v).1 k' = M.1 k' := by simp [zsi, h]
theorem zsi_eq {M : zM} {k j : Nat} {v : Int32} : (zsi M k j v).1 k = upd (M.1 k) j v := by simp [zsi]
theorem zsj_ne {M : zM} {k j k' : Nat} {v : Int64} (h : k' ≠ k) : (zsj M k j v).2 k' = M.2 k' := by simp [zsj, h]
theorem zsj_eq {M : zM} {k j : Nat} {v : Int64} : (zsj M k j v).2 k = vp_updL (M.2 k) j v := by simp [zsj]
theorem zc_congr {E : zE} {M M' : zM} {k : Nat} (h1 : M'.1 k = M.1 k) (h2 : M'.2 k = M.2 k) (t : zN) : zc E M' k t = zc E M k t := by
  cases t with
  | inl a => simp [zc, h1, h2]
  | inr o =>
    simp only [zc, zfs]
    congr 2
    apply List.ext_getElem?
    intro j
    simp only [List.getElem?_mapIdx]
    cases o.2[j]? with
    | none => rfl
    | some sk =>
      show some (zsl E M' k j sk) = some (zsl E M k j sk)
      rcases sk with _ | _ | _ | off <;> simp [zsl, h1, h2]
/-- a cell's place is written anew: the memory's change -/
theorem zw_put {T : List zN} {E : zE} {M M' : zM} {k : Nat} {t : zN} {x : va_E} (h : T[k]? = some t) (hx : x = zc E M' k t) (ho1 : ∀ k', k' ≠ k → M'.1 k' = M.1 k') (ho2 : ∀ k', k' ≠ k → M'.2 k' = M.2 k') : (zw T E M).set k (zad E k, x) = zw T E M' := by
  apply List.ext_getElem?
  intro i
  by_cases hi : i = k
  · subst hi
    have hl : i < (zw T E M).length := by rw [zw_len]; exact (List.getElem?_eq_some_iff.mp h).1
    rw [List.getElem?_set_self hl, zw_get h, hx]
  · rw [List.getElem?_set_ne (Ne.symm hi)]
    simp only [zw, List.getElem?_mapIdx]
    cases T[i]? with
    | none => rfl
    | some t' =>
      show some (zad E i, zc E M i t') = some (zad E i, zc E M' i t')
      rw [zc_congr (ho1 i hi) (ho2 i hi)]
theorem zfs_seti {E : zE} {M : zM} {k j : Nat} {lay : List Nat} (h : lay[j]? = some 0) (v : Int32) : (zfs E M k lay).set j (.int v) = zfs E (zsi M k j v) k lay := by
  apply List.ext_getElem?
  intro i
  by_cases hi : i = j
  · subst hi
    have hl : i < (zfs E M k lay).length := by simp [zfs]; exact (List.getElem?_eq_some_iff.mp h).1
    rw [List.getElem?_set_self hl, zfs_get h]
    simp [zsl, zsi_eq, upd]
  · rw [List.getElem?_set_ne (Ne.symm hi)]
    simp only [zfs, List.getElem?_mapIdx]
    cases lay[i]? with
    | none => rfl
    | some sk =>
      show some _ = some _
      rcases sk with _ | _ | _ | off <;> simp [zsl, zsi_eq, upd, hi, zsi]
theorem zfs_setj {E : zE} {M : zM} {k j : Nat} {lay : List Nat} (h : lay[j]? = some 1) (v : Int64) : (zfs E M k lay).set j (.long v) = zfs E (zsj M k j v) k lay := by
  apply List.ext_getElem?
  intro i
  by_cases hi : i = j
  · subst hi
    have hl : i < (zfs E M k lay).length := by simp [zfs]; exact (List.getElem?_eq_some_iff.mp h).1
    rw [List.getElem?_set_self hl, zfs_get h]
    simp [zsl, zsj_eq, vp_updL]
  · rw [List.getElem?_set_ne (Ne.symm hi)]
    simp only [zfs, List.getElem?_mapIdx]
    cases lay[i]? with
    | none => rfl
    | some sk =>
      show some _ = some _
      rcases sk with _ | _ | _ | off <;> simp [zsl, zsj_eq, vp_updL, hi, zsj]
/-- the cells that the world may change -/
def zA (T : List zN) (E : zE) : Nat → Prop := fun q => ∃ k, k < T.length ∧ q = zad E k
def zD (T : List zN) (E : zE) (A : Nat → Prop) : Prop := (∀ i j, i < T.length → j < T.length → zad E i = zad E j → i = j) ∧ ∀ i, i < T.length → A (zad E i)
theorem zD.va {T : List zN} {E : zE} {A : Nat → Prop} (h : zD T E A) (M : zM) : va_D A (zw T E M) := by
  refine ⟨fun i j p q hp hq e => ?_, fun k q hq => ?_⟩
  · obtain ⟨t1, h1, rfl⟩ := zw_at hp
    obtain ⟨t2, h2, rfl⟩ := zw_at hq
    exact h.1 i j (List.getElem?_eq_some_iff.mp h1).1 (List.getElem?_eq_some_iff.mp h2).1 e
  · obtain ⟨t1, h1, rfl⟩ := zw_at hq
    exact h.2 k (List.getElem?_eq_some_iff.mp h1).1
theorem zD.self {T : List zN} {E : zE} {A : Nat → Prop} (h : zD T E A) : zD T E (zA T E) := ⟨h.1, fun i hi => ⟨i, hi, rfl⟩⟩
theorem zD.free {T : List zN} {E : zE} {A : Nat → Prop} (h : zD T E A) : ∀ q, zA T E q → A q := fun q hq => by
  obtain ⟨k, hk, rfl⟩ := hq
  exact h.2 k hk
/-- the String constants: their lengths, their bytes, where the code names them -/
def zlen : List Nat := [1, 4, 2, 2, 1, 0, 2, 8, 3, 2, 2, 5]
def zbyt : List (List Int32) := [[57], [49, 57, 57, 57], [49, 57], [57, 57], [49], [], [46, 35], [107, 105, 111, 99, 108, 101, 115, 110], [60, 62, 61], [43, 45], [42, 47], [110, 109, 100, 116, 119]]
def zstr : List (String × Nat × String) := [("SeaCloth", 378, "9"), ("SeaCloth", 380, "1999"), ("SeaCloth", 382, "19"), ("SeaCloth", 384, "99"), ("SeaCloth", 386, "1"), ("SeaCloth", 388, ""), ("SeaClothModel", 185, ".#"), ("SeaClothModel", 221, "kioclesn"), ("SeaClothModel", 226, "<>="), ("SeaClothModel", 228, "+-"), ("SeaClothModel", 230, "*/"), ("SeaClothModel", 337, "nmdtw")]
/-- private members of the nest that a nested class calls, or the outer one -/
def zNest : List (String × Nat × MethodName × String) := [(RX8, 9, yX7_init, "SeaCloth"), (RX8, 24, yX6_init, "SeaCloth"), (RX8, 31, yX3_init, "SeaCloth"), (RX8, 48, yX0_init, "SeaCloth"), (RX8, 55, yX1_init, "SeaCloth"), (RX8, 62, yX5_init, "SeaCloth"), (RX7, 90, yX8_without, "SeaCloth"), (RX7, 86, yX8_with, "SeaCloth"), (RX1, 41, yX8_without, "SeaCloth")]
def zS (E : zE) (A : Nat → Prop) (s : State) : Prop := vk_S 12 zlen zbyt (fun i => zad E (1000 + i)) (fun i => zad E (2000 + i)) A s s.heap ∧ (∀ (i : Nat) (q : String × Nat × String), zstr[i]? = some q → vk_R q.1 q.2.1 q.2.2 (zad E (1000 + i)) s) ∧ va_Z "java/lang/String" "COMPACT_STRINGS" "Z" (.int 1) A s s.heap ∧ (va_Z "jdk/internal/util/Preconditions" "SIOOBE_FORMATTER" "Ljava/util/function/BiFunction;" .null A s s.heap ∨ va_Z "jdk/internal/util/Preconditions" "SIOOBE_FORMATTER" "Ljava/util/function/BiFunction;" (.ref (zad E 3000)) A s s.heap) ∧ ∀ q ∈ zNest, va_Nw (.methodLinkNest q.1 q.2.1 q.2.2.1 q.2.2.2) s
def zX (T : List zN) (E : zE) (A : Nat → Prop) (s : State) : Prop := va_K E.1 vwCl (ztys E) s ∧ zD T E A ∧ zS E A s
abbrev zB : Type := Room × (zE → State → Nat → Prop) × (Launch → Method → Code → zE → State → Array Value → Prop) × (State → Array Value → List Frame → zE → State → Prop)
/-- the machine at a frame of a method, whatever the addresses are: it comes to what B asks -/
def zJ (T : List zN) (own : String) (code : ByteArray) (nL : Nat) (B : zB) (cells slots : Nat) (pc : Nat) (ls : List (Nat × Value)) (st : List Value) (M : zM) : Prop :=
  ∀ (p : Program) (l : Launch) (e : Env) (s : State) (m : MethodId) (args : Array Value) (below : List Frame) (meth : Method) (c : Code) (E : zE) (H : Heap) (locs : List Loc) (a : Array Slot),
    (p.tables.exec = Jvm.exec ∧ c.code = code ∧ c.maxLocals = nL ∧ s.vm.findClass own = some m.cls ∧ ∀ w ∈ z_tb, w.before args s = true) → B.2.2.1 l meth c E s args → zX T E (B.2.1 E s) s → va_P E.1 vwCl (zw T E M) H → va_S (B.2.1 E s) s.heap H locs → lv_has a nL (ls.map (fun q => (q.1, zv E q.2))) →
    W p l e B.1 s m args below meth c H locs cells slots (B.2.2.2 s args below E) (F0 m pc a (st.map (zv E)))
