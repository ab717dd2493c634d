/-! contracts, returns, calls -/
def zrm (d : Nat) : Room := { frames := d, cells := 0, slots := 0, locals := 64 * d }
def zws (y : MethodName) (code : ByteArray) (nL : Nat) (ret : Option FieldType) : List Cond := Cond.code y code nL ret :: z_tb
def zQ (T : List zN) (E : zE) (r : Option Value) (M1 : zM) : Array Value → State → Outcome → State → Prop := fun _ st oc t => oc = .returned (r.map (zv E)) ∧ va_P E.1 vwCl (zw T E M1) t.heap ∧ va_F (zA T E) st t
def zBm (T : List zN) (d : Nat) (ret : Option FieldType) (r : Option Value) (M1 : zM) : zB := (zrm d, fun E _ => zA T E, fun _ meth _ _ _ _ => meth.sig.returnType = ret ∧ meth.locks = false, fun s args below E => MQ below (zQ T E r M1) args s 0 0 (zA T E))
def zPc (T : List zN) (E : zE) (as : List Value) (M : zM) : Array Value → State → Prop := va_Pc (as.map (zv E)) (fun U => zX T E (zA T E) U ∧ va_P E.1 vwCl (zw T E M) U.heap)
def zK (T : List zN) (y : MethodName) (code : ByteArray) (nL : Nat) (ret : Option FieldType) (d : Nat) (as : List Value) (M : zM) (r : Option Value) (M1 : zM) : Prop :=
  ∀ (l : Launch) (E : zE), Met l y (zws y code nL ret) (zrm d) (zPc T E as M) (zQ T E r M1) 0 0 (zA T E)
theorem zS.to {T : List zN} {E : zE} {A A' : Nat → Prop} {s U : State} (hA : ∀ q, A' q → A q) (h : zS E A s) (hq : ∀ q : Nat, q < s.heap.size → ¬ A q → U.heap[q]? = s.heap[q]?) (hW : s.WarmedH U.vm) : zS E A' U := by
  obtain ⟨h1, h2, h3, h4, h5⟩ := h
  exact ⟨((h1.kept hq).narrow hA).moved hW.alike, fun i q hi => (h2 i q hi).warm hW, ((h3.kept hq).narrow hA).moved hW.alike, h4.imp (fun h4 => ((h4.kept hq).narrow hA).moved hW.alike) (fun h4 => ((h4.kept hq).narrow hA).moved hW.alike), fun q hq => (h5 q hq).warmM hW⟩
theorem zX.to {T : List zN} {E : zE} {A : Nat → Prop} {s U : State} {H : Heap} {locs : List Loc} (h : zX T E A s) (hS : va_S A s.heap H locs) (hU : U.heap = H) (hW : s.WarmedH U.vm) : zX T E (zA T E) U := by
  obtain ⟨h1, h2, h3⟩ := h
  refine ⟨va_K.moved hW.alike h1, h2.self, zS.to (T := T) h2.free h3 (fun q q1 q2 => ?_) hW⟩
  rw [hU]
  exact hS.2.1 q q1 q2
theorem zX.blind {T : List zN} {E : zE} {A : Nat → Prop} {U : State} {g : JFrame} {mk : MethodId} {a : Array Value} (h : zX T E A U) : zX T E A (U.calling g mk a) := by
  obtain ⟨h1, h2, h3, h4, h5, h6, h7⟩ := h
  exact ⟨va_K.moved (u := U) (U := U.calling g mk a) (Vm.Alike.refl U.vm) h1, h2, vk_S.moved (u := U) (U := U.calling g mk a) (Vm.Alike.refl U.vm) h3, fun i q hi => vk_R.same (u := U) (U := U.calling g mk a) rfl (h4 i q hi), va_Z.moved (u := U) (U := U.calling g mk a) (Vm.Alike.refl U.vm) h5, h6.imp (fun h6 => va_Z.moved (u := U) (U := U.calling g mk a) (Vm.Alike.refl U.vm) h6) (fun h6 => va_Z.moved (u := U) (U := U.calling g mk a) (Vm.Alike.refl U.vm) h6), fun q hq => va_Nw.same (u := U) (U := U.calling g mk a) rfl rfl (h7 q hq)⟩
theorem zPc.blind (T : List zN) (E : zE) (as : List Value) (M : zM) : FrameBlind (zPc T E as M) := fun a U g mk q => ⟨q.1, q.2.1.blind, q.2.2⟩
theorem lv_args_map (E : zE) (as : List Value) : ∀ i, lv_args i (as.map (zv E)) = (lv_args i as).map (fun q => (q.1, zv E q.2)) := by
  induction as with
  | nil => intro i; rfl
  | cons v r ih =>
    intro i
    show (i, zv E v) :: lv_args (if (zv E v).category = 2 then i + 2 else i + 1) (r.map (zv E)) = (i, zv E v) :: (lv_args (if v.category = 2 then i + 2 else i + 1) r).map _
    rw [zv_cat, ih]
theorem lg_sl_len (E : zE) (as : List Value) : (lg_sl (as.map (zv E))).length = (lg_sl as).length := by
  induction as with
  | nil => rfl
  | cons v r ih =>
    simp only [lg_sl, List.map_cons, List.flatMap_cons, List.length_append, zv_cat] at ih ⊢
    rw [ih]
    by_cases h : v.category = 2 <;> simp [h]
theorem zK_of {T : List zN} {y : MethodName} {code : ByteArray} {nL : Nat} {ret : Option FieldType} {d : Nat} {as : List Value} {M : zM} {r : Option Value} {M1 : zM} (hp : plainName y.cls = true) (hn : (lg_sl as).length ≤ nL)
    (h : zJ T y.cls code nL (zBm T d ret r M1) 0 0 0 (lv_args 0 as) [] M) : zK T y code nL ret d as M r M1 := by
  intro l E
  refine Met.ofW (cc := code) (maxL := nL) (ret := ret) hp rfl ?_
  intro p e s m args below meth c s₁ Bd hml hv
  obtain ⟨rfl, hX, hP⟩ := hv
  have hown : s.vm.findClass y.cls = some m.cls := findClass_of_methodNamed Bd.named
  have hts : ∀ w ∈ zws y code nL ret, w.before ((as.map (zv E)).toArray) s = true := atoms_spec (ws := zws y code nL ret) Bd.pre
  have hl := lv_entry (as.map (zv E)) (n := nL) (by rw [lg_sl_len]; exact hn)
  rw [lg_entry_eq]
  rw [lv_args_map] at hl
  exact h p l e s m _ below meth c E s.heap [] _ ⟨Bd.exec, Bd.bytes, hml, hown, fun w hw => hts w (List.mem_cons_of_mem _ hw)⟩ ⟨Bd.returns, Bd.notSynchronized⟩ hX hP va_S.rf hl
section ZC
variable {T : List zN} {own : String} {code : ByteArray} {nL d : Nat} {pc : Nat} {ls : List (Nat × Value)} {M : zM}
theorem zg_iret {x : Int32} (hd : decode code pc = .ok (.ireturn, 1)) : zJ T own code nL (zBm T d (some .int) (some (.int x)) M) 0 0 pc ls [.int x] M := by
  intro p l e s m args below meth c E H locs a hC hB hX hP hS hl
  exact W.iret hC.1 hC.2.1 hB.1 (fun t ht _ => ⟨rfl, by rw [ht]; exact hP, hS.F ht⟩) hS.2.2 hd hB.2
theorem zg_zret {x : Int32} (hx : narrow .boolean (.int x) = .int x) (hd : decode code pc = .ok (.ireturn, 1)) : zJ T own code nL (zBm T d (some .boolean) (some (.int x)) M) 0 0 pc ls [.int x] M := by
  intro p l e s m args below meth c E H locs a hC hB hX hP hS hl
  exact W.zret hC.1 hC.2.1 hB.1 hx (fun t ht _ => ⟨rfl, by rw [ht]; exact hP, hS.F ht⟩) hS.2.2 hd hB.2
theorem zg_lret {x : Int64} (hd : decode code pc = .ok (.lreturn, 1)) : zJ T own code nL (zBm T d (some .long) (some (.long x)) M) 0 0 pc ls [.long x] M := by
  intro p l e s m args below meth c E H locs a hC hB hX hP hS hl
  exact W.lret hC.1 hC.2.1 hB.1 (fun t ht _ => ⟨rfl, by rw [ht]; exact hP, hS.F ht⟩) hS.2.2 hd hB.2
theorem zg_aret {x : Nat} {C : String} (hd : decode code pc = .ok (.areturn, 1)) : zJ T own code nL (zBm T d (some (.object C)) (some (.ref x)) M) 0 0 pc ls [.ref x] M := by
  intro p l e s m args below meth c E H locs a hC hB hX hP hS hl
  exact W.aret hC.1 hC.2.1 hB.1 (Or.inl ⟨C, rfl⟩) (Or.inr ⟨_, rfl⟩) (fun t ht _ => ⟨rfl, by rw [ht]; exact hP, hS.F ht⟩) hS.2.2 hd hB.2
theorem zg_vret (hd : decode code pc = .ok (.return_, 1)) : zJ T own code nL (zBm T d none none M) 0 0 pc ls [] M := by
  intro p l e s m args below meth c E H locs a hC hB hX hP hS hl
  exact W.vret hC.1 hC.2.1 hB.1 (fun t ht _ => ⟨rfl, by rw [ht]; exact hP, hS.F ht⟩) hS.2.2 hd hB.2
end ZC
theorem z_gin {w : Cond} (h : w ∈ z_tb) : w ∈ z_tb ∧ ((w.onTables && w.keeps) = true ∨ ∃ ty, w = .arrayClass ty) := ⟨h, good_of_word (z_good h)⟩
theorem z_goodV {own : String} {i : Nat} {y : MethodName} {code : ByteArray} {nL n : Nat} {ret : Option FieldType} (hY : zY y code nL ret n) (hL : zLV own i y) : GoodIn z_tb (wsV own i y.cls y (zws y code nL ret)) := by
  intro w hw
  simp only [wsV, zws, List.cons_append, List.nil_append, List.mem_cons] at hw
  rcases hw with rfl | rfl | rfl | rfl | rfl | hw
  · exact z_gin hL.1
  · exact z_gin hL.2.1
  · exact z_gin hL.2.2
  · exact z_gin hY.2.1
  · exact z_gin hY.1
  · exact z_gin hw
theorem z_goodS {own : String} {i : Nat} {y : MethodName} {code : ByteArray} {nL n : Nat} {ret : Option FieldType} (hY : zY y code nL ret n) (hL : zLS own i y) : GoodIn z_tb (va_wsS own i y (zws y code nL ret)) := by
  intro w hw
  simp only [va_wsS, zws, List.cons_append, List.nil_append, List.mem_cons] at hw
  rcases hw with rfl | rfl | rfl | rfl | hw
  · exact z_gin hL.1
  · exact z_gin hL.2
  · exact z_gin hY.2.1
  · exact z_gin hY.1
  · exact z_gin hw
/-- a callee's room within the caller's -/
def zfit (R : Room) (d nL cells slots : Nat) : Prop := (d + 1 ≤ R.frames ∧ 8 + (nL + 11) + 64 * d ≤ R.locals) ∧ cells + 0 ≤ R.cells ∧ slots + 0 ≤ R.slots
theorem zfit_m {d d' nL : Nat} (h : d' < d) (hn : nL ≤ 45) : zfit (zrm d) d' nL 0 0 := ⟨⟨h, by show _ ≤ 64 * d; omega⟩, Nat.le_refl _, Nat.le_refl _⟩
section ZD
variable {T : List zN} {own : String} {code : ByteArray} {nL : Nat} {B : zB} {cells slots pc : Nat} {ls : List (Nat × Value)} {st stk : List Value} {M M1 : zM} {y : MethodName} {code' : ByteArray} {nL' n d' i : Nat} {ret' : Option FieldType} {As : List Value} {r : Option Value}
theorem z_cats {E : zE} {m : MethodId} {a : Array Slot} {q : List Value} (h : (st.map Value.category).sum ≤ 8) : 2 * (F0 m pc a q).monitorRoom + ((st.map (zv E)).map fun v => v.category).sum ≤ 8 := by
  refine lv_room ?_
  rw [List.map_map, show ((fun v => v.category) ∘ zv E) = Value.category from funext fun v => zv_cat E v]
  exact h
/-- behind a call -/
theorem z_after {p : Program} {l : Launch} {e : Env} {s : State} {m : MethodId} {args a0 : Array Value} {below : List Frame} {meth : Method} {c : Code} {E : zE} {H : Heap} {locs : List Loc} {a : Array Slot} {stk0 : List Value} (hC : p.tables.exec = Jvm.exec ∧ c.code = code ∧ c.maxLocals = nL ∧ s.vm.findClass own = some m.cls ∧ ∀ w ∈ z_tb, w.before args s = true) (hB : B.2.2.1 l meth c E s args) (hX : zX T E (B.2.1 E s) s) (hS : va_S (B.2.1 E s) s.heap H locs) (hl : lv_has a nL (ls.map (fun q => (q.1, zv E q.2))))
    (hr : va_Run p l e B.1 s m args below meth c H locs cells slots 0 0 (F0 m pc a stk0) (st.map (zv E)) (zQ T E r M1 a0) (zA T E)) (k : zJ T own code nL B cells slots (pc + 3) ls (r.toList ++ st) M1) : W p l e B.1 s m args below meth c H locs cells slots (B.2.2.2 s args below E) (F0 m pc a stk0) := by
  intro Ts hTs Xs
  obtain ⟨v, st₀, t, T', L, h0, X', hL, e1, e2, ⟨hv, hP1, hz, hk⟩, stp⟩ := hr Ts hTs Xs
  have hv : v = r.map (zv E) := by cases hv; rfl
  subst hv
  rw [h0] at hz hk
  have hS1 : va_S (B.2.1 E s) s.heap T'.heap (locs ++ L) := ⟨Nat.le_trans hS.1 (by rw [e1]; exact hz), fun q h1 h2 => by rw [e1, hk q (Nat.lt_of_lt_of_le h1 hS.1) (fun z => h2 (hX.2.1.free q z))]; exact hS.2.1 q h1 h2, fun q hq => by
      rcases List.mem_append.mp hq with h | h
      · exact hS.2.2 q h
      · exact hX.2.1.free _ (hL q h)⟩
  obtain ⟨t2, a1, b1⟩ := k p l e s m args below meth c E T'.heap (locs ++ L) a hC hB hX (by rw [e1]; exact hP1) hS1 hl T' rfl X'
  have a2 : Steps p.tables e below (T'.setTop { (F0 m pc a stk0) with pc := (F0 m pc a stk0).pc + 3, stack := (r.map (zv E)).toList ++ st.map (zv E) }) t2 := by
    have hh : (r.map (zv E)).toList ++ st.map (zv E) = (r.toList ++ st).map (zv E) := by cases r <;> simp
    rw [hh]
    exact a1
  exact ⟨t2, stp t2 a2, b1⟩
theorem zg_callV {o ci : Nat} {lay : List Nat} {Tt : u_T} {N : Nat} (hK : zK T y code' nL' ret' d' (.ref o :: As) M r M1) (hY : zY y code' nL' ret' n) (hL : zLV own i y) (hn : As.length = n) (hT : T[o]? = some (.inr (ci, lay))) (hc : vwCl[ci]? = some (y.cls, Tt, N)) (hR : zfit B.1 d' nL' cells slots) (hst : (st.map Value.category).sum ≤ 8) (hd : decode code pc = .ok (.invokevirtual i, 3)) (hs : stk = As.reverse ++ .ref o :: st)
    (k : zJ T own code nL B cells slots (pc + 3) ls (r.toList ++ st) M1) : zJ T own code nL B cells slots pc ls stk M := by
  intro p l e s m args below meth c E H locs a hC hB hX hP hS hl
  subst hs
  refine z_after hC hB hX hS hl (va_runV (C := y.cls) (b := zad E o) (As := As.map (zv E)) (rest := st.map (zv E)) (Ts := z_tb) (n := n) (index := i) hC (hK l E) (cwV n hC.2.2.2.2 (z_goodV hY hL) rfl rfl rfl ⟨rfl, hY.2.2⟩ hR.1) ⟨zPc.blind T E _ M, va_recv hX.1 hP hc (zw_get hT), fun U hU hW => ⟨rfl, hX.to hS hU hW, by rw [hU]; exact hP⟩⟩ rfl (by rw [List.length_map]; exact hn) hl.1 ?_ (z_cats hst) hd hR.2) k
  show (As.reverse ++ .ref o :: st).map (zv E) = _
  simp [zv]
theorem zg_callS (hK : zK T y code' nL' ret' d' As M r M1) (hY : zY y code' nL' ret' n) (hL : zLS own i y) (hn : As.length = n) (hR : zfit B.1 d' nL' cells slots) (hst : (st.map Value.category).sum ≤ 8) (hd : decode code pc = .ok (.invokestatic i, 3)) (hs : stk = As.reverse ++ st)
    (k : zJ T own code nL B cells slots (pc + 3) ls (r.toList ++ st) M1) : zJ T own code nL B cells slots pc ls stk M := by
  intro p l e s m args below meth c E H locs a hC hB hX hP hS hl
  subst hs
  refine z_after hC hB hX hS hl (va_runS (As := As.map (zv E)) (rest := st.map (zv E)) (Ts := z_tb) (n := n) (index := i) hC (hK l E) (va_cwS n hC.2.2.2.2 (z_goodS hY hL) rfl rfl rfl hY.2.2 hR.1) ⟨zPc.blind T E _ M, fun U hU hW => ⟨rfl, hX.to hS hU hW, by rw [hU]; exact hP⟩⟩ rfl (by rw [List.length_map]; exact hn) hl.1 ?_ (z_cats hst) hd hR.2) k
  show (As.reverse ++ st).map (zv E) = _
  simp
theorem zg_callSN {host : String} (hK : zK T y code' nL' ret' d' As M r M1) (hY : zY y code' nL' ret' n) (hN : (own, i, y, host) ∈ zNest) (hst0 : Cond.static y ∈ z_tb) (hn : As.length = n) (hR : zfit B.1 d' nL' cells slots) (hst : (st.map Value.category).sum ≤ 8) (hd : decode code pc = .ok (.invokestatic i, 3)) (hs : stk = As.reverse ++ st)
    (k : zJ T own code nL B cells slots (pc + 3) ls (r.toList ++ st) M1) : zJ T own code nL B cells slots pc ls stk M := by
  intro p l e s m args below meth c E H locs a hC hB hX hP hS hl
  subst hs
  have hG : GoodIn z_tb (zws y code' nL' ret') := fun w hw => by
    rcases List.mem_cons.mp hw with rfl | hw
    · exact z_gin hY.1
    · exact z_gin hw
  refine z_after hC hB hX hS hl (va_runSN (As := As.map (zv E)) (rest := st.map (zv E)) (Ts := z_tb) (n := n) (index := i) (host := host) hC (hK l E) ⟨va_cnB n hC.2.2.2.2 hG rfl rfl rfl (hX.2.2.2.2.2.2 _ hN) (hC.2.2.2.2 _ hY.2.1) hY.2.2 hR.1, hC.2.2.2.2 _ hst0, trivial⟩ ⟨zPc.blind T E _ M, fun U hU hW => ⟨rfl, hX.to hS hU hW, by rw [hU]; exact hP⟩⟩ rfl (by rw [List.length_map]; exact hn) hl.1 ?_ (z_cats hst) hd hR.2) k
  show (As.reverse ++ st).map (zv E) = _
  simp
theorem zg_callVs {o : Nat} (ho : o < 12) (hy : y.cls = "java/lang/String") (hK : zK T y code' nL' ret' d' (.ref (1000 + o) :: As) M r M1) (hY : zY y code' nL' ret' n) (hL : zLV own i y) (hn : As.length = n) (hR : zfit B.1 d' nL' cells slots) (hst : (st.map Value.category).sum ≤ 8) (hd : decode code pc = .ok (.invokevirtual i, 3)) (hs : stk = As.reverse ++ .ref (1000 + o) :: st)
    (k : zJ T own code nL B cells slots (pc + 3) ls (r.toList ++ st) M1) : zJ T own code nL B cells slots pc ls stk M := by
  intro p l e s m args below meth c E H locs a hC hB hX hP hS hl
  subst hs
  refine z_after hC hB hX hS hl (va_runV (C := y.cls) (b := zad E (1000 + o)) (As := As.map (zv E)) (rest := st.map (zv E)) (Ts := z_tb) (n := n) (index := i) hC (hK l E) (cwV n hC.2.2.2.2 (z_goodV hY hL) rfl rfl rfl ⟨rfl, hY.2.2⟩ hR.1) ⟨zPc.blind T E _ M, by rw [hy]; exact vk_recv (i := o) (adK := fun i => zad E (1000 + i)) hX.2.2.1 ho hS, fun U hU hW => ⟨rfl, hX.to hS hU hW, by rw [hU]; exact hP⟩⟩ rfl (by rw [List.length_map]; exact hn) hl.1 ?_ (z_cats hst) hd hR.2) k
  show (As.reverse ++ .ref (1000 + o) :: st).map (zv E) = _
  simp [zv]
theorem zfit.mono {R : Room} {d d' nL nL' c s : Nat} (h : zfit R d nL c s) (hd : d' ≤ d) (hn : nL' ≤ nL) : zfit R d' nL' c s := ⟨⟨by have := h.1.1; omega, by have := h.1.2; omega⟩, h.2⟩
end ZD
