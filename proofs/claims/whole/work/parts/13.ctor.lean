/-! constructors: contracts that let the world grow -/
def zrmc (d mc ms : Nat) : Room := { frames := d, cells := mc, slots := ms, locals := 64 * d }
def zAs (T : List zN) (E : zE) (sz : Nat) : Nat → Prop := fun q => zA T E q ∨ sz ≤ q
def zQc (T T1 : List zN) (E : zE) (M1 : zM) (sz : Nat) : Array Value → State → Outcome → State → Prop := fun _ st oc t => oc = .returned none ∧ (∃ E1, zExt T.length E E1 ∧ zD T1 E1 (zAs T E sz) ∧ va_P E1.1 vwCl (zw T1 E1 M1) t.heap) ∧ va_F (zAs T E sz) st t
def zPcc (T : List zN) (E : zE) (as : List Value) (M : zM) (sz : Nat) : Array Value → State → Prop := va_Pc (as.map (zv E)) (fun U => U.heap.size = sz ∧ zX T E (zAs T E sz) U ∧ va_P E.1 vwCl (zw T E M) U.heap)
def zKc (T : List zN) (y : MethodName) (code : ByteArray) (nL d mc ms : Nat) (as : List Value) (M : zM) (T1 : List zN) (M1 : zM) : Prop :=
  ∀ (l : Launch) (E : zE) (sz : Nat), Met l y (zws y code nL none) (zrmc d mc ms) (zPcc T E as M sz) (zQc T T1 E M1 sz) mc ms (zAs T E sz)
def zBc (T T1 : List zN) (E0 : zE) (M1 : zM) (sz d mc ms : Nat) : zB := (zrmc d mc ms, fun _ _ => zAs T E0 sz, fun _ meth _ E s _ => meth.sig.returnType = none ∧ meth.locks = false ∧ meth.name = "<init>" ∧ s.heap.size = sz ∧ zExt T.length E0 E, fun s args below _ => MQ below (zQc T T1 E0 M1 sz) args s mc ms (zAs T E0 sz))
theorem zBc.grow (T T1 : List zN) (E0 : zE) (M1 : zM) (sz d mc ms : Nat) {n : Nat} (hn : Nat.ble T.length n = true) : zGrow (zBc T T1 E0 M1 sz d mc ms) n :=
  ⟨fun _ _ _ _ _ _ h q hq => Or.inr (by rw [← h.2.2.2.1]; exact hq), fun _ _ _ _ _ _ _ h1 h2 => ⟨h2.1, h2.2.1, h2.2.2.1, h2.2.2.2.1, h2.2.2.2.2.tr (by simpa using hn) h1⟩, fun _ _ _ => rfl, fun _ _ _ _ _ => rfl⟩
theorem zBc.ini (T T1 : List zN) (E0 : zE) (M1 : zM) (sz d mc ms : Nat) : ∀ l meth c E s args, (zBc T T1 E0 M1 sz d mc ms).2.2.1 l meth c E s args → meth.name = "<init>" := fun _ _ _ _ _ _ h => h.2.2.1
theorem zPcc.blind (T : List zN) (E : zE) (as : List Value) (M : zM) (sz : Nat) : FrameBlind (zPcc T E as M sz) := fun a U g mk q => ⟨q.1, q.2.1, q.2.2.1.blind, q.2.2.2⟩
theorem zKc_of {T T1 : List zN} {y : MethodName} {code : ByteArray} {nL d mc ms : Nat} {as : List Value} {M M1 : zM} (hp : plainName y.cls = true) (hy : y.name = "<init>") (hn : (lg_sl as).length ≤ nL)
    (h : ∀ (E0 : zE) (sz : Nat), zJ T y.cls code nL (zBc T T1 E0 M1 sz d mc ms) 0 0 0 (lv_args 0 as) [] M) : zKc T y code nL d mc ms as M T1 M1 := by
  intro l E sz
  refine Met.ofW (cc := code) (maxL := nL) (ret := none) hp rfl ?_
  intro p e s m args below meth c s₁ Bd hml hv
  obtain ⟨rfl, hsz, hX, hP⟩ := hv
  have hown : s.vm.findClass y.cls = some m.cls := findClass_of_methodNamed Bd.named
  have hts : ∀ w ∈ zws y code nL none, w.before ((as.map (zv E)).toArray) s = true := atoms_spec (ws := zws y code nL none) Bd.pre
  have hl := lv_entry (as.map (zv E)) (n := nL) (by rw [lg_sl_len]; exact hn)
  rw [lg_entry_eq]
  rw [lv_args_map] at hl
  exact h E sz p l e s m _ below meth c E s.heap [] _ ⟨Bd.exec, Bd.bytes, hml, hown, fun w hw => hts w (List.mem_cons_of_mem _ hw)⟩ ⟨Bd.returns, Bd.notSynchronized, ((name_of_methodNamed Bd.named Bd.method).1).trans hy, hsz, zExt.rf _ _⟩ hX hP va_S.rf hl
theorem zg_cret {T T1 : List zN} {own : String} {code : ByteArray} {nL d mc ms sz : Nat} {E0 : zE} {pc : Nat} {ls : List (Nat × Value)} {M1 : zM} (hd : decode code pc = .ok (.return_, 1)) : zJ T1 own code nL (zBc T T1 E0 M1 sz d mc ms) mc ms pc ls [] M1 := by
  intro p l e s m args below meth c E H locs a hC hB hX hP hS hl
  exact W.vret hC.1 hC.2.1 hB.1 (fun t ht _ => ⟨rfl, ⟨E, hB.2.2.2.2, hX.2.1, by rw [ht]; exact hP⟩, hS.F ht⟩) hS.2.2 hd hB.2.1
section ZCC
variable {T T1 : List zN} {own : String} {code : ByteArray} {nL : Nat} {B : zB} {cells slots pc : Nat} {ls : List (Nat × Value)} {st stk : List Value} {M M1 : zM} {y : MethodName} {code' : ByteArray} {nL' n d' i mc ms : Nat} {As : List Value}
def zfitc (R : Room) (d nL cells slots mc ms : Nat) : Prop := (d + 1 ≤ R.frames ∧ 8 + (nL + 11) + 64 * d ≤ R.locals) ∧ cells + mc ≤ R.cells ∧ slots + ms ≤ R.slots
theorem z_afterc {p : Program} {l : Launch} {e : Env} {s : State} {m : MethodId} {args a0 : Array Value} {below : List Frame} {meth : Method} {c : Code} {E : zE} {H : Heap} {locs : List Loc} {a : Array Slot} {stk0 : List Value} (hn1 : T.length ≤ 1000) (hg : zGrow B T.length) (hst : st.all (zok T.length) = true) (hls : ls.all (fun q => zok T.length q.2) = true) (hC : p.tables.exec = Jvm.exec ∧ c.code = code ∧ c.maxLocals = nL ∧ s.vm.findClass own = some m.cls ∧ ∀ w ∈ z_tb, w.before args s = true) (hB : B.2.2.1 l meth c E s args) (hX : zX T E (B.2.1 E s) s) (hS : va_S (B.2.1 E s) s.heap H locs) (hl : lv_has a nL (ls.map (fun q => (q.1, zv E q.2))))
    (hr : va_Run p l e B.1 s m args below meth c H locs cells slots mc ms (F0 m pc a stk0) (st.map (zv E)) (zQc T T1 E M1 H.size a0) (zAs T E H.size)) (k : zJ T1 own code nL B (cells + mc) (slots + ms) (pc + 3) ls st M1) : W p l e B.1 s m args below meth c H locs cells slots (B.2.2.2 s args below E) (F0 m pc a stk0) := by
  have hsub : ∀ q, zAs T E H.size q → B.2.1 E s q := fun q hq => hq.elim (hX.2.1.free q) (fun h => hg.1 l meth c E s args hB q (Nat.le_trans hS.1 h))
  intro Ts hTs Xs
  obtain ⟨v, st₀, t, T', L, h0, X', hL, e1, e2, ⟨hv, ⟨E1, hE, hD1, hP1⟩, hz, hk⟩, stp⟩ := hr Ts hTs Xs
  have hv : v = none := by cases hv; rfl
  subst hv
  rw [h0] at hz hk
  have hS1 : va_S (B.2.1 E s) s.heap T'.heap (locs ++ L) := ⟨Nat.le_trans hS.1 (by rw [e1]; exact hz), fun q h1 h2 => by rw [e1, hk q (Nat.lt_of_lt_of_le h1 hS.1) (fun z => h2 (hsub q z))]; exact hS.2.1 q h1 h2, fun q hq => by
      rcases List.mem_append.mp hq with h | h
      · exact hS.2.2 q h
      · exact hsub _ (hL q h)⟩
  have eA : B.2.1 E1 s = B.2.1 E s := hg.2.2.1 _ _ _
  obtain ⟨t2, a1, b1⟩ := k p l e s m args below meth c E1 T'.heap (locs ++ L) a hC (hg.2.1 l meth c E _ s args hE hB) (by rw [eA]; exact hX.ext hn1 hE ⟨hD1.1, fun i hi => hsub _ (hD1.2 i hi)⟩) (by rw [e1]; exact hP1) (by rw [eA]; exact hS1) (by rw [zok_ls hE hls]; exact hl) T' rfl X'
  rw [zok_st hE hst] at a1
  rw [hg.2.2.2 s args below E1 E] at b1
  exact ⟨t2, stp t2 a1, b1⟩
theorem zX.toc {E : zE} {A : Nat → Prop} {s U : State} {H : Heap} {locs : List Loc} (h : zX T E A s) (hA : ∀ q, s.heap.size ≤ q → A q) (hS : va_S A s.heap H locs) (hU : U.heap = H) (hW : s.WarmedH U.vm) : zX T E (zAs T E H.size) U := by
  obtain ⟨h1, h2, h3⟩ := h
  refine ⟨va_K.moved hW.alike h1, ⟨h2.1, fun i hi => Or.inl ⟨i, hi, rfl⟩⟩, zS.to (T := T) (fun q hq => hq.elim (h2.free q) (fun z => hA q (Nat.le_trans hS.1 z))) h3 (fun q q1 q2 => ?_) hW⟩
  rw [hU]
  exact hS.2.1 q q1 q2
theorem z_goodC (hY : zY y code' nL' none n) : GoodIn z_tb (zws y code' nL' none) := fun w hw => by
  rcases List.mem_cons.mp hw with rfl | hw
  · exact z_gin hY.1
  · exact z_gin hw
theorem zg_callC {o : Nat} (hK : zKc T y code' nL' d' mc ms (.ref o :: As) M T1 M1) (hY : zY y code' nL' none n) (hL : Cond.methodLink own i y ∈ z_tb) (hI : Cond.instanceMethod y ∈ z_tb) (hy : y.name = "<init>") (hn : As.length = n) (hn1 : Nat.ble T.length 1000 = true) (hg : zGrow B T.length) (hsk : st.all (zok T.length) = true) (hls : ls.all (fun q => zok T.length q.2) = true) (hR : zfitc B.1 d' nL' cells slots mc ms) (hst : (st.map Value.category).sum ≤ 8) (hd : decode code pc = .ok (.invokespecial i, 3)) (hs : stk = As.reverse ++ .ref o :: st)
    (k : zJ T1 own code nL B (cells + mc) (slots + ms) (pc + 3) ls st M1) : zJ T own code nL B cells slots pc ls stk M := by
  intro p l e s m args below meth c E H locs a hC hB hX hP hS hl
  subst hs
  refine z_afterc (by simpa using hn1) hg hsk hls hC hB hX hS hl (va_runI (b := zad E o) (As := As.map (zv E)) (rest := st.map (zv E)) (Ts := z_tb) (n := n) (index := i) hC (hK l E H.size) (cwI n hC.2.2.2.2 (z_goodC hY) rfl rfl rfl (hC.2.2.2.2 _ hY.2.1) (hC.2.2.2.2 _ hL) (hC.2.2.2.2 _ hI) hy hY.2.2 hR.1) ⟨zPcc.blind T E _ M _, fun U hU hW => ⟨rfl, by rw [hU], hX.toc (hg.1 l meth c E s args hB) hS hU hW, by rw [hU]; exact hP⟩⟩ rfl (by rw [List.length_map]; exact hn) hl.1 ?_ (z_cats hst) hd hR.2) k
  show (As.reverse ++ .ref o :: st).map (zv E) = _
  simp [zv]
theorem zg_callCN {o : Nat} {host : String} (hK : zKc T y code' nL' d' mc ms (.ref o :: As) M T1 M1) (hY : zY y code' nL' none n) (hN : (own, i, y, host) ∈ zNest) (hI : Cond.instanceMethod y ∈ z_tb) (hy : y.name = "<init>") (hn : As.length = n) (hn1 : Nat.ble T.length 1000 = true) (hg : zGrow B T.length) (hsk : st.all (zok T.length) = true) (hls : ls.all (fun q => zok T.length q.2) = true) (hR : zfitc B.1 d' nL' cells slots mc ms) (hst : (st.map Value.category).sum ≤ 8) (hd : decode code pc = .ok (.invokespecial i, 3)) (hs : stk = As.reverse ++ .ref o :: st)
    (k : zJ T1 own code nL B (cells + mc) (slots + ms) (pc + 3) ls st M1) : zJ T own code nL B cells slots pc ls stk M := by
  intro p l e s m args below meth c E H locs a hC hB hX hP hS hl
  subst hs
  refine z_afterc (by simpa using hn1) hg hsk hls hC hB hX hS hl (va_runIN (b := zad E o) (As := As.map (zv E)) (rest := st.map (zv E)) (Ts := z_tb) (n := n) (index := i) (host := host) hC (hK l E H.size) ⟨va_cnB n hC.2.2.2.2 (z_goodC hY) rfl rfl rfl (hX.2.2.2.2.2.2 _ hN) (hC.2.2.2.2 _ hY.2.1) hY.2.2 hR.1, hy, hC.2.2.2.2 _ hI⟩ ⟨zPcc.blind T E _ M _, fun U hU hW => ⟨rfl, by rw [hU], hX.toc (hg.1 l meth c E s args hB) hS hU hW, by rw [hU]; exact hP⟩⟩ rfl (by rw [List.length_map]; exact hn) hl.1 ?_ (z_cats hst) hd hR.2) k
  show (As.reverse ++ .ref o :: st).map (zv E) = _
  simp [zv]
end ZCC
