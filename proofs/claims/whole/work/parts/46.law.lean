/-! THE CLAIM OUT OF ONE WALK OF THE LAW'S BODY. Your part is whole_start (and what it stands on); all else here is the same for every law, but numbers. -/
def R_law : String := "SeaClothLaw"
def lw_P (b : Addr) (xs : List Int32) (args : Array Value) (s : State) : Prop := args = #[.ref b] ∧ s.IntsAt b xs ∧ xs.length ≤ 320 ∧ (Jvm.Cond.and given_1 narrow_1).before args s = true
def lw_Q (_ : Array Value) (s : State) (o : Outcome) (t : State) : Prop := o = .returned (some (.int 1)) ∧ Framed s o t [] 600128 7301098
def lw_Z (below : List Frame) (a : Array Value) (s : State) : State → Prop := fun t => ∃ o, t.status = .running ∧ Ended t below o ∧ lw_Q a s o t
/-- the law's own end, with 1 on the stack, nothing written that was there before, its room as the claim has it -/
theorem lw_ret {p : Program} {l : Launch} {e : Env} {s : State} {m : MethodId} {below : List Frame} {meth : Method} {c : Code} {b : Nat} (hx : p.tables.exec = Jvm.exec) (hb : c.code = code) (hr : meth.sig.returnType = ret) (hlocks : meth.locks = false) {pc : Nat} {H : Heap} {ls : Array Slot} (hdg : decode code pc = .ok (.ireturn, 1)) : W p l e room_1 s m #[Value.ref b] below meth c H [] 600128 7301098 (lw_Z below #[Value.ref b] s) (F0 m pc ls [.int 1]) := by
  intro T hT X
  obtain ⟨fs, hret, hrun, hended, hW, hframe⟩ := X.leave (v := some (.int 1)) (hlocks := hlocks) (fun h => by rw [hr] at h; cases h)
  have hmeth' : T.vm.method? m = some meth := X.method'
  refine ⟨T.setFrames fs, ?_, .returned (some (.int 1)), hrun, hended, rfl, ⟨_, rfl⟩, hW, hframe⟩
  jvm_step X.here [X.here.top, hx, hb, hdg, hmeth', hr, ret, narrow_b1]
  (try refine ⟨rfl, ?_⟩); (try refine ⟨rfl, ?_⟩)
  first | (intro acts; rw [hret _ acts rfl rfl rfl]) | rw [hret _ _ rfl rfl rfl]
  exact Steps.refl _
/-- what holds at the law's entry: the machine, the code, the tables' words (any of lw_tbl by 'hts w (by decide +kernel)'), the script of L ints xs at the cell b, what the Statement gives of the start (any of its parts by flat_of_before) -/
def lw_At (p : Program) (s : State) (m : MethodId) (meth : Method) (c : Code) (b L : Nat) (xs : Nat → Int32) : Prop :=
  p.tables.exec = Jvm.exec ∧ c.code = code ∧ meth.sig.returnType = ret ∧ c.maxLocals = 8 ∧ s.vm.findClass R_law = some m.cls ∧ (∀ w ∈ lw_tbl, w.before #[Value.ref b] s = true) ∧ va_X b L xs s s.heap ∧ b < s.heap.size ∧ meth.locks = false ∧ (Jvm.Cond.and given_1 narrow_1).before #[Value.ref b] s = true
theorem zaJ0 (M : zM) : zaJ M 1 67 0 = some (M.2 67 0) := if_neg (by decide)
theorem lcmp_self (x : Int64) : lg_cmp x x = 0 := by
  unfold lg_cmp
  rw [if_neg (fun h => Int64.lt_irrefl h), if_pos rfl]
def zP_sign (Inv : Nat → zM → Prop) : Prop := ∀ (c : Nat) (M : zM) (v1 : Int32), c < 64 → Inv c M → ∃ (r : Int32) (M1 M2 : zM), f8_sign v1 M = some (r, M1) ∧ f9_sign v1 M1 = some (r, M2) ∧ Inv (c + 1) M2
def zP_end (Inv : Nat → zM → Prop) : Prop := ∀ (c : Nat) (M : zM) (v1 : Int32), c < 64 → Inv c M → ∃ (r : Int32) (M1 M2 : zM), f8_end v1 M = some (r, M1) ∧ f9_end v1 M1 = some (r, M2) ∧ Inv (c + 1) M2
def zP_cloth (Inv : Nat → zM → Prop) : Prop := ∀ (c : Nat) (M : zM), c < 64 → Inv c M → ∃ (r : Int32) (M1 M2 : zM), f8_cloth M = some (r, M1) ∧ f9_cloth M1 = some (r, M2) ∧ Inv (c + 1) M2
def zP_rule (Inv : Nat → zM → Prop) : Prop := ∀ (c : Nat) (M : zM), c < 64 → Inv c M → ∃ (r : Int32) (M1 M2 : zM), f8_rule M = some (r, M1) ∧ f9_rule M1 = some (r, M2) ∧ Inv (c + 1) M2
def zP_cell (Inv : Nat → zM → Prop) : Prop := ∀ (c : Nat) (M : zM) (v1 v2 : Int32), c < 64 → Inv c M → (∃ (r : Int32) (M2 : zM), f8_cell v1 v2 M = some r ∧ f9_cell v1 v2 (zsj M 67 0 r.toInt64) = some (r, M2) ∧ f9_thrown M2 = some 0 ∧ M2.2 67 0 = r.toInt64 ∧ Inv (c + 1) M2) ∨ ∃ (r : Int32) (M2 : zM), gx8_cell v1 v2 M = some () ∧ f9_cell v1 v2 M = some (r, M2) ∧ f9_thrown M2 = some 1 ∧ Inv (c + 1) M2
def zP_thread (Inv : Nat → zM → Prop) : Prop := ∀ (c : Nat) (M : zM) (v1 v2 v3 : Int32), c < 64 → Inv c M → (∃ (r : Int32) (M1 M2 : zM), f8_thread v1 v2 v3 M = some (r, M1) ∧ f9_thread v1 v2 v3 (zsj M1 67 0 r.toInt64) = some (r, M2) ∧ f9_thrown M2 = some 0 ∧ M2.2 67 0 = r.toInt64 ∧ Inv (c + 1) M2) ∨ ∃ (r : Int32) (M2 : zM), gx8_thread v1 v2 v3 M = some () ∧ f9_thread v1 v2 v3 M = some (r, M2) ∧ f9_thrown M2 = some 1 ∧ Inv (c + 1) M2
def zP_sheet (Inv : Nat → zM → Prop) : Prop := ∀ (c : Nat) (M : zM) (v1 v2 v3 v4 : Int32), c < 64 → Inv c M → ∃ (r : Int32) (M1 M2 : zM), f8_sheet v1 v2 v3 v4 M = some (r, M1) ∧ f9_sheet v1 v2 v3 v4 M1 = some (r, M2) ∧ Inv (c + 1) M2
def zP_nights (Inv : Nat → zM → Prop) : Prop := ∀ (c : Nat) (M : zM) (v1 : Int32), c < 64 → Inv c M → ∃ (r : Int32) (M1 M2 : zM), f8_nights v1 M = some (r, M1) ∧ f9_nights v1 M1 = some (r, M2) ∧ Inv (c + 1) M2
def zP_weaves (Inv : Nat → zM → Prop) : Prop := ∀ (c : Nat) (M : zM) (v1 v2 v3 : Int32), c < 64 → Inv c M → ∃ (r : Int32) (M1 M2 : zM), f8_weaves v1 v2 v3 M = some (r, M1) ∧ f9_weaves v1 v2 v3 M1 = some (r, M2) ∧ Inv (c + 1) M2
def zP_draws (Inv : Nat → zM → Prop) : Prop := ∀ (c : Nat) (M : zM) (v1 v2 : Int32), c < 64 → Inv c M → ∃ (r : Int32) (M1 M2 : zM), f8_draws v1 v2 M = some (r, M1) ∧ f9_draws v1 v2 M1 = some (r, M2) ∧ Inv (c + 1) M2
def zP_flips (Inv : Nat → zM → Prop) : Prop := ∀ (c : Nat) (M : zM) (v1 v2 : Int32), c < 64 → Inv c M → ∃ (r : Int32) (M1 M2 : zM), f8_flips v1 v2 M = some (r, M1) ∧ f9_flips v1 v2 M1 = some (r, M2) ∧ Inv (c + 1) M2
def zP_mirrors (Inv : Nat → zM → Prop) : Prop := ∀ (c : Nat) (M : zM) (v1 : Int32), c < 64 → Inv c M → ∃ (r : Int32) (M1 M2 : zM), f8_mirrors v1 M = some (r, M1) ∧ f9_mirrors v1 M1 = some (r, M2) ∧ Inv (c + 1) M2
def zP_work (Inv : Nat → zM → Prop) : Prop := ∀ (c : Nat) (M : zM), c < 64 → Inv c M → ∃ (r : Int32) (M1 M2 : zM), f8_work M = some (r, M1) ∧ f9_work M1 = some (r, M2) ∧ Inv (c + 1) M2
def zP_undo (Inv : Nat → zM → Prop) : Prop := ∀ (c : Nat) (M : zM), c < 64 → Inv c M → ∃ (r : Int32) (M1 M2 : zM), f8_undo M = some (r, M1) ∧ f9_undo M1 = some (r, M2) ∧ Inv (c + 1) M2
def zP_next (Inv : Nat → zM → Prop) : Prop := ∀ (c : Nat) (M : zM), c < 64 → Inv c M → ∃ (r : Int32) (M1 M2 : zM), f8_next M = some (r, M1) ∧ f9_next M1 = some (r, M2) ∧ Inv (c + 1) M2
def zP_later (Inv : Nat → zM → Prop) : Prop := ∀ (c : Nat) (M : zM) (v1 : Int32), c < 64 → Inv c M → ∃ (r : Int32) (M1 M2 : zM), f8_later v1 M = some (r, M1) ∧ f9_later v1 M1 = some (r, M2) ∧ Inv (c + 1) M2
def zP_falls (Inv : Nat → zM → Prop) : Prop := ∀ (c : Nat) (M : zM), c < 64 → Inv c M → ∃ (r : Int32) (M1 M2 : zM), f8_falls M = some (r, M1) ∧ f9_falls M1 = some (r, M2) ∧ Inv (c + 1) M2
def zP_rags (Inv : Nat → zM → Prop) : Prop := ∀ (c : Nat) (M : zM), c < 64 → Inv c M → ∃ (r : Int32) (M1 M2 : zM), f8_rags M = some (r, M1) ∧ f9_rags M1 = some (r, M2) ∧ Inv (c + 1) M2
def zP_lefts (Inv : Nat → zM → Prop) : Prop := ∀ (c : Nat) (M : zM) (v1 : Int32), c < 64 → Inv c M → ∃ (r : Int32) (M1 M2 : zM), f8_lefts v1 M = some (r, M1) ∧ f9_lefts v1 M1 = some (r, M2) ∧ Inv (c + 1) M2
def zP_outlasts (Inv : Nat → zM → Prop) : Prop := ∀ (c : Nat) (M : zM), c < 64 → Inv c M → ∃ (r : Int32) (M1 M2 : zM), f8_outlasts M = some (r, M1) ∧ f9_outlasts M1 = some (r, M2) ∧ Inv (c + 1) M2
def zP_words (Inv : Nat → zM → Prop) : Prop := ∀ (c : Nat) (M : zM) (v1 v2 : Int32), c < 64 → Inv c M → ∃ (r : Int32) (M1 M2 : zM), f8_words v1 v2 M = some (r, M1) ∧ f9_words v1 v2 M1 = some (r, M2) ∧ Inv (c + 1) M2
def zP_loose (Inv : Nat → zM → Prop) : Prop := ∀ (c : Nat) (M : zM), c < 64 → Inv c M → ∃ (r : Int32) (M1 M2 : zM), f8_loose M = some (r, M1) ∧ f9_loose M1 = some (r, M2) ∧ Inv (c + 1) M2
def zP_sheds (Inv : Nat → zM → Prop) : Prop := ∀ (c : Nat) (M : zM), c < 64 → Inv c M → ∃ (r : Int32) (M1 M2 : zM), f8_sheds M = some (r, M1) ∧ f9_sheds M1 = some (r, M2) ∧ Inv (c + 1) M2
def zP_hangs (Inv : Nat → zM → Prop) : Prop := ∀ (c : Nat) (M : zM), c < 64 → Inv c M → ∃ (r : Int32) (M1 M2 : zM), f8_hangs M = some (r, M1) ∧ f9_hangs M1 = some (r, M2) ∧ Inv (c + 1) M2
def zP_spares (Inv : Nat → zM → Prop) : Prop := ∀ (c : Nat) (M : zM), c < 64 → Inv c M → ∃ (r : Int32) (M1 M2 : zM), f8_spares M = some (r, M1) ∧ f9_spares M1 = some (r, M2) ∧ Inv (c + 1) M2
def zP_mends (Inv : Nat → zM → Prop) : Prop := ∀ (c : Nat) (M : zM), c < 64 → Inv c M → ∃ (r : Int32) (M1 M2 : zM), f8_mends M = some (r, M1) ∧ f9_mends M1 = some (r, M2) ∧ Inv (c + 1) M2
def zP_endures (Inv : Nat → zM → Prop) : Prop := ∀ (c : Nat) (M : zM), c < 64 → Inv c M → ∃ (r : Int32) (M1 M2 : zM), f8_endures M = some (r, M1) ∧ f9_endures M1 = some (r, M2) ∧ Inv (c + 1) M2
def zP_differs (Inv : Nat → zM → Prop) : Prop := ∀ (c : Nat) (M : zM), c < 64 → Inv c M → ∃ (r : Int32) (M1 M2 : zM), f8_differs M = some (r, M1) ∧ f9_differs M1 = some (r, M2) ∧ Inv (c + 1) M2
def zP_looks (Inv : Nat → zM → Prop) : Prop := ∀ (c : Nat) (M : zM), c < 64 → Inv c M → ∃ (r : Int32) (M1 M2 : zM), f8_looks M = some (r, M1) ∧ f9_looks M1 = some (r, M2) ∧ Inv (c + 1) M2
def zP_repeats (Inv : Nat → zM → Prop) : Prop := ∀ (c : Nat) (M : zM), c < 64 → Inv c M → ∃ (r : Int32) (M1 M2 : zM), f8_repeats M = some (r, M1) ∧ f9_repeats M1 = some (r, M2) ∧ Inv (c + 1) M2
def zP_runs (Inv : Nat → zM → Prop) : Prop := ∀ (c : Nat) (M : zM), c < 64 → Inv c M → ∃ (r : Int32) (M1 M2 : zM), f8_runs M = some (r, M1) ∧ f9_runs M1 = some (r, M2) ∧ Inv (c + 1) M2
def zP_twins (Inv : Nat → zM → Prop) : Prop := ∀ (c : Nat) (M : zM), c < 64 → Inv c M → ∃ (r : Int32) (M1 M2 : zM), f8_twins M = some (r, M1) ∧ f9_twins M1 = some (r, M2) ∧ Inv (c + 1) M2
def zP_game (Inv : Nat → zM → Prop) : Prop := ∀ (c : Nat) (M : zM), c < 64 → Inv c M → ∃ (r : Int32) (M1 M2 : zM), f8_game M = some (r, M1) ∧ f9_game M1 = some (r, M2) ∧ Inv (c + 1) M2
def zP_told (Inv : Nat → zM → Prop) : Prop := ∀ (c : Nat) (M : zM) (v1 v2 : Int32), c < 64 → Inv c M → ∃ (r : Int32) (M1 M2 : zM), f8_told v1 v2 M = some (r, M1) ∧ f9_told v1 v2 M1 = some (r, M2) ∧ Inv (c + 1) M2
def zP_forget (Inv : Nat → zM → Prop) : Prop := ∀ (c : Nat) (M : zM), c < 64 → Inv c M → ∃ (r : Int32) (M1 M2 : zM), f8_forget M = some (r, M1) ∧ f9_forget M1 = some (r, M2) ∧ Inv (c + 1) M2
def zP_fits (Inv : Nat → zM → Prop) : Prop := ∀ (c : Nat) (M : zM), c < 64 → Inv c M → ∃ (r : Int32) (M1 M2 : zM), f8_fits M = some (r, M1) ∧ f9_fits M1 = some (r, M2) ∧ Inv (c + 1) M2
def zP_asks (Inv : Nat → zM → Prop) : Prop := ∀ (c : Nat) (M : zM), c < 64 → Inv c M → ∃ (r : Int32) (M1 M2 : zM), f8_asks M = some (r, M1) ∧ f9_asks M1 = some (r, M2) ∧ Inv (c + 1) M2
def zP_odds (Inv : Nat → zM → Prop) : Prop := ∀ (c : Nat) (M : zM) (v1 : Int32), c < 64 → Inv c M → ∃ (r : Int32) (M1 M2 : zM), f8_odds v1 M = some (r, M1) ∧ f9_odds v1 M1 = some (r, M2) ∧ Inv (c + 1) M2
def zP_law (Inv : Nat → zM → Prop) : Prop := ∀ (c : Nat) (M : zM), c < 64 → Inv c M → ∃ (r : Int32) (M1 M2 : zM), f8_law M = some (r, M1) ∧ f9_law M1 = some (r, M2) ∧ Inv (c + 1) M2
def zP_rests (Inv : Nat → zM → Prop) : Prop := ∀ (c : Nat) (M : zM) (v1 : Int32), c < 64 → Inv c M → ∃ (r : Int32) (M1 M2 : zM), f8_rests v1 M = some (r, M1) ∧ f9_rests v1 M1 = some (r, M2) ∧ Inv (c + 1) M2
def zP_years (Inv : Nat → zM → Prop) : Prop := ∀ (c : Nat) (M : zM) (v1 v2 : Int32), c < 64 → Inv c M → ∃ (r : Int32) (M1 M2 : zM), f8_years v1 v2 M = some (r, M1) ∧ f9_years v1 v2 M1 = some (r, M2) ∧ Inv (c + 1) M2
def zP_keep (Inv : Nat → zM → Prop) : Prop := ∀ (c : Nat) (M : zM) (v1 : Int32), c < 64 → Inv c M → ∃ (r : Int32) (M1 M2 : zM), f8_keep v1 M = some (r, M1) ∧ f9_keep v1 M1 = some (r, M2) ∧ Inv (c + 1) M2
def zP_again (Inv : Nat → zM → Prop) : Prop := ∀ (c : Nat) (M : zM) (v1 : Int32), c < 64 → Inv c M → ∃ (r : Int32) (M1 M2 : zM), f8_again v1 M = some (r, M1) ∧ f9_again v1 M1 = some (r, M2) ∧ Inv (c + 1) M2
def zP_count (Inv : Nat → zM → Prop) : Prop := ∀ (c : Nat) (M : zM) (v1 : Int32), c < 64 → Inv c M → ∃ (r : Int32) (M2 : zM), f8_count v1 M = some r ∧ f9_count v1 M = some (r, M2) ∧ Inv (c + 1) M2
def zP_row (Inv : Nat → zM → Prop) : Prop := ∀ (c : Nat) (M : zM) (v1 : Int32), c < 64 → Inv c M → (∃ (r : Int64) (M2 : zM), f8_row v1 M = some r ∧ f9_row v1 (zsj M 67 0 r) = some (r, M2) ∧ f9_thrown M2 = some 0 ∧ M2.2 67 0 = r ∧ Inv (c + 1) M2) ∨ ∃ (r : Int64) (M2 : zM), gx8_row v1 M = some () ∧ f9_row v1 M = some (r, M2) ∧ f9_thrown M2 = some 1 ∧ Inv (c + 1) M2
/-- the law's frame: what is known there -/
def zBl (b L : Nat) (xs : Nat → Int32) : zB := (room_1, fun _ s q => s.heap.size ≤ q, fun l meth _ E s args => args = #[Value.ref b] ∧ meth.sig.returnType = ret ∧ meth.locks = false ∧ l.stackTraces = false ∧ va_X b L xs s s.heap ∧ b < s.heap.size ∧ zad E 4000 = b ∧ zTh (fun q => s.heap.size ≤ q) s, fun s _ below _ => lw_Z below #[Value.ref b] s)
theorem zBl.grow (b L : Nat) (xs : Nat → Int32) (n : Nat) : zGrow (zBl b L xs) n := ⟨fun _ _ _ _ _ _ _ _ h => h, fun _ _ _ _ _ _ _ h h2 => ⟨h2.1, h2.2.1, h2.2.2.1, h2.2.2.2.1, h2.2.2.2.2.1, h2.2.2.2.2.2.1, (h.2.2 4000 (Or.inr (by omega))).trans h2.2.2.2.2.2.2.1, h2.2.2.2.2.2.2.2⟩, fun _ _ _ => rfl, fun _ _ _ _ _ => rfl⟩
section ZL
variable {T : List zN} {b L : Nat} {xs : Nat → Int32} {cells slots pc : Nat} {ls : List (Nat × Value)} {st stk : List Value} {M M1 : zM}
theorem zl_ret (hc : cells ≤ 600128) (hs : slots ≤ 7301098) (hd : decode code pc = .ok (.ireturn, 1)) : zJ T RL code 8 (zBl b L xs) cells slots pc ls [.int 1] M := by
  intro p l e s m args below meth c E H locs a hC hB hX hP hS hl
  obtain ⟨rfl, b2, b3, -⟩ := hB
  refine va_forget (fun q hq => hS.2.2 q hq) ?_
  refine W.widen hc hs ?_
  exact lw_ret hC.1 hC.2.1 b2 b3 hd
theorem zl_sld {i : Int32} (hin : vp_in i L) (hd : decode code pc = .ok (.iaload, 1)) (k : zJ T RL code 8 (zBl b L xs) cells slots (pc + 1) ls (.int (xs i.toNatClampNeg) :: st) M) : zJ T RL code 8 (zBl b L xs) cells slots pc ls (.int i :: .ref 4000 :: st) M := by
  intro p l e s m args below meth c E H locs a hC hB hX hP hS hl
  have hb4 : zad E 4000 = b := hB.2.2.2.2.2.2.1
  have hk := k p l e s m args below meth c E H locs a hC hB hX hP hS hl
  show W _ _ _ _ _ _ _ _ _ _ _ _ _ _ _ (F0 m pc a (.int i :: .ref (zad E 4000) :: st.map (zv E)))
  rw [hb4]
  exact va_sld hC.1 hC.2.1 hB.2.2.2.2.1 hB.2.2.2.2.2.1 (Nat.not_le.mpr hB.2.2.2.2.2.1) hS hin hd hk
theorem zl_slen (hd : decode code pc = .ok (.arraylength, 1)) (k : zJ T RL code 8 (zBl b L xs) cells slots (pc + 1) ls (.int (nI L) :: st) M) : zJ T RL code 8 (zBl b L xs) cells slots pc ls (.ref 4000 :: st) M := by
  intro p l e s m args below meth c E H locs a hC hB hX hP hS hl
  have hb4 : zad E 4000 = b := hB.2.2.2.2.2.2.1
  have hk := k p l e s m args below meth c E H locs a hC hB hX hP hS hl
  show W _ _ _ _ _ _ _ _ _ _ _ _ _ _ _ (F0 m pc a (.ref (zad E 4000) :: st.map (zv E)))
  rw [hb4]
  exact va_slen hC.1 hC.2.1 hB.2.2.2.2.1 hB.2.2.2.2.2.1 (Nat.not_le.mpr hB.2.2.2.2.2.1) hS hd hk
theorem zl_arg {i j : Nat} {x y : Int32} (hx : x = nI i) (hy : y = nI j) (h : i + j < L) (hL : L ≤ 320) (hd : decode code pc = .ok (.iaload, 1)) (k : zJ T RL code 8 (zBl b L xs) cells slots (pc + 1) ls (.int (xs (i + j)) :: st) M) : zJ T RL code 8 (zBl b L xs) cells slots pc ls (.int (x + y) :: .ref 4000 :: st) M := by
  subst hx
  subst hy
  rw [nI_add]
  refine zl_sld (vp_in_nI h (by omega)) hd ?_
  rw [nI_clamp (by omega)]
  exact k
theorem zl_callH {y : MethodName} {code' : ByteArray} {nL' n d' i : Nat} {hh : List (Nat × Nat × Nat × Nat)} {As : List Value} {r : Option Value} (hK : zKh T y code' nL' hh d' As M r M1) (hcw : Cond.codeWith y code' nL' (some .int) hh ∈ z_tb) (hini : Cond.initialized y.cls ∈ z_tb) (hy : y.cls ≠ "java/lang/invoke/MethodHandle" ∧ y.cls ≠ "java/lang/invoke/VarHandle" ∧ (parseMethodDescriptor y.desc).map (fun d => d.parameters.length) = some n) (hL : zLS RL i y) (hn : As.length = n) (hR : (d' + 1 ≤ 2048 ∧ 8 + (nL' + 11) + 64 * d' ≤ 84000) ∧ cells + 1 ≤ 600128 ∧ slots + 6 ≤ 7301098) (hst : (st.map Value.category).sum ≤ 8) (hd : decode code pc = .ok (.invokestatic i, 3)) (hs : stk = As.reverse ++ st)
    (k : zJ T RL code 8 (zBl b L xs) (cells + 1) (slots + 6) (pc + 3) ls (r.toList ++ st) M1) : zJ T RL code 8 (zBl b L xs) cells slots pc ls stk M := by
  intro p l e s m args below meth c E H locs a hC hB hX hP hS hl
  subst hs
  have hG : GoodIn z_tb (va_wsS RL i y (zwsH y code' nL' hh)) := by
    intro w hw
    simp only [va_wsS, zwsH, List.cons_append, List.nil_append, List.mem_cons] at hw
    rcases hw with rfl | rfl | rfl | rfl | hw
    · exact z_gin hL.1
    · exact z_gin hL.2
    · exact z_gin hini
    · exact z_gin hcw
    · exact z_gin hw
  have hr := vx_runSW (R := room_1) (cells := cells) (slots := slots) (locs := locs) (p := p) (l := l) (e := e) (below := below) (meth := meth) (As := As.map (zv E)) (rest := st.map (zv E)) (Ts := z_tb) (n := n) (index := i) (g := F0 m pc a ((As.reverse ++ st).map (zv E))) hC (hK l E hB.2.2.2.1) (vx_cwSW n hC.2.2.2.2 hG rfl rfl rfl hy hR.1) ⟨zPcx.blind T E _ M, fun U hU hW => ⟨rfl, hX.to hS hU hW, hB.2.2.2.2.2.2.2.to hX.2.1.free (fun q h1 h2 => by rw [hU]; exact hS.2.1 q h1 h2) hW, by rw [hU]; exact hP⟩⟩ rfl (by rw [List.length_map]; exact hn) hl.1 (by simp) (z_cats hst) hd hR.2
  intro Ts hTs Xs
  obtain ⟨v, st₀, t, T', Lc, h0, X', hLc, e1, e2, ⟨hv, hP1, hz, hk⟩, stp⟩ := hr Ts hTs Xs
  have hv : v = r.map (zv E) := by cases hv; rfl
  subst hv
  rw [h0] at hz hk
  have hS1 : va_S (fun q => s.heap.size ≤ q) s.heap T'.heap (locs ++ Lc) := ⟨Nat.le_trans hS.1 (by rw [e1]; exact hz), fun q h1 h2 => by rw [e1, hk q (Nat.lt_of_lt_of_le h1 hS.1) (fun z => h2 (hX.2.1.free q z))]; exact hS.2.1 q h1 h2, fun q hq => by
      rcases List.mem_append.mp hq with h | h
      · exact hS.2.2 q h
      · exact hX.2.1.free _ (hLc q h)⟩
  obtain ⟨t2, a1, c1⟩ := k p l e s m args below meth c E T'.heap (locs ++ Lc) a hC hB hX (by rw [e1]; exact hP1) hS1 hl T' rfl X'
  have hh2 : (r.map (zv E)).toList ++ st.map (zv E) = (r.toList ++ st).map (zv E) := by cases r <;> simp
  refine ⟨t2, stp t2 ?_, c1⟩
  rw [hh2]
  exact a1
theorem zfit_l {d nL : Nat} (hd : d < 1000) (hn : nL ≤ 45) (hc : cells ≤ 600128) (hs : slots ≤ 7301098) : zfit room_1 d nL cells slots := ⟨⟨by show d + 1 ≤ 2048; omega, by show _ ≤ 84000; omega⟩, hc, hs⟩
theorem zl_cmp {i : Nat} (hL : L ≤ 320) (hi : i ≤ 400) (h : ¬ (nI L - 5 < nI i)) : i + 5 ≤ L := by
  by_cases h5 : 5 ≤ L
  · have e : nI L - 5 = nI (L - 5) := by
      have e1 : nI L = nI (L - 5) + nI 5 := by rw [nI_add]; congr 1; omega
      rw [e1, show nI 5 = (5 : Int32) from rfl]
      exact Int32.add_sub_cancel ..
    rw [e] at h
    rcases Nat.lt_or_ge (L - 5) i with q | q
    · exact absurd (nI_lt q (by omega)) h
    · omega
  · exfalso
    apply h
    have hneg : nI L - 5 < 0 := by
      rcases (show L = 0 ∨ L = 1 ∨ L = 2 ∨ L = 3 ∨ L = 4 by omega) with rfl | rfl | rfl | rfl | rfl <;> decide
    exact Int32.lt_of_lt_of_le hneg (nI_pos' (by omega))
end ZL
theorem lw_iRL : Cond.initialized RL ∈ z_tb := z_mem 62 (by decide +kernel) (by decide +kernel)
theorem cw_Lcell : Cond.codeWith yL_cell cL_cell 5 (some .int) [(0, 10, 13, 13)] ∈ z_tb := z_mem 978 (by decide +kernel) (by decide +kernel)
theorem cw_Lthread : Cond.codeWith yL_thread cL_thread 6 (some .int) [(0, 12, 15, 13)] ∈ z_tb := z_mem 1047 (by decide +kernel) (by decide +kernel)
theorem cw_Lrow : Cond.codeWith yL_row cL_row 4 (some .int) [(0, 8, 11, 13)] ∈ z_tb := z_mem 1058 (by decide +kernel) (by decide +kernel)
set_option maxHeartbeats 4000000 in
theorem law_sign {Inv : Nat → zM → Prop} (hP : zP_sign Inv) {b L : Nat} {xs : Nat → Int32} {cells slots i c : Nat} {iv : Int32} {M : zM} (hL : L ≤ 320) (hi : i + 5 ≤ L) (hc64 : c < 64) (hiv : iv = nI i) (hcl : cells ≤ 1000) (hsl : slots ≤ 100000) (hInv : Inv c M) (hnext : ∀ (M2 : zM) (ls : List (Nat × Value)) (cells2 slots2 : Nat), cells2 ≤ cells + 1 → slots2 ≤ slots + 6 → Inv (c + 1) M2 → (∀ q ∈ [(0, .ref 4000), (1, .ref 0), (2, .ref 39), (3, .ref 67), (4, .int iv)], q ∈ ls) → zJ ztops RL code 8 (zBl b L xs) cells2 slots2 1317 ls [] M2) : zJ ztops RL code 8 (zBl b L xs) cells slots 232 [(0, .ref 4000), (1, .ref 0), (2, .ref 39), (3, .ref 67), (4, .int iv)] [] M := by
  obtain ⟨r, M1, M2, h1, h2, h3⟩ := hP c M (xs (i + 1)) hc64 hInv
  refine zg_aload_n 1 dL_law_232 rfl rfl ?_
  refine zg_aload_n 0 dL_law_233 rfl rfl ?_
  refine zg_iload 4 dL_law_234 rfl ?_
  refine zg_iconst dL_law_236 zki_1 ?_
  refine zg_iadd dL_law_237 ?_
  refine zl_arg (i := i) (j := 1) hiv rfl (by omega) hL dL_law_238 ?_
  refine zg_callV (st := []) (k_X8_sign h1) zY_X8_sign lv_L_27 rfl zt_0 rfl (zfit_l (by decide) (by decide) (by omega) (by omega)) (Nat.le_of_ble_eq_true rfl) dL_law_239 rfl ?_
  refine zg_aload_n 2 dL_law_242 rfl rfl ?_
  refine zg_aload_n 0 dL_law_243 rfl rfl ?_
  refine zg_iload 4 dL_law_244 rfl ?_
  refine zg_iconst dL_law_246 zki_1 ?_
  refine zg_iadd dL_law_247 ?_
  refine zl_arg (i := i) (j := 1) hiv rfl (by omega) hL dL_law_248 ?_
  refine zg_callV (st := [.int r]) (k_X9_sign h2) zY_X9_sign lv_L_31 rfl zt_39 rfl (zfit_l (by decide) (by decide) (by omega) (by omega)) (Nat.le_of_ble_eq_true rfl) dL_law_249 rfl ?_
  refine zg_icmp_eq (tgt := 1317) dL_law_252 (by decide) (fun _ => ?_) (fun hc => absurd rfl hc)
  exact hnext M2 _ _ _ (by omega) (by omega) h3 (fun q hq => hq)
set_option maxHeartbeats 4000000 in
theorem law_end {Inv : Nat → zM → Prop} (hP : zP_end Inv) {b L : Nat} {xs : Nat → Int32} {cells slots i c : Nat} {iv : Int32} {M : zM} (hL : L ≤ 320) (hi : i + 5 ≤ L) (hc64 : c < 64) (hiv : iv = nI i) (hcl : cells ≤ 1000) (hsl : slots ≤ 100000) (hInv : Inv c M) (hnext : ∀ (M2 : zM) (ls : List (Nat × Value)) (cells2 slots2 : Nat), cells2 ≤ cells + 1 → slots2 ≤ slots + 6 → Inv (c + 1) M2 → (∀ q ∈ [(0, .ref 4000), (1, .ref 0), (2, .ref 39), (3, .ref 67), (4, .int iv)], q ∈ ls) → zJ ztops RL code 8 (zBl b L xs) cells2 slots2 1317 ls [] M2) : zJ ztops RL code 8 (zBl b L xs) cells slots 257 [(0, .ref 4000), (1, .ref 0), (2, .ref 39), (3, .ref 67), (4, .int iv)] [] M := by
  obtain ⟨r, M1, M2, h1, h2, h3⟩ := hP c M (xs (i + 1)) hc64 hInv
  refine zg_aload_n 1 dL_law_257 rfl rfl ?_
  refine zg_aload_n 0 dL_law_258 rfl rfl ?_
  refine zg_iload 4 dL_law_259 rfl ?_
  refine zg_iconst dL_law_261 zki_1 ?_
  refine zg_iadd dL_law_262 ?_
  refine zl_arg (i := i) (j := 1) hiv rfl (by omega) hL dL_law_263 ?_
  refine zg_callV (st := []) (k_X8_end h1) zY_X8_end lv_L_32 rfl zt_0 rfl (zfit_l (by decide) (by decide) (by omega) (by omega)) (Nat.le_of_ble_eq_true rfl) dL_law_264 rfl ?_
  refine zg_aload_n 2 dL_law_267 rfl rfl ?_
  refine zg_aload_n 0 dL_law_268 rfl rfl ?_
  refine zg_iload 4 dL_law_269 rfl ?_
  refine zg_iconst dL_law_271 zki_1 ?_
  refine zg_iadd dL_law_272 ?_
  refine zl_arg (i := i) (j := 1) hiv rfl (by omega) hL dL_law_273 ?_
  refine zg_callV (st := [.int r]) (k_X9_end h2) zY_X9_end lv_L_36 rfl zt_39 rfl (zfit_l (by decide) (by decide) (by omega) (by omega)) (Nat.le_of_ble_eq_true rfl) dL_law_274 rfl ?_
  refine zg_icmp_eq (tgt := 1317) dL_law_277 (by decide) (fun _ => ?_) (fun hc => absurd rfl hc)
  exact hnext M2 _ _ _ (by omega) (by omega) h3 (fun q hq => hq)
set_option maxHeartbeats 4000000 in
theorem law_cloth {Inv : Nat → zM → Prop} (hP : zP_cloth Inv) {b L : Nat} {xs : Nat → Int32} {cells slots i c : Nat} {iv : Int32} {M : zM} (hL : L ≤ 320) (hi : i + 5 ≤ L) (hc64 : c < 64) (hiv : iv = nI i) (hcl : cells ≤ 1000) (hsl : slots ≤ 100000) (hInv : Inv c M) (hnext : ∀ (M2 : zM) (ls : List (Nat × Value)) (cells2 slots2 : Nat), cells2 ≤ cells + 1 → slots2 ≤ slots + 6 → Inv (c + 1) M2 → (∀ q ∈ [(0, .ref 4000), (1, .ref 0), (2, .ref 39), (3, .ref 67), (4, .int iv)], q ∈ ls) → zJ ztops RL code 8 (zBl b L xs) cells2 slots2 1317 ls [] M2) : zJ ztops RL code 8 (zBl b L xs) cells slots 282 [(0, .ref 4000), (1, .ref 0), (2, .ref 39), (3, .ref 67), (4, .int iv)] [] M := by
  obtain ⟨r, M1, M2, h1, h2, h3⟩ := hP c M  hc64 hInv
  refine zg_aload_n 1 dL_law_282 rfl rfl ?_
  refine zg_callV (st := []) (k_X8_cloth h1) zY_X8_cloth lv_L_37 rfl zt_0 rfl (zfit_l (by decide) (by decide) (by omega) (by omega)) (Nat.le_of_ble_eq_true rfl) dL_law_283 rfl ?_
  refine zg_aload_n 2 dL_law_286 rfl rfl ?_
  refine zg_callV (st := [.int r]) (k_X9_cloth h2) zY_X9_cloth lv_L_41 rfl zt_39 rfl (zfit_l (by decide) (by decide) (by omega) (by omega)) (Nat.le_of_ble_eq_true rfl) dL_law_287 rfl ?_
  refine zg_icmp_eq (tgt := 1317) dL_law_290 (by decide) (fun _ => ?_) (fun hc => absurd rfl hc)
  exact hnext M2 _ _ _ (by omega) (by omega) h3 (fun q hq => hq)
set_option maxHeartbeats 4000000 in
theorem law_rule {Inv : Nat → zM → Prop} (hP : zP_rule Inv) {b L : Nat} {xs : Nat → Int32} {cells slots i c : Nat} {iv : Int32} {M : zM} (hL : L ≤ 320) (hi : i + 5 ≤ L) (hc64 : c < 64) (hiv : iv = nI i) (hcl : cells ≤ 1000) (hsl : slots ≤ 100000) (hInv : Inv c M) (hnext : ∀ (M2 : zM) (ls : List (Nat × Value)) (cells2 slots2 : Nat), cells2 ≤ cells + 1 → slots2 ≤ slots + 6 → Inv (c + 1) M2 → (∀ q ∈ [(0, .ref 4000), (1, .ref 0), (2, .ref 39), (3, .ref 67), (4, .int iv)], q ∈ ls) → zJ ztops RL code 8 (zBl b L xs) cells2 slots2 1317 ls [] M2) : zJ ztops RL code 8 (zBl b L xs) cells slots 295 [(0, .ref 4000), (1, .ref 0), (2, .ref 39), (3, .ref 67), (4, .int iv)] [] M := by
  obtain ⟨r, M1, M2, h1, h2, h3⟩ := hP c M  hc64 hInv
  refine zg_aload_n 1 dL_law_295 rfl rfl ?_
  refine zg_callV (st := []) (k_X8_rule h1) zY_X8_rule lv_L_42 rfl zt_0 rfl (zfit_l (by decide) (by decide) (by omega) (by omega)) (Nat.le_of_ble_eq_true rfl) dL_law_296 rfl ?_
  refine zg_aload_n 2 dL_law_299 rfl rfl ?_
  refine zg_callV (st := [.int r]) (k_X9_rule h2) zY_X9_rule lv_L_45 rfl zt_39 rfl (zfit_l (by decide) (by decide) (by omega) (by omega)) (Nat.le_of_ble_eq_true rfl) dL_law_300 rfl ?_
  refine zg_icmp_eq (tgt := 1317) dL_law_303 (by decide) (fun _ => ?_) (fun hc => absurd rfl hc)
  exact hnext M2 _ _ _ (by omega) (by omega) h3 (fun q hq => hq)
set_option maxHeartbeats 4000000 in
theorem law_cell {Inv : Nat → zM → Prop} (hP : zP_cell Inv) {b L : Nat} {xs : Nat → Int32} {cells slots i c : Nat} {iv : Int32} {M : zM} (hL : L ≤ 320) (hi : i + 5 ≤ L) (hc64 : c < 64) (hiv : iv = nI i) (hcl : cells ≤ 1000) (hsl : slots ≤ 100000) (hInv : Inv c M) (hnext : ∀ (M2 : zM) (ls : List (Nat × Value)) (cells2 slots2 : Nat), cells2 ≤ cells + 1 → slots2 ≤ slots + 6 → Inv (c + 1) M2 → (∀ q ∈ [(0, .ref 4000), (1, .ref 0), (2, .ref 39), (3, .ref 67), (4, .int iv)], q ∈ ls) → zJ ztops RL code 8 (zBl b L xs) cells2 slots2 1317 ls [] M2) : zJ ztops RL code 8 (zBl b L xs) cells slots 308 [(0, .ref 4000), (1, .ref 0), (2, .ref 39), (3, .ref 67), (4, .int iv)] [] M := by
  rcases hP c M (xs (i + 1)) (xs (i + 2)) hc64 hInv with ⟨r, M2, h1, h2, h3, h4, h5⟩ | ⟨r, M2, h1, h2, h3, h4⟩
  · refine zg_aload_n 1 dL_law_308 rfl rfl ?_
    refine zg_aload_n 0 dL_law_309 rfl rfl ?_
    refine zg_iload 4 dL_law_310 rfl ?_
    refine zg_iconst dL_law_312 zki_1 ?_
    refine zg_iadd dL_law_313 ?_
    refine zl_arg (i := i) (j := 1) hiv rfl (by omega) hL dL_law_314 ?_
    refine zg_aload_n 0 dL_law_315 rfl rfl ?_
    refine zg_iload 4 dL_law_316 rfl ?_
    refine zg_iconst dL_law_318 zki_2 ?_
    refine zg_iadd dL_law_319 ?_
    refine zl_arg (i := i) (j := 2) hiv rfl (by omega) hL dL_law_320 ?_
    refine zg_aload_n 3 dL_law_321 rfl rfl ?_
    refine zl_callH (n := 4) (st := []) (kh_cell_ret h1) cw_Lcell lw_iRL ⟨by decide, by decide, by decide +kernel⟩ ls_L_46 rfl ⟨⟨by decide, by decide⟩, by omega, by omega⟩ (Nat.le_of_ble_eq_true rfl) dL_law_322 rfl ?_
    refine zg_istore (ls' := [(0, .ref 4000), (1, .ref 0), (2, .ref 39), (3, .ref 67), (4, .int iv), (5, .int 0)]) dL_law_325 (Nat.le_of_ble_eq_true rfl) rfl ?_
    refine zg_aload_n 2 dL_law_327 rfl rfl ?_
    refine zg_aload_n 0 dL_law_328 rfl rfl ?_
    refine zg_iload 4 dL_law_329 rfl ?_
    refine zg_iconst dL_law_331 zki_1 ?_
    refine zg_iadd dL_law_332 ?_
    refine zl_arg (i := i) (j := 1) hiv rfl (by omega) hL dL_law_333 ?_
    refine zg_aload_n 0 dL_law_334 rfl rfl ?_
    refine zg_iload 4 dL_law_335 rfl ?_
    refine zg_iconst dL_law_337 zki_2 ?_
    refine zg_iadd dL_law_338 ?_
    refine zl_arg (i := i) (j := 2) hiv rfl (by omega) hL dL_law_339 ?_
    refine zg_callV (st := []) (k_X9_cell h2) zY_X9_cell lv_L_51 rfl zt_39 rfl (zfit_l (by decide) (by decide) (by omega) (by omega)) (Nat.le_of_ble_eq_true rfl) dL_law_340 rfl ?_
    refine zg_istore (ls' := [(0, .ref 4000), (1, .ref 0), (2, .ref 39), (3, .ref 67), (4, .int iv), (5, .int 0), (6, .int r)]) dL_law_343 (Nat.le_of_ble_eq_true rfl) rfl ?_
    refine zg_aload_n 2 dL_law_345 rfl rfl ?_
    refine zg_callV (st := []) (k_X9_thrown h3) zY_X9_thrown lv_L_52 rfl zt_39 rfl (zfit_l (by decide) (by decide) (by omega) (by omega)) (Nat.le_of_ble_eq_true rfl) dL_law_346 rfl ?_
    refine zg_iload 5 dL_law_349 rfl ?_
    refine zg_icmp_eq (tgt := 356) dL_law_351 (by decide) (fun _ => ?_) (fun hc => absurd rfl hc)
    refine zg_iload 5 dL_law_356 rfl ?_
    refine zg_if_ne (tgt := 373) dL_law_358 (by decide) (fun hc => absurd rfl hc) (fun _ => ?_)
    refine zg_aload_n 3 dL_law_361 rfl rfl ?_
    refine zg_iconst dL_law_362 zki_0 ?_
    refine zo_lald zt_67 (zaJ0 _) dL_law_363 ?_
    refine zg_iload 6 dL_law_364 rfl ?_
    refine zg_i2l dL_law_366 ?_
    refine zg_lcmp dL_law_367 ?_
    rw [h4, lcmp_self]
    refine zg_if_eq (tgt := 373) dL_law_368 (by decide) (fun _ => ?_) (fun hc => absurd rfl hc)
    refine zg_goto (tgt := 1317) dL_law_373 (by decide) ?_
    refine zo_sub (ls' := [(0, .ref 4000), (1, .ref 0), (2, .ref 39), (3, .ref 67), (4, .int iv)]) [0, 1, 2, 3, 4] rfl ?_
    exact hnext M2 _ _ _ (by omega) (by omega) h5 (fun q hq => hq)
  · refine zg_aload_n 1 dL_law_308 rfl rfl ?_
    refine zg_aload_n 0 dL_law_309 rfl rfl ?_
    refine zg_iload 4 dL_law_310 rfl ?_
    refine zg_iconst dL_law_312 zki_1 ?_
    refine zg_iadd dL_law_313 ?_
    refine zl_arg (i := i) (j := 1) hiv rfl (by omega) hL dL_law_314 ?_
    refine zg_aload_n 0 dL_law_315 rfl rfl ?_
    refine zg_iload 4 dL_law_316 rfl ?_
    refine zg_iconst dL_law_318 zki_2 ?_
    refine zg_iadd dL_law_319 ?_
    refine zl_arg (i := i) (j := 2) hiv rfl (by omega) hL dL_law_320 ?_
    refine zg_aload_n 3 dL_law_321 rfl rfl ?_
    refine zl_callH (n := 4) (st := []) (kh_cell_thr h1) cw_Lcell lw_iRL ⟨by decide, by decide, by decide +kernel⟩ ls_L_46 rfl ⟨⟨by decide, by decide⟩, by omega, by omega⟩ (Nat.le_of_ble_eq_true rfl) dL_law_322 rfl ?_
    refine zg_istore (ls' := [(0, .ref 4000), (1, .ref 0), (2, .ref 39), (3, .ref 67), (4, .int iv), (5, .int 1)]) dL_law_325 (Nat.le_of_ble_eq_true rfl) rfl ?_
    refine zg_aload_n 2 dL_law_327 rfl rfl ?_
    refine zg_aload_n 0 dL_law_328 rfl rfl ?_
    refine zg_iload 4 dL_law_329 rfl ?_
    refine zg_iconst dL_law_331 zki_1 ?_
    refine zg_iadd dL_law_332 ?_
    refine zl_arg (i := i) (j := 1) hiv rfl (by omega) hL dL_law_333 ?_
    refine zg_aload_n 0 dL_law_334 rfl rfl ?_
    refine zg_iload 4 dL_law_335 rfl ?_
    refine zg_iconst dL_law_337 zki_2 ?_
    refine zg_iadd dL_law_338 ?_
    refine zl_arg (i := i) (j := 2) hiv rfl (by omega) hL dL_law_339 ?_
    refine zg_callV (st := []) (k_X9_cell h2) zY_X9_cell lv_L_51 rfl zt_39 rfl (zfit_l (by decide) (by decide) (by omega) (by omega)) (Nat.le_of_ble_eq_true rfl) dL_law_340 rfl ?_
    refine zg_istore (ls' := [(0, .ref 4000), (1, .ref 0), (2, .ref 39), (3, .ref 67), (4, .int iv), (5, .int 1), (6, .int r)]) dL_law_343 (Nat.le_of_ble_eq_true rfl) rfl ?_
    refine zg_aload_n 2 dL_law_345 rfl rfl ?_
    refine zg_callV (st := []) (k_X9_thrown h3) zY_X9_thrown lv_L_52 rfl zt_39 rfl (zfit_l (by decide) (by decide) (by omega) (by omega)) (Nat.le_of_ble_eq_true rfl) dL_law_346 rfl ?_
    refine zg_iload 5 dL_law_349 rfl ?_
    refine zg_icmp_eq (tgt := 356) dL_law_351 (by decide) (fun _ => ?_) (fun hc => absurd rfl hc)
    refine zg_iload 5 dL_law_356 rfl ?_
    refine zg_if_ne (tgt := 373) dL_law_358 (by decide) (fun _ => ?_) (fun hc => absurd hc (by decide))
    refine zg_goto (tgt := 1317) dL_law_373 (by decide) ?_
    refine zo_sub (ls' := [(0, .ref 4000), (1, .ref 0), (2, .ref 39), (3, .ref 67), (4, .int iv)]) [0, 1, 2, 3, 4] rfl ?_
    exact hnext M2 _ _ _ (by omega) (by omega) h4 (fun q hq => hq)
set_option maxHeartbeats 4000000 in
theorem law_thread {Inv : Nat → zM → Prop} (hP : zP_thread Inv) {b L : Nat} {xs : Nat → Int32} {cells slots i c : Nat} {iv : Int32} {M : zM} (hL : L ≤ 320) (hi : i + 5 ≤ L) (hc64 : c < 64) (hiv : iv = nI i) (hcl : cells ≤ 1000) (hsl : slots ≤ 100000) (hInv : Inv c M) (hnext : ∀ (M2 : zM) (ls : List (Nat × Value)) (cells2 slots2 : Nat), cells2 ≤ cells + 1 → slots2 ≤ slots + 6 → Inv (c + 1) M2 → (∀ q ∈ [(0, .ref 4000), (1, .ref 0), (2, .ref 39), (3, .ref 67), (4, .int iv)], q ∈ ls) → zJ ztops RL code 8 (zBl b L xs) cells2 slots2 1317 ls [] M2) : zJ ztops RL code 8 (zBl b L xs) cells slots 376 [(0, .ref 4000), (1, .ref 0), (2, .ref 39), (3, .ref 67), (4, .int iv)] [] M := by
  rcases hP c M (xs (i + 1)) (xs (i + 2)) (xs (i + 3)) hc64 hInv with ⟨r, M1, M2, h1, h2, h3, h4, h5⟩ | ⟨r, M2, h1, h2, h3, h4⟩
  · refine zg_aload_n 1 dL_law_376 rfl rfl ?_
    refine zg_aload_n 0 dL_law_377 rfl rfl ?_
    refine zg_iload 4 dL_law_378 rfl ?_
    refine zg_iconst dL_law_380 zki_1 ?_
    refine zg_iadd dL_law_381 ?_
    refine zl_arg (i := i) (j := 1) hiv rfl (by omega) hL dL_law_382 ?_
    refine zg_aload_n 0 dL_law_383 rfl rfl ?_
    refine zg_iload 4 dL_law_384 rfl ?_
    refine zg_iconst dL_law_386 zki_2 ?_
    refine zg_iadd dL_law_387 ?_
    refine zl_arg (i := i) (j := 2) hiv rfl (by omega) hL dL_law_388 ?_
    refine zg_aload_n 0 dL_law_389 rfl rfl ?_
    refine zg_iload 4 dL_law_390 rfl ?_
    refine zg_iconst dL_law_392 zki_3 ?_
    refine zg_iadd dL_law_393 ?_
    refine zl_arg (i := i) (j := 3) hiv rfl (by omega) hL dL_law_394 ?_
    refine zg_aload_n 3 dL_law_395 rfl rfl ?_
    refine zl_callH (n := 5) (st := []) (kh_thread_ret h1) cw_Lthread lw_iRL ⟨by decide, by decide, by decide +kernel⟩ ls_L_55 rfl ⟨⟨by decide, by decide⟩, by omega, by omega⟩ (Nat.le_of_ble_eq_true rfl) dL_law_396 rfl ?_
    refine zg_istore (ls' := [(0, .ref 4000), (1, .ref 0), (2, .ref 39), (3, .ref 67), (4, .int iv), (5, .int 0)]) dL_law_399 (Nat.le_of_ble_eq_true rfl) rfl ?_
    refine zg_aload_n 2 dL_law_401 rfl rfl ?_
    refine zg_aload_n 0 dL_law_402 rfl rfl ?_
    refine zg_iload 4 dL_law_403 rfl ?_
    refine zg_iconst dL_law_405 zki_1 ?_
    refine zg_iadd dL_law_406 ?_
    refine zl_arg (i := i) (j := 1) hiv rfl (by omega) hL dL_law_407 ?_
    refine zg_aload_n 0 dL_law_408 rfl rfl ?_
    refine zg_iload 4 dL_law_409 rfl ?_
    refine zg_iconst dL_law_411 zki_2 ?_
    refine zg_iadd dL_law_412 ?_
    refine zl_arg (i := i) (j := 2) hiv rfl (by omega) hL dL_law_413 ?_
    refine zg_aload_n 0 dL_law_414 rfl rfl ?_
    refine zg_iload 4 dL_law_415 rfl ?_
    refine zg_iconst dL_law_417 zki_3 ?_
    refine zg_iadd dL_law_418 ?_
    refine zl_arg (i := i) (j := 3) hiv rfl (by omega) hL dL_law_419 ?_
    refine zg_callV (st := []) (k_X9_thread h2) zY_X9_thread lv_L_58 rfl zt_39 rfl (zfit_l (by decide) (by decide) (by omega) (by omega)) (Nat.le_of_ble_eq_true rfl) dL_law_420 rfl ?_
    refine zg_istore (ls' := [(0, .ref 4000), (1, .ref 0), (2, .ref 39), (3, .ref 67), (4, .int iv), (5, .int 0), (6, .int r)]) dL_law_423 (Nat.le_of_ble_eq_true rfl) rfl ?_
    refine zg_aload_n 2 dL_law_425 rfl rfl ?_
    refine zg_callV (st := []) (k_X9_thrown h3) zY_X9_thrown lv_L_52 rfl zt_39 rfl (zfit_l (by decide) (by decide) (by omega) (by omega)) (Nat.le_of_ble_eq_true rfl) dL_law_426 rfl ?_
    refine zg_iload 5 dL_law_429 rfl ?_
    refine zg_icmp_eq (tgt := 436) dL_law_431 (by decide) (fun _ => ?_) (fun hc => absurd rfl hc)
    refine zg_iload 5 dL_law_436 rfl ?_
    refine zg_if_ne (tgt := 453) dL_law_438 (by decide) (fun hc => absurd rfl hc) (fun _ => ?_)
    refine zg_aload_n 3 dL_law_441 rfl rfl ?_
    refine zg_iconst dL_law_442 zki_0 ?_
    refine zo_lald zt_67 (zaJ0 _) dL_law_443 ?_
    refine zg_iload 6 dL_law_444 rfl ?_
    refine zg_i2l dL_law_446 ?_
    refine zg_lcmp dL_law_447 ?_
    rw [h4, lcmp_self]
    refine zg_if_eq (tgt := 453) dL_law_448 (by decide) (fun _ => ?_) (fun hc => absurd rfl hc)
    refine zg_goto (tgt := 1317) dL_law_453 (by decide) ?_
    refine zo_sub (ls' := [(0, .ref 4000), (1, .ref 0), (2, .ref 39), (3, .ref 67), (4, .int iv)]) [0, 1, 2, 3, 4] rfl ?_
    exact hnext M2 _ _ _ (by omega) (by omega) h5 (fun q hq => hq)
  · refine zg_aload_n 1 dL_law_376 rfl rfl ?_
    refine zg_aload_n 0 dL_law_377 rfl rfl ?_
    refine zg_iload 4 dL_law_378 rfl ?_
    refine zg_iconst dL_law_380 zki_1 ?_
    refine zg_iadd dL_law_381 ?_
    refine zl_arg (i := i) (j := 1) hiv rfl (by omega) hL dL_law_382 ?_
    refine zg_aload_n 0 dL_law_383 rfl rfl ?_
    refine zg_iload 4 dL_law_384 rfl ?_
    refine zg_iconst dL_law_386 zki_2 ?_
    refine zg_iadd dL_law_387 ?_
    refine zl_arg (i := i) (j := 2) hiv rfl (by omega) hL dL_law_388 ?_
    refine zg_aload_n 0 dL_law_389 rfl rfl ?_
    refine zg_iload 4 dL_law_390 rfl ?_
    refine zg_iconst dL_law_392 zki_3 ?_
    refine zg_iadd dL_law_393 ?_
    refine zl_arg (i := i) (j := 3) hiv rfl (by omega) hL dL_law_394 ?_
    refine zg_aload_n 3 dL_law_395 rfl rfl ?_
    refine zl_callH (n := 5) (st := []) (kh_thread_thr h1) cw_Lthread lw_iRL ⟨by decide, by decide, by decide +kernel⟩ ls_L_55 rfl ⟨⟨by decide, by decide⟩, by omega, by omega⟩ (Nat.le_of_ble_eq_true rfl) dL_law_396 rfl ?_
    refine zg_istore (ls' := [(0, .ref 4000), (1, .ref 0), (2, .ref 39), (3, .ref 67), (4, .int iv), (5, .int 1)]) dL_law_399 (Nat.le_of_ble_eq_true rfl) rfl ?_
    refine zg_aload_n 2 dL_law_401 rfl rfl ?_
    refine zg_aload_n 0 dL_law_402 rfl rfl ?_
    refine zg_iload 4 dL_law_403 rfl ?_
    refine zg_iconst dL_law_405 zki_1 ?_
    refine zg_iadd dL_law_406 ?_
    refine zl_arg (i := i) (j := 1) hiv rfl (by omega) hL dL_law_407 ?_
    refine zg_aload_n 0 dL_law_408 rfl rfl ?_
    refine zg_iload 4 dL_law_409 rfl ?_
    refine zg_iconst dL_law_411 zki_2 ?_
    refine zg_iadd dL_law_412 ?_
    refine zl_arg (i := i) (j := 2) hiv rfl (by omega) hL dL_law_413 ?_
    refine zg_aload_n 0 dL_law_414 rfl rfl ?_
    refine zg_iload 4 dL_law_415 rfl ?_
    refine zg_iconst dL_law_417 zki_3 ?_
    refine zg_iadd dL_law_418 ?_
    refine zl_arg (i := i) (j := 3) hiv rfl (by omega) hL dL_law_419 ?_
    refine zg_callV (st := []) (k_X9_thread h2) zY_X9_thread lv_L_58 rfl zt_39 rfl (zfit_l (by decide) (by decide) (by omega) (by omega)) (Nat.le_of_ble_eq_true rfl) dL_law_420 rfl ?_
    refine zg_istore (ls' := [(0, .ref 4000), (1, .ref 0), (2, .ref 39), (3, .ref 67), (4, .int iv), (5, .int 1), (6, .int r)]) dL_law_423 (Nat.le_of_ble_eq_true rfl) rfl ?_
    refine zg_aload_n 2 dL_law_425 rfl rfl ?_
    refine zg_callV (st := []) (k_X9_thrown h3) zY_X9_thrown lv_L_52 rfl zt_39 rfl (zfit_l (by decide) (by decide) (by omega) (by omega)) (Nat.le_of_ble_eq_true rfl) dL_law_426 rfl ?_
    refine zg_iload 5 dL_law_429 rfl ?_
    refine zg_icmp_eq (tgt := 436) dL_law_431 (by decide) (fun _ => ?_) (fun hc => absurd rfl hc)
    refine zg_iload 5 dL_law_436 rfl ?_
    refine zg_if_ne (tgt := 453) dL_law_438 (by decide) (fun _ => ?_) (fun hc => absurd hc (by decide))
    refine zg_goto (tgt := 1317) dL_law_453 (by decide) ?_
    refine zo_sub (ls' := [(0, .ref 4000), (1, .ref 0), (2, .ref 39), (3, .ref 67), (4, .int iv)]) [0, 1, 2, 3, 4] rfl ?_
    exact hnext M2 _ _ _ (by omega) (by omega) h4 (fun q hq => hq)
set_option maxHeartbeats 4000000 in
theorem law_sheet {Inv : Nat → zM → Prop} (hP : zP_sheet Inv) {b L : Nat} {xs : Nat → Int32} {cells slots i c : Nat} {iv : Int32} {M : zM} (hL : L ≤ 320) (hi : i + 5 ≤ L) (hc64 : c < 64) (hiv : iv = nI i) (hcl : cells ≤ 1000) (hsl : slots ≤ 100000) (hInv : Inv c M) (hnext : ∀ (M2 : zM) (ls : List (Nat × Value)) (cells2 slots2 : Nat), cells2 ≤ cells + 1 → slots2 ≤ slots + 6 → Inv (c + 1) M2 → (∀ q ∈ [(0, .ref 4000), (1, .ref 0), (2, .ref 39), (3, .ref 67), (4, .int iv)], q ∈ ls) → zJ ztops RL code 8 (zBl b L xs) cells2 slots2 1317 ls [] M2) : zJ ztops RL code 8 (zBl b L xs) cells slots 456 [(0, .ref 4000), (1, .ref 0), (2, .ref 39), (3, .ref 67), (4, .int iv)] [] M := by
  obtain ⟨r, M1, M2, h1, h2, h3⟩ := hP c M (xs (i + 1)) (xs (i + 2)) (xs (i + 3)) (xs (i + 4)) hc64 hInv
  refine zg_aload_n 1 dL_law_456 rfl rfl ?_
  refine zg_aload_n 0 dL_law_457 rfl rfl ?_
  refine zg_iload 4 dL_law_458 rfl ?_
  refine zg_iconst dL_law_460 zki_1 ?_
  refine zg_iadd dL_law_461 ?_
  refine zl_arg (i := i) (j := 1) hiv rfl (by omega) hL dL_law_462 ?_
  refine zg_aload_n 0 dL_law_463 rfl rfl ?_
  refine zg_iload 4 dL_law_464 rfl ?_
  refine zg_iconst dL_law_466 zki_2 ?_
  refine zg_iadd dL_law_467 ?_
  refine zl_arg (i := i) (j := 2) hiv rfl (by omega) hL dL_law_468 ?_
  refine zg_aload_n 0 dL_law_469 rfl rfl ?_
  refine zg_iload 4 dL_law_470 rfl ?_
  refine zg_iconst dL_law_472 zki_3 ?_
  refine zg_iadd dL_law_473 ?_
  refine zl_arg (i := i) (j := 3) hiv rfl (by omega) hL dL_law_474 ?_
  refine zg_aload_n 0 dL_law_475 rfl rfl ?_
  refine zg_iload 4 dL_law_476 rfl ?_
  refine zg_iconst dL_law_478 zki_4 ?_
  refine zg_iadd dL_law_479 ?_
  refine zl_arg (i := i) (j := 4) hiv rfl (by omega) hL dL_law_480 ?_
  refine zg_callV (st := []) (k_X8_sheet h1) zY_X8_sheet lv_L_59 rfl zt_0 rfl (zfit_l (by decide) (by decide) (by omega) (by omega)) (Nat.le_of_ble_eq_true rfl) dL_law_481 rfl ?_
  refine zg_aload_n 2 dL_law_484 rfl rfl ?_
  refine zg_aload_n 0 dL_law_485 rfl rfl ?_
  refine zg_iload 4 dL_law_486 rfl ?_
  refine zg_iconst dL_law_488 zki_1 ?_
  refine zg_iadd dL_law_489 ?_
  refine zl_arg (i := i) (j := 1) hiv rfl (by omega) hL dL_law_490 ?_
  refine zg_aload_n 0 dL_law_491 rfl rfl ?_
  refine zg_iload 4 dL_law_492 rfl ?_
  refine zg_iconst dL_law_494 zki_2 ?_
  refine zg_iadd dL_law_495 ?_
  refine zl_arg (i := i) (j := 2) hiv rfl (by omega) hL dL_law_496 ?_
  refine zg_aload_n 0 dL_law_497 rfl rfl ?_
  refine zg_iload 4 dL_law_498 rfl ?_
  refine zg_iconst dL_law_500 zki_3 ?_
  refine zg_iadd dL_law_501 ?_
  refine zl_arg (i := i) (j := 3) hiv rfl (by omega) hL dL_law_502 ?_
  refine zg_aload_n 0 dL_law_503 rfl rfl ?_
  refine zg_iload 4 dL_law_504 rfl ?_
  refine zg_iconst dL_law_506 zki_4 ?_
  refine zg_iadd dL_law_507 ?_
  refine zl_arg (i := i) (j := 4) hiv rfl (by omega) hL dL_law_508 ?_
  refine zg_callV (st := [.int r]) (k_X9_sheet h2) zY_X9_sheet lv_L_63 rfl zt_39 rfl (zfit_l (by decide) (by decide) (by omega) (by omega)) (Nat.le_of_ble_eq_true rfl) dL_law_509 rfl ?_
  refine zg_icmp_eq (tgt := 1317) dL_law_512 (by decide) (fun _ => ?_) (fun hc => absurd rfl hc)
  exact hnext M2 _ _ _ (by omega) (by omega) h3 (fun q hq => hq)
set_option maxHeartbeats 4000000 in
theorem law_nights {Inv : Nat → zM → Prop} (hP : zP_nights Inv) {b L : Nat} {xs : Nat → Int32} {cells slots i c : Nat} {iv : Int32} {M : zM} (hL : L ≤ 320) (hi : i + 5 ≤ L) (hc64 : c < 64) (hiv : iv = nI i) (hcl : cells ≤ 1000) (hsl : slots ≤ 100000) (hInv : Inv c M) (hnext : ∀ (M2 : zM) (ls : List (Nat × Value)) (cells2 slots2 : Nat), cells2 ≤ cells + 1 → slots2 ≤ slots + 6 → Inv (c + 1) M2 → (∀ q ∈ [(0, .ref 4000), (1, .ref 0), (2, .ref 39), (3, .ref 67), (4, .int iv)], q ∈ ls) → zJ ztops RL code 8 (zBl b L xs) cells2 slots2 1317 ls [] M2) : zJ ztops RL code 8 (zBl b L xs) cells slots 517 [(0, .ref 4000), (1, .ref 0), (2, .ref 39), (3, .ref 67), (4, .int iv)] [] M := by
  obtain ⟨r, M1, M2, h1, h2, h3⟩ := hP c M (xs (i + 1)) hc64 hInv
  refine zg_aload_n 1 dL_law_517 rfl rfl ?_
  refine zg_aload_n 0 dL_law_518 rfl rfl ?_
  refine zg_iload 4 dL_law_519 rfl ?_
  refine zg_iconst dL_law_521 zki_1 ?_
  refine zg_iadd dL_law_522 ?_
  refine zl_arg (i := i) (j := 1) hiv rfl (by omega) hL dL_law_523 ?_
  refine zg_callV (st := []) (k_X8_nights h1) zY_X8_nights lv_L_64 rfl zt_0 rfl (zfit_l (by decide) (by decide) (by omega) (by omega)) (Nat.le_of_ble_eq_true rfl) dL_law_524 rfl ?_
  refine zg_aload_n 2 dL_law_527 rfl rfl ?_
  refine zg_aload_n 0 dL_law_528 rfl rfl ?_
  refine zg_iload 4 dL_law_529 rfl ?_
  refine zg_iconst dL_law_531 zki_1 ?_
  refine zg_iadd dL_law_532 ?_
  refine zl_arg (i := i) (j := 1) hiv rfl (by omega) hL dL_law_533 ?_
  refine zg_callV (st := [.int r]) (k_X9_nights h2) zY_X9_nights lv_L_67 rfl zt_39 rfl (zfit_l (by decide) (by decide) (by omega) (by omega)) (Nat.le_of_ble_eq_true rfl) dL_law_534 rfl ?_
  refine zg_icmp_eq (tgt := 1317) dL_law_537 (by decide) (fun _ => ?_) (fun hc => absurd rfl hc)
  exact hnext M2 _ _ _ (by omega) (by omega) h3 (fun q hq => hq)
set_option maxHeartbeats 4000000 in
theorem law_weaves {Inv : Nat → zM → Prop} (hP : zP_weaves Inv) {b L : Nat} {xs : Nat → Int32} {cells slots i c : Nat} {iv : Int32} {M : zM} (hL : L ≤ 320) (hi : i + 5 ≤ L) (hc64 : c < 64) (hiv : iv = nI i) (hcl : cells ≤ 1000) (hsl : slots ≤ 100000) (hInv : Inv c M) (hnext : ∀ (M2 : zM) (ls : List (Nat × Value)) (cells2 slots2 : Nat), cells2 ≤ cells + 1 → slots2 ≤ slots + 6 → Inv (c + 1) M2 → (∀ q ∈ [(0, .ref 4000), (1, .ref 0), (2, .ref 39), (3, .ref 67), (4, .int iv)], q ∈ ls) → zJ ztops RL code 8 (zBl b L xs) cells2 slots2 1317 ls [] M2) : zJ ztops RL code 8 (zBl b L xs) cells slots 542 [(0, .ref 4000), (1, .ref 0), (2, .ref 39), (3, .ref 67), (4, .int iv)] [] M := by
  obtain ⟨r, M1, M2, h1, h2, h3⟩ := hP c M (xs (i + 1)) (xs (i + 2)) (xs (i + 3)) hc64 hInv
  refine zg_aload_n 1 dL_law_542 rfl rfl ?_
  refine zg_aload_n 0 dL_law_543 rfl rfl ?_
  refine zg_iload 4 dL_law_544 rfl ?_
  refine zg_iconst dL_law_546 zki_1 ?_
  refine zg_iadd dL_law_547 ?_
  refine zl_arg (i := i) (j := 1) hiv rfl (by omega) hL dL_law_548 ?_
  refine zg_aload_n 0 dL_law_549 rfl rfl ?_
  refine zg_iload 4 dL_law_550 rfl ?_
  refine zg_iconst dL_law_552 zki_2 ?_
  refine zg_iadd dL_law_553 ?_
  refine zl_arg (i := i) (j := 2) hiv rfl (by omega) hL dL_law_554 ?_
  refine zg_aload_n 0 dL_law_555 rfl rfl ?_
  refine zg_iload 4 dL_law_556 rfl ?_
  refine zg_iconst dL_law_558 zki_3 ?_
  refine zg_iadd dL_law_559 ?_
  refine zl_arg (i := i) (j := 3) hiv rfl (by omega) hL dL_law_560 ?_
  refine zg_callV (st := []) (k_X8_weaves h1) zY_X8_weaves lv_L_68 rfl zt_0 rfl (zfit_l (by decide) (by decide) (by omega) (by omega)) (Nat.le_of_ble_eq_true rfl) dL_law_561 rfl ?_
  refine zg_aload_n 2 dL_law_564 rfl rfl ?_
  refine zg_aload_n 0 dL_law_565 rfl rfl ?_
  refine zg_iload 4 dL_law_566 rfl ?_
  refine zg_iconst dL_law_568 zki_1 ?_
  refine zg_iadd dL_law_569 ?_
  refine zl_arg (i := i) (j := 1) hiv rfl (by omega) hL dL_law_570 ?_
  refine zg_aload_n 0 dL_law_571 rfl rfl ?_
  refine zg_iload 4 dL_law_572 rfl ?_
  refine zg_iconst dL_law_574 zki_2 ?_
  refine zg_iadd dL_law_575 ?_
  refine zl_arg (i := i) (j := 2) hiv rfl (by omega) hL dL_law_576 ?_
  refine zg_aload_n 0 dL_law_577 rfl rfl ?_
  refine zg_iload 4 dL_law_578 rfl ?_
  refine zg_iconst dL_law_580 zki_3 ?_
  refine zg_iadd dL_law_581 ?_
  refine zl_arg (i := i) (j := 3) hiv rfl (by omega) hL dL_law_582 ?_
  refine zg_callV (st := [.int r]) (k_X9_weaves h2) zY_X9_weaves lv_L_71 rfl zt_39 rfl (zfit_l (by decide) (by decide) (by omega) (by omega)) (Nat.le_of_ble_eq_true rfl) dL_law_583 rfl ?_
  refine zg_icmp_eq (tgt := 1317) dL_law_586 (by decide) (fun _ => ?_) (fun hc => absurd rfl hc)
  exact hnext M2 _ _ _ (by omega) (by omega) h3 (fun q hq => hq)
set_option maxHeartbeats 4000000 in
theorem law_draws {Inv : Nat → zM → Prop} (hP : zP_draws Inv) {b L : Nat} {xs : Nat → Int32} {cells slots i c : Nat} {iv : Int32} {M : zM} (hL : L ≤ 320) (hi : i + 5 ≤ L) (hc64 : c < 64) (hiv : iv = nI i) (hcl : cells ≤ 1000) (hsl : slots ≤ 100000) (hInv : Inv c M) (hnext : ∀ (M2 : zM) (ls : List (Nat × Value)) (cells2 slots2 : Nat), cells2 ≤ cells + 1 → slots2 ≤ slots + 6 → Inv (c + 1) M2 → (∀ q ∈ [(0, .ref 4000), (1, .ref 0), (2, .ref 39), (3, .ref 67), (4, .int iv)], q ∈ ls) → zJ ztops RL code 8 (zBl b L xs) cells2 slots2 1317 ls [] M2) : zJ ztops RL code 8 (zBl b L xs) cells slots 591 [(0, .ref 4000), (1, .ref 0), (2, .ref 39), (3, .ref 67), (4, .int iv)] [] M := by
  obtain ⟨r, M1, M2, h1, h2, h3⟩ := hP c M (xs (i + 1)) (xs (i + 2)) hc64 hInv
  refine zg_aload_n 1 dL_law_591 rfl rfl ?_
  refine zg_aload_n 0 dL_law_592 rfl rfl ?_
  refine zg_iload 4 dL_law_593 rfl ?_
  refine zg_iconst dL_law_595 zki_1 ?_
  refine zg_iadd dL_law_596 ?_
  refine zl_arg (i := i) (j := 1) hiv rfl (by omega) hL dL_law_597 ?_
  refine zg_aload_n 0 dL_law_598 rfl rfl ?_
  refine zg_iload 4 dL_law_599 rfl ?_
  refine zg_iconst dL_law_601 zki_2 ?_
  refine zg_iadd dL_law_602 ?_
  refine zl_arg (i := i) (j := 2) hiv rfl (by omega) hL dL_law_603 ?_
  refine zg_callV (st := []) (k_X8_draws h1) zY_X8_draws lv_L_72 rfl zt_0 rfl (zfit_l (by decide) (by decide) (by omega) (by omega)) (Nat.le_of_ble_eq_true rfl) dL_law_604 rfl ?_
  refine zg_aload_n 2 dL_law_607 rfl rfl ?_
  refine zg_aload_n 0 dL_law_608 rfl rfl ?_
  refine zg_iload 4 dL_law_609 rfl ?_
  refine zg_iconst dL_law_611 zki_1 ?_
  refine zg_iadd dL_law_612 ?_
  refine zl_arg (i := i) (j := 1) hiv rfl (by omega) hL dL_law_613 ?_
  refine zg_aload_n 0 dL_law_614 rfl rfl ?_
  refine zg_iload 4 dL_law_615 rfl ?_
  refine zg_iconst dL_law_617 zki_2 ?_
  refine zg_iadd dL_law_618 ?_
  refine zl_arg (i := i) (j := 2) hiv rfl (by omega) hL dL_law_619 ?_
  refine zg_callV (st := [.int r]) (k_X9_draws h2) zY_X9_draws lv_L_75 rfl zt_39 rfl (zfit_l (by decide) (by decide) (by omega) (by omega)) (Nat.le_of_ble_eq_true rfl) dL_law_620 rfl ?_
  refine zg_icmp_eq (tgt := 1317) dL_law_623 (by decide) (fun _ => ?_) (fun hc => absurd rfl hc)
  exact hnext M2 _ _ _ (by omega) (by omega) h3 (fun q hq => hq)
set_option maxHeartbeats 4000000 in
theorem law_flips {Inv : Nat → zM → Prop} (hP : zP_flips Inv) {b L : Nat} {xs : Nat → Int32} {cells slots i c : Nat} {iv : Int32} {M : zM} (hL : L ≤ 320) (hi : i + 5 ≤ L) (hc64 : c < 64) (hiv : iv = nI i) (hcl : cells ≤ 1000) (hsl : slots ≤ 100000) (hInv : Inv c M) (hnext : ∀ (M2 : zM) (ls : List (Nat × Value)) (cells2 slots2 : Nat), cells2 ≤ cells + 1 → slots2 ≤ slots + 6 → Inv (c + 1) M2 → (∀ q ∈ [(0, .ref 4000), (1, .ref 0), (2, .ref 39), (3, .ref 67), (4, .int iv)], q ∈ ls) → zJ ztops RL code 8 (zBl b L xs) cells2 slots2 1317 ls [] M2) : zJ ztops RL code 8 (zBl b L xs) cells slots 628 [(0, .ref 4000), (1, .ref 0), (2, .ref 39), (3, .ref 67), (4, .int iv)] [] M := by
  obtain ⟨r, M1, M2, h1, h2, h3⟩ := hP c M (xs (i + 1)) (xs (i + 2)) hc64 hInv
  refine zg_aload_n 1 dL_law_628 rfl rfl ?_
  refine zg_aload_n 0 dL_law_629 rfl rfl ?_
  refine zg_iload 4 dL_law_630 rfl ?_
  refine zg_iconst dL_law_632 zki_1 ?_
  refine zg_iadd dL_law_633 ?_
  refine zl_arg (i := i) (j := 1) hiv rfl (by omega) hL dL_law_634 ?_
  refine zg_aload_n 0 dL_law_635 rfl rfl ?_
  refine zg_iload 4 dL_law_636 rfl ?_
  refine zg_iconst dL_law_638 zki_2 ?_
  refine zg_iadd dL_law_639 ?_
  refine zl_arg (i := i) (j := 2) hiv rfl (by omega) hL dL_law_640 ?_
  refine zg_callV (st := []) (k_X8_flips h1) zY_X8_flips lv_L_76 rfl zt_0 rfl (zfit_l (by decide) (by decide) (by omega) (by omega)) (Nat.le_of_ble_eq_true rfl) dL_law_641 rfl ?_
  refine zg_aload_n 2 dL_law_644 rfl rfl ?_
  refine zg_aload_n 0 dL_law_645 rfl rfl ?_
  refine zg_iload 4 dL_law_646 rfl ?_
  refine zg_iconst dL_law_648 zki_1 ?_
  refine zg_iadd dL_law_649 ?_
  refine zl_arg (i := i) (j := 1) hiv rfl (by omega) hL dL_law_650 ?_
  refine zg_aload_n 0 dL_law_651 rfl rfl ?_
  refine zg_iload 4 dL_law_652 rfl ?_
  refine zg_iconst dL_law_654 zki_2 ?_
  refine zg_iadd dL_law_655 ?_
  refine zl_arg (i := i) (j := 2) hiv rfl (by omega) hL dL_law_656 ?_
  refine zg_callV (st := [.int r]) (k_X9_flips h2) zY_X9_flips lv_L_79 rfl zt_39 rfl (zfit_l (by decide) (by decide) (by omega) (by omega)) (Nat.le_of_ble_eq_true rfl) dL_law_657 rfl ?_
  refine zg_icmp_eq (tgt := 1317) dL_law_660 (by decide) (fun _ => ?_) (fun hc => absurd rfl hc)
  exact hnext M2 _ _ _ (by omega) (by omega) h3 (fun q hq => hq)
set_option maxHeartbeats 4000000 in
theorem law_mirrors {Inv : Nat → zM → Prop} (hP : zP_mirrors Inv) {b L : Nat} {xs : Nat → Int32} {cells slots i c : Nat} {iv : Int32} {M : zM} (hL : L ≤ 320) (hi : i + 5 ≤ L) (hc64 : c < 64) (hiv : iv = nI i) (hcl : cells ≤ 1000) (hsl : slots ≤ 100000) (hInv : Inv c M) (hnext : ∀ (M2 : zM) (ls : List (Nat × Value)) (cells2 slots2 : Nat), cells2 ≤ cells + 1 → slots2 ≤ slots + 6 → Inv (c + 1) M2 → (∀ q ∈ [(0, .ref 4000), (1, .ref 0), (2, .ref 39), (3, .ref 67), (4, .int iv)], q ∈ ls) → zJ ztops RL code 8 (zBl b L xs) cells2 slots2 1317 ls [] M2) : zJ ztops RL code 8 (zBl b L xs) cells slots 665 [(0, .ref 4000), (1, .ref 0), (2, .ref 39), (3, .ref 67), (4, .int iv)] [] M := by
  obtain ⟨r, M1, M2, h1, h2, h3⟩ := hP c M (xs (i + 1)) hc64 hInv
  refine zg_aload_n 1 dL_law_665 rfl rfl ?_
  refine zg_aload_n 0 dL_law_666 rfl rfl ?_
  refine zg_iload 4 dL_law_667 rfl ?_
  refine zg_iconst dL_law_669 zki_1 ?_
  refine zg_iadd dL_law_670 ?_
  refine zl_arg (i := i) (j := 1) hiv rfl (by omega) hL dL_law_671 ?_
  refine zg_callV (st := []) (k_X8_mirrors h1) zY_X8_mirrors lv_L_80 rfl zt_0 rfl (zfit_l (by decide) (by decide) (by omega) (by omega)) (Nat.le_of_ble_eq_true rfl) dL_law_672 rfl ?_
  refine zg_aload_n 2 dL_law_675 rfl rfl ?_
  refine zg_aload_n 0 dL_law_676 rfl rfl ?_
  refine zg_iload 4 dL_law_677 rfl ?_
  refine zg_iconst dL_law_679 zki_1 ?_
  refine zg_iadd dL_law_680 ?_
  refine zl_arg (i := i) (j := 1) hiv rfl (by omega) hL dL_law_681 ?_
  refine zg_callV (st := [.int r]) (k_X9_mirrors h2) zY_X9_mirrors lv_L_83 rfl zt_39 rfl (zfit_l (by decide) (by decide) (by omega) (by omega)) (Nat.le_of_ble_eq_true rfl) dL_law_682 rfl ?_
  refine zg_icmp_eq (tgt := 1317) dL_law_685 (by decide) (fun _ => ?_) (fun hc => absurd rfl hc)
  exact hnext M2 _ _ _ (by omega) (by omega) h3 (fun q hq => hq)
set_option maxHeartbeats 4000000 in
theorem law_work {Inv : Nat → zM → Prop} (hP : zP_work Inv) {b L : Nat} {xs : Nat → Int32} {cells slots i c : Nat} {iv : Int32} {M : zM} (hL : L ≤ 320) (hi : i + 5 ≤ L) (hc64 : c < 64) (hiv : iv = nI i) (hcl : cells ≤ 1000) (hsl : slots ≤ 100000) (hInv : Inv c M) (hnext : ∀ (M2 : zM) (ls : List (Nat × Value)) (cells2 slots2 : Nat), cells2 ≤ cells + 1 → slots2 ≤ slots + 6 → Inv (c + 1) M2 → (∀ q ∈ [(0, .ref 4000), (1, .ref 0), (2, .ref 39), (3, .ref 67), (4, .int iv)], q ∈ ls) → zJ ztops RL code 8 (zBl b L xs) cells2 slots2 1317 ls [] M2) : zJ ztops RL code 8 (zBl b L xs) cells slots 690 [(0, .ref 4000), (1, .ref 0), (2, .ref 39), (3, .ref 67), (4, .int iv)] [] M := by
  obtain ⟨r, M1, M2, h1, h2, h3⟩ := hP c M  hc64 hInv
  refine zg_aload_n 1 dL_law_690 rfl rfl ?_
  refine zg_callV (st := []) (k_X8_work h1) zY_X8_work lv_L_84 rfl zt_0 rfl (zfit_l (by decide) (by decide) (by omega) (by omega)) (Nat.le_of_ble_eq_true rfl) dL_law_691 rfl ?_
  refine zg_aload_n 2 dL_law_694 rfl rfl ?_
  refine zg_callV (st := [.int r]) (k_X9_work h2) zY_X9_work lv_L_87 rfl zt_39 rfl (zfit_l (by decide) (by decide) (by omega) (by omega)) (Nat.le_of_ble_eq_true rfl) dL_law_695 rfl ?_
  refine zg_icmp_eq (tgt := 1317) dL_law_698 (by decide) (fun _ => ?_) (fun hc => absurd rfl hc)
  exact hnext M2 _ _ _ (by omega) (by omega) h3 (fun q hq => hq)
set_option maxHeartbeats 4000000 in
theorem law_undo {Inv : Nat → zM → Prop} (hP : zP_undo Inv) {b L : Nat} {xs : Nat → Int32} {cells slots i c : Nat} {iv : Int32} {M : zM} (hL : L ≤ 320) (hi : i + 5 ≤ L) (hc64 : c < 64) (hiv : iv = nI i) (hcl : cells ≤ 1000) (hsl : slots ≤ 100000) (hInv : Inv c M) (hnext : ∀ (M2 : zM) (ls : List (Nat × Value)) (cells2 slots2 : Nat), cells2 ≤ cells + 1 → slots2 ≤ slots + 6 → Inv (c + 1) M2 → (∀ q ∈ [(0, .ref 4000), (1, .ref 0), (2, .ref 39), (3, .ref 67), (4, .int iv)], q ∈ ls) → zJ ztops RL code 8 (zBl b L xs) cells2 slots2 1317 ls [] M2) : zJ ztops RL code 8 (zBl b L xs) cells slots 703 [(0, .ref 4000), (1, .ref 0), (2, .ref 39), (3, .ref 67), (4, .int iv)] [] M := by
  obtain ⟨r, M1, M2, h1, h2, h3⟩ := hP c M  hc64 hInv
  refine zg_aload_n 1 dL_law_703 rfl rfl ?_
  refine zg_callV (st := []) (k_X8_undo h1) zY_X8_undo lv_L_88 rfl zt_0 rfl (zfit_l (by decide) (by decide) (by omega) (by omega)) (Nat.le_of_ble_eq_true rfl) dL_law_704 rfl ?_
  refine zg_aload_n 2 dL_law_707 rfl rfl ?_
  refine zg_callV (st := [.int r]) (k_X9_undo h2) zY_X9_undo lv_L_91 rfl zt_39 rfl (zfit_l (by decide) (by decide) (by omega) (by omega)) (Nat.le_of_ble_eq_true rfl) dL_law_708 rfl ?_
  refine zg_icmp_eq (tgt := 1317) dL_law_711 (by decide) (fun _ => ?_) (fun hc => absurd rfl hc)
  exact hnext M2 _ _ _ (by omega) (by omega) h3 (fun q hq => hq)
set_option maxHeartbeats 4000000 in
theorem law_next {Inv : Nat → zM → Prop} (hP : zP_next Inv) {b L : Nat} {xs : Nat → Int32} {cells slots i c : Nat} {iv : Int32} {M : zM} (hL : L ≤ 320) (hi : i + 5 ≤ L) (hc64 : c < 64) (hiv : iv = nI i) (hcl : cells ≤ 1000) (hsl : slots ≤ 100000) (hInv : Inv c M) (hnext : ∀ (M2 : zM) (ls : List (Nat × Value)) (cells2 slots2 : Nat), cells2 ≤ cells + 1 → slots2 ≤ slots + 6 → Inv (c + 1) M2 → (∀ q ∈ [(0, .ref 4000), (1, .ref 0), (2, .ref 39), (3, .ref 67), (4, .int iv)], q ∈ ls) → zJ ztops RL code 8 (zBl b L xs) cells2 slots2 1317 ls [] M2) : zJ ztops RL code 8 (zBl b L xs) cells slots 716 [(0, .ref 4000), (1, .ref 0), (2, .ref 39), (3, .ref 67), (4, .int iv)] [] M := by
  obtain ⟨r, M1, M2, h1, h2, h3⟩ := hP c M  hc64 hInv
  refine zg_aload_n 1 dL_law_716 rfl rfl ?_
  refine zg_callV (st := []) (k_X8_next h1) zY_X8_next lv_L_92 rfl zt_0 rfl (zfit_l (by decide) (by decide) (by omega) (by omega)) (Nat.le_of_ble_eq_true rfl) dL_law_717 rfl ?_
  refine zg_aload_n 2 dL_law_720 rfl rfl ?_
  refine zg_callV (st := [.int r]) (k_X9_next h2) zY_X9_next lv_L_95 rfl zt_39 rfl (zfit_l (by decide) (by decide) (by omega) (by omega)) (Nat.le_of_ble_eq_true rfl) dL_law_721 rfl ?_
  refine zg_icmp_eq (tgt := 1317) dL_law_724 (by decide) (fun _ => ?_) (fun hc => absurd rfl hc)
  exact hnext M2 _ _ _ (by omega) (by omega) h3 (fun q hq => hq)
set_option maxHeartbeats 4000000 in
theorem law_later {Inv : Nat → zM → Prop} (hP : zP_later Inv) {b L : Nat} {xs : Nat → Int32} {cells slots i c : Nat} {iv : Int32} {M : zM} (hL : L ≤ 320) (hi : i + 5 ≤ L) (hc64 : c < 64) (hiv : iv = nI i) (hcl : cells ≤ 1000) (hsl : slots ≤ 100000) (hInv : Inv c M) (hnext : ∀ (M2 : zM) (ls : List (Nat × Value)) (cells2 slots2 : Nat), cells2 ≤ cells + 1 → slots2 ≤ slots + 6 → Inv (c + 1) M2 → (∀ q ∈ [(0, .ref 4000), (1, .ref 0), (2, .ref 39), (3, .ref 67), (4, .int iv)], q ∈ ls) → zJ ztops RL code 8 (zBl b L xs) cells2 slots2 1317 ls [] M2) : zJ ztops RL code 8 (zBl b L xs) cells slots 729 [(0, .ref 4000), (1, .ref 0), (2, .ref 39), (3, .ref 67), (4, .int iv)] [] M := by
  obtain ⟨r, M1, M2, h1, h2, h3⟩ := hP c M (xs (i + 1)) hc64 hInv
  refine zg_aload_n 1 dL_law_729 rfl rfl ?_
  refine zg_aload_n 0 dL_law_730 rfl rfl ?_
  refine zg_iload 4 dL_law_731 rfl ?_
  refine zg_iconst dL_law_733 zki_1 ?_
  refine zg_iadd dL_law_734 ?_
  refine zl_arg (i := i) (j := 1) hiv rfl (by omega) hL dL_law_735 ?_
  refine zg_callV (st := []) (k_X8_later h1) zY_X8_later lv_L_96 rfl zt_0 rfl (zfit_l (by decide) (by decide) (by omega) (by omega)) (Nat.le_of_ble_eq_true rfl) dL_law_736 rfl ?_
  refine zg_aload_n 2 dL_law_739 rfl rfl ?_
  refine zg_aload_n 0 dL_law_740 rfl rfl ?_
  refine zg_iload 4 dL_law_741 rfl ?_
  refine zg_iconst dL_law_743 zki_1 ?_
  refine zg_iadd dL_law_744 ?_
  refine zl_arg (i := i) (j := 1) hiv rfl (by omega) hL dL_law_745 ?_
  refine zg_callV (st := [.int r]) (k_X9_later h2) zY_X9_later lv_L_99 rfl zt_39 rfl (zfit_l (by decide) (by decide) (by omega) (by omega)) (Nat.le_of_ble_eq_true rfl) dL_law_746 rfl ?_
  refine zg_icmp_eq (tgt := 1317) dL_law_749 (by decide) (fun _ => ?_) (fun hc => absurd rfl hc)
  exact hnext M2 _ _ _ (by omega) (by omega) h3 (fun q hq => hq)
set_option maxHeartbeats 4000000 in
theorem law_falls {Inv : Nat → zM → Prop} (hP : zP_falls Inv) {b L : Nat} {xs : Nat → Int32} {cells slots i c : Nat} {iv : Int32} {M : zM} (hL : L ≤ 320) (hi : i + 5 ≤ L) (hc64 : c < 64) (hiv : iv = nI i) (hcl : cells ≤ 1000) (hsl : slots ≤ 100000) (hInv : Inv c M) (hnext : ∀ (M2 : zM) (ls : List (Nat × Value)) (cells2 slots2 : Nat), cells2 ≤ cells + 1 → slots2 ≤ slots + 6 → Inv (c + 1) M2 → (∀ q ∈ [(0, .ref 4000), (1, .ref 0), (2, .ref 39), (3, .ref 67), (4, .int iv)], q ∈ ls) → zJ ztops RL code 8 (zBl b L xs) cells2 slots2 1317 ls [] M2) : zJ ztops RL code 8 (zBl b L xs) cells slots 754 [(0, .ref 4000), (1, .ref 0), (2, .ref 39), (3, .ref 67), (4, .int iv)] [] M := by
  obtain ⟨r, M1, M2, h1, h2, h3⟩ := hP c M  hc64 hInv
  refine zg_aload_n 1 dL_law_754 rfl rfl ?_
  refine zg_callV (st := []) (k_X8_falls h1) zY_X8_falls lv_L_100 rfl zt_0 rfl (zfit_l (by decide) (by decide) (by omega) (by omega)) (Nat.le_of_ble_eq_true rfl) dL_law_755 rfl ?_
  refine zg_aload_n 2 dL_law_758 rfl rfl ?_
  refine zg_callV (st := [.int r]) (k_X9_falls h2) zY_X9_falls lv_L_103 rfl zt_39 rfl (zfit_l (by decide) (by decide) (by omega) (by omega)) (Nat.le_of_ble_eq_true rfl) dL_law_759 rfl ?_
  refine zg_icmp_eq (tgt := 1317) dL_law_762 (by decide) (fun _ => ?_) (fun hc => absurd rfl hc)
  exact hnext M2 _ _ _ (by omega) (by omega) h3 (fun q hq => hq)
set_option maxHeartbeats 4000000 in
theorem law_rags {Inv : Nat → zM → Prop} (hP : zP_rags Inv) {b L : Nat} {xs : Nat → Int32} {cells slots i c : Nat} {iv : Int32} {M : zM} (hL : L ≤ 320) (hi : i + 5 ≤ L) (hc64 : c < 64) (hiv : iv = nI i) (hcl : cells ≤ 1000) (hsl : slots ≤ 100000) (hInv : Inv c M) (hnext : ∀ (M2 : zM) (ls : List (Nat × Value)) (cells2 slots2 : Nat), cells2 ≤ cells + 1 → slots2 ≤ slots + 6 → Inv (c + 1) M2 → (∀ q ∈ [(0, .ref 4000), (1, .ref 0), (2, .ref 39), (3, .ref 67), (4, .int iv)], q ∈ ls) → zJ ztops RL code 8 (zBl b L xs) cells2 slots2 1317 ls [] M2) : zJ ztops RL code 8 (zBl b L xs) cells slots 767 [(0, .ref 4000), (1, .ref 0), (2, .ref 39), (3, .ref 67), (4, .int iv)] [] M := by
  obtain ⟨r, M1, M2, h1, h2, h3⟩ := hP c M  hc64 hInv
  refine zg_aload_n 1 dL_law_767 rfl rfl ?_
  refine zg_callV (st := []) (k_X8_rags h1) zY_X8_rags lv_L_104 rfl zt_0 rfl (zfit_l (by decide) (by decide) (by omega) (by omega)) (Nat.le_of_ble_eq_true rfl) dL_law_768 rfl ?_
  refine zg_aload_n 2 dL_law_771 rfl rfl ?_
  refine zg_callV (st := [.int r]) (k_X9_rags h2) zY_X9_rags lv_L_107 rfl zt_39 rfl (zfit_l (by decide) (by decide) (by omega) (by omega)) (Nat.le_of_ble_eq_true rfl) dL_law_772 rfl ?_
  refine zg_icmp_eq (tgt := 1317) dL_law_775 (by decide) (fun _ => ?_) (fun hc => absurd rfl hc)
  exact hnext M2 _ _ _ (by omega) (by omega) h3 (fun q hq => hq)
set_option maxHeartbeats 4000000 in
theorem law_lefts {Inv : Nat → zM → Prop} (hP : zP_lefts Inv) {b L : Nat} {xs : Nat → Int32} {cells slots i c : Nat} {iv : Int32} {M : zM} (hL : L ≤ 320) (hi : i + 5 ≤ L) (hc64 : c < 64) (hiv : iv = nI i) (hcl : cells ≤ 1000) (hsl : slots ≤ 100000) (hInv : Inv c M) (hnext : ∀ (M2 : zM) (ls : List (Nat × Value)) (cells2 slots2 : Nat), cells2 ≤ cells + 1 → slots2 ≤ slots + 6 → Inv (c + 1) M2 → (∀ q ∈ [(0, .ref 4000), (1, .ref 0), (2, .ref 39), (3, .ref 67), (4, .int iv)], q ∈ ls) → zJ ztops RL code 8 (zBl b L xs) cells2 slots2 1317 ls [] M2) : zJ ztops RL code 8 (zBl b L xs) cells slots 780 [(0, .ref 4000), (1, .ref 0), (2, .ref 39), (3, .ref 67), (4, .int iv)] [] M := by
  obtain ⟨r, M1, M2, h1, h2, h3⟩ := hP c M (xs (i + 1)) hc64 hInv
  refine zg_aload_n 1 dL_law_780 rfl rfl ?_
  refine zg_aload_n 0 dL_law_781 rfl rfl ?_
  refine zg_iload 4 dL_law_782 rfl ?_
  refine zg_iconst dL_law_784 zki_1 ?_
  refine zg_iadd dL_law_785 ?_
  refine zl_arg (i := i) (j := 1) hiv rfl (by omega) hL dL_law_786 ?_
  refine zg_callV (st := []) (k_X8_lefts h1) zY_X8_lefts lv_L_108 rfl zt_0 rfl (zfit_l (by decide) (by decide) (by omega) (by omega)) (Nat.le_of_ble_eq_true rfl) dL_law_787 rfl ?_
  refine zg_aload_n 2 dL_law_790 rfl rfl ?_
  refine zg_aload_n 0 dL_law_791 rfl rfl ?_
  refine zg_iload 4 dL_law_792 rfl ?_
  refine zg_iconst dL_law_794 zki_1 ?_
  refine zg_iadd dL_law_795 ?_
  refine zl_arg (i := i) (j := 1) hiv rfl (by omega) hL dL_law_796 ?_
  refine zg_callV (st := [.int r]) (k_X9_lefts h2) zY_X9_lefts lv_L_111 rfl zt_39 rfl (zfit_l (by decide) (by decide) (by omega) (by omega)) (Nat.le_of_ble_eq_true rfl) dL_law_797 rfl ?_
  refine zg_icmp_eq (tgt := 1317) dL_law_800 (by decide) (fun _ => ?_) (fun hc => absurd rfl hc)
  exact hnext M2 _ _ _ (by omega) (by omega) h3 (fun q hq => hq)
set_option maxHeartbeats 4000000 in
theorem law_outlasts {Inv : Nat → zM → Prop} (hP : zP_outlasts Inv) {b L : Nat} {xs : Nat → Int32} {cells slots i c : Nat} {iv : Int32} {M : zM} (hL : L ≤ 320) (hi : i + 5 ≤ L) (hc64 : c < 64) (hiv : iv = nI i) (hcl : cells ≤ 1000) (hsl : slots ≤ 100000) (hInv : Inv c M) (hnext : ∀ (M2 : zM) (ls : List (Nat × Value)) (cells2 slots2 : Nat), cells2 ≤ cells + 1 → slots2 ≤ slots + 6 → Inv (c + 1) M2 → (∀ q ∈ [(0, .ref 4000), (1, .ref 0), (2, .ref 39), (3, .ref 67), (4, .int iv)], q ∈ ls) → zJ ztops RL code 8 (zBl b L xs) cells2 slots2 1317 ls [] M2) : zJ ztops RL code 8 (zBl b L xs) cells slots 805 [(0, .ref 4000), (1, .ref 0), (2, .ref 39), (3, .ref 67), (4, .int iv)] [] M := by
  obtain ⟨r, M1, M2, h1, h2, h3⟩ := hP c M  hc64 hInv
  refine zg_aload_n 1 dL_law_805 rfl rfl ?_
  refine zg_callV (st := []) (k_X8_outlasts h1) zY_X8_outlasts lv_L_112 rfl zt_0 rfl (zfit_l (by decide) (by decide) (by omega) (by omega)) (Nat.le_of_ble_eq_true rfl) dL_law_806 rfl ?_
  refine zg_aload_n 2 dL_law_809 rfl rfl ?_
  refine zg_callV (st := [.int r]) (k_X9_outlasts h2) zY_X9_outlasts lv_L_115 rfl zt_39 rfl (zfit_l (by decide) (by decide) (by omega) (by omega)) (Nat.le_of_ble_eq_true rfl) dL_law_810 rfl ?_
  refine zg_icmp_eq (tgt := 1317) dL_law_813 (by decide) (fun _ => ?_) (fun hc => absurd rfl hc)
  exact hnext M2 _ _ _ (by omega) (by omega) h3 (fun q hq => hq)
set_option maxHeartbeats 4000000 in
theorem law_words {Inv : Nat → zM → Prop} (hP : zP_words Inv) {b L : Nat} {xs : Nat → Int32} {cells slots i c : Nat} {iv : Int32} {M : zM} (hL : L ≤ 320) (hi : i + 5 ≤ L) (hc64 : c < 64) (hiv : iv = nI i) (hcl : cells ≤ 1000) (hsl : slots ≤ 100000) (hInv : Inv c M) (hnext : ∀ (M2 : zM) (ls : List (Nat × Value)) (cells2 slots2 : Nat), cells2 ≤ cells + 1 → slots2 ≤ slots + 6 → Inv (c + 1) M2 → (∀ q ∈ [(0, .ref 4000), (1, .ref 0), (2, .ref 39), (3, .ref 67), (4, .int iv)], q ∈ ls) → zJ ztops RL code 8 (zBl b L xs) cells2 slots2 1317 ls [] M2) : zJ ztops RL code 8 (zBl b L xs) cells slots 818 [(0, .ref 4000), (1, .ref 0), (2, .ref 39), (3, .ref 67), (4, .int iv)] [] M := by
  obtain ⟨r, M1, M2, h1, h2, h3⟩ := hP c M (xs (i + 1)) (xs (i + 2)) hc64 hInv
  refine zg_aload_n 1 dL_law_818 rfl rfl ?_
  refine zg_aload_n 0 dL_law_819 rfl rfl ?_
  refine zg_iload 4 dL_law_820 rfl ?_
  refine zg_iconst dL_law_822 zki_1 ?_
  refine zg_iadd dL_law_823 ?_
  refine zl_arg (i := i) (j := 1) hiv rfl (by omega) hL dL_law_824 ?_
  refine zg_aload_n 0 dL_law_825 rfl rfl ?_
  refine zg_iload 4 dL_law_826 rfl ?_
  refine zg_iconst dL_law_828 zki_2 ?_
  refine zg_iadd dL_law_829 ?_
  refine zl_arg (i := i) (j := 2) hiv rfl (by omega) hL dL_law_830 ?_
  refine zg_callV (st := []) (k_X8_words h1) zY_X8_words lv_L_116 rfl zt_0 rfl (zfit_l (by decide) (by decide) (by omega) (by omega)) (Nat.le_of_ble_eq_true rfl) dL_law_831 rfl ?_
  refine zg_aload_n 2 dL_law_834 rfl rfl ?_
  refine zg_aload_n 0 dL_law_835 rfl rfl ?_
  refine zg_iload 4 dL_law_836 rfl ?_
  refine zg_iconst dL_law_838 zki_1 ?_
  refine zg_iadd dL_law_839 ?_
  refine zl_arg (i := i) (j := 1) hiv rfl (by omega) hL dL_law_840 ?_
  refine zg_aload_n 0 dL_law_841 rfl rfl ?_
  refine zg_iload 4 dL_law_842 rfl ?_
  refine zg_iconst dL_law_844 zki_2 ?_
  refine zg_iadd dL_law_845 ?_
  refine zl_arg (i := i) (j := 2) hiv rfl (by omega) hL dL_law_846 ?_
  refine zg_callV (st := [.int r]) (k_X9_words h2) zY_X9_words lv_L_119 rfl zt_39 rfl (zfit_l (by decide) (by decide) (by omega) (by omega)) (Nat.le_of_ble_eq_true rfl) dL_law_847 rfl ?_
  refine zg_icmp_eq (tgt := 1317) dL_law_850 (by decide) (fun _ => ?_) (fun hc => absurd rfl hc)
  exact hnext M2 _ _ _ (by omega) (by omega) h3 (fun q hq => hq)
set_option maxHeartbeats 4000000 in
theorem law_loose {Inv : Nat → zM → Prop} (hP : zP_loose Inv) {b L : Nat} {xs : Nat → Int32} {cells slots i c : Nat} {iv : Int32} {M : zM} (hL : L ≤ 320) (hi : i + 5 ≤ L) (hc64 : c < 64) (hiv : iv = nI i) (hcl : cells ≤ 1000) (hsl : slots ≤ 100000) (hInv : Inv c M) (hnext : ∀ (M2 : zM) (ls : List (Nat × Value)) (cells2 slots2 : Nat), cells2 ≤ cells + 1 → slots2 ≤ slots + 6 → Inv (c + 1) M2 → (∀ q ∈ [(0, .ref 4000), (1, .ref 0), (2, .ref 39), (3, .ref 67), (4, .int iv)], q ∈ ls) → zJ ztops RL code 8 (zBl b L xs) cells2 slots2 1317 ls [] M2) : zJ ztops RL code 8 (zBl b L xs) cells slots 855 [(0, .ref 4000), (1, .ref 0), (2, .ref 39), (3, .ref 67), (4, .int iv)] [] M := by
  obtain ⟨r, M1, M2, h1, h2, h3⟩ := hP c M  hc64 hInv
  refine zg_aload_n 1 dL_law_855 rfl rfl ?_
  refine zg_callV (st := []) (k_X8_loose h1) zY_X8_loose lv_L_120 rfl zt_0 rfl (zfit_l (by decide) (by decide) (by omega) (by omega)) (Nat.le_of_ble_eq_true rfl) dL_law_856 rfl ?_
  refine zg_aload_n 2 dL_law_859 rfl rfl ?_
  refine zg_callV (st := [.int r]) (k_X9_loose h2) zY_X9_loose lv_L_123 rfl zt_39 rfl (zfit_l (by decide) (by decide) (by omega) (by omega)) (Nat.le_of_ble_eq_true rfl) dL_law_860 rfl ?_
  refine zg_icmp_eq (tgt := 1317) dL_law_863 (by decide) (fun _ => ?_) (fun hc => absurd rfl hc)
  exact hnext M2 _ _ _ (by omega) (by omega) h3 (fun q hq => hq)
set_option maxHeartbeats 4000000 in
theorem law_sheds {Inv : Nat → zM → Prop} (hP : zP_sheds Inv) {b L : Nat} {xs : Nat → Int32} {cells slots i c : Nat} {iv : Int32} {M : zM} (hL : L ≤ 320) (hi : i + 5 ≤ L) (hc64 : c < 64) (hiv : iv = nI i) (hcl : cells ≤ 1000) (hsl : slots ≤ 100000) (hInv : Inv c M) (hnext : ∀ (M2 : zM) (ls : List (Nat × Value)) (cells2 slots2 : Nat), cells2 ≤ cells + 1 → slots2 ≤ slots + 6 → Inv (c + 1) M2 → (∀ q ∈ [(0, .ref 4000), (1, .ref 0), (2, .ref 39), (3, .ref 67), (4, .int iv)], q ∈ ls) → zJ ztops RL code 8 (zBl b L xs) cells2 slots2 1317 ls [] M2) : zJ ztops RL code 8 (zBl b L xs) cells slots 868 [(0, .ref 4000), (1, .ref 0), (2, .ref 39), (3, .ref 67), (4, .int iv)] [] M := by
  obtain ⟨r, M1, M2, h1, h2, h3⟩ := hP c M  hc64 hInv
  refine zg_aload_n 1 dL_law_868 rfl rfl ?_
  refine zg_callV (st := []) (k_X8_sheds h1) zY_X8_sheds lv_L_124 rfl zt_0 rfl (zfit_l (by decide) (by decide) (by omega) (by omega)) (Nat.le_of_ble_eq_true rfl) dL_law_869 rfl ?_
  refine zg_aload_n 2 dL_law_872 rfl rfl ?_
  refine zg_callV (st := [.int r]) (k_X9_sheds h2) zY_X9_sheds lv_L_127 rfl zt_39 rfl (zfit_l (by decide) (by decide) (by omega) (by omega)) (Nat.le_of_ble_eq_true rfl) dL_law_873 rfl ?_
  refine zg_icmp_eq (tgt := 1317) dL_law_876 (by decide) (fun _ => ?_) (fun hc => absurd rfl hc)
  exact hnext M2 _ _ _ (by omega) (by omega) h3 (fun q hq => hq)
set_option maxHeartbeats 4000000 in
theorem law_hangs {Inv : Nat → zM → Prop} (hP : zP_hangs Inv) {b L : Nat} {xs : Nat → Int32} {cells slots i c : Nat} {iv : Int32} {M : zM} (hL : L ≤ 320) (hi : i + 5 ≤ L) (hc64 : c < 64) (hiv : iv = nI i) (hcl : cells ≤ 1000) (hsl : slots ≤ 100000) (hInv : Inv c M) (hnext : ∀ (M2 : zM) (ls : List (Nat × Value)) (cells2 slots2 : Nat), cells2 ≤ cells + 1 → slots2 ≤ slots + 6 → Inv (c + 1) M2 → (∀ q ∈ [(0, .ref 4000), (1, .ref 0), (2, .ref 39), (3, .ref 67), (4, .int iv)], q ∈ ls) → zJ ztops RL code 8 (zBl b L xs) cells2 slots2 1317 ls [] M2) : zJ ztops RL code 8 (zBl b L xs) cells slots 881 [(0, .ref 4000), (1, .ref 0), (2, .ref 39), (3, .ref 67), (4, .int iv)] [] M := by
  obtain ⟨r, M1, M2, h1, h2, h3⟩ := hP c M  hc64 hInv
  refine zg_aload_n 1 dL_law_881 rfl rfl ?_
  refine zg_callV (st := []) (k_X8_hangs h1) zY_X8_hangs lv_L_128 rfl zt_0 rfl (zfit_l (by decide) (by decide) (by omega) (by omega)) (Nat.le_of_ble_eq_true rfl) dL_law_882 rfl ?_
  refine zg_aload_n 2 dL_law_885 rfl rfl ?_
  refine zg_callV (st := [.int r]) (k_X9_hangs h2) zY_X9_hangs lv_L_131 rfl zt_39 rfl (zfit_l (by decide) (by decide) (by omega) (by omega)) (Nat.le_of_ble_eq_true rfl) dL_law_886 rfl ?_
  refine zg_icmp_eq (tgt := 1317) dL_law_889 (by decide) (fun _ => ?_) (fun hc => absurd rfl hc)
  exact hnext M2 _ _ _ (by omega) (by omega) h3 (fun q hq => hq)
set_option maxHeartbeats 4000000 in
theorem law_spares {Inv : Nat → zM → Prop} (hP : zP_spares Inv) {b L : Nat} {xs : Nat → Int32} {cells slots i c : Nat} {iv : Int32} {M : zM} (hL : L ≤ 320) (hi : i + 5 ≤ L) (hc64 : c < 64) (hiv : iv = nI i) (hcl : cells ≤ 1000) (hsl : slots ≤ 100000) (hInv : Inv c M) (hnext : ∀ (M2 : zM) (ls : List (Nat × Value)) (cells2 slots2 : Nat), cells2 ≤ cells + 1 → slots2 ≤ slots + 6 → Inv (c + 1) M2 → (∀ q ∈ [(0, .ref 4000), (1, .ref 0), (2, .ref 39), (3, .ref 67), (4, .int iv)], q ∈ ls) → zJ ztops RL code 8 (zBl b L xs) cells2 slots2 1317 ls [] M2) : zJ ztops RL code 8 (zBl b L xs) cells slots 894 [(0, .ref 4000), (1, .ref 0), (2, .ref 39), (3, .ref 67), (4, .int iv)] [] M := by
  obtain ⟨r, M1, M2, h1, h2, h3⟩ := hP c M  hc64 hInv
  refine zg_aload_n 1 dL_law_894 rfl rfl ?_
  refine zg_callV (st := []) (k_X8_spares h1) zY_X8_spares lv_L_132 rfl zt_0 rfl (zfit_l (by decide) (by decide) (by omega) (by omega)) (Nat.le_of_ble_eq_true rfl) dL_law_895 rfl ?_
  refine zg_aload_n 2 dL_law_898 rfl rfl ?_
  refine zg_callV (st := [.int r]) (k_X9_spares h2) zY_X9_spares lv_L_135 rfl zt_39 rfl (zfit_l (by decide) (by decide) (by omega) (by omega)) (Nat.le_of_ble_eq_true rfl) dL_law_899 rfl ?_
  refine zg_icmp_eq (tgt := 1317) dL_law_902 (by decide) (fun _ => ?_) (fun hc => absurd rfl hc)
  exact hnext M2 _ _ _ (by omega) (by omega) h3 (fun q hq => hq)
set_option maxHeartbeats 4000000 in
theorem law_mends {Inv : Nat → zM → Prop} (hP : zP_mends Inv) {b L : Nat} {xs : Nat → Int32} {cells slots i c : Nat} {iv : Int32} {M : zM} (hL : L ≤ 320) (hi : i + 5 ≤ L) (hc64 : c < 64) (hiv : iv = nI i) (hcl : cells ≤ 1000) (hsl : slots ≤ 100000) (hInv : Inv c M) (hnext : ∀ (M2 : zM) (ls : List (Nat × Value)) (cells2 slots2 : Nat), cells2 ≤ cells + 1 → slots2 ≤ slots + 6 → Inv (c + 1) M2 → (∀ q ∈ [(0, .ref 4000), (1, .ref 0), (2, .ref 39), (3, .ref 67), (4, .int iv)], q ∈ ls) → zJ ztops RL code 8 (zBl b L xs) cells2 slots2 1317 ls [] M2) : zJ ztops RL code 8 (zBl b L xs) cells slots 907 [(0, .ref 4000), (1, .ref 0), (2, .ref 39), (3, .ref 67), (4, .int iv)] [] M := by
  obtain ⟨r, M1, M2, h1, h2, h3⟩ := hP c M  hc64 hInv
  refine zg_aload_n 1 dL_law_907 rfl rfl ?_
  refine zg_callV (st := []) (k_X8_mends h1) zY_X8_mends lv_L_136 rfl zt_0 rfl (zfit_l (by decide) (by decide) (by omega) (by omega)) (Nat.le_of_ble_eq_true rfl) dL_law_908 rfl ?_
  refine zg_aload_n 2 dL_law_911 rfl rfl ?_
  refine zg_callV (st := [.int r]) (k_X9_mends h2) zY_X9_mends lv_L_139 rfl zt_39 rfl (zfit_l (by decide) (by decide) (by omega) (by omega)) (Nat.le_of_ble_eq_true rfl) dL_law_912 rfl ?_
  refine zg_icmp_eq (tgt := 1317) dL_law_915 (by decide) (fun _ => ?_) (fun hc => absurd rfl hc)
  exact hnext M2 _ _ _ (by omega) (by omega) h3 (fun q hq => hq)
set_option maxHeartbeats 4000000 in
theorem law_endures {Inv : Nat → zM → Prop} (hP : zP_endures Inv) {b L : Nat} {xs : Nat → Int32} {cells slots i c : Nat} {iv : Int32} {M : zM} (hL : L ≤ 320) (hi : i + 5 ≤ L) (hc64 : c < 64) (hiv : iv = nI i) (hcl : cells ≤ 1000) (hsl : slots ≤ 100000) (hInv : Inv c M) (hnext : ∀ (M2 : zM) (ls : List (Nat × Value)) (cells2 slots2 : Nat), cells2 ≤ cells + 1 → slots2 ≤ slots + 6 → Inv (c + 1) M2 → (∀ q ∈ [(0, .ref 4000), (1, .ref 0), (2, .ref 39), (3, .ref 67), (4, .int iv)], q ∈ ls) → zJ ztops RL code 8 (zBl b L xs) cells2 slots2 1317 ls [] M2) : zJ ztops RL code 8 (zBl b L xs) cells slots 920 [(0, .ref 4000), (1, .ref 0), (2, .ref 39), (3, .ref 67), (4, .int iv)] [] M := by
  obtain ⟨r, M1, M2, h1, h2, h3⟩ := hP c M  hc64 hInv
  refine zg_aload_n 1 dL_law_920 rfl rfl ?_
  refine zg_callV (st := []) (k_X8_endures h1) zY_X8_endures lv_L_140 rfl zt_0 rfl (zfit_l (by decide) (by decide) (by omega) (by omega)) (Nat.le_of_ble_eq_true rfl) dL_law_921 rfl ?_
  refine zg_aload_n 2 dL_law_924 rfl rfl ?_
  refine zg_callV (st := [.int r]) (k_X9_endures h2) zY_X9_endures lv_L_143 rfl zt_39 rfl (zfit_l (by decide) (by decide) (by omega) (by omega)) (Nat.le_of_ble_eq_true rfl) dL_law_925 rfl ?_
  refine zg_icmp_eq (tgt := 1317) dL_law_928 (by decide) (fun _ => ?_) (fun hc => absurd rfl hc)
  exact hnext M2 _ _ _ (by omega) (by omega) h3 (fun q hq => hq)
set_option maxHeartbeats 4000000 in
theorem law_differs {Inv : Nat → zM → Prop} (hP : zP_differs Inv) {b L : Nat} {xs : Nat → Int32} {cells slots i c : Nat} {iv : Int32} {M : zM} (hL : L ≤ 320) (hi : i + 5 ≤ L) (hc64 : c < 64) (hiv : iv = nI i) (hcl : cells ≤ 1000) (hsl : slots ≤ 100000) (hInv : Inv c M) (hnext : ∀ (M2 : zM) (ls : List (Nat × Value)) (cells2 slots2 : Nat), cells2 ≤ cells + 1 → slots2 ≤ slots + 6 → Inv (c + 1) M2 → (∀ q ∈ [(0, .ref 4000), (1, .ref 0), (2, .ref 39), (3, .ref 67), (4, .int iv)], q ∈ ls) → zJ ztops RL code 8 (zBl b L xs) cells2 slots2 1317 ls [] M2) : zJ ztops RL code 8 (zBl b L xs) cells slots 933 [(0, .ref 4000), (1, .ref 0), (2, .ref 39), (3, .ref 67), (4, .int iv)] [] M := by
  obtain ⟨r, M1, M2, h1, h2, h3⟩ := hP c M  hc64 hInv
  refine zg_aload_n 1 dL_law_933 rfl rfl ?_
  refine zg_callV (st := []) (k_X8_differs h1) zY_X8_differs lv_L_144 rfl zt_0 rfl (zfit_l (by decide) (by decide) (by omega) (by omega)) (Nat.le_of_ble_eq_true rfl) dL_law_934 rfl ?_
  refine zg_aload_n 2 dL_law_937 rfl rfl ?_
  refine zg_callV (st := [.int r]) (k_X9_differs h2) zY_X9_differs lv_L_147 rfl zt_39 rfl (zfit_l (by decide) (by decide) (by omega) (by omega)) (Nat.le_of_ble_eq_true rfl) dL_law_938 rfl ?_
  refine zg_icmp_eq (tgt := 1317) dL_law_941 (by decide) (fun _ => ?_) (fun hc => absurd rfl hc)
  exact hnext M2 _ _ _ (by omega) (by omega) h3 (fun q hq => hq)
set_option maxHeartbeats 4000000 in
theorem law_looks {Inv : Nat → zM → Prop} (hP : zP_looks Inv) {b L : Nat} {xs : Nat → Int32} {cells slots i c : Nat} {iv : Int32} {M : zM} (hL : L ≤ 320) (hi : i + 5 ≤ L) (hc64 : c < 64) (hiv : iv = nI i) (hcl : cells ≤ 1000) (hsl : slots ≤ 100000) (hInv : Inv c M) (hnext : ∀ (M2 : zM) (ls : List (Nat × Value)) (cells2 slots2 : Nat), cells2 ≤ cells + 1 → slots2 ≤ slots + 6 → Inv (c + 1) M2 → (∀ q ∈ [(0, .ref 4000), (1, .ref 0), (2, .ref 39), (3, .ref 67), (4, .int iv)], q ∈ ls) → zJ ztops RL code 8 (zBl b L xs) cells2 slots2 1317 ls [] M2) : zJ ztops RL code 8 (zBl b L xs) cells slots 946 [(0, .ref 4000), (1, .ref 0), (2, .ref 39), (3, .ref 67), (4, .int iv)] [] M := by
  obtain ⟨r, M1, M2, h1, h2, h3⟩ := hP c M  hc64 hInv
  refine zg_aload_n 1 dL_law_946 rfl rfl ?_
  refine zg_callV (st := []) (k_X8_looks h1) zY_X8_looks lv_L_148 rfl zt_0 rfl (zfit_l (by decide) (by decide) (by omega) (by omega)) (Nat.le_of_ble_eq_true rfl) dL_law_947 rfl ?_
  refine zg_aload_n 2 dL_law_950 rfl rfl ?_
  refine zg_callV (st := [.int r]) (k_X9_looks h2) zY_X9_looks lv_L_151 rfl zt_39 rfl (zfit_l (by decide) (by decide) (by omega) (by omega)) (Nat.le_of_ble_eq_true rfl) dL_law_951 rfl ?_
  refine zg_icmp_eq (tgt := 1317) dL_law_954 (by decide) (fun _ => ?_) (fun hc => absurd rfl hc)
  exact hnext M2 _ _ _ (by omega) (by omega) h3 (fun q hq => hq)
set_option maxHeartbeats 4000000 in
theorem law_repeats {Inv : Nat → zM → Prop} (hP : zP_repeats Inv) {b L : Nat} {xs : Nat → Int32} {cells slots i c : Nat} {iv : Int32} {M : zM} (hL : L ≤ 320) (hi : i + 5 ≤ L) (hc64 : c < 64) (hiv : iv = nI i) (hcl : cells ≤ 1000) (hsl : slots ≤ 100000) (hInv : Inv c M) (hnext : ∀ (M2 : zM) (ls : List (Nat × Value)) (cells2 slots2 : Nat), cells2 ≤ cells + 1 → slots2 ≤ slots + 6 → Inv (c + 1) M2 → (∀ q ∈ [(0, .ref 4000), (1, .ref 0), (2, .ref 39), (3, .ref 67), (4, .int iv)], q ∈ ls) → zJ ztops RL code 8 (zBl b L xs) cells2 slots2 1317 ls [] M2) : zJ ztops RL code 8 (zBl b L xs) cells slots 959 [(0, .ref 4000), (1, .ref 0), (2, .ref 39), (3, .ref 67), (4, .int iv)] [] M := by
  obtain ⟨r, M1, M2, h1, h2, h3⟩ := hP c M  hc64 hInv
  refine zg_aload_n 1 dL_law_959 rfl rfl ?_
  refine zg_callV (st := []) (k_X8_repeats h1) zY_X8_repeats lv_L_152 rfl zt_0 rfl (zfit_l (by decide) (by decide) (by omega) (by omega)) (Nat.le_of_ble_eq_true rfl) dL_law_960 rfl ?_
  refine zg_aload_n 2 dL_law_963 rfl rfl ?_
  refine zg_callV (st := [.int r]) (k_X9_repeats h2) zY_X9_repeats lv_L_155 rfl zt_39 rfl (zfit_l (by decide) (by decide) (by omega) (by omega)) (Nat.le_of_ble_eq_true rfl) dL_law_964 rfl ?_
  refine zg_icmp_eq (tgt := 1317) dL_law_967 (by decide) (fun _ => ?_) (fun hc => absurd rfl hc)
  exact hnext M2 _ _ _ (by omega) (by omega) h3 (fun q hq => hq)
set_option maxHeartbeats 4000000 in
theorem law_runs {Inv : Nat → zM → Prop} (hP : zP_runs Inv) {b L : Nat} {xs : Nat → Int32} {cells slots i c : Nat} {iv : Int32} {M : zM} (hL : L ≤ 320) (hi : i + 5 ≤ L) (hc64 : c < 64) (hiv : iv = nI i) (hcl : cells ≤ 1000) (hsl : slots ≤ 100000) (hInv : Inv c M) (hnext : ∀ (M2 : zM) (ls : List (Nat × Value)) (cells2 slots2 : Nat), cells2 ≤ cells + 1 → slots2 ≤ slots + 6 → Inv (c + 1) M2 → (∀ q ∈ [(0, .ref 4000), (1, .ref 0), (2, .ref 39), (3, .ref 67), (4, .int iv)], q ∈ ls) → zJ ztops RL code 8 (zBl b L xs) cells2 slots2 1317 ls [] M2) : zJ ztops RL code 8 (zBl b L xs) cells slots 972 [(0, .ref 4000), (1, .ref 0), (2, .ref 39), (3, .ref 67), (4, .int iv)] [] M := by
  obtain ⟨r, M1, M2, h1, h2, h3⟩ := hP c M  hc64 hInv
  refine zg_aload_n 1 dL_law_972 rfl rfl ?_
  refine zg_callV (st := []) (k_X8_runs h1) zY_X8_runs lv_L_156 rfl zt_0 rfl (zfit_l (by decide) (by decide) (by omega) (by omega)) (Nat.le_of_ble_eq_true rfl) dL_law_973 rfl ?_
  refine zg_aload_n 2 dL_law_976 rfl rfl ?_
  refine zg_callV (st := [.int r]) (k_X9_runs h2) zY_X9_runs lv_L_159 rfl zt_39 rfl (zfit_l (by decide) (by decide) (by omega) (by omega)) (Nat.le_of_ble_eq_true rfl) dL_law_977 rfl ?_
  refine zg_icmp_eq (tgt := 1317) dL_law_980 (by decide) (fun _ => ?_) (fun hc => absurd rfl hc)
  exact hnext M2 _ _ _ (by omega) (by omega) h3 (fun q hq => hq)
set_option maxHeartbeats 4000000 in
theorem law_twins {Inv : Nat → zM → Prop} (hP : zP_twins Inv) {b L : Nat} {xs : Nat → Int32} {cells slots i c : Nat} {iv : Int32} {M : zM} (hL : L ≤ 320) (hi : i + 5 ≤ L) (hc64 : c < 64) (hiv : iv = nI i) (hcl : cells ≤ 1000) (hsl : slots ≤ 100000) (hInv : Inv c M) (hnext : ∀ (M2 : zM) (ls : List (Nat × Value)) (cells2 slots2 : Nat), cells2 ≤ cells + 1 → slots2 ≤ slots + 6 → Inv (c + 1) M2 → (∀ q ∈ [(0, .ref 4000), (1, .ref 0), (2, .ref 39), (3, .ref 67), (4, .int iv)], q ∈ ls) → zJ ztops RL code 8 (zBl b L xs) cells2 slots2 1317 ls [] M2) : zJ ztops RL code 8 (zBl b L xs) cells slots 985 [(0, .ref 4000), (1, .ref 0), (2, .ref 39), (3, .ref 67), (4, .int iv)] [] M := by
  obtain ⟨r, M1, M2, h1, h2, h3⟩ := hP c M  hc64 hInv
  refine zg_aload_n 1 dL_law_985 rfl rfl ?_
  refine zg_callV (st := []) (k_X8_twins h1) zY_X8_twins lv_L_160 rfl zt_0 rfl (zfit_l (by decide) (by decide) (by omega) (by omega)) (Nat.le_of_ble_eq_true rfl) dL_law_986 rfl ?_
  refine zg_aload_n 2 dL_law_989 rfl rfl ?_
  refine zg_callV (st := [.int r]) (k_X9_twins h2) zY_X9_twins lv_L_163 rfl zt_39 rfl (zfit_l (by decide) (by decide) (by omega) (by omega)) (Nat.le_of_ble_eq_true rfl) dL_law_990 rfl ?_
  refine zg_icmp_eq (tgt := 1317) dL_law_993 (by decide) (fun _ => ?_) (fun hc => absurd rfl hc)
  exact hnext M2 _ _ _ (by omega) (by omega) h3 (fun q hq => hq)
set_option maxHeartbeats 4000000 in
theorem law_game {Inv : Nat → zM → Prop} (hP : zP_game Inv) {b L : Nat} {xs : Nat → Int32} {cells slots i c : Nat} {iv : Int32} {M : zM} (hL : L ≤ 320) (hi : i + 5 ≤ L) (hc64 : c < 64) (hiv : iv = nI i) (hcl : cells ≤ 1000) (hsl : slots ≤ 100000) (hInv : Inv c M) (hnext : ∀ (M2 : zM) (ls : List (Nat × Value)) (cells2 slots2 : Nat), cells2 ≤ cells + 1 → slots2 ≤ slots + 6 → Inv (c + 1) M2 → (∀ q ∈ [(0, .ref 4000), (1, .ref 0), (2, .ref 39), (3, .ref 67), (4, .int iv)], q ∈ ls) → zJ ztops RL code 8 (zBl b L xs) cells2 slots2 1317 ls [] M2) : zJ ztops RL code 8 (zBl b L xs) cells slots 998 [(0, .ref 4000), (1, .ref 0), (2, .ref 39), (3, .ref 67), (4, .int iv)] [] M := by
  obtain ⟨r, M1, M2, h1, h2, h3⟩ := hP c M  hc64 hInv
  refine zg_aload_n 1 dL_law_998 rfl rfl ?_
  refine zg_callV (st := []) (k_X8_game h1) zY_X8_game lv_L_164 rfl zt_0 rfl (zfit_l (by decide) (by decide) (by omega) (by omega)) (Nat.le_of_ble_eq_true rfl) dL_law_999 rfl ?_
  refine zg_aload_n 2 dL_law_1002 rfl rfl ?_
  refine zg_callV (st := [.int r]) (k_X9_game h2) zY_X9_game lv_L_167 rfl zt_39 rfl (zfit_l (by decide) (by decide) (by omega) (by omega)) (Nat.le_of_ble_eq_true rfl) dL_law_1003 rfl ?_
  refine zg_icmp_eq (tgt := 1317) dL_law_1006 (by decide) (fun _ => ?_) (fun hc => absurd rfl hc)
  exact hnext M2 _ _ _ (by omega) (by omega) h3 (fun q hq => hq)
set_option maxHeartbeats 4000000 in
theorem law_told {Inv : Nat → zM → Prop} (hP : zP_told Inv) {b L : Nat} {xs : Nat → Int32} {cells slots i c : Nat} {iv : Int32} {M : zM} (hL : L ≤ 320) (hi : i + 5 ≤ L) (hc64 : c < 64) (hiv : iv = nI i) (hcl : cells ≤ 1000) (hsl : slots ≤ 100000) (hInv : Inv c M) (hnext : ∀ (M2 : zM) (ls : List (Nat × Value)) (cells2 slots2 : Nat), cells2 ≤ cells + 1 → slots2 ≤ slots + 6 → Inv (c + 1) M2 → (∀ q ∈ [(0, .ref 4000), (1, .ref 0), (2, .ref 39), (3, .ref 67), (4, .int iv)], q ∈ ls) → zJ ztops RL code 8 (zBl b L xs) cells2 slots2 1317 ls [] M2) : zJ ztops RL code 8 (zBl b L xs) cells slots 1011 [(0, .ref 4000), (1, .ref 0), (2, .ref 39), (3, .ref 67), (4, .int iv)] [] M := by
  obtain ⟨r, M1, M2, h1, h2, h3⟩ := hP c M (xs (i + 1)) (xs (i + 2)) hc64 hInv
  refine zg_aload_n 1 dL_law_1011 rfl rfl ?_
  refine zg_aload_n 0 dL_law_1012 rfl rfl ?_
  refine zg_iload 4 dL_law_1013 rfl ?_
  refine zg_iconst dL_law_1015 zki_1 ?_
  refine zg_iadd dL_law_1016 ?_
  refine zl_arg (i := i) (j := 1) hiv rfl (by omega) hL dL_law_1017 ?_
  refine zg_aload_n 0 dL_law_1018 rfl rfl ?_
  refine zg_iload 4 dL_law_1019 rfl ?_
  refine zg_iconst dL_law_1021 zki_2 ?_
  refine zg_iadd dL_law_1022 ?_
  refine zl_arg (i := i) (j := 2) hiv rfl (by omega) hL dL_law_1023 ?_
  refine zg_callV (st := []) (k_X8_told h1) zY_X8_told lv_L_168 rfl zt_0 rfl (zfit_l (by decide) (by decide) (by omega) (by omega)) (Nat.le_of_ble_eq_true rfl) dL_law_1024 rfl ?_
  refine zg_aload_n 2 dL_law_1027 rfl rfl ?_
  refine zg_aload_n 0 dL_law_1028 rfl rfl ?_
  refine zg_iload 4 dL_law_1029 rfl ?_
  refine zg_iconst dL_law_1031 zki_1 ?_
  refine zg_iadd dL_law_1032 ?_
  refine zl_arg (i := i) (j := 1) hiv rfl (by omega) hL dL_law_1033 ?_
  refine zg_aload_n 0 dL_law_1034 rfl rfl ?_
  refine zg_iload 4 dL_law_1035 rfl ?_
  refine zg_iconst dL_law_1037 zki_2 ?_
  refine zg_iadd dL_law_1038 ?_
  refine zl_arg (i := i) (j := 2) hiv rfl (by omega) hL dL_law_1039 ?_
  refine zg_callV (st := [.int r]) (k_X9_told h2) zY_X9_told lv_L_171 rfl zt_39 rfl (zfit_l (by decide) (by decide) (by omega) (by omega)) (Nat.le_of_ble_eq_true rfl) dL_law_1040 rfl ?_
  refine zg_icmp_eq (tgt := 1317) dL_law_1043 (by decide) (fun _ => ?_) (fun hc => absurd rfl hc)
  exact hnext M2 _ _ _ (by omega) (by omega) h3 (fun q hq => hq)
set_option maxHeartbeats 4000000 in
theorem law_forget {Inv : Nat → zM → Prop} (hP : zP_forget Inv) {b L : Nat} {xs : Nat → Int32} {cells slots i c : Nat} {iv : Int32} {M : zM} (hL : L ≤ 320) (hi : i + 5 ≤ L) (hc64 : c < 64) (hiv : iv = nI i) (hcl : cells ≤ 1000) (hsl : slots ≤ 100000) (hInv : Inv c M) (hnext : ∀ (M2 : zM) (ls : List (Nat × Value)) (cells2 slots2 : Nat), cells2 ≤ cells + 1 → slots2 ≤ slots + 6 → Inv (c + 1) M2 → (∀ q ∈ [(0, .ref 4000), (1, .ref 0), (2, .ref 39), (3, .ref 67), (4, .int iv)], q ∈ ls) → zJ ztops RL code 8 (zBl b L xs) cells2 slots2 1317 ls [] M2) : zJ ztops RL code 8 (zBl b L xs) cells slots 1048 [(0, .ref 4000), (1, .ref 0), (2, .ref 39), (3, .ref 67), (4, .int iv)] [] M := by
  obtain ⟨r, M1, M2, h1, h2, h3⟩ := hP c M  hc64 hInv
  refine zg_aload_n 1 dL_law_1048 rfl rfl ?_
  refine zg_callV (st := []) (k_X8_forget h1) zY_X8_forget lv_L_172 rfl zt_0 rfl (zfit_l (by decide) (by decide) (by omega) (by omega)) (Nat.le_of_ble_eq_true rfl) dL_law_1049 rfl ?_
  refine zg_aload_n 2 dL_law_1052 rfl rfl ?_
  refine zg_callV (st := [.int r]) (k_X9_forget h2) zY_X9_forget lv_L_175 rfl zt_39 rfl (zfit_l (by decide) (by decide) (by omega) (by omega)) (Nat.le_of_ble_eq_true rfl) dL_law_1053 rfl ?_
  refine zg_icmp_eq (tgt := 1317) dL_law_1056 (by decide) (fun _ => ?_) (fun hc => absurd rfl hc)
  exact hnext M2 _ _ _ (by omega) (by omega) h3 (fun q hq => hq)
set_option maxHeartbeats 4000000 in
theorem law_fits {Inv : Nat → zM → Prop} (hP : zP_fits Inv) {b L : Nat} {xs : Nat → Int32} {cells slots i c : Nat} {iv : Int32} {M : zM} (hL : L ≤ 320) (hi : i + 5 ≤ L) (hc64 : c < 64) (hiv : iv = nI i) (hcl : cells ≤ 1000) (hsl : slots ≤ 100000) (hInv : Inv c M) (hnext : ∀ (M2 : zM) (ls : List (Nat × Value)) (cells2 slots2 : Nat), cells2 ≤ cells + 1 → slots2 ≤ slots + 6 → Inv (c + 1) M2 → (∀ q ∈ [(0, .ref 4000), (1, .ref 0), (2, .ref 39), (3, .ref 67), (4, .int iv)], q ∈ ls) → zJ ztops RL code 8 (zBl b L xs) cells2 slots2 1317 ls [] M2) : zJ ztops RL code 8 (zBl b L xs) cells slots 1061 [(0, .ref 4000), (1, .ref 0), (2, .ref 39), (3, .ref 67), (4, .int iv)] [] M := by
  obtain ⟨r, M1, M2, h1, h2, h3⟩ := hP c M  hc64 hInv
  refine zg_aload_n 1 dL_law_1061 rfl rfl ?_
  refine zg_callV (st := []) (k_X8_fits h1) zY_X8_fits lv_L_176 rfl zt_0 rfl (zfit_l (by decide) (by decide) (by omega) (by omega)) (Nat.le_of_ble_eq_true rfl) dL_law_1062 rfl ?_
  refine zg_aload_n 2 dL_law_1065 rfl rfl ?_
  refine zg_callV (st := [.int r]) (k_X9_fits h2) zY_X9_fits lv_L_179 rfl zt_39 rfl (zfit_l (by decide) (by decide) (by omega) (by omega)) (Nat.le_of_ble_eq_true rfl) dL_law_1066 rfl ?_
  refine zg_icmp_eq (tgt := 1317) dL_law_1069 (by decide) (fun _ => ?_) (fun hc => absurd rfl hc)
  exact hnext M2 _ _ _ (by omega) (by omega) h3 (fun q hq => hq)
set_option maxHeartbeats 4000000 in
theorem law_asks {Inv : Nat → zM → Prop} (hP : zP_asks Inv) {b L : Nat} {xs : Nat → Int32} {cells slots i c : Nat} {iv : Int32} {M : zM} (hL : L ≤ 320) (hi : i + 5 ≤ L) (hc64 : c < 64) (hiv : iv = nI i) (hcl : cells ≤ 1000) (hsl : slots ≤ 100000) (hInv : Inv c M) (hnext : ∀ (M2 : zM) (ls : List (Nat × Value)) (cells2 slots2 : Nat), cells2 ≤ cells + 1 → slots2 ≤ slots + 6 → Inv (c + 1) M2 → (∀ q ∈ [(0, .ref 4000), (1, .ref 0), (2, .ref 39), (3, .ref 67), (4, .int iv)], q ∈ ls) → zJ ztops RL code 8 (zBl b L xs) cells2 slots2 1317 ls [] M2) : zJ ztops RL code 8 (zBl b L xs) cells slots 1074 [(0, .ref 4000), (1, .ref 0), (2, .ref 39), (3, .ref 67), (4, .int iv)] [] M := by
  obtain ⟨r, M1, M2, h1, h2, h3⟩ := hP c M  hc64 hInv
  refine zg_aload_n 1 dL_law_1074 rfl rfl ?_
  refine zg_callV (st := []) (k_X8_asks h1) zY_X8_asks lv_L_180 rfl zt_0 rfl (zfit_l (by decide) (by decide) (by omega) (by omega)) (Nat.le_of_ble_eq_true rfl) dL_law_1075 rfl ?_
  refine zg_aload_n 2 dL_law_1078 rfl rfl ?_
  refine zg_callV (st := [.int r]) (k_X9_asks h2) zY_X9_asks lv_L_183 rfl zt_39 rfl (zfit_l (by decide) (by decide) (by omega) (by omega)) (Nat.le_of_ble_eq_true rfl) dL_law_1079 rfl ?_
  refine zg_icmp_eq (tgt := 1317) dL_law_1082 (by decide) (fun _ => ?_) (fun hc => absurd rfl hc)
  exact hnext M2 _ _ _ (by omega) (by omega) h3 (fun q hq => hq)
set_option maxHeartbeats 4000000 in
theorem law_odds {Inv : Nat → zM → Prop} (hP : zP_odds Inv) {b L : Nat} {xs : Nat → Int32} {cells slots i c : Nat} {iv : Int32} {M : zM} (hL : L ≤ 320) (hi : i + 5 ≤ L) (hc64 : c < 64) (hiv : iv = nI i) (hcl : cells ≤ 1000) (hsl : slots ≤ 100000) (hInv : Inv c M) (hnext : ∀ (M2 : zM) (ls : List (Nat × Value)) (cells2 slots2 : Nat), cells2 ≤ cells + 1 → slots2 ≤ slots + 6 → Inv (c + 1) M2 → (∀ q ∈ [(0, .ref 4000), (1, .ref 0), (2, .ref 39), (3, .ref 67), (4, .int iv)], q ∈ ls) → zJ ztops RL code 8 (zBl b L xs) cells2 slots2 1317 ls [] M2) : zJ ztops RL code 8 (zBl b L xs) cells slots 1087 [(0, .ref 4000), (1, .ref 0), (2, .ref 39), (3, .ref 67), (4, .int iv)] [] M := by
  obtain ⟨r, M1, M2, h1, h2, h3⟩ := hP c M (xs (i + 1)) hc64 hInv
  refine zg_aload_n 1 dL_law_1087 rfl rfl ?_
  refine zg_aload_n 0 dL_law_1088 rfl rfl ?_
  refine zg_iload 4 dL_law_1089 rfl ?_
  refine zg_iconst dL_law_1091 zki_1 ?_
  refine zg_iadd dL_law_1092 ?_
  refine zl_arg (i := i) (j := 1) hiv rfl (by omega) hL dL_law_1093 ?_
  refine zg_callV (st := []) (k_X8_odds h1) zY_X8_odds lv_L_184 rfl zt_0 rfl (zfit_l (by decide) (by decide) (by omega) (by omega)) (Nat.le_of_ble_eq_true rfl) dL_law_1094 rfl ?_
  refine zg_aload_n 2 dL_law_1097 rfl rfl ?_
  refine zg_aload_n 0 dL_law_1098 rfl rfl ?_
  refine zg_iload 4 dL_law_1099 rfl ?_
  refine zg_iconst dL_law_1101 zki_1 ?_
  refine zg_iadd dL_law_1102 ?_
  refine zl_arg (i := i) (j := 1) hiv rfl (by omega) hL dL_law_1103 ?_
  refine zg_callV (st := [.int r]) (k_X9_odds h2) zY_X9_odds lv_L_187 rfl zt_39 rfl (zfit_l (by decide) (by decide) (by omega) (by omega)) (Nat.le_of_ble_eq_true rfl) dL_law_1104 rfl ?_
  refine zg_icmp_eq (tgt := 1317) dL_law_1107 (by decide) (fun _ => ?_) (fun hc => absurd rfl hc)
  exact hnext M2 _ _ _ (by omega) (by omega) h3 (fun q hq => hq)
set_option maxHeartbeats 4000000 in
theorem law_law {Inv : Nat → zM → Prop} (hP : zP_law Inv) {b L : Nat} {xs : Nat → Int32} {cells slots i c : Nat} {iv : Int32} {M : zM} (hL : L ≤ 320) (hi : i + 5 ≤ L) (hc64 : c < 64) (hiv : iv = nI i) (hcl : cells ≤ 1000) (hsl : slots ≤ 100000) (hInv : Inv c M) (hnext : ∀ (M2 : zM) (ls : List (Nat × Value)) (cells2 slots2 : Nat), cells2 ≤ cells + 1 → slots2 ≤ slots + 6 → Inv (c + 1) M2 → (∀ q ∈ [(0, .ref 4000), (1, .ref 0), (2, .ref 39), (3, .ref 67), (4, .int iv)], q ∈ ls) → zJ ztops RL code 8 (zBl b L xs) cells2 slots2 1317 ls [] M2) : zJ ztops RL code 8 (zBl b L xs) cells slots 1112 [(0, .ref 4000), (1, .ref 0), (2, .ref 39), (3, .ref 67), (4, .int iv)] [] M := by
  obtain ⟨r, M1, M2, h1, h2, h3⟩ := hP c M  hc64 hInv
  refine zg_aload_n 1 dL_law_1112 rfl rfl ?_
  refine zg_callV (st := []) (k_X8_law h1) zY_X8_law lv_L_188 rfl zt_0 rfl (zfit_l (by decide) (by decide) (by omega) (by omega)) (Nat.le_of_ble_eq_true rfl) dL_law_1113 rfl ?_
  refine zg_aload_n 2 dL_law_1116 rfl rfl ?_
  refine zg_callV (st := [.int r]) (k_X9_law h2) zY_X9_law lv_L_191 rfl zt_39 rfl (zfit_l (by decide) (by decide) (by omega) (by omega)) (Nat.le_of_ble_eq_true rfl) dL_law_1117 rfl ?_
  refine zg_icmp_eq (tgt := 1317) dL_law_1120 (by decide) (fun _ => ?_) (fun hc => absurd rfl hc)
  exact hnext M2 _ _ _ (by omega) (by omega) h3 (fun q hq => hq)
set_option maxHeartbeats 4000000 in
theorem law_rests {Inv : Nat → zM → Prop} (hP : zP_rests Inv) {b L : Nat} {xs : Nat → Int32} {cells slots i c : Nat} {iv : Int32} {M : zM} (hL : L ≤ 320) (hi : i + 5 ≤ L) (hc64 : c < 64) (hiv : iv = nI i) (hcl : cells ≤ 1000) (hsl : slots ≤ 100000) (hInv : Inv c M) (hnext : ∀ (M2 : zM) (ls : List (Nat × Value)) (cells2 slots2 : Nat), cells2 ≤ cells + 1 → slots2 ≤ slots + 6 → Inv (c + 1) M2 → (∀ q ∈ [(0, .ref 4000), (1, .ref 0), (2, .ref 39), (3, .ref 67), (4, .int iv)], q ∈ ls) → zJ ztops RL code 8 (zBl b L xs) cells2 slots2 1317 ls [] M2) : zJ ztops RL code 8 (zBl b L xs) cells slots 1125 [(0, .ref 4000), (1, .ref 0), (2, .ref 39), (3, .ref 67), (4, .int iv)] [] M := by
  obtain ⟨r, M1, M2, h1, h2, h3⟩ := hP c M (xs (i + 1)) hc64 hInv
  refine zg_aload_n 1 dL_law_1125 rfl rfl ?_
  refine zg_aload_n 0 dL_law_1126 rfl rfl ?_
  refine zg_iload 4 dL_law_1127 rfl ?_
  refine zg_iconst dL_law_1129 zki_1 ?_
  refine zg_iadd dL_law_1130 ?_
  refine zl_arg (i := i) (j := 1) hiv rfl (by omega) hL dL_law_1131 ?_
  refine zg_callV (st := []) (k_X8_rests h1) zY_X8_rests lv_L_192 rfl zt_0 rfl (zfit_l (by decide) (by decide) (by omega) (by omega)) (Nat.le_of_ble_eq_true rfl) dL_law_1132 rfl ?_
  refine zg_aload_n 2 dL_law_1135 rfl rfl ?_
  refine zg_aload_n 0 dL_law_1136 rfl rfl ?_
  refine zg_iload 4 dL_law_1137 rfl ?_
  refine zg_iconst dL_law_1139 zki_1 ?_
  refine zg_iadd dL_law_1140 ?_
  refine zl_arg (i := i) (j := 1) hiv rfl (by omega) hL dL_law_1141 ?_
  refine zg_callV (st := [.int r]) (k_X9_rests h2) zY_X9_rests lv_L_195 rfl zt_39 rfl (zfit_l (by decide) (by decide) (by omega) (by omega)) (Nat.le_of_ble_eq_true rfl) dL_law_1142 rfl ?_
  refine zg_icmp_eq (tgt := 1317) dL_law_1145 (by decide) (fun _ => ?_) (fun hc => absurd rfl hc)
  exact hnext M2 _ _ _ (by omega) (by omega) h3 (fun q hq => hq)
set_option maxHeartbeats 4000000 in
theorem law_years {Inv : Nat → zM → Prop} (hP : zP_years Inv) {b L : Nat} {xs : Nat → Int32} {cells slots i c : Nat} {iv : Int32} {M : zM} (hL : L ≤ 320) (hi : i + 5 ≤ L) (hc64 : c < 64) (hiv : iv = nI i) (hcl : cells ≤ 1000) (hsl : slots ≤ 100000) (hInv : Inv c M) (hnext : ∀ (M2 : zM) (ls : List (Nat × Value)) (cells2 slots2 : Nat), cells2 ≤ cells + 1 → slots2 ≤ slots + 6 → Inv (c + 1) M2 → (∀ q ∈ [(0, .ref 4000), (1, .ref 0), (2, .ref 39), (3, .ref 67), (4, .int iv)], q ∈ ls) → zJ ztops RL code 8 (zBl b L xs) cells2 slots2 1317 ls [] M2) : zJ ztops RL code 8 (zBl b L xs) cells slots 1150 [(0, .ref 4000), (1, .ref 0), (2, .ref 39), (3, .ref 67), (4, .int iv)] [] M := by
  obtain ⟨r, M1, M2, h1, h2, h3⟩ := hP c M (xs (i + 1)) (xs (i + 2)) hc64 hInv
  refine zg_aload_n 1 dL_law_1150 rfl rfl ?_
  refine zg_aload_n 0 dL_law_1151 rfl rfl ?_
  refine zg_iload 4 dL_law_1152 rfl ?_
  refine zg_iconst dL_law_1154 zki_1 ?_
  refine zg_iadd dL_law_1155 ?_
  refine zl_arg (i := i) (j := 1) hiv rfl (by omega) hL dL_law_1156 ?_
  refine zg_aload_n 0 dL_law_1157 rfl rfl ?_
  refine zg_iload 4 dL_law_1158 rfl ?_
  refine zg_iconst dL_law_1160 zki_2 ?_
  refine zg_iadd dL_law_1161 ?_
  refine zl_arg (i := i) (j := 2) hiv rfl (by omega) hL dL_law_1162 ?_
  refine zg_callV (st := []) (k_X8_years h1) zY_X8_years lv_L_196 rfl zt_0 rfl (zfit_l (by decide) (by decide) (by omega) (by omega)) (Nat.le_of_ble_eq_true rfl) dL_law_1163 rfl ?_
  refine zg_aload_n 2 dL_law_1166 rfl rfl ?_
  refine zg_aload_n 0 dL_law_1167 rfl rfl ?_
  refine zg_iload 4 dL_law_1168 rfl ?_
  refine zg_iconst dL_law_1170 zki_1 ?_
  refine zg_iadd dL_law_1171 ?_
  refine zl_arg (i := i) (j := 1) hiv rfl (by omega) hL dL_law_1172 ?_
  refine zg_aload_n 0 dL_law_1173 rfl rfl ?_
  refine zg_iload 4 dL_law_1174 rfl ?_
  refine zg_iconst dL_law_1176 zki_2 ?_
  refine zg_iadd dL_law_1177 ?_
  refine zl_arg (i := i) (j := 2) hiv rfl (by omega) hL dL_law_1178 ?_
  refine zg_callV (st := [.int r]) (k_X9_years h2) zY_X9_years lv_L_199 rfl zt_39 rfl (zfit_l (by decide) (by decide) (by omega) (by omega)) (Nat.le_of_ble_eq_true rfl) dL_law_1179 rfl ?_
  refine zg_icmp_eq (tgt := 1317) dL_law_1182 (by decide) (fun _ => ?_) (fun hc => absurd rfl hc)
  exact hnext M2 _ _ _ (by omega) (by omega) h3 (fun q hq => hq)
set_option maxHeartbeats 4000000 in
theorem law_keep {Inv : Nat → zM → Prop} (hP : zP_keep Inv) {b L : Nat} {xs : Nat → Int32} {cells slots i c : Nat} {iv : Int32} {M : zM} (hL : L ≤ 320) (hi : i + 5 ≤ L) (hc64 : c < 64) (hiv : iv = nI i) (hcl : cells ≤ 1000) (hsl : slots ≤ 100000) (hInv : Inv c M) (hnext : ∀ (M2 : zM) (ls : List (Nat × Value)) (cells2 slots2 : Nat), cells2 ≤ cells + 1 → slots2 ≤ slots + 6 → Inv (c + 1) M2 → (∀ q ∈ [(0, .ref 4000), (1, .ref 0), (2, .ref 39), (3, .ref 67), (4, .int iv)], q ∈ ls) → zJ ztops RL code 8 (zBl b L xs) cells2 slots2 1317 ls [] M2) : zJ ztops RL code 8 (zBl b L xs) cells slots 1187 [(0, .ref 4000), (1, .ref 0), (2, .ref 39), (3, .ref 67), (4, .int iv)] [] M := by
  obtain ⟨r, M1, M2, h1, h2, h3⟩ := hP c M (xs (i + 1)) hc64 hInv
  refine zg_aload_n 1 dL_law_1187 rfl rfl ?_
  refine zg_aload_n 0 dL_law_1188 rfl rfl ?_
  refine zg_iload 4 dL_law_1189 rfl ?_
  refine zg_iconst dL_law_1191 zki_1 ?_
  refine zg_iadd dL_law_1192 ?_
  refine zl_arg (i := i) (j := 1) hiv rfl (by omega) hL dL_law_1193 ?_
  refine zg_callV (st := []) (k_X8_keep h1) zY_X8_keep lv_L_200 rfl zt_0 rfl (zfit_l (by decide) (by decide) (by omega) (by omega)) (Nat.le_of_ble_eq_true rfl) dL_law_1194 rfl ?_
  refine zg_aload_n 2 dL_law_1197 rfl rfl ?_
  refine zg_aload_n 0 dL_law_1198 rfl rfl ?_
  refine zg_iload 4 dL_law_1199 rfl ?_
  refine zg_iconst dL_law_1201 zki_1 ?_
  refine zg_iadd dL_law_1202 ?_
  refine zl_arg (i := i) (j := 1) hiv rfl (by omega) hL dL_law_1203 ?_
  refine zg_callV (st := [.int r]) (k_X9_keep h2) zY_X9_keep lv_L_203 rfl zt_39 rfl (zfit_l (by decide) (by decide) (by omega) (by omega)) (Nat.le_of_ble_eq_true rfl) dL_law_1204 rfl ?_
  refine zg_icmp_eq (tgt := 1317) dL_law_1207 (by decide) (fun _ => ?_) (fun hc => absurd rfl hc)
  exact hnext M2 _ _ _ (by omega) (by omega) h3 (fun q hq => hq)
set_option maxHeartbeats 4000000 in
theorem law_again {Inv : Nat → zM → Prop} (hP : zP_again Inv) {b L : Nat} {xs : Nat → Int32} {cells slots i c : Nat} {iv : Int32} {M : zM} (hL : L ≤ 320) (hi : i + 5 ≤ L) (hc64 : c < 64) (hiv : iv = nI i) (hcl : cells ≤ 1000) (hsl : slots ≤ 100000) (hInv : Inv c M) (hnext : ∀ (M2 : zM) (ls : List (Nat × Value)) (cells2 slots2 : Nat), cells2 ≤ cells + 1 → slots2 ≤ slots + 6 → Inv (c + 1) M2 → (∀ q ∈ [(0, .ref 4000), (1, .ref 0), (2, .ref 39), (3, .ref 67), (4, .int iv)], q ∈ ls) → zJ ztops RL code 8 (zBl b L xs) cells2 slots2 1317 ls [] M2) : zJ ztops RL code 8 (zBl b L xs) cells slots 1212 [(0, .ref 4000), (1, .ref 0), (2, .ref 39), (3, .ref 67), (4, .int iv)] [] M := by
  obtain ⟨r, M1, M2, h1, h2, h3⟩ := hP c M (xs (i + 1)) hc64 hInv
  refine zg_aload_n 1 dL_law_1212 rfl rfl ?_
  refine zg_aload_n 0 dL_law_1213 rfl rfl ?_
  refine zg_iload 4 dL_law_1214 rfl ?_
  refine zg_iconst dL_law_1216 zki_1 ?_
  refine zg_iadd dL_law_1217 ?_
  refine zl_arg (i := i) (j := 1) hiv rfl (by omega) hL dL_law_1218 ?_
  refine zg_callV (st := []) (k_X8_again h1) zY_X8_again lv_L_204 rfl zt_0 rfl (zfit_l (by decide) (by decide) (by omega) (by omega)) (Nat.le_of_ble_eq_true rfl) dL_law_1219 rfl ?_
  refine zg_aload_n 2 dL_law_1222 rfl rfl ?_
  refine zg_aload_n 0 dL_law_1223 rfl rfl ?_
  refine zg_iload 4 dL_law_1224 rfl ?_
  refine zg_iconst dL_law_1226 zki_1 ?_
  refine zg_iadd dL_law_1227 ?_
  refine zl_arg (i := i) (j := 1) hiv rfl (by omega) hL dL_law_1228 ?_
  refine zg_callV (st := [.int r]) (k_X9_again h2) zY_X9_again lv_L_207 rfl zt_39 rfl (zfit_l (by decide) (by decide) (by omega) (by omega)) (Nat.le_of_ble_eq_true rfl) dL_law_1229 rfl ?_
  refine zg_icmp_eq (tgt := 1317) dL_law_1232 (by decide) (fun _ => ?_) (fun hc => absurd rfl hc)
  exact hnext M2 _ _ _ (by omega) (by omega) h3 (fun q hq => hq)
set_option maxHeartbeats 4000000 in
theorem law_count {Inv : Nat → zM → Prop} (hP : zP_count Inv) {b L : Nat} {xs : Nat → Int32} {cells slots i c : Nat} {iv : Int32} {M : zM} (hL : L ≤ 320) (hi : i + 5 ≤ L) (hc64 : c < 64) (hiv : iv = nI i) (hcl : cells ≤ 1000) (hsl : slots ≤ 100000) (hInv : Inv c M) (hnext : ∀ (M2 : zM) (ls : List (Nat × Value)) (cells2 slots2 : Nat), cells2 ≤ cells + 1 → slots2 ≤ slots + 6 → Inv (c + 1) M2 → (∀ q ∈ [(0, .ref 4000), (1, .ref 0), (2, .ref 39), (3, .ref 67), (4, .int iv)], q ∈ ls) → zJ ztops RL code 8 (zBl b L xs) cells2 slots2 1317 ls [] M2) : zJ ztops RL code 8 (zBl b L xs) cells slots 1237 [(0, .ref 4000), (1, .ref 0), (2, .ref 39), (3, .ref 67), (4, .int iv)] [] M := by
  obtain ⟨r, M2, h1, h2, h3⟩ := hP c M (xs (i + 1)) hc64 hInv
  refine zg_aload_n 1 dL_law_1237 rfl rfl ?_
  refine zg_aload_n 0 dL_law_1238 rfl rfl ?_
  refine zg_iload 4 dL_law_1239 rfl ?_
  refine zg_iconst dL_law_1241 zki_1 ?_
  refine zg_iadd dL_law_1242 ?_
  refine zl_arg (i := i) (j := 1) hiv rfl (by omega) hL dL_law_1243 ?_
  refine zg_callV (st := []) (k_X8_count h1) zY_X8_count lv_L_208 rfl zt_0 rfl (zfit_l (by decide) (by decide) (by omega) (by omega)) (Nat.le_of_ble_eq_true rfl) dL_law_1244 rfl ?_
  refine zg_aload_n 2 dL_law_1247 rfl rfl ?_
  refine zg_aload_n 0 dL_law_1248 rfl rfl ?_
  refine zg_iload 4 dL_law_1249 rfl ?_
  refine zg_iconst dL_law_1251 zki_1 ?_
  refine zg_iadd dL_law_1252 ?_
  refine zl_arg (i := i) (j := 1) hiv rfl (by omega) hL dL_law_1253 ?_
  refine zg_callV (st := [.int r]) (k_X9_count h2) zY_X9_count lv_L_211 rfl zt_39 rfl (zfit_l (by decide) (by decide) (by omega) (by omega)) (Nat.le_of_ble_eq_true rfl) dL_law_1254 rfl ?_
  refine zg_icmp_eq (tgt := 1317) dL_law_1257 (by decide) (fun _ => ?_) (fun hc => absurd rfl hc)
  exact hnext M2 _ _ _ (by omega) (by omega) h3 (fun q hq => hq)
set_option maxHeartbeats 4000000 in
theorem law_row {Inv : Nat → zM → Prop} (hP : zP_row Inv) {b L : Nat} {xs : Nat → Int32} {cells slots i c : Nat} {iv : Int32} {M : zM} (hL : L ≤ 320) (hi : i + 5 ≤ L) (hc64 : c < 64) (hiv : iv = nI i) (hcl : cells ≤ 1000) (hsl : slots ≤ 100000) (hInv : Inv c M) (hnext : ∀ (M2 : zM) (ls : List (Nat × Value)) (cells2 slots2 : Nat), cells2 ≤ cells + 1 → slots2 ≤ slots + 6 → Inv (c + 1) M2 → (∀ q ∈ [(0, .ref 4000), (1, .ref 0), (2, .ref 39), (3, .ref 67), (4, .int iv)], q ∈ ls) → zJ ztops RL code 8 (zBl b L xs) cells2 slots2 1317 ls [] M2) : zJ ztops RL code 8 (zBl b L xs) cells slots 1262 [(0, .ref 4000), (1, .ref 0), (2, .ref 39), (3, .ref 67), (4, .int iv)] [] M := by
  rcases hP c M (xs (i + 1)) hc64 hInv with ⟨r, M2, h1, h2, h3, h4, h5⟩ | ⟨r, M2, h1, h2, h3, h4⟩
  · refine zg_aload_n 1 dL_law_1262 rfl rfl ?_
    refine zg_aload_n 0 dL_law_1263 rfl rfl ?_
    refine zg_iload 4 dL_law_1264 rfl ?_
    refine zg_iconst dL_law_1266 zki_1 ?_
    refine zg_iadd dL_law_1267 ?_
    refine zl_arg (i := i) (j := 1) hiv rfl (by omega) hL dL_law_1268 ?_
    refine zg_aload_n 3 dL_law_1269 rfl rfl ?_
    refine zl_callH (n := 3) (st := []) (kh_row_ret h1) cw_Lrow lw_iRL ⟨by decide, by decide, by decide +kernel⟩ ls_L_212 rfl ⟨⟨by decide, by decide⟩, by omega, by omega⟩ (Nat.le_of_ble_eq_true rfl) dL_law_1270 rfl ?_
    refine zg_istore (ls' := [(0, .ref 4000), (1, .ref 0), (2, .ref 39), (3, .ref 67), (4, .int iv), (5, .int 0)]) dL_law_1273 (Nat.le_of_ble_eq_true rfl) rfl ?_
    refine zg_aload_n 2 dL_law_1275 rfl rfl ?_
    refine zg_aload_n 0 dL_law_1276 rfl rfl ?_
    refine zg_iload 4 dL_law_1277 rfl ?_
    refine zg_iconst dL_law_1279 zki_1 ?_
    refine zg_iadd dL_law_1280 ?_
    refine zl_arg (i := i) (j := 1) hiv rfl (by omega) hL dL_law_1281 ?_
    refine zg_callV (st := []) (k_X9_row h2) zY_X9_row lv_L_215 rfl zt_39 rfl (zfit_l (by decide) (by decide) (by omega) (by omega)) (Nat.le_of_ble_eq_true rfl) dL_law_1282 rfl ?_
    refine zg_lstore (ls' := [(0, .ref 4000), (1, .ref 0), (2, .ref 39), (3, .ref 67), (4, .int iv), (5, .int 0), (6, .long r)]) dL_law_1285 (Nat.le_of_ble_eq_true rfl) rfl ?_
    refine zg_aload_n 2 dL_law_1287 rfl rfl ?_
    refine zg_callV (st := []) (k_X9_thrown h3) zY_X9_thrown lv_L_52 rfl zt_39 rfl (zfit_l (by decide) (by decide) (by omega) (by omega)) (Nat.le_of_ble_eq_true rfl) dL_law_1288 rfl ?_
    refine zg_iload 5 dL_law_1291 rfl ?_
    refine zg_icmp_eq (tgt := 1298) dL_law_1293 (by decide) (fun _ => ?_) (fun hc => absurd rfl hc)
    refine zg_iload 5 dL_law_1298 rfl ?_
    refine zg_if_ne (tgt := 1314) dL_law_1300 (by decide) (fun hc => absurd rfl hc) (fun _ => ?_)
    refine zg_aload_n 3 dL_law_1303 rfl rfl ?_
    refine zg_iconst dL_law_1304 zki_0 ?_
    refine zo_lald zt_67 (zaJ0 _) dL_law_1305 ?_
    refine zg_lload 6 dL_law_1306 rfl ?_
    refine zg_lcmp dL_law_1308 ?_
    rw [h4, lcmp_self]
    refine zg_if_eq (tgt := 1314) dL_law_1309 (by decide) (fun _ => ?_) (fun hc => absurd rfl hc)
    refine zg_goto (tgt := 1317) dL_law_1314 (by decide) ?_
    refine zo_sub (ls' := [(0, .ref 4000), (1, .ref 0), (2, .ref 39), (3, .ref 67), (4, .int iv)]) [0, 1, 2, 3, 4] rfl ?_
    exact hnext M2 _ _ _ (by omega) (by omega) h5 (fun q hq => hq)
  · refine zg_aload_n 1 dL_law_1262 rfl rfl ?_
    refine zg_aload_n 0 dL_law_1263 rfl rfl ?_
    refine zg_iload 4 dL_law_1264 rfl ?_
    refine zg_iconst dL_law_1266 zki_1 ?_
    refine zg_iadd dL_law_1267 ?_
    refine zl_arg (i := i) (j := 1) hiv rfl (by omega) hL dL_law_1268 ?_
    refine zg_aload_n 3 dL_law_1269 rfl rfl ?_
    refine zl_callH (n := 3) (st := []) (kh_row_thr h1) cw_Lrow lw_iRL ⟨by decide, by decide, by decide +kernel⟩ ls_L_212 rfl ⟨⟨by decide, by decide⟩, by omega, by omega⟩ (Nat.le_of_ble_eq_true rfl) dL_law_1270 rfl ?_
    refine zg_istore (ls' := [(0, .ref 4000), (1, .ref 0), (2, .ref 39), (3, .ref 67), (4, .int iv), (5, .int 1)]) dL_law_1273 (Nat.le_of_ble_eq_true rfl) rfl ?_
    refine zg_aload_n 2 dL_law_1275 rfl rfl ?_
    refine zg_aload_n 0 dL_law_1276 rfl rfl ?_
    refine zg_iload 4 dL_law_1277 rfl ?_
    refine zg_iconst dL_law_1279 zki_1 ?_
    refine zg_iadd dL_law_1280 ?_
    refine zl_arg (i := i) (j := 1) hiv rfl (by omega) hL dL_law_1281 ?_
    refine zg_callV (st := []) (k_X9_row h2) zY_X9_row lv_L_215 rfl zt_39 rfl (zfit_l (by decide) (by decide) (by omega) (by omega)) (Nat.le_of_ble_eq_true rfl) dL_law_1282 rfl ?_
    refine zg_lstore (ls' := [(0, .ref 4000), (1, .ref 0), (2, .ref 39), (3, .ref 67), (4, .int iv), (5, .int 1), (6, .long r)]) dL_law_1285 (Nat.le_of_ble_eq_true rfl) rfl ?_
    refine zg_aload_n 2 dL_law_1287 rfl rfl ?_
    refine zg_callV (st := []) (k_X9_thrown h3) zY_X9_thrown lv_L_52 rfl zt_39 rfl (zfit_l (by decide) (by decide) (by omega) (by omega)) (Nat.le_of_ble_eq_true rfl) dL_law_1288 rfl ?_
    refine zg_iload 5 dL_law_1291 rfl ?_
    refine zg_icmp_eq (tgt := 1298) dL_law_1293 (by decide) (fun _ => ?_) (fun hc => absurd rfl hc)
    refine zg_iload 5 dL_law_1298 rfl ?_
    refine zg_if_ne (tgt := 1314) dL_law_1300 (by decide) (fun _ => ?_) (fun hc => absurd hc (by decide))
    refine zg_goto (tgt := 1317) dL_law_1314 (by decide) ?_
    refine zo_sub (ls' := [(0, .ref 4000), (1, .ref 0), (2, .ref 39), (3, .ref 67), (4, .int iv)]) [0, 1, 2, 3, 4] rfl ?_
    exact hnext M2 _ _ _ (by omega) (by omega) h4 (fun q hq => hq)
set_option maxRecDepth 20000 in
set_option maxHeartbeats 8000000 in
theorem law_loop {Inv : Nat → zM → Prop} (hmono : ∀ c M, Inv c M → Inv (c + 1) M) (h0 : zP_sign Inv) (h1 : zP_end Inv) (h2 : zP_cloth Inv) (h3 : zP_rule Inv) (h4 : zP_cell Inv) (h5 : zP_thread Inv) (h6 : zP_sheet Inv) (h7 : zP_nights Inv) (h8 : zP_weaves Inv) (h9 : zP_draws Inv) (h10 : zP_flips Inv) (h11 : zP_mirrors Inv) (h12 : zP_work Inv) (h13 : zP_undo Inv) (h14 : zP_next Inv) (h15 : zP_later Inv) (h16 : zP_falls Inv) (h17 : zP_rags Inv) (h18 : zP_lefts Inv) (h19 : zP_outlasts Inv) (h20 : zP_words Inv) (h21 : zP_loose Inv) (h22 : zP_sheds Inv) (h23 : zP_hangs Inv) (h24 : zP_spares Inv) (h25 : zP_mends Inv) (h26 : zP_endures Inv) (h27 : zP_differs Inv) (h28 : zP_looks Inv) (h29 : zP_repeats Inv) (h30 : zP_runs Inv) (h31 : zP_twins Inv) (h32 : zP_game Inv) (h33 : zP_told Inv) (h34 : zP_forget Inv) (h35 : zP_fits Inv) (h36 : zP_asks Inv) (h37 : zP_odds Inv) (h38 : zP_law Inv) (h39 : zP_rests Inv) (h40 : zP_years Inv) (h41 : zP_keep Inv) (h42 : zP_again Inv) (h43 : zP_count Inv) (h44 : zP_row Inv) {b L : Nat} {xs : Nat → Int32} (hL : L ≤ 320) : ∀ (n c i : Nat) (iv : Int32) (M : zM) (cells slots : Nat), L + 5 - i < n → i = 5 * c → i ≤ L → iv = nI i → cells ≤ 100 + c → slots ≤ 20000 + 6 * c → Inv c M → zJ ztops RL code 8 (zBl b L xs) cells slots 23 [(0, .ref 4000), (1, .ref 0), (2, .ref 39), (3, .ref 67), (4, .int iv)] [] M := by
  intro n
  induction n with
  | zero => intro c i iv M cells slots hn; exact absurd hn (Nat.not_lt_zero _)
  | succ n ih =>
    intro c i iv M cells slots hn hic hi hiv hcl hsl hInv
    have hnext : ∀ (M2 : zM) (ls : List (Nat × Value)) (cells2 slots2 : Nat), i + 5 ≤ L → cells2 ≤ cells + 1 → slots2 ≤ slots + 6 → Inv (c + 1) M2 → (∀ q ∈ [(0, .ref 4000), (1, .ref 0), (2, .ref 39), (3, .ref 67), (4, .int iv)], q ∈ ls) → zJ ztops RL code 8 (zBl b L xs) cells2 slots2 1317 ls [] M2 := by
      intro M2 ls cells2 slots2 hi5 hc2 hs2 hI2 hsub
      refine zg_drop hsub ?_
      refine zg_iinc (ls' := [(0, .ref 4000), (1, .ref 0), (2, .ref 39), (3, .ref 67), (4, .int (iv + 5))]) 4 dL_law_1317 rfl zki_5 (Nat.le_of_ble_eq_true rfl) rfl ?_
      refine zg_goto (tgt := 23) dL_law_1320 (by decide) ?_
      exact ih (c + 1) (i + 5) (iv + 5) M2 cells2 slots2 (by omega) (by omega) (by omega) (by rw [hiv]; exact nI_add i 5) (by omega) (by omega) hI2
    refine zg_iload 4 dL_law_23 rfl ?_
    refine zg_aload_n 0 dL_law_25 rfl rfl ?_
    refine zl_slen dL_law_26 ?_
    refine zg_iconst dL_law_27 zki_5 ?_
    refine zg_isub dL_law_28 ?_
    refine zg_icmp_gt (tgt := 1323) dL_law_29 (by decide) (fun _ => ?_) (fun hc => ?_)
    · refine zg_iconst dL_law_1323 zki_1 ?_
      exact zl_ret (by omega) (by omega) dL_law_1324
    · rw [hiv] at hc
      have hi5 : i + 5 ≤ L := zl_cmp hL (by omega) hc
      have hc64 : c < 64 := by omega
      refine zg_aload_n 0 dL_law_32 rfl rfl ?_
      refine zg_iload 4 dL_law_33 rfl ?_
      have hvp : vp_in iv L := by rw [hiv]; exact vp_in_nI (by omega) (by omega)
      refine zl_sld hvp dL_law_35 ?_
      refine zg_bipush dL_law_36 zkb_63 ?_
      refine zg_iand dL_law_38 ?_
      generalize hsw : (xs iv.toNatClampNeg &&& (63 : Int32)) = x
      by_cases hc1 : x = (0 : Int32)
      · refine zg_tableEq (k := 0) (off := 193) (tgt := 232) dL_law_39 hc1 (by decide) (by decide) (by decide) (by decide) ?_
        exact law_sign h0 hL hi5 hc64 hiv (by omega) (by omega) hInv (fun M2 ls c2 s2 => hnext M2 ls c2 s2 hi5)
      by_cases hc2 : x = (1 : Int32)
      · refine zg_tableEq (k := 1) (off := 218) (tgt := 257) dL_law_39 hc2 (by decide) (by decide) (by decide) (by decide) ?_
        exact law_end h1 hL hi5 hc64 hiv (by omega) (by omega) hInv (fun M2 ls c2 s2 => hnext M2 ls c2 s2 hi5)
      by_cases hc3 : x = (2 : Int32)
      · refine zg_tableEq (k := 2) (off := 243) (tgt := 282) dL_law_39 hc3 (by decide) (by decide) (by decide) (by decide) ?_
        exact law_cloth h2 hL hi5 hc64 hiv (by omega) (by omega) hInv (fun M2 ls c2 s2 => hnext M2 ls c2 s2 hi5)
      by_cases hc4 : x = (3 : Int32)
      · refine zg_tableEq (k := 3) (off := 256) (tgt := 295) dL_law_39 hc4 (by decide) (by decide) (by decide) (by decide) ?_
        exact law_rule h3 hL hi5 hc64 hiv (by omega) (by omega) hInv (fun M2 ls c2 s2 => hnext M2 ls c2 s2 hi5)
      by_cases hc5 : x = (4 : Int32)
      · refine zg_tableEq (k := 4) (off := 269) (tgt := 308) dL_law_39 hc5 (by decide) (by decide) (by decide) (by decide) ?_
        exact law_cell h4 hL hi5 hc64 hiv (by omega) (by omega) hInv (fun M2 ls c2 s2 => hnext M2 ls c2 s2 hi5)
      by_cases hc6 : x = (5 : Int32)
      · refine zg_tableEq (k := 5) (off := 337) (tgt := 376) dL_law_39 hc6 (by decide) (by decide) (by decide) (by decide) ?_
        exact law_thread h5 hL hi5 hc64 hiv (by omega) (by omega) hInv (fun M2 ls c2 s2 => hnext M2 ls c2 s2 hi5)
      by_cases hc7 : x = (6 : Int32)
      · refine zg_tableEq (k := 6) (off := 417) (tgt := 456) dL_law_39 hc7 (by decide) (by decide) (by decide) (by decide) ?_
        exact law_sheet h6 hL hi5 hc64 hiv (by omega) (by omega) hInv (fun M2 ls c2 s2 => hnext M2 ls c2 s2 hi5)
      by_cases hc8 : x = (7 : Int32)
      · refine zg_tableEq (k := 7) (off := 478) (tgt := 517) dL_law_39 hc8 (by decide) (by decide) (by decide) (by decide) ?_
        exact law_nights h7 hL hi5 hc64 hiv (by omega) (by omega) hInv (fun M2 ls c2 s2 => hnext M2 ls c2 s2 hi5)
      by_cases hc9 : x = (8 : Int32)
      · refine zg_tableEq (k := 8) (off := 503) (tgt := 542) dL_law_39 hc9 (by decide) (by decide) (by decide) (by decide) ?_
        exact law_weaves h8 hL hi5 hc64 hiv (by omega) (by omega) hInv (fun M2 ls c2 s2 => hnext M2 ls c2 s2 hi5)
      by_cases hc10 : x = (9 : Int32)
      · refine zg_tableEq (k := 9) (off := 552) (tgt := 591) dL_law_39 hc10 (by decide) (by decide) (by decide) (by decide) ?_
        exact law_draws h9 hL hi5 hc64 hiv (by omega) (by omega) hInv (fun M2 ls c2 s2 => hnext M2 ls c2 s2 hi5)
      by_cases hc11 : x = (10 : Int32)
      · refine zg_tableEq (k := 10) (off := 589) (tgt := 628) dL_law_39 hc11 (by decide) (by decide) (by decide) (by decide) ?_
        exact law_flips h10 hL hi5 hc64 hiv (by omega) (by omega) hInv (fun M2 ls c2 s2 => hnext M2 ls c2 s2 hi5)
      by_cases hc12 : x = (11 : Int32)
      · refine zg_tableEq (k := 11) (off := 626) (tgt := 665) dL_law_39 hc12 (by decide) (by decide) (by decide) (by decide) ?_
        exact law_mirrors h11 hL hi5 hc64 hiv (by omega) (by omega) hInv (fun M2 ls c2 s2 => hnext M2 ls c2 s2 hi5)
      by_cases hc13 : x = (12 : Int32)
      · refine zg_tableEq (k := 12) (off := 651) (tgt := 690) dL_law_39 hc13 (by decide) (by decide) (by decide) (by decide) ?_
        exact law_work h12 hL hi5 hc64 hiv (by omega) (by omega) hInv (fun M2 ls c2 s2 => hnext M2 ls c2 s2 hi5)
      by_cases hc14 : x = (13 : Int32)
      · refine zg_tableEq (k := 13) (off := 664) (tgt := 703) dL_law_39 hc14 (by decide) (by decide) (by decide) (by decide) ?_
        exact law_undo h13 hL hi5 hc64 hiv (by omega) (by omega) hInv (fun M2 ls c2 s2 => hnext M2 ls c2 s2 hi5)
      by_cases hc15 : x = (14 : Int32)
      · refine zg_tableEq (k := 14) (off := 677) (tgt := 716) dL_law_39 hc15 (by decide) (by decide) (by decide) (by decide) ?_
        exact law_next h14 hL hi5 hc64 hiv (by omega) (by omega) hInv (fun M2 ls c2 s2 => hnext M2 ls c2 s2 hi5)
      by_cases hc16 : x = (15 : Int32)
      · refine zg_tableEq (k := 15) (off := 690) (tgt := 729) dL_law_39 hc16 (by decide) (by decide) (by decide) (by decide) ?_
        exact law_later h15 hL hi5 hc64 hiv (by omega) (by omega) hInv (fun M2 ls c2 s2 => hnext M2 ls c2 s2 hi5)
      by_cases hc17 : x = (16 : Int32)
      · refine zg_tableEq (k := 16) (off := 715) (tgt := 754) dL_law_39 hc17 (by decide) (by decide) (by decide) (by decide) ?_
        exact law_falls h16 hL hi5 hc64 hiv (by omega) (by omega) hInv (fun M2 ls c2 s2 => hnext M2 ls c2 s2 hi5)
      by_cases hc18 : x = (17 : Int32)
      · refine zg_tableEq (k := 17) (off := 728) (tgt := 767) dL_law_39 hc18 (by decide) (by decide) (by decide) (by decide) ?_
        exact law_rags h17 hL hi5 hc64 hiv (by omega) (by omega) hInv (fun M2 ls c2 s2 => hnext M2 ls c2 s2 hi5)
      by_cases hc19 : x = (18 : Int32)
      · refine zg_tableEq (k := 18) (off := 741) (tgt := 780) dL_law_39 hc19 (by decide) (by decide) (by decide) (by decide) ?_
        exact law_lefts h18 hL hi5 hc64 hiv (by omega) (by omega) hInv (fun M2 ls c2 s2 => hnext M2 ls c2 s2 hi5)
      by_cases hc20 : x = (19 : Int32)
      · refine zg_tableEq (k := 19) (off := 766) (tgt := 805) dL_law_39 hc20 (by decide) (by decide) (by decide) (by decide) ?_
        exact law_outlasts h19 hL hi5 hc64 hiv (by omega) (by omega) hInv (fun M2 ls c2 s2 => hnext M2 ls c2 s2 hi5)
      by_cases hc21 : x = (20 : Int32)
      · refine zg_tableEq (k := 20) (off := 779) (tgt := 818) dL_law_39 hc21 (by decide) (by decide) (by decide) (by decide) ?_
        exact law_words h20 hL hi5 hc64 hiv (by omega) (by omega) hInv (fun M2 ls c2 s2 => hnext M2 ls c2 s2 hi5)
      by_cases hc22 : x = (21 : Int32)
      · refine zg_tableEq (k := 21) (off := 816) (tgt := 855) dL_law_39 hc22 (by decide) (by decide) (by decide) (by decide) ?_
        exact law_loose h21 hL hi5 hc64 hiv (by omega) (by omega) hInv (fun M2 ls c2 s2 => hnext M2 ls c2 s2 hi5)
      by_cases hc23 : x = (22 : Int32)
      · refine zg_tableEq (k := 22) (off := 829) (tgt := 868) dL_law_39 hc23 (by decide) (by decide) (by decide) (by decide) ?_
        exact law_sheds h22 hL hi5 hc64 hiv (by omega) (by omega) hInv (fun M2 ls c2 s2 => hnext M2 ls c2 s2 hi5)
      by_cases hc24 : x = (23 : Int32)
      · refine zg_tableEq (k := 23) (off := 842) (tgt := 881) dL_law_39 hc24 (by decide) (by decide) (by decide) (by decide) ?_
        exact law_hangs h23 hL hi5 hc64 hiv (by omega) (by omega) hInv (fun M2 ls c2 s2 => hnext M2 ls c2 s2 hi5)
      by_cases hc25 : x = (24 : Int32)
      · refine zg_tableEq (k := 24) (off := 855) (tgt := 894) dL_law_39 hc25 (by decide) (by decide) (by decide) (by decide) ?_
        exact law_spares h24 hL hi5 hc64 hiv (by omega) (by omega) hInv (fun M2 ls c2 s2 => hnext M2 ls c2 s2 hi5)
      by_cases hc26 : x = (25 : Int32)
      · refine zg_tableEq (k := 25) (off := 868) (tgt := 907) dL_law_39 hc26 (by decide) (by decide) (by decide) (by decide) ?_
        exact law_mends h25 hL hi5 hc64 hiv (by omega) (by omega) hInv (fun M2 ls c2 s2 => hnext M2 ls c2 s2 hi5)
      by_cases hc27 : x = (26 : Int32)
      · refine zg_tableEq (k := 26) (off := 881) (tgt := 920) dL_law_39 hc27 (by decide) (by decide) (by decide) (by decide) ?_
        exact law_endures h26 hL hi5 hc64 hiv (by omega) (by omega) hInv (fun M2 ls c2 s2 => hnext M2 ls c2 s2 hi5)
      by_cases hc28 : x = (27 : Int32)
      · refine zg_tableEq (k := 27) (off := 894) (tgt := 933) dL_law_39 hc28 (by decide) (by decide) (by decide) (by decide) ?_
        exact law_differs h27 hL hi5 hc64 hiv (by omega) (by omega) hInv (fun M2 ls c2 s2 => hnext M2 ls c2 s2 hi5)
      by_cases hc29 : x = (28 : Int32)
      · refine zg_tableEq (k := 28) (off := 907) (tgt := 946) dL_law_39 hc29 (by decide) (by decide) (by decide) (by decide) ?_
        exact law_looks h28 hL hi5 hc64 hiv (by omega) (by omega) hInv (fun M2 ls c2 s2 => hnext M2 ls c2 s2 hi5)
      by_cases hc30 : x = (29 : Int32)
      · refine zg_tableEq (k := 29) (off := 920) (tgt := 959) dL_law_39 hc30 (by decide) (by decide) (by decide) (by decide) ?_
        exact law_repeats h29 hL hi5 hc64 hiv (by omega) (by omega) hInv (fun M2 ls c2 s2 => hnext M2 ls c2 s2 hi5)
      by_cases hc31 : x = (30 : Int32)
      · refine zg_tableEq (k := 30) (off := 933) (tgt := 972) dL_law_39 hc31 (by decide) (by decide) (by decide) (by decide) ?_
        exact law_runs h30 hL hi5 hc64 hiv (by omega) (by omega) hInv (fun M2 ls c2 s2 => hnext M2 ls c2 s2 hi5)
      by_cases hc32 : x = (31 : Int32)
      · refine zg_tableEq (k := 31) (off := 946) (tgt := 985) dL_law_39 hc32 (by decide) (by decide) (by decide) (by decide) ?_
        exact law_twins h31 hL hi5 hc64 hiv (by omega) (by omega) hInv (fun M2 ls c2 s2 => hnext M2 ls c2 s2 hi5)
      by_cases hc33 : x = (32 : Int32)
      · refine zg_tableEq (k := 32) (off := 959) (tgt := 998) dL_law_39 hc33 (by decide) (by decide) (by decide) (by decide) ?_
        exact law_game h32 hL hi5 hc64 hiv (by omega) (by omega) hInv (fun M2 ls c2 s2 => hnext M2 ls c2 s2 hi5)
      by_cases hc34 : x = (33 : Int32)
      · refine zg_tableEq (k := 33) (off := 972) (tgt := 1011) dL_law_39 hc34 (by decide) (by decide) (by decide) (by decide) ?_
        exact law_told h33 hL hi5 hc64 hiv (by omega) (by omega) hInv (fun M2 ls c2 s2 => hnext M2 ls c2 s2 hi5)
      by_cases hc35 : x = (34 : Int32)
      · refine zg_tableEq (k := 34) (off := 1009) (tgt := 1048) dL_law_39 hc35 (by decide) (by decide) (by decide) (by decide) ?_
        exact law_forget h34 hL hi5 hc64 hiv (by omega) (by omega) hInv (fun M2 ls c2 s2 => hnext M2 ls c2 s2 hi5)
      by_cases hc36 : x = (35 : Int32)
      · refine zg_tableEq (k := 35) (off := 1022) (tgt := 1061) dL_law_39 hc36 (by decide) (by decide) (by decide) (by decide) ?_
        exact law_fits h35 hL hi5 hc64 hiv (by omega) (by omega) hInv (fun M2 ls c2 s2 => hnext M2 ls c2 s2 hi5)
      by_cases hc37 : x = (36 : Int32)
      · refine zg_tableEq (k := 36) (off := 1035) (tgt := 1074) dL_law_39 hc37 (by decide) (by decide) (by decide) (by decide) ?_
        exact law_asks h36 hL hi5 hc64 hiv (by omega) (by omega) hInv (fun M2 ls c2 s2 => hnext M2 ls c2 s2 hi5)
      by_cases hc38 : x = (37 : Int32)
      · refine zg_tableEq (k := 37) (off := 1048) (tgt := 1087) dL_law_39 hc38 (by decide) (by decide) (by decide) (by decide) ?_
        exact law_odds h37 hL hi5 hc64 hiv (by omega) (by omega) hInv (fun M2 ls c2 s2 => hnext M2 ls c2 s2 hi5)
      by_cases hc39 : x = (38 : Int32)
      · refine zg_tableEq (k := 38) (off := 1073) (tgt := 1112) dL_law_39 hc39 (by decide) (by decide) (by decide) (by decide) ?_
        exact law_law h38 hL hi5 hc64 hiv (by omega) (by omega) hInv (fun M2 ls c2 s2 => hnext M2 ls c2 s2 hi5)
      by_cases hc40 : x = (39 : Int32)
      · refine zg_tableEq (k := 39) (off := 1086) (tgt := 1125) dL_law_39 hc40 (by decide) (by decide) (by decide) (by decide) ?_
        exact law_rests h39 hL hi5 hc64 hiv (by omega) (by omega) hInv (fun M2 ls c2 s2 => hnext M2 ls c2 s2 hi5)
      by_cases hc41 : x = (40 : Int32)
      · refine zg_tableEq (k := 40) (off := 1111) (tgt := 1150) dL_law_39 hc41 (by decide) (by decide) (by decide) (by decide) ?_
        exact law_years h40 hL hi5 hc64 hiv (by omega) (by omega) hInv (fun M2 ls c2 s2 => hnext M2 ls c2 s2 hi5)
      by_cases hc42 : x = (41 : Int32)
      · refine zg_tableEq (k := 41) (off := 1148) (tgt := 1187) dL_law_39 hc42 (by decide) (by decide) (by decide) (by decide) ?_
        exact law_keep h41 hL hi5 hc64 hiv (by omega) (by omega) hInv (fun M2 ls c2 s2 => hnext M2 ls c2 s2 hi5)
      by_cases hc43 : x = (42 : Int32)
      · refine zg_tableEq (k := 42) (off := 1173) (tgt := 1212) dL_law_39 hc43 (by decide) (by decide) (by decide) (by decide) ?_
        exact law_again h42 hL hi5 hc64 hiv (by omega) (by omega) hInv (fun M2 ls c2 s2 => hnext M2 ls c2 s2 hi5)
      by_cases hc44 : x = (43 : Int32)
      · refine zg_tableEq (k := 43) (off := 1198) (tgt := 1237) dL_law_39 hc44 (by decide) (by decide) (by decide) (by decide) ?_
        exact law_count h43 hL hi5 hc64 hiv (by omega) (by omega) hInv (fun M2 ls c2 s2 => hnext M2 ls c2 s2 hi5)
      by_cases hc45 : x = (44 : Int32)
      · refine zg_tableEq (k := 44) (off := 1223) (tgt := 1262) dL_law_39 hc45 (by decide) (by decide) (by decide) (by decide) ?_
        exact law_row h44 hL hi5 hc64 hiv (by omega) (by omega) hInv (fun M2 ls c2 s2 => hnext M2 ls c2 s2 hi5)
      refine zg_tableOut (tgt := 1317) dL_law_39 (z_tout 45 (fun j hj => by match j, hj with | 0, _ => exact hc1 | 1, _ => exact hc2 | 2, _ => exact hc3 | 3, _ => exact hc4 | 4, _ => exact hc5 | 5, _ => exact hc6 | 6, _ => exact hc7 | 7, _ => exact hc8 | 8, _ => exact hc9 | 9, _ => exact hc10 | 10, _ => exact hc11 | 11, _ => exact hc12 | 12, _ => exact hc13 | 13, _ => exact hc14 | 14, _ => exact hc15 | 15, _ => exact hc16 | 16, _ => exact hc17 | 17, _ => exact hc18 | 18, _ => exact hc19 | 19, _ => exact hc20 | 20, _ => exact hc21 | 21, _ => exact hc22 | 22, _ => exact hc23 | 23, _ => exact hc24 | 24, _ => exact hc25 | 25, _ => exact hc26 | 26, _ => exact hc27 | 27, _ => exact hc28 | 28, _ => exact hc29 | 29, _ => exact hc30 | 30, _ => exact hc31 | 31, _ => exact hc32 | 32, _ => exact hc33 | 33, _ => exact hc34 | 34, _ => exact hc35 | 35, _ => exact hc36 | 36, _ => exact hc37 | 37, _ => exact hc38 | 38, _ => exact hc39 | 39, _ => exact hc40 | 40, _ => exact hc41 | 41, _ => exact hc42 | 42, _ => exact hc43 | 43, _ => exact hc44 | 44, _ => exact hc45 | j + 45, hj => exact absurd hj (by omega)) (by decide)) (by decide) ?_
      exact hnext M _ _ _ hi5 (by omega) (by omega) (hmono c M hInv) (fun q hq => hq)
