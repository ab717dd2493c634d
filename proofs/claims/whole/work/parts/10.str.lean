/-! constants; switches; String constants: length, charAt, isEmpty -/
section ZK
variable {T : List zN} {own : String} {code : ByteArray} {nL : Nat} {B : zB} {cells slots pc : Nat} {ls : List (Nat × Value)} {st : List Value} {M : zM}
theorem zg_tableEq {dflt lo hi : Int} {offs : Array Int} {len : Nat} {x k : Int32} {off : Int} {tgt : Nat} (hd : decode code pc = .ok (.tableswitch dflt lo hi offs, len)) (hx : x = k) (h1 : ¬ k.toInt < lo) (h2 : ¬ hi < k.toInt) (ho : offs[(k.toInt - lo).toNat]? = some off) (ht : (pc : Int) + off = (tgt : Int)) (kk : zJ T own code nL B cells slots tgt ls st M) : zJ T own code nL B cells slots pc ls (.int x :: st) M := by
  subst hx
  exact zg_tableIn hd h1 h2 ho ht kk
theorem zg_lookEq {dflt : Int} {ps : Array (Int × Int)} {len : Nat} {x k : Int32} {off : Int} {tgt : Nat} (hd : decode code pc = .ok (.lookupswitch dflt ps, len)) (hp : (ps.toList.zip (ps.toList.drop 1)).all (fun (a, next) => a.1 < next.1) = true) (hx : x = k) (ho : Op.lookupswitch.offset ps.toList dflt k.toInt = off) (ht : (pc : Int) + off = (tgt : Int)) (kk : zJ T own code nL B cells slots tgt ls st M) : zJ T own code nL B cells slots pc ls (.int x :: st) M := by
  subst hx
  exact zg_lookup hd hp ho ht kk
theorem z_tout {x : Int32} {lo hi : Int} (n : Nat) (h : ∀ j : Nat, j < n → ¬ x = Int32.ofInt (lo + j)) (hhi : hi = lo + n - 1) : x.toInt < lo ∨ hi < x.toInt := by
  by_cases h1 : x.toInt < lo
  · exact Or.inl h1
  · by_cases h2 : hi < x.toInt
    · exact Or.inr h2
    · exfalso
      refine h (x.toInt - lo).toNat (by omega) ?_
      rw [show lo + ((x.toInt - lo).toNat : Int) = x.toInt by omega]
      exact (Int32.ofInt_toInt x).symm
theorem zs_compact {i : Nat} (hf : Cond.fieldLink own i "java/lang/String" "COMPACT_STRINGS" "Z" ∈ z_tb) (hd : decode code pc = .ok (.getstatic i, 3)) (k : zJ T own code nL B cells slots (pc + 3) ls (.int 1 :: st) M) : zJ T own code nL B cells slots pc ls st M := by
  intro p l e s m args below meth c E H locs a hC hB hX hP hS hl
  exact va_gets hC.1 hC.2.1 hX.2.2.2.2.1 hS hC.2.2.2.1 (hC.2.2.2.2 _ hf) (fun _ h => h) hd (k p l e s m args below meth c E H locs a hC hB hX hP hS hl)
theorem zs_fmt {i : Nat} (hf : Cond.fieldLink own i "jdk/internal/util/Preconditions" "SIOOBE_FORMATTER" "Ljava/util/function/BiFunction;" ∈ z_tb) (hd : decode code pc = .ok (.getstatic i, 3)) (k : ∀ v : Value, v.category = 1 → zJ T own code nL B cells slots (pc + 3) ls (v :: st) M) : zJ T own code nL B cells slots pc ls st M := by
  intro p l e s m args below meth c E H locs a hC hB hX hP hS hl
  rcases hX.2.2.2.2.2.1 with h | h
  · exact va_gets hC.1 hC.2.1 h hS hC.2.2.2.1 (hC.2.2.2.2 _ hf) (fun _ h => h) hd (k .null rfl p l e s m args below meth c E H locs a hC hB hX hP hS hl)
  · exact va_gets hC.1 hC.2.1 h hS hC.2.2.2.1 (hC.2.2.2.2 _ hf) (fun _ h => h) hd (k (.ref 3000) rfl p l e s m args below meth c E H locs a hC hB hX hP hS hl)
theorem zs_coder {i o : Nat} (ho : o < 12) (hf : Cond.fieldLink own i "java/lang/String" "coder" "B" ∈ z_tb) (hd : decode code pc = .ok (.getfield i, 3)) (k : zJ T own code nL B cells slots (pc + 3) ls (.int 0 :: st) M) : zJ T own code nL B cells slots pc ls (.ref (1000 + o) :: st) M := by
  intro p l e s m args below meth c E H locs a hC hB hX hP hS hl
  exact vk_getf hC.1 hC.2.1 (hX.2.2.1.1 o ho).2.1 hS hC.2.2.2.1 (hC.2.2.2.2 _ hf) (fun _ h => h) hd (k p l e s m args below meth c E H locs a hC hB hX hP hS hl)
theorem zs_value {i o : Nat} (ho : o < 12) (hf : Cond.fieldLink own i "java/lang/String" "value" "[B" ∈ z_tb) (hd : decode code pc = .ok (.getfield i, 3)) (k : zJ T own code nL B cells slots (pc + 3) ls (.ref (2000 + o) :: st) M) : zJ T own code nL B cells slots pc ls (.ref (1000 + o) :: st) M := by
  intro p l e s m args below meth c E H locs a hC hB hX hP hS hl
  exact vk_getf hC.1 hC.2.1 (hX.2.2.1.1 o ho).2.2.1 hS hC.2.2.2.1 (hC.2.2.2.2 _ hf) (fun _ h => h) hd (k p l e s m args below meth c E H locs a hC hB hX hP hS hl)
theorem zs_alen {o : Nat} (ho : o < 12) (hd : decode code pc = .ok (.arraylength, 1)) (k : zJ T own code nL B cells slots (pc + 1) ls (.int (Int32.ofNat (zlen.getD o 0)) :: st) M) : zJ T own code nL B cells slots pc ls (.ref (2000 + o) :: st) M := by
  intro p l e s m args below meth c E H locs a hC hB hX hP hS hl
  exact va_tlen hC.1 hC.2.1 (hX.2.2.1.1 o ho).2.2.2 hS rfl hd (k p l e s m args below meth c E H locs a hC hB hX hP hS hl)
theorem zs_bald {o : Nat} {i : Int32} (ho : o < 12) (hin : zin i (zlen.getD o 0)) (hd : decode code pc = .ok (.baload, 1)) (k : zJ T own code nL B cells slots (pc + 1) ls (.int ((zbyt.getD o []).getD i.toNatClampNeg 0) :: st) M) : zJ T own code nL B cells slots pc ls (.int i :: .ref (2000 + o) :: st) M := by
  intro p l e s m args below meth c E H locs a hC hB hX hP hS hl
  exact va_tb hC.1 hC.2.1 (hX.2.2.1.1 o ho).2.2.2 hS hin rfl hd (k p l e s m args below meth c E H locs a hC hB hX hP hS hl)
theorem zg_i2c {x : Int32} (hd : decode code pc = .ok (.i2c, 1)) {v : Int32} (hv : (x.toUInt32 % 65536).toInt32 = v) (k : zJ T own code nL B cells slots (pc + 1) ls (.int v :: st) M) : zJ T own code nL B cells slots pc ls (.int x :: st) M := fun p l e s m args below meth c E H locs a hC hB hX hP hS hl => lv_i2c hC.1 hC.2.1 hd hv (k p l e s m args below meth c E H locs a hC hB hX hP hS hl)
end ZK
theorem zg_xret {T : List zN} {own : String} {code : ByteArray} {nL d : Nat} {pc : Nat} {ls : List (Nat × Value)} {M : zM} {ty : FieldType} {x : Int32} (hx : narrow ty (.int x) = .int x) (hd : decode code pc = .ok (.ireturn, 1)) : zJ T own code nL (zBm T d (some ty) (some (.int x)) M) 0 0 pc ls [.int x] M := by
  intro p l e s m args below meth c E H locs a hC hB hX hP hS hl
  exact W.zret hC.1 hC.2.1 hB.1 hx (fun t ht _ => ⟨rfl, by rw [ht]; exact hP, hS.F ht⟩) hS.2.2 hd hB.2
theorem zg_ldcSw {T : List zN} {own : String} {code : ByteArray} {nL : Nat} {B : zB} {cells slots pc : Nat} {ls : List (Nat × Value)} {st : List Value} {M : zM} {i q : Nat} {tx : String} (hz : zstr[q]? = some (own, i, tx)) (hd : decode code pc = .ok (.ldc_w i, 3)) (k : zJ T own code nL B cells slots (pc + 3) ls (.ref (1000 + q) :: st) M) : zJ T own code nL B cells slots pc ls st M := by
  intro p l e s m args below meth c E H locs a hC hB hX hP hS hl Ts hTs X
  obtain ⟨t, a1, b1⟩ := k p l e s m args below meth c E H locs a hC hB hX hP hS hl Ts hTs X
  have hZ := hX.2.2.2.1 q _ hz
  exact ⟨t, X.ldcStringW hC.1 hC.2.2.2.1 (text := tx) (a := zad E (1000 + q)) hZ.1 hZ.2 (g := F0 m pc a (st.map (zv E))) rfl (by rw [hC.2.1]; exact hd) t a1, b1⟩
