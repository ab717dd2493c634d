/-! fields, arrays -/
def zin (i : Int32) (n : Nat) : Prop := ¬ (i < 0 ∨ n ≤ i.toNatClampNeg)
section ZF
variable {T : List zN} {own : String} {code : ByteArray} {nL : Nat} {B : zB} {cells slots pc : Nat} {ls ls' : List (Nat × Value)} {st : List Value} {M : zM}
theorem zg_get {i ci j o sk : Nat} {lay : List Nat} {v : Value} (hf : zFL own i ci j) (hT : T[o]? = some (.inr (ci, lay))) (hj : lay[j]? = some sk) (hv : ∀ E, zsl E M o j sk = zv E v) (hd : decode code pc = .ok (.getfield i, 3)) (k : zJ T own code nL B cells slots (pc + 3) ls (v :: st) M) : zJ T own code nL B cells slots pc ls (.ref o :: st) M := by
  intro p l e s m args below meth c E H locs a hC hB hX hP hS hl
  obtain ⟨C, Tt, N, h1, h2, h3, h4⟩ := hf
  exact va_get (C := C) (T := Tt) (N := N) (ref := (Tt j).1) hC.1 hC.2.1 hC.2.2.2.2 h3 hC.2.2.2.1 hX.1 hP o (zw_get hT) h1 j h2 (hC.2.2.2.2 _ h4) (fun _ h => h) (v := zv E v) (by rw [zfs_get hj, hv]) hd (k p l e s m args below meth c E H locs a hC hB hX hP hS hl)
theorem zg_geti {i ci j o : Nat} {lay : List Nat} (hf : zFL own i ci j) (hT : T[o]? = some (.inr (ci, lay))) (hj : lay[j]? = some 0) (hd : decode code pc = .ok (.getfield i, 3)) (k : zJ T own code nL B cells slots (pc + 3) ls (.int (M.1 o j) :: st) M) : zJ T own code nL B cells slots pc ls (.ref o :: st) M := zg_get hf hT hj (fun _ => rfl) hd k
theorem zg_getl {i ci j o : Nat} {lay : List Nat} (hf : zFL own i ci j) (hT : T[o]? = some (.inr (ci, lay))) (hj : lay[j]? = some 1) (hd : decode code pc = .ok (.getfield i, 3)) (k : zJ T own code nL B cells slots (pc + 3) ls (.long (M.2 o j) :: st) M) : zJ T own code nL B cells slots pc ls (.ref o :: st) M := zg_get hf hT hj (fun _ => rfl) hd k
theorem zg_getr {i ci j o : Nat} {lay : List Nat} (off : Nat) (hf : zFL own i ci j) (hT : T[o]? = some (.inr (ci, lay))) (hj : lay[j]? = some (off + 3)) (hd : decode code pc = .ok (.getfield i, 3)) (k : zJ T own code nL B cells slots (pc + 3) ls (.ref (o + (off + 1)) :: st) M) : zJ T own code nL B cells slots pc ls (.ref o :: st) M := zg_get hf hT hj (fun _ => rfl) hd k
theorem zg_putx {i ci j o sk : Nat} {lay : List Nat} {v : Value} {ty : FieldType} {M' : zM} (hf : zFP own i ci j ty) (hn : narrow ty v = v) (hfit : fits ty v = true) (hz : ∀ E, zv E v = v) (hT : T[o]? = some (.inr (ci, lay))) (hj : lay[j]? = some sk) (hM : ∀ E, (zfs E M o lay).set j v = zfs E M' o lay) (ho1 : ∀ k', k' ≠ o → M'.1 k' = M.1 k') (ho2 : ∀ k', k' ≠ o → M'.2 k' = M.2 k') (hd : decode code pc = .ok (.putfield i, 3)) (k : zJ T own code nL B cells slots (pc + 3) ls st M') : zJ T own code nL B cells slots pc ls (v :: .ref o :: st) M := by
  intro p l e s m args below meth c E H locs a hC hB hX hP hS hl
  obtain ⟨C, Tt, N, h1, h2, h3, h4, ⟨ty0, h5⟩, h6, h7, h8⟩ := hf
  have hlen : j < (zfs E M o lay).length := by simp [zfs]; exact (List.getElem?_eq_some_iff.mp hj).1
  show W p l e B.1 s m args below meth c H locs cells slots _ (F0 m pc a (zv E v :: .ref (zad E o) :: st.map (zv E)))
  rw [hz E]
  refine va_put (C := C) (T := Tt) (N := N) (ref := (Tt j).1) (fs := zfs E M o lay) hC.1 hC.2.1 hC.2.2.2.2 h3 ty0 h5 h6 hC.2.2.2.1 hX.1 hP (hX.2.1.va M) hS o (zw_get hT) h1 j h2 (hC.2.2.2.2 _ h4) (fun _ h => h) h7 h8 hn hfit hlen hd (fun H1 locs1 q1 q2 q3 => ?_)
  have hset : (zw T E M).set o (zad E o, .inr (ci, (zfs E M o lay).set j v)) = zw T E M' := zw_put hT (by rw [hM E]; rfl) ho1 ho2
  rw [hset] at q1
  exact k p l e s m args below meth c E H1 locs1 a hC hB hX q1 q3 hl
theorem zg_puti {i ci j o : Nat} {lay : List Nat} {x : Int32} (hf : zFP own i ci j .int) (hT : T[o]? = some (.inr (ci, lay))) (hj : lay[j]? = some 0) (hd : decode code pc = .ok (.putfield i, 3)) (k : zJ T own code nL B cells slots (pc + 3) ls st (zsi M o j x)) : zJ T own code nL B cells slots pc ls (.int x :: .ref o :: st) M :=
  zg_putx hf rfl rfl (fun _ => rfl) hT hj (fun E => zfs_seti hj x) (fun _ h => zsi_ne h) (fun _ _ => rfl) hd k
theorem zg_putz {i ci j o : Nat} {lay : List Nat} {x : Int32} (hf : zFP own i ci j .boolean) (hx : narrow .boolean (.int x) = .int x) (hT : T[o]? = some (.inr (ci, lay))) (hj : lay[j]? = some 0) (hd : decode code pc = .ok (.putfield i, 3)) (k : zJ T own code nL B cells slots (pc + 3) ls st (zsi M o j x)) : zJ T own code nL B cells slots pc ls (.int x :: .ref o :: st) M :=
  zg_putx hf hx (by rw [← hx]; exact fits_narrow_boolean x) (fun _ => rfl) hT hj (fun E => zfs_seti hj x) (fun _ h => zsi_ne h) (fun _ _ => rfl) hd k
theorem zg_putl {i ci j o : Nat} {lay : List Nat} {x : Int64} (hf : zFP own i ci j .long) (hT : T[o]? = some (.inr (ci, lay))) (hj : lay[j]? = some 1) (hd : decode code pc = .ok (.putfield i, 3)) (k : zJ T own code nL B cells slots (pc + 3) ls st (zsj M o j x)) : zJ T own code nL B cells slots pc ls (.long x :: .ref o :: st) M :=
  zg_putx hf rfl rfl (fun _ => rfl) hT hj (fun E => zfs_setj hj x) (fun _ _ => rfl) (fun _ h => zsj_ne h) hd k
-- arrays
theorem zg_iald {o n : Nat} {i : Int32} (hT : T[o]? = some (.inl (0, n))) (hin : zin i n) (hd : decode code pc = .ok (.iaload, 1)) (k : zJ T own code nL B cells slots (pc + 1) ls (.int (M.1 o i.toNatClampNeg) :: st) M) : zJ T own code nL B cells slots pc ls (.int i :: .ref o :: st) M := by
  intro p l e s m args below meth c E H locs a hC hB hX hP hS hl
  exact va_iald hC.1 hC.2.1 hX.1 hP o 0 (zw_get hT) rfl hin hd (k p l e s m args below meth c E H locs a hC hB hX hP hS hl)
theorem zg_zald {o n : Nat} {i : Int32} (hT : T[o]? = some (.inl (2, n))) (hin : zin i n) (hd : decode code pc = .ok (.baload, 1)) (k : zJ T own code nL B cells slots (pc + 1) ls (.int (M.1 o i.toNatClampNeg) :: st) M) : zJ T own code nL B cells slots pc ls (.int i :: .ref o :: st) M := by
  intro p l e s m args below meth c E H locs a hC hB hX hP hS hl
  exact va_zald hC.1 hC.2.1 hX.1 hP o 2 (zw_get hT) rfl hin hd (k p l e s m args below meth c E H locs a hC hB hX hP hS hl)
theorem zg_lald {o n : Nat} {i : Int32} (hT : T[o]? = some (.inl (1, n))) (hin : zin i n) (hd : decode code pc = .ok (.laload, 1)) (k : zJ T own code nL B cells slots (pc + 1) ls (.long (M.2 o i.toNatClampNeg) :: st) M) : zJ T own code nL B cells slots pc ls (.int i :: .ref o :: st) M := by
  intro p l e s m args below meth c E H locs a hC hB hX hP hS hl
  exact va_lald hC.1 hC.2.1 hX.1 hP o 1 (zw_get hT) rfl hin hd (k p l e s m args below meth c E H locs a hC hB hX hP hS hl)
theorem zg_iast {o n : Nat} {i x : Int32} (hT : T[o]? = some (.inl (0, n))) (hin : zin i n) (hd : decode code pc = .ok (.iastore, 1)) (k : zJ T own code nL B cells slots (pc + 1) ls st (zsi M o i.toNatClampNeg x)) : zJ T own code nL B cells slots pc ls (.int x :: .int i :: .ref o :: st) M := by
  intro p l e s m args below meth c E H locs a hC hB hX hP hS hl
  refine va_iast hC.1 hC.2.1 hX.1 hP (hX.2.1.va M) hS o 0 (zw_get hT) rfl hin hd (fun H1 locs1 q1 q2 q3 => ?_)
  rw [zw_put (M := M) (E := E) (M' := zsi M o i.toNatClampNeg x) hT (by simp [zc, zsi_eq]) (fun _ h => zsi_ne h) (fun _ _ => rfl)] at q1
  exact k p l e s m args below meth c E H1 locs1 a hC hB hX q1 q3 hl
theorem zg_zast {o n : Nat} {i x : Int32} (hT : T[o]? = some (.inl (2, n))) (hin : zin i n) (hd : decode code pc = .ok (.bastore, 1)) (k : zJ T own code nL B cells slots (pc + 1) ls st (zsi M o i.toNatClampNeg (vp_nar .boolean x))) : zJ T own code nL B cells slots pc ls (.int x :: .int i :: .ref o :: st) M := by
  intro p l e s m args below meth c E H locs a hC hB hX hP hS hl
  refine va_zast hC.1 hC.2.1 hX.1 hP (hX.2.1.va M) hS o 2 (zw_get hT) rfl hin hd (fun H1 locs1 q1 q2 q3 => ?_)
  rw [zw_put (M := M) (E := E) (M' := zsi M o i.toNatClampNeg (vp_nar .boolean x)) hT (by simp [zc, zsi_eq]) (fun _ h => zsi_ne h) (fun _ _ => rfl)] at q1
  exact k p l e s m args below meth c E H1 locs1 a hC hB hX q1 q3 hl
theorem zg_last {o n : Nat} {i : Int32} {x : Int64} (hT : T[o]? = some (.inl (1, n))) (hin : zin i n) (hd : decode code pc = .ok (.lastore, 1)) (k : zJ T own code nL B cells slots (pc + 1) ls st (zsj M o i.toNatClampNeg x)) : zJ T own code nL B cells slots pc ls (.long x :: .int i :: .ref o :: st) M := by
  intro p l e s m args below meth c E H locs a hC hB hX hP hS hl
  refine va_last hC.1 hC.2.1 hX.1 hP (hX.2.1.va M) hS o 1 (zw_get hT) rfl hin hd (fun H1 locs1 q1 q2 q3 => ?_)
  rw [zw_put (M := M) (E := E) (M' := zsj M o i.toNatClampNeg x) hT (by simp [zc, zsj_eq]) (fun _ _ => rfl) (fun _ h => zsj_ne h)] at q1
  exact k p l e s m args below meth c E H1 locs1 a hC hB hX q1 q3 hl
theorem zg_alen {o n ty : Nat} {v : Int32} (hT : T[o]? = some (.inl (ty, n))) (hty : ty < 3) (hv : Int32.ofNat n = v) (hd : decode code pc = .ok (.arraylength, 1)) (k : zJ T own code nL B cells slots (pc + 1) ls (.int v :: st) M) : zJ T own code nL B cells slots pc ls (.ref o :: st) M := by
  intro p l e s m args below meth c E H locs a hC hB hX hP hS hl
  have h : (ztys E)[ty]? = some (zcy E ty, zty ty) := by
    rcases (show ty = 0 ∨ ty = 1 ∨ ty = 2 by omega) with rfl | rfl | rfl <;> rfl
  exact va_alen hC.1 hC.2.1 hX.1 hP o ty (zw_get hT) h hv hd (k p l e s m args below meth c E H locs a hC hB hX hP hS hl)
theorem zg_ldcS {i q : Nat} {tx : String} (hz : zstr[q]? = some (own, i, tx)) (hd : decode code pc = .ok (.ldc i, 2)) (k : zJ T own code nL B cells slots (pc + 2) ls (.ref (1000 + q) :: st) M) : zJ T own code nL B cells slots pc ls st M := by
  intro p l e s m args below meth c E H locs a hC hB hX hP hS hl
  exact va_ldcS hC.1 hC.2.1 hC.2.2.2.1 (hX.2.2.2.1 q _ hz) hd (k p l e s m args below meth c E H locs a hC hB hX hP hS hl)
end ZF
