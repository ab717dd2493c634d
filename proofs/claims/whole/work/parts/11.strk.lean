theorem sw_9 : Cond.fieldLink RJ0 9 "java/lang/String" "value" "[B" ∈ z_tb := z_mem 1671 (by decide +kernel) (by decide +kernel)
theorem sw_15 : Cond.fieldLink RJ0 15 "java/lang/String" "coder" "B" ∈ z_tb := z_mem 1672 (by decide +kernel) (by decide +kernel)
theorem sw_38 : Cond.fieldLink RJ0 38 "java/lang/String" "COMPACT_STRINGS" "Z" ∈ z_tb := z_mem 570 (by decide +kernel) (by decide +kernel)
theorem sw_1053 : Cond.fieldLink RJ0 1053 "jdk/internal/util/Preconditions" "SIOOBE_FORMATTER" "Ljava/util/function/BiFunction;" ∈ z_tb := z_mem 598 (by decide +kernel) (by decide +kernel)
theorem zkb_m100 : (Int8.ofInt (-100)).toInt32 = (-100 : Int32) := by decide
theorem zkb_m99 : (Int8.ofInt (-99)).toInt32 = (-99 : Int32) := by decide
theorem zkb_m3 : (Int8.ofInt (-3)).toInt32 = (-3 : Int32) := by decide
theorem zkb_m2 : (Int8.ofInt (-2)).toInt32 = (-2 : Int32) := by decide
theorem zkb_6 : (Int8.ofInt (6)).toInt32 = (6 : Int32) := by decide
theorem zkb_7 : (Int8.ofInt (7)).toInt32 = (7 : Int32) := by decide
theorem zkb_8 : (Int8.ofInt (8)).toInt32 = (8 : Int32) := by decide
theorem zkb_9 : (Int8.ofInt (9)).toInt32 = (9 : Int32) := by decide
theorem zkb_10 : (Int8.ofInt (10)).toInt32 = (10 : Int32) := by decide
theorem zkb_11 : (Int8.ofInt (11)).toInt32 = (11 : Int32) := by decide
theorem zkb_12 : (Int8.ofInt (12)).toInt32 = (12 : Int32) := by decide
theorem zkb_13 : (Int8.ofInt (13)).toInt32 = (13 : Int32) := by decide
theorem zkb_15 : (Int8.ofInt (15)).toInt32 = (15 : Int32) := by decide
theorem zkb_16 : (Int8.ofInt (16)).toInt32 = (16 : Int32) := by decide
theorem zkb_20 : (Int8.ofInt (20)).toInt32 = (20 : Int32) := by decide
theorem zkb_23 : (Int8.ofInt (23)).toInt32 = (23 : Int32) := by decide
theorem zkb_24 : (Int8.ofInt (24)).toInt32 = (24 : Int32) := by decide
theorem zkb_27 : (Int8.ofInt (27)).toInt32 = (27 : Int32) := by decide
theorem zkb_32 : (Int8.ofInt (32)).toInt32 = (32 : Int32) := by decide
theorem zkb_35 : (Int8.ofInt (35)).toInt32 = (35 : Int32) := by decide
theorem zkb_36 : (Int8.ofInt (36)).toInt32 = (36 : Int32) := by decide
theorem zkb_37 : (Int8.ofInt (37)).toInt32 = (37 : Int32) := by decide
theorem zkb_40 : (Int8.ofInt (40)).toInt32 = (40 : Int32) := by decide
theorem zkb_41 : (Int8.ofInt (41)).toInt32 = (41 : Int32) := by decide
theorem zkb_45 : (Int8.ofInt (45)).toInt32 = (45 : Int32) := by decide
theorem zkb_46 : (Int8.ofInt (46)).toInt32 = (46 : Int32) := by decide
theorem zkb_48 : (Int8.ofInt (48)).toInt32 = (48 : Int32) := by decide
theorem zkb_57 : (Int8.ofInt (57)).toInt32 = (57 : Int32) := by decide
theorem zkb_60 : (Int8.ofInt (60)).toInt32 = (60 : Int32) := by decide
theorem zkb_63 : (Int8.ofInt (63)).toInt32 = (63 : Int32) := by decide
theorem zkb_64 : (Int8.ofInt (64)).toInt32 = (64 : Int32) := by decide
theorem zkb_76 : (Int8.ofInt (76)).toInt32 = (76 : Int32) := by decide
theorem zkb_80 : (Int8.ofInt (80)).toInt32 = (80 : Int32) := by decide
theorem zkb_99 : (Int8.ofInt (99)).toInt32 = (99 : Int32) := by decide
theorem zkb_100 : (Int8.ofInt (100)).toInt32 = (100 : Int32) := by decide
theorem zki_m1 : Int32.ofInt (-1) = (-1 : Int32) := by decide
theorem zki_0 : Int32.ofInt (0) = (0 : Int32) := by decide
theorem zki_1 : Int32.ofInt (1) = (1 : Int32) := by decide
theorem zki_2 : Int32.ofInt (2) = (2 : Int32) := by decide
theorem zki_3 : Int32.ofInt (3) = (3 : Int32) := by decide
theorem zki_4 : Int32.ofInt (4) = (4 : Int32) := by decide
theorem zki_5 : Int32.ofInt (5) = (5 : Int32) := by decide
theorem zki_8 : Int32.ofInt (8) = (8 : Int32) := by decide
theorem zki_16 : Int32.ofInt (16) = (16 : Int32) := by decide
theorem zks_m10000 : (Int16.ofInt (-10000)).toInt32 = (-10000 : Int32) := by decide
theorem zks_135 : (Int16.ofInt (135)).toInt32 = (135 : Int32) := by decide
theorem zks_144 : (Int16.ofInt (144)).toInt32 = (144 : Int32) := by decide
theorem zks_200 : (Int16.ofInt (200)).toInt32 = (200 : Int32) := by decide
theorem zks_255 : (Int16.ofInt (255)).toInt32 = (255 : Int32) := by decide
theorem zks_256 : (Int16.ofInt (256)).toInt32 = (256 : Int32) := by decide
theorem zks_500 : (Int16.ofInt (500)).toInt32 = (500 : Int32) := by decide
theorem zks_1000 : (Int16.ofInt (1000)).toInt32 = (1000 : Int32) := by decide
theorem zks_1023 : (Int16.ofInt (1023)).toInt32 = (1023 : Int32) := by decide
theorem zks_1024 : (Int16.ofInt (1024)).toInt32 = (1024 : Int32) := by decide
theorem zks_1040 : (Int16.ofInt (1040)).toInt32 = (1040 : Int32) := by decide
theorem zks_1045 : (Int16.ofInt (1045)).toInt32 = (1045 : Int32) := by decide
theorem zks_1099 : (Int16.ofInt (1099)).toInt32 = (1099 : Int32) := by decide
theorem zks_1105 : (Int16.ofInt (1105)).toInt32 = (1105 : Int32) := by decide
theorem zks_1256 : (Int16.ofInt (1256)).toInt32 = (1256 : Int32) := by decide
theorem zks_2000 : (Int16.ofInt (2000)).toInt32 = (2000 : Int32) := by decide
theorem zks_3000 : (Int16.ofInt (3000)).toInt32 = (3000 : Int32) := by decide
theorem zks_4032 : (Int16.ofInt (4032)).toInt32 = (4032 : Int32) := by decide
theorem zks_4096 : (Int16.ofInt (4096)).toInt32 = (4096 : Int32) := by decide
theorem zks_10000 : (Int16.ofInt (10000)).toInt32 = (10000 : Int32) := by decide
theorem zks_12345 : (Int16.ofInt (12345)).toInt32 = (12345 : Int32) := by decide
theorem ss_X8_without : Cond.static yX8_without ∈ z_tb := z_mem 489 (by decide +kernel) (by decide +kernel)
theorem ss_X8_with : Cond.static yX8_with ∈ z_tb := z_mem 512 (by decide +kernel) (by decide +kernel)
def zslen (k : Nat) : Option Int32 := if k < 12 then some (Int32.ofNat (zlen.getD k 0)) else none
def zsemp (k : Nat) : Option Int32 := if k < 12 then some (if Int32.ofNat (zlen.getD k 0) = 0 then 1 else 0) else none
def zschr (k : Nat) (i : Int32) : Option Int32 := if k < 12 ∧ ¬ (i < 0 ∨ zlen.getD k 0 ≤ i.toNatClampNeg) then some ((zbyt.getD k []).getD i.toNatClampNeg 0) else none
theorem z_ret1 {α : Type} {a b : α} (h : some a = some b) : b = a := (Option.some.inj h).symm
theorem z_ret2 {α β : Type} {a b : α} {c d : β} (h : some (a, c) = some (b, d)) : b = a ∧ d = c := by
  have h := Option.some.inj h
  exact ⟨(congrArg Prod.fst h).symm, (congrArg Prod.snd h).symm⟩
theorem z_io {α : Type} {c : Prop} {h : Decidable c} {a v : α} (e : (if c then some a else none) = some v) : c ∧ v = a := by
  by_cases hc : c
  · rw [if_pos hc] at e; cases e; exact ⟨hc, rfl⟩
  · rw [if_neg hc] at e; cases e
theorem zn_ite {c : Prop} [Decidable c] {a b : Int32} (ha : narrow .boolean (.int a) = .int a) (hb : narrow .boolean (.int b) = .int b) : narrow .boolean (.int (if c then a else b)) = .int (if c then a else b) := by
  by_cases h : c
  · rw [if_pos h]; exact ha
  · rw [if_neg h]; exact hb
theorem zs_shr : ∀ o, o < 12 → zshr (Int32.ofNat (zlen.getD o 0)) 0 = Int32.ofNat (zlen.getD o 0) := by decide +kernel
theorem zs_chr : ∀ o, o < 12 → ∀ j, j < zlen.getD o 0 → ((((zbyt.getD o []).getD j 0) &&& 255).toUInt32 % 65536).toInt32 = (zbyt.getD o []).getD j 0 ∧ narrow .char (.int ((zbyt.getD o []).getD j 0)) = .int ((zbyt.getD o []).getD j 0) := by decide +kernel
theorem zs_small : ∀ o, o < 12 → zlen.getD o 0 < 9 := by decide +kernel
theorem ks_coder {T : List zN} {o : Nat} {M : zM} (ho : o < 12) : zK T yJ0_coder_7d493 cJ0_coder_7d493 1 (some .byte) 0 [.ref (1000 + o)] M (some (.int 0)) M := by
  refine zK_of pl_J0 (Nat.le_of_ble_eq_true rfl) ?_
  show zJ T RJ0 cJ0_coder_7d493 1 _ 0 0 0 [(0, .ref (1000 + o))] [] M
  refine zs_compact sw_38 dJ0_coder_7d493_0 ?_
  refine zg_if_eq (tgt := 13) dJ0_coder_7d493_3 (by decide) (fun hc => absurd hc (by decide)) (fun _ => ?_)
  refine zg_aload_n 0 dJ0_coder_7d493_6 rfl rfl ?_
  refine zs_coder ho sw_15 dJ0_coder_7d493_7 ?_
  refine zg_goto (tgt := 14) dJ0_coder_7d493_10 (by decide) ?_
  exact zg_xret rfl dJ0_coder_7d493_14
theorem ks_latin {T : List zN} {o : Nat} {M : zM} (ho : o < 12) : zK T yJ0_isLatin1_aae02 cJ0_isLatin1_aae02 1 (some .boolean) 0 [.ref (1000 + o)] M (some (.int 1)) M := by
  refine zK_of pl_J0 (Nat.le_of_ble_eq_true rfl) ?_
  show zJ T RJ0 cJ0_isLatin1_aae02 1 _ 0 0 0 [(0, .ref (1000 + o))] [] M
  refine zs_compact sw_38 dJ0_isLatin1_aae02_0 ?_
  refine zg_if_eq (tgt := 17) dJ0_isLatin1_aae02_3 (by decide) (fun hc => absurd hc (by decide)) (fun _ => ?_)
  refine zg_aload_n 0 dJ0_isLatin1_aae02_6 rfl rfl ?_
  refine zs_coder ho sw_15 dJ0_isLatin1_aae02_7 ?_
  refine zg_if_ne (tgt := 17) dJ0_isLatin1_aae02_10 (by decide) (fun hc => absurd rfl hc) (fun _ => ?_)
  refine zg_iconst dJ0_isLatin1_aae02_13 zki_1 ?_
  refine zg_goto (tgt := 18) dJ0_isLatin1_aae02_14 (by decide) ?_
  exact zg_xret rfl dJ0_isLatin1_aae02_18
theorem ks_len {T : List zN} {o : Nat} {M : zM} (ho : o < 12) : zK T yJ0_length_8abf5 cJ0_length_8abf5 1 (some .int) 1 [.ref (1000 + o)] M (some (.int (Int32.ofNat (zlen.getD o 0)))) M := by
  refine zK_of pl_J0 (Nat.le_of_ble_eq_true rfl) ?_
  show zJ T RJ0 cJ0_length_8abf5 1 _ 0 0 0 [(0, .ref (1000 + o))] [] M
  refine zg_aload_n 0 dJ0_length_8abf5_0 rfl rfl ?_
  refine zs_value ho sw_9 dJ0_length_8abf5_1 ?_
  refine zs_alen ho dJ0_length_8abf5_4 ?_
  refine zg_aload_n 0 dJ0_length_8abf5_5 rfl rfl ?_
  refine zg_callVs (st := [.int (Int32.ofNat (zlen.getD o 0))]) ho rfl (ks_coder ho) zY_J0_coder_7d493 lv_J0_335 rfl (zfit_m (by decide) (by decide)) (Nat.le_of_ble_eq_true rfl) dJ0_length_8abf5_6 rfl ?_
  refine zg_ishr dJ0_length_8abf5_9 ?_
  rw [zs_shr o ho]
  exact zg_iret dJ0_length_8abf5_10
theorem ks_empty {T : List zN} {o : Nat} {M : zM} (ho : o < 12) : zK T yJ0_isEmpty_aae02 cJ0_isEmpty_aae02 1 (some .boolean) 0 [.ref (1000 + o)] M (some (.int (if Int32.ofNat (zlen.getD o 0) = 0 then 1 else 0))) M := by
  refine zK_of pl_J0 (Nat.le_of_ble_eq_true rfl) ?_
  show zJ T RJ0 cJ0_isEmpty_aae02 1 _ 0 0 0 [(0, .ref (1000 + o))] [] M
  refine zg_aload_n 0 dJ0_isEmpty_aae02_0 rfl rfl ?_
  refine zs_value ho sw_9 dJ0_isEmpty_aae02_1 ?_
  refine zs_alen ho dJ0_isEmpty_aae02_4 ?_
  refine zg_if_ne (tgt := 12) dJ0_isEmpty_aae02_5 (by decide) (fun hc => ?_) (fun hc => ?_)
  · rw [if_neg hc]
    refine zg_iconst dJ0_isEmpty_aae02_12 zki_0 ?_
    exact zg_xret rfl dJ0_isEmpty_aae02_13
  · rw [if_pos hc]
    refine zg_iconst dJ0_isEmpty_aae02_8 zki_1 ?_
    refine zg_goto (tgt := 13) dJ0_isEmpty_aae02_9 (by decide) ?_
    exact zg_xret rfl dJ0_isEmpty_aae02_13
theorem ks_pre {T : List zN} {i n : Int32} {v : Value} {M : zM} (hv : v.category = 1) (h0 : ¬ i < 0) (h1 : i < n) : zK T yJ3_checkIndex_8e157 cJ3_checkIndex_8e157 3 (some .int) 0 [.int i, .int n, v] M (some (.int i)) M := by
  refine zK_of pl_J3 (by cases v <;> first | exact Nat.le_of_ble_eq_true rfl | exact absurd hv (by simp [Value.category])) ?_
  show zJ T RJ3 cJ3_checkIndex_8e157 3 _ 0 0 0 [(0, .int i), (1, .int n), (2, v)] [] M
  refine zg_iload_n 0 dJ3_checkIndex_8e157_0 rfl rfl ?_
  refine zg_if_lt (tgt := 9) dJ3_checkIndex_8e157_1 (by decide) (fun hc => absurd hc h0) (fun _ => ?_)
  refine zg_iload_n 0 dJ3_checkIndex_8e157_4 rfl rfl ?_
  refine zg_iload_n 1 dJ3_checkIndex_8e157_5 rfl rfl ?_
  refine zg_icmp_lt (tgt := 16) dJ3_checkIndex_8e157_6 (by decide) (fun _ => ?_) (fun hc => absurd h1 hc)
  refine zg_iload_n 0 dJ3_checkIndex_8e157_16 rfl rfl ?_
  exact zg_iret dJ3_checkIndex_8e157_17
theorem ks_chk {T : List zN} {i n : Int32} {M : zM} (h0 : ¬ i < 0) (h1 : i < n) : zK T yJ0_checkIndex_df160 cJ0_checkIndex_df160 2 none 1 [.int i, .int n] M none M := by
  refine zK_of pl_J0 (Nat.le_of_ble_eq_true rfl) ?_
  show zJ T RJ0 cJ0_checkIndex_df160 2 _ 0 0 0 [(0, .int i), (1, .int n)] [] M
  refine zg_iload_n 0 dJ0_checkIndex_df160_0 rfl rfl ?_
  refine zg_iload_n 1 dJ0_checkIndex_df160_1 rfl rfl ?_
  refine zs_fmt sw_1053 dJ0_checkIndex_df160_2 (fun v hv => ?_)
  refine zg_callS (st := []) (ks_pre hv h0 h1) zY_J3_checkIndex_8e157 ls_J0_1059 rfl (zfit_m (by decide) (by decide)) (Nat.le_of_ble_eq_true rfl) dJ0_checkIndex_df160_5 rfl ?_
  refine zg_pop dJ0_checkIndex_df160_8 rfl ?_
  exact zg_vret dJ0_checkIndex_df160_9
theorem zs_ilt {i : Int32} {n : Nat} (hn : n < 9) (h : ¬ (i < 0 ∨ n ≤ i.toNatClampNeg)) : ¬ i < 0 ∧ i < Int32.ofNat n := by
  have h0 : ¬ i < 0 := fun q => h (Or.inl q)
  have h1 : i.toNatClampNeg < n := Nat.not_le.mp fun q => h (Or.inr q)
  obtain ⟨k, hk, rfl⟩ := nI_of h0
  rw [nI_clamp hk] at h1
  exact ⟨h0, nI_lt h1 (by omega)⟩
theorem ks_chr1 {T : List zN} {o : Nat} {i : Int32} {M : zM} (ho : o < 12) (hin : ¬ (i < 0 ∨ zlen.getD o 0 ≤ i.toNatClampNeg)) : zK T yJ1_charAt_3b067 cJ1_charAt_3b067 2 (some .char) 2 [.ref (2000 + o), .int i] M (some (.int ((zbyt.getD o []).getD i.toNatClampNeg 0))) M := by
  have hj : i.toNatClampNeg < zlen.getD o 0 := Nat.not_le.mp fun q => hin (Or.inr q)
  obtain ⟨e1, e2⟩ := zs_chr o ho _ hj
  obtain ⟨h0, h1⟩ := zs_ilt (zs_small o ho) hin
  refine zK_of pl_J1 (Nat.le_of_ble_eq_true rfl) ?_
  show zJ T RJ1 cJ1_charAt_3b067 2 _ 0 0 0 [(0, .ref (2000 + o)), (1, .int i)] [] M
  refine zg_iload_n 1 dJ1_charAt_3b067_0 rfl rfl ?_
  refine zg_aload_n 0 dJ1_charAt_3b067_1 rfl rfl ?_
  refine zs_alen ho dJ1_charAt_3b067_2 ?_
  refine zg_callS (st := []) (ks_chk h0 h1) zY_J0_checkIndex_df160 ls_J1_9 rfl (zfit_m (by decide) (by decide)) (Nat.le_of_ble_eq_true rfl) dJ1_charAt_3b067_3 rfl ?_
  refine zg_aload_n 0 dJ1_charAt_3b067_6 rfl rfl ?_
  refine zg_iload_n 1 dJ1_charAt_3b067_7 rfl rfl ?_
  refine zs_bald ho hin dJ1_charAt_3b067_8 ?_
  refine zg_sipush dJ1_charAt_3b067_9 zks_255 ?_
  refine zg_iand dJ1_charAt_3b067_12 ?_
  refine zg_i2c dJ1_charAt_3b067_13 e1 ?_
  exact zg_xret e2 dJ1_charAt_3b067_14
theorem ks_chr {T : List zN} {o : Nat} {i : Int32} {M : zM} (ho : o < 12) (hin : ¬ (i < 0 ∨ zlen.getD o 0 ≤ i.toNatClampNeg)) : zK T yJ0_charAt_5068e cJ0_charAt_5068e 2 (some .char) 3 [.ref (1000 + o), .int i] M (some (.int ((zbyt.getD o []).getD i.toNatClampNeg 0))) M := by
  have hj : i.toNatClampNeg < zlen.getD o 0 := Nat.not_le.mp fun q => hin (Or.inr q)
  refine zK_of pl_J0 (Nat.le_of_ble_eq_true rfl) ?_
  show zJ T RJ0 cJ0_charAt_5068e 2 _ 0 0 0 [(0, .ref (1000 + o)), (1, .int i)] [] M
  refine zg_aload_n 0 dJ0_charAt_5068e_0 rfl rfl ?_
  refine zg_callVs (st := []) ho rfl (ks_latin ho) zY_J0_isLatin1_aae02 lv_J0_492 rfl (zfit_m (by decide) (by decide)) (Nat.le_of_ble_eq_true rfl) dJ0_charAt_5068e_1 rfl ?_
  refine zg_if_eq (tgt := 16) dJ0_charAt_5068e_4 (by decide) (fun hc => absurd hc (by decide)) (fun _ => ?_)
  refine zg_aload_n 0 dJ0_charAt_5068e_7 rfl rfl ?_
  refine zs_value ho sw_9 dJ0_charAt_5068e_8 ?_
  refine zg_iload_n 1 dJ0_charAt_5068e_11 rfl rfl ?_
  refine zg_callS (st := []) (ks_chr1 ho hin) zY_J1_charAt_3b067 ls_J0_495 rfl (zfit_m (by decide) (by decide)) (Nat.le_of_ble_eq_true rfl) dJ0_charAt_5068e_12 rfl ?_
  exact zg_xret (zs_chr o ho _ hj).2 dJ0_charAt_5068e_15
section ZT
variable {T : List zN} {own : String} {code : ByteArray} {nL : Nat} {B : zB} {cells slots pc i : Nat} {ls : List (Nat × Value)} {st : List Value} {M : zM}
theorem zo_slen {o : Nat} {x : Int32} (hR : zfit B.1 3 4 cells slots) (hst : (st.map Value.category).sum ≤ 8) (hL : zLV own i yJ0_length_8abf5) (hx : zslen o = some x) (hd : decode code pc = .ok (.invokevirtual i, 3)) (k : zJ T own code nL B cells slots (pc + 3) ls (.int x :: st) M) : zJ T own code nL B cells slots pc ls (.ref (1000 + o) :: st) M := by
  obtain ⟨ho, rfl⟩ := z_io hx
  exact zg_callVs (st := st) ho rfl (ks_len ho) zY_J0_length_8abf5 hL rfl (hR.mono (by decide) (by decide)) hst hd rfl k
theorem zo_semp {o : Nat} {x : Int32} (hR : zfit B.1 3 4 cells slots) (hst : (st.map Value.category).sum ≤ 8) (hL : zLV own i yJ0_isEmpty_aae02) (hx : zsemp o = some x) (hd : decode code pc = .ok (.invokevirtual i, 3)) (k : zJ T own code nL B cells slots (pc + 3) ls (.int x :: st) M) : zJ T own code nL B cells slots pc ls (.ref (1000 + o) :: st) M := by
  obtain ⟨ho, rfl⟩ := z_io hx
  exact zg_callVs (st := st) ho rfl (ks_empty ho) zY_J0_isEmpty_aae02 hL rfl (hR.mono (by decide) (by decide)) hst hd rfl k
theorem zo_schr {o : Nat} {j x : Int32} (hR : zfit B.1 3 4 cells slots) (hst : (st.map Value.category).sum ≤ 8) (hL : zLV own i yJ0_charAt_5068e) (hx : zschr o j = some x) (hd : decode code pc = .ok (.invokevirtual i, 3)) (k : zJ T own code nL B cells slots (pc + 3) ls (.int x :: st) M) : zJ T own code nL B cells slots pc ls (.int j :: .ref (1000 + o) :: st) M := by
  obtain ⟨⟨ho, hin⟩, rfl⟩ := z_io hx
  exact zg_callVs (st := st) (As := [.int j]) ho rfl (ks_chr ho hin) zY_J0_charAt_5068e hL rfl (hR.mono (by decide) (by decide)) hst hd rfl k
end ZT
