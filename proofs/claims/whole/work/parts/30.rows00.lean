set_option maxRecDepth 20000 in
set_option maxHeartbeats 4000000 in
theorem k_J6_bitCount_0f7a4 {T : List zN} {v0 : Int32} {r1 : Int32} {M : zM} (h : fJ6_bitCount v0 = some r1) : zK T yJ6_bitCount_0f7a4 cJ6_bitCount_0f7a4 1 (some .int) 0 [.int v0] M (some (.int r1)) M := by
  refine zK_of pl_J6 (Nat.le_of_ble_eq_true rfl) ?_
  show zJ T RJ6 cJ6_bitCount_0f7a4 1 _ 0 0 0 [(0, .int v0)] [] M
  rw [fJ6_bitCount] at h
  refine zg_iload_n 0 dJ6_bitCount_0f7a4_0 rfl rfl ?_
  refine zg_iload_n 0 dJ6_bitCount_0f7a4_1 rfl rfl ?_
  refine zg_iconst dJ6_bitCount_0f7a4_2 zki_1 ?_
  refine zg_iushr dJ6_bitCount_0f7a4_3 ?_
  refine zg_ldcw kc_J6_265 dJ6_bitCount_0f7a4_4 ?_
  refine zg_iand dJ6_bitCount_0f7a4_7 ?_
  refine zg_isub dJ6_bitCount_0f7a4_8 ?_
  refine zg_istore_n (ls' := [(0, .int (v0 - ((zushr v0 (1 : Int32)) &&& (1431655765 : Int32))))]) dJ6_bitCount_0f7a4_9 rfl (Nat.le_of_ble_eq_true rfl) rfl ?_
  refine zg_iload_n 0 dJ6_bitCount_0f7a4_10 rfl rfl ?_
  refine zg_ldcw kc_J6_266 dJ6_bitCount_0f7a4_11 ?_
  refine zg_iand dJ6_bitCount_0f7a4_14 ?_
  refine zg_iload_n 0 dJ6_bitCount_0f7a4_15 rfl rfl ?_
  refine zg_iconst dJ6_bitCount_0f7a4_16 zki_2 ?_
  refine zg_iushr dJ6_bitCount_0f7a4_17 ?_
  refine zg_ldcw kc_J6_266 dJ6_bitCount_0f7a4_18 ?_
  refine zg_iand dJ6_bitCount_0f7a4_21 ?_
  refine zg_iadd dJ6_bitCount_0f7a4_22 ?_
  refine zg_istore_n (ls' := [(0, .int (((v0 - ((zushr v0 (1 : Int32)) &&& (1431655765 : Int32))) &&& (858993459 : Int32)) + ((zushr (v0 - ((zushr v0 (1 : Int32)) &&& (1431655765 : Int32))) (2 : Int32)) &&& (858993459 : Int32))))]) dJ6_bitCount_0f7a4_23 rfl (Nat.le_of_ble_eq_true rfl) rfl ?_
  refine zg_iload_n 0 dJ6_bitCount_0f7a4_24 rfl rfl ?_
  refine zg_iload_n 0 dJ6_bitCount_0f7a4_25 rfl rfl ?_
  refine zg_iconst dJ6_bitCount_0f7a4_26 zki_4 ?_
  refine zg_iushr dJ6_bitCount_0f7a4_27 ?_
  refine zg_iadd dJ6_bitCount_0f7a4_28 ?_
  refine zg_ldcw kc_J6_267 dJ6_bitCount_0f7a4_29 ?_
  refine zg_iand dJ6_bitCount_0f7a4_32 ?_
  refine zg_istore_n (ls' := [(0, .int (((((v0 - ((zushr v0 (1 : Int32)) &&& (1431655765 : Int32))) &&& (858993459 : Int32)) + ((zushr (v0 - ((zushr v0 (1 : Int32)) &&& (1431655765 : Int32))) (2 : Int32)) &&& (858993459 : Int32))) + (zushr (((v0 - ((zushr v0 (1 : Int32)) &&& (1431655765 : Int32))) &&& (858993459 : Int32)) + ((zushr (v0 - ((zushr v0 (1 : Int32)) &&& (1431655765 : Int32))) (2 : Int32)) &&& (858993459 : Int32))) (4 : Int32))) &&& (252645135 : Int32)))]) dJ6_bitCount_0f7a4_33 rfl (Nat.le_of_ble_eq_true rfl) rfl ?_
  refine zg_iload_n 0 dJ6_bitCount_0f7a4_34 rfl rfl ?_
  refine zg_iload_n 0 dJ6_bitCount_0f7a4_35 rfl rfl ?_
  refine zg_bipush dJ6_bitCount_0f7a4_36 zkb_8 ?_
  refine zg_iushr dJ6_bitCount_0f7a4_38 ?_
  refine zg_iadd dJ6_bitCount_0f7a4_39 ?_
  refine zg_istore_n (ls' := [(0, .int ((((((v0 - ((zushr v0 (1 : Int32)) &&& (1431655765 : Int32))) &&& (858993459 : Int32)) + ((zushr (v0 - ((zushr v0 (1 : Int32)) &&& (1431655765 : Int32))) (2 : Int32)) &&& (858993459 : Int32))) + (zushr (((v0 - ((zushr v0 (1 : Int32)) &&& (1431655765 : Int32))) &&& (858993459 : Int32)) + ((zushr (v0 - ((zushr v0 (1 : Int32)) &&& (1431655765 : Int32))) (2 : Int32)) &&& (858993459 : Int32))) (4 : Int32))) &&& (252645135 : Int32)) + (zushr (((((v0 - ((zushr v0 (1 : Int32)) &&& (1431655765 : Int32))) &&& (858993459 : Int32)) + ((zushr (v0 - ((zushr v0 (1 : Int32)) &&& (1431655765 : Int32))) (2 : Int32)) &&& (858993459 : Int32))) + (zushr (((v0 - ((zushr v0 (1 : Int32)) &&& (1431655765 : Int32))) &&& (858993459 : Int32)) + ((zushr (v0 - ((zushr v0 (1 : Int32)) &&& (1431655765 : Int32))) (2 : Int32)) &&& (858993459 : Int32))) (4 : Int32))) &&& (252645135 : Int32)) (8 : Int32))))]) dJ6_bitCount_0f7a4_40 rfl (Nat.le_of_ble_eq_true rfl) rfl ?_
  refine zg_iload_n 0 dJ6_bitCount_0f7a4_41 rfl rfl ?_
  refine zg_iload_n 0 dJ6_bitCount_0f7a4_42 rfl rfl ?_
  refine zg_bipush dJ6_bitCount_0f7a4_43 zkb_16 ?_
  refine zg_iushr dJ6_bitCount_0f7a4_45 ?_
  refine zg_iadd dJ6_bitCount_0f7a4_46 ?_
  refine zg_istore_n (ls' := [(0, .int (((((((v0 - ((zushr v0 (1 : Int32)) &&& (1431655765 : Int32))) &&& (858993459 : Int32)) + ((zushr (v0 - ((zushr v0 (1 : Int32)) &&& (1431655765 : Int32))) (2 : Int32)) &&& (858993459 : Int32))) + (zushr (((v0 - ((zushr v0 (1 : Int32)) &&& (1431655765 : Int32))) &&& (858993459 : Int32)) + ((zushr (v0 - ((zushr v0 (1 : Int32)) &&& (1431655765 : Int32))) (2 : Int32)) &&& (858993459 : Int32))) (4 : Int32))) &&& (252645135 : Int32)) + (zushr (((((v0 - ((zushr v0 (1 : Int32)) &&& (1431655765 : Int32))) &&& (858993459 : Int32)) + ((zushr (v0 - ((zushr v0 (1 : Int32)) &&& (1431655765 : Int32))) (2 : Int32)) &&& (858993459 : Int32))) + (zushr (((v0 - ((zushr v0 (1 : Int32)) &&& (1431655765 : Int32))) &&& (858993459 : Int32)) + ((zushr (v0 - ((zushr v0 (1 : Int32)) &&& (1431655765 : Int32))) (2 : Int32)) &&& (858993459 : Int32))) (4 : Int32))) &&& (252645135 : Int32)) (8 : Int32))) + (zushr ((((((v0 - ((zushr v0 (1 : Int32)) &&& (1431655765 : Int32))) &&& (858993459 : Int32)) + ((zushr (v0 - ((zushr v0 (1 : Int32)) &&& (1431655765 : Int32))) (2 : Int32)) &&& (858993459 : Int32))) + (zushr (((v0 - ((zushr v0 (1 : Int32)) &&& (1431655765 : Int32))) &&& (858993459 : Int32)) + ((zushr (v0 - ((zushr v0 (1 : Int32)) &&& (1431655765 : Int32))) (2 : Int32)) &&& (858993459 : Int32))) (4 : Int32))) &&& (252645135 : Int32)) + (zushr (((((v0 - ((zushr v0 (1 : Int32)) &&& (1431655765 : Int32))) &&& (858993459 : Int32)) + ((zushr (v0 - ((zushr v0 (1 : Int32)) &&& (1431655765 : Int32))) (2 : Int32)) &&& (858993459 : Int32))) + (zushr (((v0 - ((zushr v0 (1 : Int32)) &&& (1431655765 : Int32))) &&& (858993459 : Int32)) + ((zushr (v0 - ((zushr v0 (1 : Int32)) &&& (1431655765 : Int32))) (2 : Int32)) &&& (858993459 : Int32))) (4 : Int32))) &&& (252645135 : Int32)) (8 : Int32))) (16 : Int32))))]) dJ6_bitCount_0f7a4_47 rfl (Nat.le_of_ble_eq_true rfl) rfl ?_
  refine zg_iload_n 0 dJ6_bitCount_0f7a4_48 rfl rfl ?_
  refine zg_bipush dJ6_bitCount_0f7a4_49 zkb_63 ?_
  refine zg_iand dJ6_bitCount_0f7a4_51 ?_
  obtain rfl := z_ret1 h
  exact zg_iret dJ6_bitCount_0f7a4_52
set_option maxRecDepth 20000 in
set_option maxHeartbeats 4000000 in
theorem gJ6_numberOfTrailingZeros_74 {T : List zN} {r1 : Int32} {M : zM} : ∀ (v0 : Int32) (v1 : Int32), fJ6_numberOfTrailingZeros_74 v0 v1 = some r1 → zJ T RJ6 cJ6_numberOfTrailingZeros_0f7a4 2 (zBm T 0 (some .int) (some (.int r1)) M) 0 0 74 [(0, .int v0), (1, .int v1)] [] M := by
  intro v0 v1 h
  rw [fJ6_numberOfTrailingZeros_74] at h
  refine zg_iload_n 1 dJ6_numberOfTrailingZeros_0f7a4_74 rfl rfl ?_
  refine zg_iload_n 0 dJ6_numberOfTrailingZeros_0f7a4_75 rfl rfl ?_
  refine zg_iconst dJ6_numberOfTrailingZeros_0f7a4_76 zki_1 ?_
  refine zg_iushr dJ6_numberOfTrailingZeros_0f7a4_77 ?_
  refine zg_iadd dJ6_numberOfTrailingZeros_0f7a4_78 ?_
  obtain rfl := z_ret1 h
  exact zg_iret dJ6_numberOfTrailingZeros_0f7a4_79
set_option maxRecDepth 20000 in
set_option maxHeartbeats 4000000 in
theorem gJ6_numberOfTrailingZeros_62 {T : List zN} {r1 : Int32} {M : zM} : ∀ (v0 : Int32) (v1 : Int32), fJ6_numberOfTrailingZeros_62 v0 v1 = some r1 → zJ T RJ6 cJ6_numberOfTrailingZeros_0f7a4 2 (zBm T 0 (some .int) (some (.int r1)) M) 0 0 62 [(0, .int v0), (1, .int v1)] [] M := by
  intro v0 v1 h
  rw [fJ6_numberOfTrailingZeros_62] at h
  refine zg_iload_n 0 dJ6_numberOfTrailingZeros_0f7a4_62 rfl rfl ?_
  refine zg_iconst dJ6_numberOfTrailingZeros_0f7a4_63 zki_4 ?_
  refine zg_icmp_le (tgt := 74) dJ6_numberOfTrailingZeros_0f7a4_64 (by decide) (fun hc => ?_) (fun hc => ?_)
  · replace h := (if_pos hc).symm.trans h
    exact gJ6_numberOfTrailingZeros_74 _ _ h
  · replace h := (if_neg hc).symm.trans h
    refine zg_iinc (ls' := [(0, .int v0), (1, .int (v1 + (2 : Int32)))]) 1 dJ6_numberOfTrailingZeros_0f7a4_67 rfl zki_2 (Nat.le_of_ble_eq_true rfl) rfl ?_
    refine zg_iload_n 0 dJ6_numberOfTrailingZeros_0f7a4_70 rfl rfl ?_
    refine zg_iconst dJ6_numberOfTrailingZeros_0f7a4_71 zki_2 ?_
    refine zg_iushr dJ6_numberOfTrailingZeros_0f7a4_72 ?_
    refine zg_istore_n (ls' := [(0, .int (zushr v0 (2 : Int32))), (1, .int (v1 + (2 : Int32)))]) dJ6_numberOfTrailingZeros_0f7a4_73 rfl (Nat.le_of_ble_eq_true rfl) rfl ?_
    exact gJ6_numberOfTrailingZeros_74 _ _ h
set_option maxRecDepth 20000 in
set_option maxHeartbeats 4000000 in
theorem gJ6_numberOfTrailingZeros_49 {T : List zN} {r1 : Int32} {M : zM} : ∀ (v0 : Int32) (v1 : Int32), fJ6_numberOfTrailingZeros_49 v0 v1 = some r1 → zJ T RJ6 cJ6_numberOfTrailingZeros_0f7a4 2 (zBm T 0 (some .int) (some (.int r1)) M) 0 0 49 [(0, .int v0), (1, .int v1)] [] M := by
  intro v0 v1 h
  rw [fJ6_numberOfTrailingZeros_49] at h
  refine zg_iload_n 0 dJ6_numberOfTrailingZeros_0f7a4_49 rfl rfl ?_
  refine zg_bipush dJ6_numberOfTrailingZeros_0f7a4_50 zkb_16 ?_
  refine zg_icmp_le (tgt := 62) dJ6_numberOfTrailingZeros_0f7a4_52 (by decide) (fun hc => ?_) (fun hc => ?_)
  · replace h := (if_pos hc).symm.trans h
    exact gJ6_numberOfTrailingZeros_62 _ _ h
  · replace h := (if_neg hc).symm.trans h
    refine zg_iinc (ls' := [(0, .int v0), (1, .int (v1 + (4 : Int32)))]) 1 dJ6_numberOfTrailingZeros_0f7a4_55 rfl zki_4 (Nat.le_of_ble_eq_true rfl) rfl ?_
    refine zg_iload_n 0 dJ6_numberOfTrailingZeros_0f7a4_58 rfl rfl ?_
    refine zg_iconst dJ6_numberOfTrailingZeros_0f7a4_59 zki_4 ?_
    refine zg_iushr dJ6_numberOfTrailingZeros_0f7a4_60 ?_
    refine zg_istore_n (ls' := [(0, .int (zushr v0 (4 : Int32))), (1, .int (v1 + (4 : Int32)))]) dJ6_numberOfTrailingZeros_0f7a4_61 rfl (Nat.le_of_ble_eq_true rfl) rfl ?_
    exact gJ6_numberOfTrailingZeros_62 _ _ h
set_option maxRecDepth 20000 in
set_option maxHeartbeats 4000000 in
theorem gJ6_numberOfTrailingZeros_34 {T : List zN} {r1 : Int32} {M : zM} : ∀ (v0 : Int32) (v1 : Int32), fJ6_numberOfTrailingZeros_34 v0 v1 = some r1 → zJ T RJ6 cJ6_numberOfTrailingZeros_0f7a4 2 (zBm T 0 (some .int) (some (.int r1)) M) 0 0 34 [(0, .int v0), (1, .int v1)] [] M := by
  intro v0 v1 h
  rw [fJ6_numberOfTrailingZeros_34] at h
  refine zg_iload_n 0 dJ6_numberOfTrailingZeros_0f7a4_34 rfl rfl ?_
  refine zg_sipush dJ6_numberOfTrailingZeros_0f7a4_35 zks_256 ?_
  refine zg_icmp_le (tgt := 49) dJ6_numberOfTrailingZeros_0f7a4_38 (by decide) (fun hc => ?_) (fun hc => ?_)
  · replace h := (if_pos hc).symm.trans h
    exact gJ6_numberOfTrailingZeros_49 _ _ h
  · replace h := (if_neg hc).symm.trans h
    refine zg_iinc (ls' := [(0, .int v0), (1, .int (v1 + (8 : Int32)))]) 1 dJ6_numberOfTrailingZeros_0f7a4_41 rfl zki_8 (Nat.le_of_ble_eq_true rfl) rfl ?_
    refine zg_iload_n 0 dJ6_numberOfTrailingZeros_0f7a4_44 rfl rfl ?_
    refine zg_bipush dJ6_numberOfTrailingZeros_0f7a4_45 zkb_8 ?_
    refine zg_iushr dJ6_numberOfTrailingZeros_0f7a4_47 ?_
    refine zg_istore_n (ls' := [(0, .int (zushr v0 (8 : Int32))), (1, .int (v1 + (8 : Int32)))]) dJ6_numberOfTrailingZeros_0f7a4_48 rfl (Nat.le_of_ble_eq_true rfl) rfl ?_
    exact gJ6_numberOfTrailingZeros_49 _ _ h
set_option maxRecDepth 20000 in
set_option maxHeartbeats 4000000 in
theorem k_J6_numberOfTrailingZeros_0f7a4 {T : List zN} {v0 : Int32} {r1 : Int32} {M : zM} (h : fJ6_numberOfTrailingZeros v0 = some r1) : zK T yJ6_numberOfTrailingZeros_0f7a4 cJ6_numberOfTrailingZeros_0f7a4 2 (some .int) 0 [.int v0] M (some (.int r1)) M := by
  refine zK_of pl_J6 (Nat.le_of_ble_eq_true rfl) ?_
  show zJ T RJ6 cJ6_numberOfTrailingZeros_0f7a4 2 _ 0 0 0 [(0, .int v0)] [] M
  rw [fJ6_numberOfTrailingZeros] at h
  refine zg_iload_n 0 dJ6_numberOfTrailingZeros_0f7a4_0 rfl rfl ?_
  refine zg_iconst dJ6_numberOfTrailingZeros_0f7a4_1 zki_m1 ?_
  refine zg_ixor dJ6_numberOfTrailingZeros_0f7a4_2 ?_
  refine zg_iload_n 0 dJ6_numberOfTrailingZeros_0f7a4_3 rfl rfl ?_
  refine zg_iconst dJ6_numberOfTrailingZeros_0f7a4_4 zki_1 ?_
  refine zg_isub dJ6_numberOfTrailingZeros_0f7a4_5 ?_
  refine zg_iand dJ6_numberOfTrailingZeros_0f7a4_6 ?_
  refine zg_istore_n (ls' := [(0, .int ((v0 ^^^ (-1 : Int32)) &&& (v0 - (1 : Int32))))]) dJ6_numberOfTrailingZeros_0f7a4_7 rfl (Nat.le_of_ble_eq_true rfl) rfl ?_
  refine zg_iload_n 0 dJ6_numberOfTrailingZeros_0f7a4_8 rfl rfl ?_
  refine zg_if_gt (tgt := 17) dJ6_numberOfTrailingZeros_0f7a4_9 (by decide) (fun hc => ?_) (fun hc => ?_)
  · replace h := (if_pos hc).symm.trans h
    refine zg_iconst dJ6_numberOfTrailingZeros_0f7a4_17 zki_1 ?_
    refine zg_istore_n (ls' := [(0, .int ((v0 ^^^ (-1 : Int32)) &&& (v0 - (1 : Int32)))), (1, .int (1 : Int32))]) dJ6_numberOfTrailingZeros_0f7a4_18 rfl (Nat.le_of_ble_eq_true rfl) rfl ?_
    refine zg_iload_n 0 dJ6_numberOfTrailingZeros_0f7a4_19 rfl rfl ?_
    refine zg_ldcw kc_J6_264 dJ6_numberOfTrailingZeros_0f7a4_20 ?_
    refine zg_icmp_le (tgt := 34) dJ6_numberOfTrailingZeros_0f7a4_23 (by decide) (fun hc => ?_) (fun hc => ?_)
    · replace h := (if_pos hc).symm.trans h
      exact gJ6_numberOfTrailingZeros_34 _ _ h
    · replace h := (if_neg hc).symm.trans h
      refine zg_iinc (ls' := [(0, .int ((v0 ^^^ (-1 : Int32)) &&& (v0 - (1 : Int32)))), (1, .int ((1 : Int32) + (16 : Int32)))]) 1 dJ6_numberOfTrailingZeros_0f7a4_26 rfl zki_16 (Nat.le_of_ble_eq_true rfl) rfl ?_
      refine zg_iload_n 0 dJ6_numberOfTrailingZeros_0f7a4_29 rfl rfl ?_
      refine zg_bipush dJ6_numberOfTrailingZeros_0f7a4_30 zkb_16 ?_
      refine zg_iushr dJ6_numberOfTrailingZeros_0f7a4_32 ?_
      refine zg_istore_n (ls' := [(0, .int (zushr ((v0 ^^^ (-1 : Int32)) &&& (v0 - (1 : Int32))) (16 : Int32))), (1, .int ((1 : Int32) + (16 : Int32)))]) dJ6_numberOfTrailingZeros_0f7a4_33 rfl (Nat.le_of_ble_eq_true rfl) rfl ?_
      exact gJ6_numberOfTrailingZeros_34 _ _ h
  · replace h := (if_neg hc).symm.trans h
    refine zg_iload_n 0 dJ6_numberOfTrailingZeros_0f7a4_12 rfl rfl ?_
    refine zg_bipush dJ6_numberOfTrailingZeros_0f7a4_13 zkb_32 ?_
    refine zg_iand dJ6_numberOfTrailingZeros_0f7a4_15 ?_
    obtain rfl := z_ret1 h
    exact zg_iret dJ6_numberOfTrailingZeros_0f7a4_16
set_option maxRecDepth 20000 in
set_option maxHeartbeats 4000000 in
theorem gJ7_fillJ_6 {T : List zN} {a0 : Nat} {n0 : Nat} (h0 : T[a0]? = some (.inl (1, n0))) {Mr : zM} : ∀ (n : Nat) (v1 : Int64) (v3 : Int32) (v4 : Int32) (M : zM), fJ7_fillJ_6 a0 n0 n v1 v3 v4 M = some Mr → zJ T RJ7 cJ7_fill_d0a16 5 (zBm T 0 (none) none Mr) 0 0 6 [(0, .ref a0), (1, .long v1), (3, .int v3), (4, .int v4)] [] M := by
  intro n
  induction n with
  | zero => intro v1 v3 v4 M h; cases h
  | succ n ih =>
    intro v1 v3 v4 M h
    rw [fJ7_fillJ_6] at h
    refine zg_iload_n 2 dJ7_fill_d0a16_6 rfl rfl ?_
    refine zg_iload 3 dJ7_fill_d0a16_7 rfl ?_
    refine zg_icmp_ge (tgt := 22) dJ7_fill_d0a16_9 (by decide) (fun hc => ?_) (fun hc => ?_)
    · replace h := (if_pos hc).symm.trans h
      obtain rfl := z_ret1 h
      exact zg_vret dJ7_fill_d0a16_22
    · replace h := (if_neg hc).symm.trans h
      refine zg_aload_n 0 dJ7_fill_d0a16_12 rfl rfl ?_
      refine zg_iload_n 2 dJ7_fill_d0a16_13 rfl rfl ?_
      refine zg_lload_n 1 dJ7_fill_d0a16_14 rfl rfl ?_
      obtain ⟨M1, hM1, h⟩ := z_bind h
      refine zo_last h0 hM1 dJ7_fill_d0a16_15 ?_
      refine zg_iinc (ls' := [(0, .ref a0), (1, .long v1), (3, .int (v3 + (1 : Int32))), (4, .int v4)]) 2 dJ7_fill_d0a16_16 rfl zki_1 (Nat.le_of_ble_eq_true rfl) rfl ?_
      refine zg_goto (tgt := 6) dJ7_fill_d0a16_19 (by decide) ?_
      exact ih _ _ _ _ h
set_option maxRecDepth 20000 in
set_option maxHeartbeats 4000000 in
theorem k_J7_fill_d0a16 {T : List zN} {a0 : Nat} {n0 : Nat} (h0 : T[a0]? = some (.inl (1, n0))) {v1 : Int64} {M : zM} {Mr : zM} (h : fJ7_fillJ a0 n0 v1 M = some Mr) : zK T yJ7_fill_d0a16 cJ7_fill_d0a16 5 (none) 0 [.ref a0, .long v1] M none Mr := by
  refine zK_of pl_J7 (Nat.le_of_ble_eq_true rfl) ?_
  show zJ T RJ7 cJ7_fill_d0a16 5 _ 0 0 0 [(0, .ref a0), (1, .long v1)] [] M
  rw [fJ7_fillJ] at h
  refine zg_iconst dJ7_fill_d0a16_0 zki_0 ?_
  refine zg_istore_n (ls' := [(0, .ref a0), (1, .long v1), (3, .int (0 : Int32))]) dJ7_fill_d0a16_1 rfl (Nat.le_of_ble_eq_true rfl) rfl ?_
  refine zg_aload_n 0 dJ7_fill_d0a16_2 rfl rfl ?_
  refine zg_alen (v := (Int32.ofNat n0)) h0 (by decide) rfl dJ7_fill_d0a16_3 ?_
  refine zg_istore (ls' := [(0, .ref a0), (1, .long v1), (3, .int (0 : Int32)), (4, .int (Int32.ofNat n0))]) dJ7_fill_d0a16_4 (Nat.le_of_ble_eq_true rfl) rfl ?_
  exact gJ7_fillJ_6 h0 zfuel _ _ _ _ h
set_option maxRecDepth 20000 in
set_option maxHeartbeats 4000000 in
theorem gJ7_fillI_5 {T : List zN} {a0 : Nat} {n0 : Nat} (h0 : T[a0]? = some (.inl (0, n0))) {Mr : zM} : ∀ (n : Nat) (v1 : Int32) (v2 : Int32) (v3 : Int32) (M : zM), fJ7_fillI_5 a0 n0 n v1 v2 v3 M = some Mr → zJ T RJ7 cJ7_fill_53178 4 (zBm T 0 (none) none Mr) 0 0 5 [(0, .ref a0), (1, .int v1), (2, .int v2), (3, .int v3)] [] M := by
  intro n
  induction n with
  | zero => intro v1 v2 v3 M h; cases h
  | succ n ih =>
    intro v1 v2 v3 M h
    rw [fJ7_fillI_5] at h
    refine zg_iload_n 2 dJ7_fill_53178_5 rfl rfl ?_
    refine zg_iload_n 3 dJ7_fill_53178_6 rfl rfl ?_
    refine zg_icmp_ge (tgt := 20) dJ7_fill_53178_7 (by decide) (fun hc => ?_) (fun hc => ?_)
    · replace h := (if_pos hc).symm.trans h
      obtain rfl := z_ret1 h
      exact zg_vret dJ7_fill_53178_20
    · replace h := (if_neg hc).symm.trans h
      refine zg_aload_n 0 dJ7_fill_53178_10 rfl rfl ?_
      refine zg_iload_n 2 dJ7_fill_53178_11 rfl rfl ?_
      refine zg_iload_n 1 dJ7_fill_53178_12 rfl rfl ?_
      obtain ⟨M1, hM1, h⟩ := z_bind h
      refine zo_iast h0 hM1 dJ7_fill_53178_13 ?_
      refine zg_iinc (ls' := [(0, .ref a0), (1, .int v1), (2, .int (v2 + (1 : Int32))), (3, .int v3)]) 2 dJ7_fill_53178_14 rfl zki_1 (Nat.le_of_ble_eq_true rfl) rfl ?_
      refine zg_goto (tgt := 5) dJ7_fill_53178_17 (by decide) ?_
      exact ih _ _ _ _ h
set_option maxRecDepth 20000 in
set_option maxHeartbeats 4000000 in
theorem k_J7_fill_53178 {T : List zN} {a0 : Nat} {n0 : Nat} (h0 : T[a0]? = some (.inl (0, n0))) {v1 : Int32} {M : zM} {Mr : zM} (h : fJ7_fillI a0 n0 v1 M = some Mr) : zK T yJ7_fill_53178 cJ7_fill_53178 4 (none) 0 [.ref a0, .int v1] M none Mr := by
  refine zK_of pl_J7 (Nat.le_of_ble_eq_true rfl) ?_
  show zJ T RJ7 cJ7_fill_53178 4 _ 0 0 0 [(0, .ref a0), (1, .int v1)] [] M
  rw [fJ7_fillI] at h
  refine zg_iconst dJ7_fill_53178_0 zki_0 ?_
  refine zg_istore_n (ls' := [(0, .ref a0), (1, .int v1), (2, .int (0 : Int32))]) dJ7_fill_53178_1 rfl (Nat.le_of_ble_eq_true rfl) rfl ?_
  refine zg_aload_n 0 dJ7_fill_53178_2 rfl rfl ?_
  refine zg_alen (v := (Int32.ofNat n0)) h0 (by decide) rfl dJ7_fill_53178_3 ?_
  refine zg_istore_n (ls' := [(0, .ref a0), (1, .int v1), (2, .int (0 : Int32)), (3, .int (Int32.ofNat n0))]) dJ7_fill_53178_4 rfl (Nat.le_of_ble_eq_true rfl) rfl ?_
  exact gJ7_fillI_5 h0 zfuel _ _ _ _ h
set_option maxRecDepth 20000 in
set_option maxHeartbeats 4000000 in
theorem k_X0_isIn {T : List zN} {a0 : Nat} (h0 : T[a0]? = some (.inl (1, 64))) {v1 : Int32} {r1 : Int32} {M : zM} (h : f0_isIn a0 v1 M = some r1) : zK T yX0_isIn cX0_isIn 3 (some .boolean) 0 [.ref a0, .int v1] M (some (.int r1)) M := by
  refine zK_of pl_X0 (Nat.le_of_ble_eq_true rfl) ?_
  show zJ T RX0 cX0_isIn 3 _ 0 0 0 [(0, .ref a0), (1, .int v1)] [] M
  rw [f0_isIn] at h
  refine zg_iload_n 1 dX0_isIn_0 rfl rfl ?_
  refine zg_bipush dX0_isIn_1 zkb_6 ?_
  refine zg_iushr dX0_isIn_3 ?_
  refine zg_istore_n (ls' := [(0, .ref a0), (1, .int v1), (2, .int (zushr v1 (6 : Int32)))]) dX0_isIn_4 rfl (Nat.le_of_ble_eq_true rfl) rfl ?_
  refine zg_iload_n 2 dX0_isIn_5 rfl rfl ?_
  refine zg_aload_n 0 dX0_isIn_6 rfl rfl ?_
  refine zg_alen (v := (64 : Int32)) h0 (by decide) rfl dX0_isIn_7 ?_
  refine zg_icmp_ge (tgt := 30) dX0_isIn_8 (by decide) (fun hc => ?_) (fun hc => ?_)
  · replace h := (if_pos hc).symm.trans h
    refine zg_iconst dX0_isIn_30 zki_0 ?_
    obtain rfl := z_ret1 h
    exact zg_zret rfl dX0_isIn_31
  · replace h := (if_neg hc).symm.trans h
    refine zg_aload_n 0 dX0_isIn_11 rfl rfl ?_
    refine zg_iload_n 2 dX0_isIn_12 rfl rfl ?_
    obtain ⟨x1, hx1, h⟩ := z_bind h
    refine zo_lald h0 hx1 dX0_isIn_13 ?_
    refine zg_iload_n 1 dX0_isIn_14 rfl rfl ?_
    refine zg_bipush dX0_isIn_15 zkb_63 ?_
    refine zg_iand dX0_isIn_17 ?_
    refine zg_lushr dX0_isIn_18 ?_
    refine zg_lconst dX0_isIn_19 (v := 1) rfl ?_
    refine zg_land dX0_isIn_20 ?_
    refine zg_lconst dX0_isIn_21 (v := 0) rfl ?_
    refine zg_lcmp dX0_isIn_22 ?_
    suffices hj : zJ T RX0 cX0_isIn 3 (zBm T 0 (some .boolean) (some (.int r1)) M) 0 0 31 [(0, .ref a0), (1, .int v1), (2, .int (zushr v1 (6 : Int32)))] [.int (if (lg_cmp ((zlushr x1 (v1 &&& (63 : Int32))) &&& (1 : Int64)) (0 : Int64)) = 0 then (0 : Int32) else (1 : Int32))] M by
      refine zg_if_eq (tgt := 30) dX0_isIn_23 (by decide) (fun hc => ?_) (fun hc => ?_)
      · rw [show (if (lg_cmp ((zlushr x1 (v1 &&& (63 : Int32))) &&& (1 : Int64)) (0 : Int64)) = 0 then (0 : Int32) else (1 : Int32)) = (0 : Int32) from if_pos hc] at hj
        refine zg_iconst dX0_isIn_30 zki_0 ?_
        exact hj
      · rw [show (if (lg_cmp ((zlushr x1 (v1 &&& (63 : Int32))) &&& (1 : Int64)) (0 : Int64)) = 0 then (0 : Int32) else (1 : Int32)) = (1 : Int32) from if_neg hc] at hj
        refine zg_iconst dX0_isIn_26 zki_1 ?_
        refine zg_goto (tgt := 31) dX0_isIn_27 (by decide) ?_
        exact hj
    obtain rfl := z_ret1 h
    exact zg_zret (zn_ite rfl rfl) dX0_isIn_31
set_option maxRecDepth 20000 in
set_option maxHeartbeats 4000000 in
theorem k_X0_mark {T : List zN} {a0 : Nat} (h0 : T[a0]? = some (.inl (1, 64))) {v1 : Int32} {M : zM} {Mr : zM} (h : f0_mark a0 v1 M = some Mr) : zK T yX0_mark cX0_mark 3 (none) 0 [.ref a0, .int v1] M none Mr := by
  refine zK_of pl_X0 (Nat.le_of_ble_eq_true rfl) ?_
  show zJ T RX0 cX0_mark 3 _ 0 0 0 [(0, .ref a0), (1, .int v1)] [] M
  rw [f0_mark] at h
  refine zg_iload_n 1 dX0_mark_0 rfl rfl ?_
  refine zg_bipush dX0_mark_1 zkb_6 ?_
  refine zg_iushr dX0_mark_3 ?_
  refine zg_istore_n (ls' := [(0, .ref a0), (1, .int v1), (2, .int (zushr v1 (6 : Int32)))]) dX0_mark_4 rfl (Nat.le_of_ble_eq_true rfl) rfl ?_
  refine zg_iload_n 2 dX0_mark_5 rfl rfl ?_
  refine zg_aload_n 0 dX0_mark_6 rfl rfl ?_
  refine zg_alen (v := (64 : Int32)) h0 (by decide) rfl dX0_mark_7 ?_
  refine zg_icmp_ge (tgt := 23) dX0_mark_8 (by decide) (fun hc => ?_) (fun hc => ?_)
  · replace h := (if_pos hc).symm.trans h
    obtain rfl := z_ret1 h
    exact zg_vret dX0_mark_23
  · replace h := (if_neg hc).symm.trans h
    refine zg_aload_n 0 dX0_mark_11 rfl rfl ?_
    refine zg_iload_n 2 dX0_mark_12 rfl rfl ?_
    refine zg_dup2 dX0_mark_13 rfl rfl ?_
    obtain ⟨x1, hx1, h⟩ := z_bind h
    refine zo_lald h0 hx1 dX0_mark_14 ?_
    refine zg_lconst dX0_mark_15 (v := 1) rfl ?_
    refine zg_iload_n 1 dX0_mark_16 rfl rfl ?_
    refine zg_bipush dX0_mark_17 zkb_63 ?_
    refine zg_iand dX0_mark_19 ?_
    refine zg_lshl dX0_mark_20 ?_
    refine zg_lor dX0_mark_21 ?_
    obtain ⟨M2, hM2, h⟩ := z_bind h
    refine zo_last h0 hM2 dX0_mark_22 ?_
    obtain rfl := z_ret1 h
    exact zg_vret dX0_mark_23
set_option maxRecDepth 20000 in
set_option maxHeartbeats 4000000 in
theorem k_X0_turn {v1 : Int32} {v2 : Int32} {M : zM} {Mr : zM} (h : f0_turn v1 v2 M = some Mr) : zK ztops yX0_turn cX0_turn 3 (none) 0 [.ref 21, .int v1, .int v2] M none Mr := by
  refine zK_of pl_X0 (Nat.le_of_ble_eq_true rfl) ?_
  show zJ ztops RX0 cX0_turn 3 _ 0 0 0 [(0, .ref 21), (1, .int v1), (2, .int v2)] [] M
  rw [f0_turn] at h
  refine zg_aload_n 0 dX0_turn_0 rfl rfl ?_
  refine zo_getr 22 0 rfl fl_X0_9 zt_21 rfl dX0_turn_1 ?_
  refine zg_iload_n 1 dX0_turn_4 rfl rfl ?_
  refine zg_dup2 dX0_turn_5 rfl rfl ?_
  obtain ⟨x1, hx1, h⟩ := z_bind h
  refine zo_iald zt_22 hx1 dX0_turn_6 ?_
  refine zg_iconst dX0_turn_7 zki_1 ?_
  refine zg_bipush dX0_turn_8 zkb_6 ?_
  refine zg_iload_n 2 dX0_turn_10 rfl rfl ?_
  refine zg_iadd dX0_turn_11 ?_
  refine zg_ishl dX0_turn_12 ?_
  refine zg_ixor dX0_turn_13 ?_
  obtain ⟨M2, hM2, h⟩ := z_bind h
  refine zo_iast zt_22 hM2 dX0_turn_14 ?_
  refine zg_aload_n 0 dX0_turn_15 rfl rfl ?_
  refine zo_getr 23 1 rfl fl_X0_15 zt_21 rfl dX0_turn_16 ?_
  refine zg_iload_n 1 dX0_turn_19 rfl rfl ?_
  refine zg_dup2 dX0_turn_20 rfl rfl ?_
  obtain ⟨x3, hx3, h⟩ := z_bind h
  refine zo_iald zt_23 hx3 dX0_turn_21 ?_
  refine zg_iconst dX0_turn_22 zki_1 ?_
  refine zg_bipush dX0_turn_23 zkb_6 ?_
  refine zg_iload_n 2 dX0_turn_25 rfl rfl ?_
  refine zg_iadd dX0_turn_26 ?_
  refine zg_ishl dX0_turn_27 ?_
  refine zg_ixor dX0_turn_28 ?_
  obtain ⟨M4, hM4, h⟩ := z_bind h
  refine zo_iast zt_23 hM4 dX0_turn_29 ?_
  refine zg_aload_n 0 dX0_turn_30 rfl rfl ?_
  refine zo_getr 22 0 rfl fl_X0_9 zt_21 rfl dX0_turn_31 ?_
  refine zg_bipush dX0_turn_34 zkb_6 ?_
  refine zg_iload_n 2 dX0_turn_36 rfl rfl ?_
  refine zg_iadd dX0_turn_37 ?_
  refine zg_dup2 dX0_turn_38 rfl rfl ?_
  obtain ⟨x5, hx5, h⟩ := z_bind h
  refine zo_iald zt_22 hx5 dX0_turn_39 ?_
  refine zg_iconst dX0_turn_40 zki_1 ?_
  refine zg_iload_n 1 dX0_turn_41 rfl rfl ?_
  refine zg_ishl dX0_turn_42 ?_
  refine zg_ixor dX0_turn_43 ?_
  obtain ⟨M6, hM6, h⟩ := z_bind h
  refine zo_iast zt_22 hM6 dX0_turn_44 ?_
  refine zg_aload_n 0 dX0_turn_45 rfl rfl ?_
  refine zo_getr 23 1 rfl fl_X0_15 zt_21 rfl dX0_turn_46 ?_
  refine zg_bipush dX0_turn_49 zkb_6 ?_
  refine zg_iload_n 2 dX0_turn_51 rfl rfl ?_
  refine zg_iadd dX0_turn_52 ?_
  refine zg_dup2 dX0_turn_53 rfl rfl ?_
  obtain ⟨x7, hx7, h⟩ := z_bind h
  refine zo_iald zt_23 hx7 dX0_turn_54 ?_
  refine zg_iconst dX0_turn_55 zki_1 ?_
  refine zg_iload_n 1 dX0_turn_56 rfl rfl ?_
  refine zg_ishl dX0_turn_57 ?_
  refine zg_ixor dX0_turn_58 ?_
  obtain ⟨M8, hM8, h⟩ := z_bind h
  refine zo_iast zt_23 hM8 dX0_turn_59 ?_
  obtain rfl := z_ret1 h
  exact zg_vret dX0_turn_60
set_option maxRecDepth 20000 in
set_option maxHeartbeats 4000000 in
theorem g0_reached_63 {T : List zN} {a2 : Nat} (h2 : T[a2]? = some (.inl (0, 12))) {r1 : Int32} {M : zM} {k8 : Int32 → Int32 → Int32 → Int32 → zM → Option Int32} (hk8 : ∀ (v1 : Int32) (v3 : Int32) (v4 : Int32) (v5 : Int32), k8 v1 v3 v4 v5 M = some r1 → zJ T RX0 cX0_reached 9 (zBm T 2 (some .int) (some (.int r1)) M) 0 0 8 [(1, .int v1), (2, .ref a2), (3, .int v3), (4, .int v4), (5, .int v5)] [] M) : ∀ (v1 : Int32) (v3 : Int32) (v4 : Int32) (v5 : Int32) (v6 : Int32) (s0 : Int32), f0_reached_63 a2 k8 v1 v3 v4 v5 v6 s0 M = some r1 → zJ T RX0 cX0_reached 9 (zBm T 2 (some .int) (some (.int r1)) M) 0 0 63 [(1, .int v1), (2, .ref a2), (3, .int v3), (4, .int v4), (5, .int v5), (6, .int v6)] [.int s0] M := by
  intro v1 v3 v4 v5 v6 s0 h
  rw [f0_reached_63] at h
  refine zg_istore (ls' := [(1, .int v1), (2, .ref a2), (3, .int v3), (4, .int v4), (5, .int v5), (6, .int v6), (8, .int s0)]) dX0_reached_63 (Nat.le_of_ble_eq_true rfl) rfl ?_
  refine zg_iload_n 2 dX0_reached_65 rfl rfl ?_
  refine zg_iload 6 dX0_reached_66 rfl ?_
  refine zg_ior dX0_reached_68 ?_
  refine zg_istore_n (ls' := [(1, .int v1), (2, .ref a2), (3, .int (v3 ||| s0)), (4, .int v4), (5, .int v5), (6, .int v6), (8, .int s0)]) dX0_reached_69 rfl (Nat.le_of_ble_eq_true rfl) rfl ?_
  refine zg_iload 3 dX0_reached_70 rfl ?_
  refine zg_iload 5 dX0_reached_72 rfl ?_
  refine zg_ixor dX0_reached_74 ?_
  refine zg_iload 6 dX0_reached_75 rfl ?_
  refine zg_ior dX0_reached_77 ?_
  refine zg_istore (ls' := [(1, .int v1), (2, .ref a2), (3, .int (v3 ||| s0)), (4, .int ((v4 ^^^ v6) ||| s0)), (5, .int v5), (6, .int v6), (8, .int s0)]) dX0_reached_78 (Nat.le_of_ble_eq_true rfl) rfl ?_
  refine zg_iinc (ls' := [(1, .int v1), (2, .ref a2), (3, .int (v3 ||| s0)), (4, .int ((v4 ^^^ v6) ||| s0)), (5, .int (v5 + (1 : Int32))), (6, .int v6), (8, .int s0)]) 4 dX0_reached_80 rfl zki_1 (Nat.le_of_ble_eq_true rfl) rfl ?_
  refine zg_goto (tgt := 8) dX0_reached_83 (by decide) ?_
  refine zo_sub (ls' := [(1, .int v1), (2, .ref a2), (3, .int (v3 ||| s0)), (4, .int ((v4 ^^^ v6) ||| s0)), (5, .int (v5 + (1 : Int32)))]) [0, 1, 2, 3, 4] rfl ?_
  exact hk8 _ _ _ _ h
set_option maxRecDepth 20000 in
set_option maxHeartbeats 4000000 in
theorem g0_reached_8 {T : List zN} {a2 : Nat} (h2 : T[a2]? = some (.inl (0, 12))) {r1 : Int32} {M : zM} : ∀ (n : Nat) (v1 : Int32) (v3 : Int32) (v4 : Int32) (v5 : Int32), f0_reached_8 a2 n v1 v3 v4 v5 M = some r1 → zJ T RX0 cX0_reached 9 (zBm T 2 (some .int) (some (.int r1)) M) 0 0 8 [(1, .int v1), (2, .ref a2), (3, .int v3), (4, .int v4), (5, .int v5)] [] M := by
  intro n
  induction n with
  | zero => intro v1 v3 v4 v5 h; cases h
  | succ n ih =>
    intro v1 v3 v4 v5 h
    rw [f0_reached_8] at h
    refine zg_iload 4 dX0_reached_8 rfl ?_
    refine zg_bipush dX0_reached_10 zkb_12 ?_
    refine zg_icmp_ge (tgt := 86) dX0_reached_12 (by decide) (fun hc => ?_) (fun hc => ?_)
    · replace h := (if_pos hc).symm.trans h
      refine zg_iload_n 2 dX0_reached_86 rfl rfl ?_
      obtain rfl := z_ret1 h
      exact zg_iret dX0_reached_87
    · replace h := (if_neg hc).symm.trans h
      refine zg_iload 3 dX0_reached_15 rfl ?_
      refine zg_if_eq (tgt := 86) dX0_reached_17 (by decide) (fun hc => ?_) (fun hc => ?_)
      · replace h := (if_pos hc).symm.trans h
        refine zg_iload_n 2 dX0_reached_86 rfl rfl ?_
        obtain rfl := z_ret1 h
        exact zg_iret dX0_reached_87
      · replace h := (if_neg hc).symm.trans h
        refine zg_iload_n 2 dX0_reached_20 rfl rfl ?_
        refine zg_iload_n 0 dX0_reached_21 rfl rfl ?_
        refine zg_icmp_eq (tgt := 86) dX0_reached_22 (by decide) (fun hc => ?_) (fun hc => ?_)
        · replace h := (if_pos hc).symm.trans h
          refine zg_iload_n 2 dX0_reached_86 rfl rfl ?_
          obtain rfl := z_ret1 h
          exact zg_iret dX0_reached_87
        · replace h := (if_neg hc).symm.trans h
          refine zg_iload 3 dX0_reached_25 rfl ?_
          refine zg_iload 3 dX0_reached_27 rfl ?_
          refine zg_ineg dX0_reached_29 ?_
          refine zg_iand dX0_reached_30 ?_
          refine zg_istore (ls' := [(1, .int v1), (2, .ref a2), (3, .int v3), (4, .int v4), (5, .int v5), (6, .int (v4 &&& (-v4)))]) dX0_reached_31 (Nat.le_of_ble_eq_true rfl) rfl ?_
          refine zg_iload 5 dX0_reached_33 rfl ?_
          refine zg_iconst dX0_reached_35 zki_1 ?_
          refine zg_isub dX0_reached_36 ?_
          obtain ⟨x1, hx1, h⟩ := z_bind h
          refine zg_callS (st := []) (k_J6_bitCount_0f7a4 hx1) zY_J6_bitCount_0f7a4 ls_X0_42 rfl (zfit_m (by decide) (by decide)) (Nat.le_of_ble_eq_true rfl) dX0_reached_37 rfl ?_
          refine zg_istore (ls' := [(1, .int v1), (2, .ref a2), (3, .int v3), (4, .int v4), (5, .int v5), (6, .int (v4 &&& (-v4))), (7, .int x1)]) dX0_reached_40 (Nat.le_of_ble_eq_true rfl) rfl ?_
          refine zg_iload 6 dX0_reached_42 rfl ?_
          refine zg_aload_n 1 dX0_reached_44 rfl rfl ?_
          refine zg_alen (v := (12 : Int32)) h2 (by decide) rfl dX0_reached_45 ?_
          refine zg_icmp_ge (tgt := 62) dX0_reached_46 (by decide) (fun hc => ?_) (fun hc => ?_)
          · replace h := (if_pos hc).symm.trans h
            refine zg_iconst dX0_reached_62 zki_0 ?_
            refine zo_sub (ls' := [(1, .int v1), (2, .ref a2), (3, .int v3), (4, .int v4), (5, .int v5), (6, .int (v4 &&& (-v4)))]) [0, 1, 2, 3, 4, 5] rfl ?_
            exact g0_reached_63 h2 (fun u0 u1 u2 u3 h => ih u0 u1 u2 u3 h) _ _ _ _ _ _ h
          · replace h := (if_neg hc).symm.trans h
            refine zg_aload_n 1 dX0_reached_49 rfl rfl ?_
            refine zg_iload 6 dX0_reached_50 rfl ?_
            obtain ⟨x2, hx2, h⟩ := z_bind h
            refine zo_iald h2 hx2 dX0_reached_52 ?_
            refine zg_iload_n 0 dX0_reached_53 rfl rfl ?_
            refine zg_iand dX0_reached_54 ?_
            refine zg_iload_n 2 dX0_reached_55 rfl rfl ?_
            refine zg_iconst dX0_reached_56 zki_m1 ?_
            refine zg_ixor dX0_reached_57 ?_
            refine zg_iand dX0_reached_58 ?_
            refine zg_goto (tgt := 63) dX0_reached_59 (by decide) ?_
            refine zo_sub (ls' := [(1, .int v1), (2, .ref a2), (3, .int v3), (4, .int v4), (5, .int v5), (6, .int (v4 &&& (-v4)))]) [0, 1, 2, 3, 4, 5] rfl ?_
            exact g0_reached_63 h2 (fun u0 u1 u2 u3 h => ih u0 u1 u2 u3 h) _ _ _ _ _ _ h
set_option maxRecDepth 20000 in
set_option maxHeartbeats 4000000 in
theorem k_X0_reached {T : List zN} {a2 : Nat} (h2 : T[a2]? = some (.inl (0, 12))) {v0 : Int32} {v1 : Int32} {r1 : Int32} {M : zM} (h : f0_reached v0 v1 a2 M = some r1) : zK T yX0_reached cX0_reached 9 (some .int) 2 [.int v0, .int v1, .ref a2] M (some (.int r1)) M := by
  refine zK_of pl_X0 (Nat.le_of_ble_eq_true rfl) ?_
  show zJ T RX0 cX0_reached 9 _ 0 0 0 [(0, .int v0), (1, .int v1), (2, .ref a2)] [] M
  rw [f0_reached] at h
  refine zg_iload_n 0 dX0_reached_0 rfl rfl ?_
  refine zg_istore_n (ls' := [(0, .int v0), (1, .int v1), (2, .ref a2), (3, .int v0)]) dX0_reached_1 rfl (Nat.le_of_ble_eq_true rfl) rfl ?_
  refine zg_iload_n 0 dX0_reached_2 rfl rfl ?_
  refine zg_istore (ls' := [(0, .int v0), (1, .int v1), (2, .ref a2), (3, .int v0), (4, .int v0)]) dX0_reached_3 (Nat.le_of_ble_eq_true rfl) rfl ?_
  refine zg_iconst dX0_reached_5 zki_0 ?_
  refine zg_istore (ls' := [(0, .int v0), (1, .int v1), (2, .ref a2), (3, .int v0), (4, .int v0), (5, .int (0 : Int32))]) dX0_reached_6 (Nat.le_of_ble_eq_true rfl) rfl ?_
  refine zo_sub (ls' := [(1, .int v1), (2, .ref a2), (3, .int v0), (4, .int v0), (5, .int (0 : Int32))]) [1, 2, 3, 4, 5] rfl ?_
  exact g0_reached_8 h2 zfuel _ _ _ _ h
set_option maxRecDepth 20000 in
set_option maxHeartbeats 4000000 in
theorem k_X0_areTogether {v1 : Int32} {r1 : Int32} {M : zM} (h : f0_areTogether v1 M = some r1) : zK ztops yX0_areTogether cX0_areTogether 3 (some .boolean) 3 [.ref 21, .int v1] M (some (.int r1)) M := by
  refine zK_of pl_X0 (Nat.le_of_ble_eq_true rfl) ?_
  show zJ ztops RX0 cX0_areTogether 3 _ 0 0 0 [(0, .ref 21), (1, .int v1)] [] M
  rw [f0_areTogether] at h
  refine zg_iload_n 1 dX0_areTogether_0 rfl rfl ?_
  obtain ⟨x1, hx1, h⟩ := z_bind h
  refine zg_callS (st := []) (k_J6_bitCount_0f7a4 hx1) zY_J6_bitCount_0f7a4 ls_X0_42 rfl (zfit_m (by decide) (by decide)) (Nat.le_of_ble_eq_true rfl) dX0_areTogether_1 rfl ?_
  refine zg_iconst dX0_areTogether_4 zki_1 ?_
  refine zg_icmp_ne (tgt := 10) dX0_areTogether_5 (by decide) (fun hc => ?_) (fun hc => ?_)
  · replace h := (if_neg hc).symm.trans h
    refine zg_iload_n 1 dX0_areTogether_10 rfl rfl ?_
    refine zg_bipush dX0_areTogether_11 zkb_63 ?_
    refine zg_iand dX0_areTogether_13 ?_
    refine zg_if_eq (tgt := 24) dX0_areTogether_14 (by decide) (fun hc => ?_) (fun hc => ?_)
    · replace h := (if_pos hc).symm.trans h
      refine zg_iconst dX0_areTogether_24 zki_0 ?_
      obtain rfl := z_ret1 h
      exact zg_zret rfl dX0_areTogether_25
    · replace h := (if_neg hc).symm.trans h
      refine zg_iload_n 1 dX0_areTogether_17 rfl rfl ?_
      refine zg_bipush dX0_areTogether_18 zkb_6 ?_
      refine zg_iushr dX0_areTogether_20 ?_
      refine zg_if_ne (tgt := 26) dX0_areTogether_21 (by decide) (fun hc => ?_) (fun hc => ?_)
      · replace h := (if_neg hc).symm.trans h
        refine zg_iload_n 1 dX0_areTogether_26 rfl rfl ?_
        refine zg_iload_n 1 dX0_areTogether_27 rfl rfl ?_
        refine zg_ineg dX0_areTogether_28 ?_
        refine zg_iand dX0_areTogether_29 ?_
        refine zg_istore_n (ls' := [(0, .ref 21), (1, .int v1), (2, .int (v1 &&& (-v1)))]) dX0_areTogether_30 rfl (Nat.le_of_ble_eq_true rfl) rfl ?_
        refine zg_iload_n 2 dX0_areTogether_31 rfl rfl ?_
        refine zg_iload_n 1 dX0_areTogether_32 rfl rfl ?_
        refine zg_aload_n 0 dX0_areTogether_33 rfl rfl ?_
        refine zo_getr 22 0 rfl fl_X0_9 zt_21 rfl dX0_areTogether_34 ?_
        obtain ⟨x2, hx2, h⟩ := z_bind h
        refine zg_callS (st := []) (k_X0_reached zt_22 hx2) zY_X0_reached ls_X0_47 rfl (zfit_m (by decide) (by decide)) (Nat.le_of_ble_eq_true rfl) dX0_areTogether_37 rfl ?_
        refine zg_iload_n 1 dX0_areTogether_40 rfl rfl ?_
        refine zg_icmp_ne (tgt := 61) dX0_areTogether_41 (by decide) (fun hc => ?_) (fun hc => ?_)
        · replace h := (if_neg hc).symm.trans h
          refine zg_iconst dX0_areTogether_61 zki_0 ?_
          obtain rfl := z_ret1 h
          exact zg_zret rfl dX0_areTogether_62
        · replace h := (if_pos hc).symm.trans h
          refine zg_iload_n 2 dX0_areTogether_44 rfl rfl ?_
          refine zg_iload_n 1 dX0_areTogether_45 rfl rfl ?_
          refine zg_aload_n 0 dX0_areTogether_46 rfl rfl ?_
          refine zo_getr 23 1 rfl fl_X0_15 zt_21 rfl dX0_areTogether_47 ?_
          obtain ⟨x3, hx3, h⟩ := z_bind h
          refine zg_callS (st := []) (k_X0_reached zt_23 hx3) zY_X0_reached ls_X0_47 rfl (zfit_m (by decide) (by decide)) (Nat.le_of_ble_eq_true rfl) dX0_areTogether_50 rfl ?_
          refine zg_iload_n 1 dX0_areTogether_53 rfl rfl ?_
          suffices hj : zJ ztops RX0 cX0_areTogether 3 (zBm ztops 3 (some .boolean) (some (.int r1)) M) 0 0 62 [(0, .ref 21), (1, .int v1), (2, .int (v1 &&& (-v1)))] [.int (if x3 = v1 then (1 : Int32) else (0 : Int32))] M by
            refine zg_icmp_ne (tgt := 61) dX0_areTogether_54 (by decide) (fun hc => ?_) (fun hc => ?_)
            · rw [show (if x3 = v1 then (1 : Int32) else (0 : Int32)) = (0 : Int32) from if_neg hc] at hj
              refine zg_iconst dX0_areTogether_61 zki_0 ?_
              exact hj
            · rw [show (if x3 = v1 then (1 : Int32) else (0 : Int32)) = (1 : Int32) from if_pos hc] at hj
              refine zg_iconst dX0_areTogether_57 zki_1 ?_
              refine zg_goto (tgt := 62) dX0_areTogether_58 (by decide) ?_
              exact hj
          obtain rfl := z_ret1 h
          exact zg_zret (zn_ite rfl rfl) dX0_areTogether_62
      · replace h := (if_pos hc).symm.trans h
        refine zg_iconst dX0_areTogether_24 zki_0 ?_
        obtain rfl := z_ret1 h
        exact zg_zret rfl dX0_areTogether_25
  · replace h := (if_pos hc).symm.trans h
    refine zg_iconst dX0_areTogether_8 zki_1 ?_
    obtain rfl := z_ret1 h
    exact zg_zret rfl dX0_areTogether_9
set_option maxRecDepth 20000 in
set_option maxHeartbeats 4000000 in
theorem k_X0_holdingOf {v1 : Int32} {r1 : Int32} {M : zM} (h : f0_holdingOf v1 M = some r1) : zK ztops yX0_holdingOf cX0_holdingOf 2 (some .int) 0 [.ref 21, .int v1] M (some (.int r1)) M := by
  refine zK_of pl_X0 (Nat.le_of_ble_eq_true rfl) ?_
  show zJ ztops RX0 cX0_holdingOf 2 _ 0 0 0 [(0, .ref 21), (1, .int v1)] [] M
  rw [f0_holdingOf] at h
  refine zg_iload_n 1 dX0_holdingOf_0 rfl rfl ?_
  refine zg_if_lt (tgt := 22) dX0_holdingOf_1 (by decide) (fun hc => ?_) (fun hc => ?_)
  · replace h := (if_pos hc).symm.trans h
    refine zg_iconst dX0_holdingOf_22 zki_0 ?_
    obtain rfl := z_ret1 h
    exact zg_iret dX0_holdingOf_23
  · replace h := (if_neg hc).symm.trans h
    refine zg_iload_n 1 dX0_holdingOf_4 rfl rfl ?_
    refine zg_aload_n 0 dX0_holdingOf_5 rfl rfl ?_
    refine zo_getr 26 4 rfl fl_X0_25 zt_21 rfl dX0_holdingOf_6 ?_
    refine zg_alen (v := (13 : Int32)) zt_26 (by decide) rfl dX0_holdingOf_9 ?_
    refine zg_icmp_ge (tgt := 22) dX0_holdingOf_10 (by decide) (fun hc => ?_) (fun hc => ?_)
    · replace h := (if_pos hc).symm.trans h
      refine zg_iconst dX0_holdingOf_22 zki_0 ?_
      obtain rfl := z_ret1 h
      exact zg_iret dX0_holdingOf_23
    · replace h := (if_neg hc).symm.trans h
      refine zg_aload_n 0 dX0_holdingOf_13 rfl rfl ?_
      refine zo_getr 26 4 rfl fl_X0_25 zt_21 rfl dX0_holdingOf_14 ?_
      refine zg_iload_n 1 dX0_holdingOf_17 rfl rfl ?_
      obtain ⟨x1, hx1, h⟩ := z_bind h
      refine zo_iald zt_26 hx1 dX0_holdingOf_18 ?_
      refine zg_goto (tgt := 23) dX0_holdingOf_19 (by decide) ?_
      obtain rfl := z_ret1 h
      exact zg_iret dX0_holdingOf_23
set_option maxRecDepth 20000 in
set_option maxHeartbeats 4000000 in
theorem g0_markTakings_40 {Mr : zM} {k2 : Int32 → Int32 → zM → Option zM} (hk2 : ∀ (v1 : Int32) (v2 : Int32) (M : zM), k2 v1 v2 M = some Mr → zJ ztops RX0 cX0_markTakings 4 (zBm ztops 2 (none) none Mr) 0 0 2 [(0, .ref 21), (1, .int v1), (2, .int v2)] [] M) : ∀ (v1 : Int32) (v2 : Int32) (M : zM), f0_markTakings_40 k2 v1 v2 M = some Mr → zJ ztops RX0 cX0_markTakings 4 (zBm ztops 2 (none) none Mr) 0 0 40 [(0, .ref 21), (1, .int v1), (2, .int v2)] [] M := by
  intro v1 v2 M h
  rw [f0_markTakings_40] at h
  refine zg_iinc (ls' := [(0, .ref 21), (1, .int v1), (2, .int (v2 + (1 : Int32)))]) 2 dX0_markTakings_40 rfl zki_1 (Nat.le_of_ble_eq_true rfl) rfl ?_
  refine zg_goto (tgt := 2) dX0_markTakings_43 (by decide) ?_
  exact hk2 _ _ _ h
set_option maxRecDepth 20000 in
set_option maxHeartbeats 4000000 in
theorem g0_markTakings_2 {Mr : zM} : ∀ (n : Nat) (v1 : Int32) (v2 : Int32) (M : zM), f0_markTakings_2 n v1 v2 M = some Mr → zJ ztops RX0 cX0_markTakings 4 (zBm ztops 2 (none) none Mr) 0 0 2 [(0, .ref 21), (1, .int v1), (2, .int v2)] [] M := by
  intro n
  induction n with
  | zero => intro v1 v2 M h; cases h
  | succ n ih =>
    intro v1 v2 M h
    rw [f0_markTakings_2] at h
    refine zg_iload_n 2 dX0_markTakings_2 rfl rfl ?_
    refine zg_bipush dX0_markTakings_3 zkb_12 ?_
    refine zg_icmp_ge (tgt := 46) dX0_markTakings_5 (by decide) (fun hc => ?_) (fun hc => ?_)
    · replace h := (if_pos hc).symm.trans h
      obtain rfl := z_ret1 h
      exact zg_vret dX0_markTakings_46
    · replace h := (if_neg hc).symm.trans h
      refine zg_iload_n 1 dX0_markTakings_8 rfl rfl ?_
      refine zg_iconst dX0_markTakings_9 zki_1 ?_
      refine zg_iload_n 2 dX0_markTakings_10 rfl rfl ?_
      refine zg_ishl dX0_markTakings_11 ?_
      refine zg_iconst dX0_markTakings_12 zki_m1 ?_
      refine zg_ixor dX0_markTakings_13 ?_
      refine zg_iand dX0_markTakings_14 ?_
      refine zg_istore_n (ls' := [(0, .ref 21), (1, .int v1), (2, .int v2), (3, .int (v1 &&& ((zshl (1 : Int32) v2) ^^^ (-1 : Int32))))]) dX0_markTakings_15 rfl (Nat.le_of_ble_eq_true rfl) rfl ?_
      refine zg_iload_n 3 dX0_markTakings_16 rfl rfl ?_
      refine zg_iload_n 1 dX0_markTakings_17 rfl rfl ?_
      refine zg_icmp_eq (tgt := 40) dX0_markTakings_18 (by decide) (fun hc => ?_) (fun hc => ?_)
      · replace h := (if_pos hc).symm.trans h
        refine zo_sub (ls' := [(0, .ref 21), (1, .int v1), (2, .int v2)]) [0, 1, 2] rfl ?_
        exact g0_markTakings_40 (fun u0 u1 u2 h => ih u0 u1 u2 h) _ _ _ h
      · replace h := (if_neg hc).symm.trans h
        refine zg_aload_n 0 dX0_markTakings_21 rfl rfl ?_
        refine zo_getr 24 2 rfl fl_X0_18 zt_21 rfl dX0_markTakings_22 ?_
        refine zg_iload_n 3 dX0_markTakings_25 rfl rfl ?_
        obtain ⟨x1, hx1, h⟩ := z_bind h
        refine zg_callS (st := []) (k_X0_isIn zt_24 hx1) zY_X0_isIn ls_X0_80 rfl (zfit_m (by decide) (by decide)) (Nat.le_of_ble_eq_true rfl) dX0_markTakings_26 rfl ?_
        refine zg_if_eq (tgt := 40) dX0_markTakings_29 (by decide) (fun hc => ?_) (fun hc => ?_)
        · replace h := (if_pos hc).symm.trans h
          refine zo_sub (ls' := [(0, .ref 21), (1, .int v1), (2, .int v2)]) [0, 1, 2] rfl ?_
          exact g0_markTakings_40 (fun u0 u1 u2 h => ih u0 u1 u2 h) _ _ _ h
        · replace h := (if_neg hc).symm.trans h
          refine zg_aload_n 0 dX0_markTakings_32 rfl rfl ?_
          refine zo_getr 25 3 rfl fl_X0_22 zt_21 rfl dX0_markTakings_33 ?_
          refine zg_iload_n 3 dX0_markTakings_36 rfl rfl ?_
          obtain ⟨M2, hM2, h⟩ := z_bind h
          refine zg_callS (st := []) (k_X0_mark zt_25 hM2) zY_X0_mark ls_X0_76 rfl (zfit_m (by decide) (by decide)) (Nat.le_of_ble_eq_true rfl) dX0_markTakings_37 rfl ?_
          refine zo_sub (ls' := [(0, .ref 21), (1, .int v1), (2, .int v2)]) [0, 1, 2] rfl ?_
          exact g0_markTakings_40 (fun u0 u1 u2 h => ih u0 u1 u2 h) _ _ _ h
set_option maxRecDepth 20000 in
set_option maxHeartbeats 4000000 in
theorem k_X0_markTakings {v1 : Int32} {M : zM} {Mr : zM} (h : f0_markTakings v1 M = some Mr) : zK ztops yX0_markTakings cX0_markTakings 4 (none) 2 [.ref 21, .int v1] M none Mr := by
  refine zK_of pl_X0 (Nat.le_of_ble_eq_true rfl) ?_
  show zJ ztops RX0 cX0_markTakings 4 _ 0 0 0 [(0, .ref 21), (1, .int v1)] [] M
  rw [f0_markTakings] at h
  refine zg_iconst dX0_markTakings_0 zki_0 ?_
  refine zg_istore_n (ls' := [(0, .ref 21), (1, .int v1), (2, .int (0 : Int32))]) dX0_markTakings_1 rfl (Nat.le_of_ble_eq_true rfl) rfl ?_
  exact g0_markTakings_2 zfuel _ _ _ h
set_option maxRecDepth 20000 in
set_option maxHeartbeats 4000000 in
theorem g0_leastTake_45 {r1 : Int32} {M : zM} {k2 : Int32 → Int32 → zM → Option Int32} (hk2 : ∀ (v1 : Int32) (v2 : Int32), k2 v1 v2 M = some r1 → zJ ztops RX0 cX0_leastTake 4 (zBm ztops 2 (some .int) (some (.int r1)) M) 0 0 2 [(0, .ref 21), (1, .int v1), (2, .int v2)] [] M) : ∀ (v1 : Int32) (v2 : Int32), f0_leastTake_45 k2 v1 v2 M = some r1 → zJ ztops RX0 cX0_leastTake 4 (zBm ztops 2 (some .int) (some (.int r1)) M) 0 0 45 [(0, .ref 21), (1, .int v1), (2, .int v2)] [] M := by
  intro v1 v2 h
  rw [f0_leastTake_45] at h
  refine zg_iinc (ls' := [(0, .ref 21), (1, .int v1), (2, .int (v2 + (1 : Int32)))]) 2 dX0_leastTake_45 rfl zki_1 (Nat.le_of_ble_eq_true rfl) rfl ?_
  refine zg_goto (tgt := 2) dX0_leastTake_48 (by decide) ?_
  exact hk2 _ _ h
set_option maxRecDepth 20000 in
set_option maxHeartbeats 4000000 in
theorem g0_leastTake_2 {r1 : Int32} {M : zM} : ∀ (n : Nat) (v1 : Int32) (v2 : Int32), f0_leastTake_2 n v1 v2 M = some r1 → zJ ztops RX0 cX0_leastTake 4 (zBm ztops 2 (some .int) (some (.int r1)) M) 0 0 2 [(0, .ref 21), (1, .int v1), (2, .int v2)] [] M := by
  intro n
  induction n with
  | zero => intro v1 v2 h; cases h
  | succ n ih =>
    intro v1 v2 h
    rw [f0_leastTake_2] at h
    refine zg_iload_n 2 dX0_leastTake_2 rfl rfl ?_
    refine zg_bipush dX0_leastTake_3 zkb_12 ?_
    refine zg_icmp_ge (tgt := 51) dX0_leastTake_5 (by decide) (fun hc => ?_) (fun hc => ?_)
    · replace h := (if_pos hc).symm.trans h
      refine zg_iconst dX0_leastTake_51 zki_m1 ?_
      obtain rfl := z_ret1 h
      exact zg_iret dX0_leastTake_52
    · replace h := (if_neg hc).symm.trans h
      refine zg_iload_n 1 dX0_leastTake_8 rfl rfl ?_
      refine zg_iconst dX0_leastTake_9 zki_1 ?_
      refine zg_iload_n 2 dX0_leastTake_10 rfl rfl ?_
      refine zg_ishl dX0_leastTake_11 ?_
      refine zg_iconst dX0_leastTake_12 zki_m1 ?_
      refine zg_ixor dX0_leastTake_13 ?_
      refine zg_iand dX0_leastTake_14 ?_
      refine zg_istore_n (ls' := [(0, .ref 21), (1, .int v1), (2, .int v2), (3, .int (v1 &&& ((zshl (1 : Int32) v2) ^^^ (-1 : Int32))))]) dX0_leastTake_15 rfl (Nat.le_of_ble_eq_true rfl) rfl ?_
      refine zg_iload_n 3 dX0_leastTake_16 rfl rfl ?_
      refine zg_iload_n 1 dX0_leastTake_17 rfl rfl ?_
      refine zg_icmp_eq (tgt := 45) dX0_leastTake_18 (by decide) (fun hc => ?_) (fun hc => ?_)
      · replace h := (if_pos hc).symm.trans h
        refine zo_sub (ls' := [(0, .ref 21), (1, .int v1), (2, .int v2)]) [0, 1, 2] rfl ?_
        exact g0_leastTake_45 (fun u0 u1 h => ih u0 u1 h) _ _ h
      · replace h := (if_neg hc).symm.trans h
        refine zg_aload_n 0 dX0_leastTake_21 rfl rfl ?_
        refine zo_getr 24 2 rfl fl_X0_18 zt_21 rfl dX0_leastTake_22 ?_
        refine zg_iload_n 3 dX0_leastTake_25 rfl rfl ?_
        obtain ⟨x1, hx1, h⟩ := z_bind h
        refine zg_callS (st := []) (k_X0_isIn zt_24 hx1) zY_X0_isIn ls_X0_80 rfl (zfit_m (by decide) (by decide)) (Nat.le_of_ble_eq_true rfl) dX0_leastTake_26 rfl ?_
        refine zg_if_eq (tgt := 45) dX0_leastTake_29 (by decide) (fun hc => ?_) (fun hc => ?_)
        · replace h := (if_pos hc).symm.trans h
          refine zo_sub (ls' := [(0, .ref 21), (1, .int v1), (2, .int v2)]) [0, 1, 2] rfl ?_
          exact g0_leastTake_45 (fun u0 u1 h => ih u0 u1 h) _ _ h
        · replace h := (if_neg hc).symm.trans h
          refine zg_aload_n 0 dX0_leastTake_32 rfl rfl ?_
          refine zo_getr 25 3 rfl fl_X0_22 zt_21 rfl dX0_leastTake_33 ?_
          refine zg_iload_n 3 dX0_leastTake_36 rfl rfl ?_
          obtain ⟨x2, hx2, h⟩ := z_bind h
          refine zg_callS (st := []) (k_X0_isIn zt_25 hx2) zY_X0_isIn ls_X0_80 rfl (zfit_m (by decide) (by decide)) (Nat.le_of_ble_eq_true rfl) dX0_leastTake_37 rfl ?_
          refine zg_if_ne (tgt := 45) dX0_leastTake_40 (by decide) (fun hc => ?_) (fun hc => ?_)
          · replace h := (if_neg hc).symm.trans h
            refine zo_sub (ls' := [(0, .ref 21), (1, .int v1), (2, .int v2)]) [0, 1, 2] rfl ?_
            exact g0_leastTake_45 (fun u0 u1 h => ih u0 u1 h) _ _ h
          · replace h := (if_pos hc).symm.trans h
            refine zg_iload_n 2 dX0_leastTake_43 rfl rfl ?_
            obtain rfl := z_ret1 h
            exact zg_iret dX0_leastTake_44
set_option maxRecDepth 20000 in
set_option maxHeartbeats 4000000 in
theorem k_X0_leastTake {v1 : Int32} {r1 : Int32} {M : zM} (h : f0_leastTake v1 M = some r1) : zK ztops yX0_leastTake cX0_leastTake 4 (some .int) 2 [.ref 21, .int v1] M (some (.int r1)) M := by
  refine zK_of pl_X0 (Nat.le_of_ble_eq_true rfl) ?_
  show zJ ztops RX0 cX0_leastTake 4 _ 0 0 0 [(0, .ref 21), (1, .int v1)] [] M
  rw [f0_leastTake] at h
  refine zg_iconst dX0_leastTake_0 zki_0 ?_
  refine zg_istore_n (ls' := [(0, .ref 21), (1, .int v1), (2, .int (0 : Int32))]) dX0_leastTake_1 rfl (Nat.le_of_ble_eq_true rfl) rfl ?_
  exact g0_leastTake_2 zfuel _ _ h
set_option maxRecDepth 20000 in
set_option maxHeartbeats 4000000 in
theorem g1_shapeWithout_44 {a1 : Nat} (h1 : zWv ztops a1) {r1 : Int64} {M : zM} {k13 : Int32 → Int64 → Int32 → Int32 → zM → Option Int64} (hk13 : ∀ (v2 : Int32) (v3 : Int64) (v5 : Int32) (v6 : Int32), k13 v2 v3 v5 v6 M = some r1 → zJ ztops RX1 cX1_shapeWithout 7 (zBm ztops 0 (some .long) (some (.long r1)) M) 0 0 13 [(0, .ref 27), (2, .int v2), (3, .long v3), (5, .int v5), (6, .int v6)] [] M) : ∀ (v2 : Int32) (v3 : Int64) (v5 : Int32) (v6 : Int32), f1_shapeWithout_44 a1 k13 v2 v3 v5 v6 M = some r1 → zJ ztops RX1 cX1_shapeWithout 7 (zBm ztops 0 (some .long) (some (.long r1)) M) 0 0 44 [(0, .ref 27), (2, .int v2), (3, .long v3), (5, .int v5), (6, .int v6)] [] M := by
  intro v2 v3 v5 v6 h
  rw [f1_shapeWithout_44] at h
  refine zg_iinc (ls' := [(0, .ref 27), (2, .int v2), (3, .long v3), (5, .int v5), (6, .int (v6 + (-1 : Int32)))]) 4 dX1_shapeWithout_44 rfl zki_m1 (Nat.le_of_ble_eq_true rfl) rfl ?_
  refine zg_goto (tgt := 13) dX1_shapeWithout_47 (by decide) ?_
  exact hk13 _ _ _ _ h
set_option maxRecDepth 20000 in
set_option maxHeartbeats 4000000 in
theorem g1_shapeWithout_13 {a1 : Nat} (h1 : zWv ztops a1) {r1 : Int64} {M : zM} : ∀ (n : Nat) (v2 : Int32) (v3 : Int64) (v5 : Int32) (v6 : Int32), f1_shapeWithout_13 a1 n v2 v3 v5 v6 M = some r1 → zJ ztops RX1 cX1_shapeWithout 7 (zBm ztops 0 (some .long) (some (.long r1)) M) 0 0 13 [(0, .ref 27), (2, .int v2), (3, .long v3), (5, .int v5), (6, .int v6)] [] M := by
  intro n
  induction n with
  | zero => intro v2 v3 v5 v6 h; cases h
  | succ n ih =>
    intro v2 v3 v5 v6 h
    rw [f1_shapeWithout_13] at h
    refine zg_iload 4 dX1_shapeWithout_13 rfl ?_
    refine zg_if_lt (tgt := 50) dX1_shapeWithout_15 (by decide) (fun hc => ?_) (fun hc => ?_)
    · replace h := (if_pos hc).symm.trans h
      refine zg_lload_n 2 dX1_shapeWithout_50 rfl rfl ?_
      refine zg_bipush dX1_shapeWithout_51 zkb_6 ?_
      refine zg_lshl dX1_shapeWithout_53 ?_
      refine zg_aload_n 0 dX1_shapeWithout_54 rfl rfl ?_
      refine zg_geti fl_X1_31 zt_27 rfl dX1_shapeWithout_55 ?_
      refine zg_iconst dX1_shapeWithout_58 zki_3 ?_
      refine zg_ishl dX1_shapeWithout_59 ?_
      refine zg_i2l dX1_shapeWithout_60 ?_
      refine zg_lor dX1_shapeWithout_61 ?_
      refine zg_iload 3 dX1_shapeWithout_62 rfl ?_
      refine zg_i2l dX1_shapeWithout_64 ?_
      refine zg_lor dX1_shapeWithout_65 ?_
      obtain rfl := z_ret1 h
      exact zg_lret dX1_shapeWithout_66
    · replace h := (if_neg hc).symm.trans h
      refine zg_iload_n 1 dX1_shapeWithout_18 rfl rfl ?_
      refine zg_iload 4 dX1_shapeWithout_19 rfl ?_
      refine zg_iushr dX1_shapeWithout_21 ?_
      refine zg_iconst dX1_shapeWithout_22 zki_1 ?_
      refine zg_iand dX1_shapeWithout_23 ?_
      refine zg_if_ne (tgt := 44) dX1_shapeWithout_24 (by decide) (fun hc => ?_) (fun hc => ?_)
      · replace h := (if_neg hc).symm.trans h
        exact g1_shapeWithout_44 h1 (fun u0 u1 u2 u3 h => ih u0 u1 u2 u3 h) _ _ _ _ h
      · replace h := (if_pos hc).symm.trans h
        refine zg_lload_n 2 dX1_shapeWithout_27 rfl rfl ?_
        refine zg_bipush dX1_shapeWithout_28 zkb_6 ?_
        refine zg_lshl dX1_shapeWithout_30 ?_
        refine zg_aload_n 0 dX1_shapeWithout_31 rfl rfl ?_
        refine zo_getr 28 0 rfl fl_X1_9 zt_27 rfl dX1_shapeWithout_32 ?_
        refine zg_iload 4 dX1_shapeWithout_35 rfl ?_
        obtain ⟨x1, hx1, h⟩ := z_bind h
        refine zo_iald zt_28 hx1 dX1_shapeWithout_37 ?_
        refine zg_i2l dX1_shapeWithout_38 ?_
        refine zg_lor dX1_shapeWithout_39 ?_
        refine zg_lstore_n (ls' := [(0, .ref 27), (2, .int v2), (3, .long ((zlshl v3 (6 : Int32)) ||| (Int32.toInt64 x1))), (5, .int v5), (6, .int v6)]) dX1_shapeWithout_40 rfl (Nat.le_of_ble_eq_true rfl) rfl ?_
        refine zg_iinc (ls' := [(0, .ref 27), (2, .int v2), (3, .long ((zlshl v3 (6 : Int32)) ||| (Int32.toInt64 x1))), (5, .int (v5 + (1 : Int32))), (6, .int v6)]) 3 dX1_shapeWithout_41 rfl zki_1 (Nat.le_of_ble_eq_true rfl) rfl ?_
        exact g1_shapeWithout_44 h1 (fun u0 u1 u2 u3 h => ih u0 u1 u2 u3 h) _ _ _ _ h
set_option maxRecDepth 20000 in
set_option maxHeartbeats 4000000 in
theorem k_X1_shapeWithout {a1 : Nat} (h1 : zWv ztops a1) {v2 : Int32} {r1 : Int64} {M : zM} (h : f1_shapeWithout a1 v2 M = some r1) : zK ztops yX1_shapeWithout cX1_shapeWithout 7 (some .long) 0 [.ref 27, .ref a1, .int v2] M (some (.long r1)) M := by
  refine zK_of pl_X1 (Nat.le_of_ble_eq_true rfl) ?_
  show zJ ztops RX1 cX1_shapeWithout 7 _ 0 0 0 [(0, .ref 27), (1, .ref a1), (2, .int v2)] [] M
  rw [f1_shapeWithout] at h
  refine zg_lconst dX1_shapeWithout_0 (v := 0) rfl ?_
  refine zg_lstore_n (ls' := [(0, .ref 27), (1, .ref a1), (2, .int v2), (3, .long (0 : Int64))]) dX1_shapeWithout_1 rfl (Nat.le_of_ble_eq_true rfl) rfl ?_
  refine zg_iconst dX1_shapeWithout_2 zki_0 ?_
  refine zg_istore (ls' := [(0, .ref 27), (1, .ref a1), (2, .int v2), (3, .long (0 : Int64)), (5, .int (0 : Int32))]) dX1_shapeWithout_3 (Nat.le_of_ble_eq_true rfl) rfl ?_
  refine zg_aload_n 1 dX1_shapeWithout_5 rfl rfl ?_
  refine zg_geti fl_X1_34 h1.1 rfl dX1_shapeWithout_6 ?_
  refine zg_iconst dX1_shapeWithout_9 zki_1 ?_
  refine zg_isub dX1_shapeWithout_10 ?_
  refine zg_istore (ls' := [(0, .ref 27), (1, .ref a1), (2, .int v2), (3, .long (0 : Int64)), (5, .int (0 : Int32)), (6, .int ((M.1 a1 0) - (1 : Int32)))]) dX1_shapeWithout_11 (Nat.le_of_ble_eq_true rfl) rfl ?_
  refine zo_sub (ls' := [(0, .ref 27), (2, .int v2), (3, .long (0 : Int64)), (5, .int (0 : Int32)), (6, .int ((M.1 a1 0) - (1 : Int32)))]) [0, 2, 3, 4, 5] rfl ?_
  exact g1_shapeWithout_13 h1 zfuel _ _ _ _ h
set_option maxRecDepth 20000 in
set_option maxHeartbeats 4000000 in
theorem k_X1_forgetShapes {M : zM} {Mr : zM} (h : f1_forgetShapes M = some Mr) : zK ztops yX1_forgetShapes cX1_forgetShapes 1 (none) 2 [.ref 27] M none Mr := by
  refine zK_of pl_X1 (Nat.le_of_ble_eq_true rfl) ?_
  show zJ ztops RX1 cX1_forgetShapes 1 _ 0 0 0 [(0, .ref 27)] [] M
  rw [f1_forgetShapes] at h
  refine zg_aload_n 0 dX1_forgetShapes_0 rfl rfl ?_
  refine zo_getr 29 1 rfl fl_X1_15 zt_27 rfl dX1_forgetShapes_1 ?_
  refine zg_lconst dX1_forgetShapes_4 (v := 0) rfl ?_
  obtain ⟨M1, hM1, h⟩ := z_bind h
  refine zg_callS (st := []) (k_J7_fill_d0a16 zt_29 hM1) zY_J7_fill_d0a16 ls_X1_44 rfl (zfit_m (by decide) (by decide)) (Nat.le_of_ble_eq_true rfl) dX1_forgetShapes_5 rfl ?_
  obtain rfl := z_ret1 h
  exact zg_vret dX1_forgetShapes_8
set_option maxRecDepth 20000 in
set_option maxHeartbeats 4000000 in
theorem g1_isNew_28 {r1 : Int32} {Mr : zM} : ∀ (n : Nat) (v1 : Int64) (v5 : Int32) (v6 : Int32) (M : zM), f1_isNew_28 n v1 v5 v6 M = some (r1, Mr) → zJ ztops RX1 cX1_isNew 7 (zBm ztops 0 (some .boolean) (some (.int r1)) Mr) 0 0 28 [(0, .ref 27), (1, .long v1), (5, .int v5), (6, .int v6)] [] M := by
  intro n
  induction n with
  | zero => intro v1 v5 v6 M h; cases h
  | succ n ih =>
    intro v1 v5 v6 M h
    rw [f1_isNew_28] at h
    refine zg_iload 3 dX1_isNew_28 rfl ?_
    refine zg_sipush dX1_isNew_30 zks_1024 ?_
    refine zg_icmp_ge (tgt := 88) dX1_isNew_33 (by decide) (fun hc => ?_) (fun hc => ?_)
    · replace h := (if_pos hc).symm.trans h
      refine zg_iconst dX1_isNew_88 zki_0 ?_
      obtain ⟨rfl, rfl⟩ := z_ret2 h
      exact zg_zret rfl dX1_isNew_89
    · replace h := (if_neg hc).symm.trans h
      refine zg_aload_n 0 dX1_isNew_36 rfl rfl ?_
      refine zo_getr 29 1 rfl fl_X1_15 zt_27 rfl dX1_isNew_37 ?_
      refine zg_iload 2 dX1_isNew_40 rfl ?_
      obtain ⟨x1, hx1, h⟩ := z_bind h
      refine zo_lald zt_29 hx1 dX1_isNew_42 ?_
      refine zg_lload_n 1 dX1_isNew_43 rfl rfl ?_
      refine zg_lcmp dX1_isNew_44 ?_
      refine zg_if_ne (tgt := 50) dX1_isNew_45 (by decide) (fun hc => ?_) (fun hc => ?_)
      · replace h := (if_neg hc).symm.trans h
        refine zg_aload_n 0 dX1_isNew_50 rfl rfl ?_
        refine zo_getr 29 1 rfl fl_X1_15 zt_27 rfl dX1_isNew_51 ?_
        refine zg_iload 2 dX1_isNew_54 rfl ?_
        obtain ⟨x2, hx2, h⟩ := z_bind h
        refine zo_lald zt_29 hx2 dX1_isNew_56 ?_
        refine zg_lconst dX1_isNew_57 (v := 0) rfl ?_
        refine zg_lcmp dX1_isNew_58 ?_
        refine zg_if_ne (tgt := 72) dX1_isNew_59 (by decide) (fun hc => ?_) (fun hc => ?_)
        · replace h := (if_neg hc).symm.trans h
          refine zg_iload 2 dX1_isNew_72 rfl ?_
          refine zg_iconst dX1_isNew_74 zki_1 ?_
          refine zg_iadd dX1_isNew_75 ?_
          refine zg_sipush dX1_isNew_76 zks_1023 ?_
          refine zg_iand dX1_isNew_79 ?_
          refine zg_istore (ls' := [(0, .ref 27), (1, .long v1), (5, .int ((v5 + (1 : Int32)) &&& (1023 : Int32))), (6, .int v6)]) dX1_isNew_80 (Nat.le_of_ble_eq_true rfl) rfl ?_
          refine zg_iinc (ls' := [(0, .ref 27), (1, .long v1), (5, .int ((v5 + (1 : Int32)) &&& (1023 : Int32))), (6, .int (v6 + (1 : Int32)))]) 3 dX1_isNew_82 rfl zki_1 (Nat.le_of_ble_eq_true rfl) rfl ?_
          refine zg_goto (tgt := 28) dX1_isNew_85 (by decide) ?_
          exact ih _ _ _ _ h
        · replace h := (if_pos hc).symm.trans h
          refine zg_aload_n 0 dX1_isNew_62 rfl rfl ?_
          refine zo_getr 29 1 rfl fl_X1_15 zt_27 rfl dX1_isNew_63 ?_
          refine zg_iload 2 dX1_isNew_66 rfl ?_
          refine zg_lload_n 1 dX1_isNew_68 rfl rfl ?_
          obtain ⟨M3, hM3, h⟩ := z_bind h
          refine zo_last zt_29 hM3 dX1_isNew_69 ?_
          refine zg_iconst dX1_isNew_70 zki_1 ?_
          obtain ⟨rfl, rfl⟩ := z_ret2 h
          exact zg_zret rfl dX1_isNew_71
      · replace h := (if_pos hc).symm.trans h
        refine zg_iconst dX1_isNew_48 zki_0 ?_
        obtain ⟨rfl, rfl⟩ := z_ret2 h
        exact zg_zret rfl dX1_isNew_49
set_option maxRecDepth 20000 in
set_option maxHeartbeats 4000000 in
theorem k_X1_isNew {v1 : Int64} {M : zM} {r1 : Int32} {Mr : zM} (h : f1_isNew v1 M = some (r1, Mr)) : zK ztops yX1_isNew cX1_isNew 7 (some .boolean) 0 [.ref 27, .long v1] M (some (.int r1)) Mr := by
  refine zK_of pl_X1 (Nat.le_of_ble_eq_true rfl) ?_
  show zJ ztops RX1 cX1_isNew 7 _ 0 0 0 [(0, .ref 27), (1, .long v1)] [] M
  rw [f1_isNew] at h
  refine zg_lload_n 1 dX1_isNew_0 rfl rfl ?_
  refine zg_lload_n 1 dX1_isNew_1 rfl rfl ?_
  refine zg_bipush dX1_isNew_2 zkb_10 ?_
  refine zg_lushr dX1_isNew_4 ?_
  refine zg_lxor dX1_isNew_5 ?_
  refine zg_lload_n 1 dX1_isNew_6 rfl rfl ?_
  refine zg_bipush dX1_isNew_7 zkb_23 ?_
  refine zg_lushr dX1_isNew_9 ?_
  refine zg_lxor dX1_isNew_10 ?_
  refine zg_lload_n 1 dX1_isNew_11 rfl rfl ?_
  refine zg_bipush dX1_isNew_12 zkb_36 ?_
  refine zg_lushr dX1_isNew_14 ?_
  refine zg_lxor dX1_isNew_15 ?_
  refine zg_lstore_n (ls' := [(0, .ref 27), (1, .long v1), (3, .long (((v1 ^^^ (zlushr v1 (10 : Int32))) ^^^ (zlushr v1 (23 : Int32))) ^^^ (zlushr v1 (36 : Int32))))]) dX1_isNew_16 rfl (Nat.le_of_ble_eq_true rfl) rfl ?_
  refine zg_lload_n 2 dX1_isNew_17 rfl rfl ?_
  refine zg_ldc2 kc_X1_50 dX1_isNew_18 ?_
  refine zg_land dX1_isNew_21 ?_
  refine zg_l2i dX1_isNew_22 ?_
  refine zg_istore (ls' := [(0, .ref 27), (1, .long v1), (3, .long (((v1 ^^^ (zlushr v1 (10 : Int32))) ^^^ (zlushr v1 (23 : Int32))) ^^^ (zlushr v1 (36 : Int32)))), (5, .int (Int64.toInt32 ((((v1 ^^^ (zlushr v1 (10 : Int32))) ^^^ (zlushr v1 (23 : Int32))) ^^^ (zlushr v1 (36 : Int32))) &&& (1023 : Int64))))]) dX1_isNew_23 (Nat.le_of_ble_eq_true rfl) rfl ?_
  refine zg_iconst dX1_isNew_25 zki_0 ?_
  refine zg_istore (ls' := [(0, .ref 27), (1, .long v1), (3, .long (((v1 ^^^ (zlushr v1 (10 : Int32))) ^^^ (zlushr v1 (23 : Int32))) ^^^ (zlushr v1 (36 : Int32)))), (5, .int (Int64.toInt32 ((((v1 ^^^ (zlushr v1 (10 : Int32))) ^^^ (zlushr v1 (23 : Int32))) ^^^ (zlushr v1 (36 : Int32))) &&& (1023 : Int64)))), (6, .int (0 : Int32))]) dX1_isNew_26 (Nat.le_of_ble_eq_true rfl) rfl ?_
  refine zo_sub (ls' := [(0, .ref 27), (1, .long v1), (5, .int (Int64.toInt32 ((((v1 ^^^ (zlushr v1 (10 : Int32))) ^^^ (zlushr v1 (23 : Int32))) ^^^ (zlushr v1 (36 : Int32))) &&& (1023 : Int64)))), (6, .int (0 : Int32))]) [0, 1, 3, 4] rfl ?_
  exact g1_isNew_28 zfuel _ _ _ _ h
set_option maxRecDepth 20000 in
set_option maxHeartbeats 4000000 in
theorem k_X2_empty {T : List zN} {a0 : Nat} {n0 : Nat} (h0 : zMe T a0 n0) {M : zM} {Mr : zM} (h : f2_empty a0 n0 M = some Mr) : zK T yX2_empty cX2_empty 1 (none) 2 [.ref a0] M none Mr := by
  refine zK_of pl_X2 (Nat.le_of_ble_eq_true rfl) ?_
  show zJ T RX2 cX2_empty 1 _ 0 0 0 [(0, .ref a0)] [] M
  rw [f2_empty] at h
  refine zg_aload_n 0 dX2_empty_0 rfl rfl ?_
  refine zg_iconst dX2_empty_1 zki_0 ?_
  refine zg_puti fp_X2_7 h0.1 rfl dX2_empty_2 ?_
  refine zg_aload_n 0 dX2_empty_5 rfl rfl ?_
  refine zo_getr (a0 + 1) 0 rfl fl_X2_13 h0.1 rfl dX2_empty_6 ?_
  refine zg_lconst dX2_empty_9 (v := 0) rfl ?_
  obtain ⟨M1, hM1, h⟩ := z_bind h
  refine zg_callS (st := []) (k_J7_fill_d0a16 h0.2.1 hM1) zY_J7_fill_d0a16 ls_X2_21 rfl (zfit_m (by decide) (by decide)) (Nat.le_of_ble_eq_true rfl) dX2_empty_10 rfl ?_
  obtain rfl := z_ret1 h
  exact zg_vret dX2_empty_13
set_option maxRecDepth 20000 in
set_option maxHeartbeats 4000000 in
theorem k_X2_put {T : List zN} {a0 : Nat} {n0 : Nat} (h0 : zMe T a0 n0) {v1 : Int32} {v2 : Int64} {v4 : Int32} {M : zM} {Mr : zM} (h : f2_put a0 n0 v1 v2 v4 M = some Mr) : zK T yX2_put cX2_put 5 (none) 0 [.ref a0, .int v1, .long v2, .int v4] M none Mr := by
  refine zK_of pl_X2 (Nat.le_of_ble_eq_true rfl) ?_
  show zJ T RX2 cX2_put 5 _ 0 0 0 [(0, .ref a0), (1, .int v1), (2, .long v2), (4, .int v4)] [] M
  rw [f2_put] at h
  refine zg_iload_n 1 dX2_put_0 rfl rfl ?_
  refine zg_if_lt (tgt := 28) dX2_put_1 (by decide) (fun hc => ?_) (fun hc => ?_)
  · replace h := (if_pos hc).symm.trans h
    obtain rfl := z_ret1 h
    exact zg_vret dX2_put_28
  · replace h := (if_neg hc).symm.trans h
    refine zg_iload_n 1 dX2_put_4 rfl rfl ?_
    refine zg_aload_n 0 dX2_put_5 rfl rfl ?_
    refine zo_getr (a0 + 1) 0 rfl fl_X2_13 h0.1 rfl dX2_put_6 ?_
    refine zg_alen (v := (Int32.ofNat n0)) h0.2.1 (by decide) rfl dX2_put_9 ?_
    refine zg_icmp_ge (tgt := 28) dX2_put_10 (by decide) (fun hc => ?_) (fun hc => ?_)
    · replace h := (if_pos hc).symm.trans h
      obtain rfl := z_ret1 h
      exact zg_vret dX2_put_28
    · replace h := (if_neg hc).symm.trans h
      refine zg_aload_n 0 dX2_put_13 rfl rfl ?_
      refine zo_getr (a0 + 1) 0 rfl fl_X2_13 h0.1 rfl dX2_put_14 ?_
      refine zg_iload_n 1 dX2_put_17 rfl rfl ?_
      refine zg_lload_n 2 dX2_put_18 rfl rfl ?_
      obtain ⟨M1, hM1, h⟩ := z_bind h
      refine zo_last h0.2.1 hM1 dX2_put_19 ?_
      refine zg_aload_n 0 dX2_put_20 rfl rfl ?_
      refine zo_getr (a0 + 2) 1 rfl fl_X2_17 h0.1 rfl dX2_put_21 ?_
      refine zg_iload_n 1 dX2_put_24 rfl rfl ?_
      refine zg_iload 3 dX2_put_25 rfl ?_
      obtain ⟨M2, hM2, h⟩ := z_bind h
      refine zo_iast h0.2.2 hM2 dX2_put_27 ?_
      obtain rfl := z_ret1 h
      exact zg_vret dX2_put_28
set_option maxRecDepth 20000 in
set_option maxHeartbeats 4000000 in
theorem k_X2_holds {T : List zN} {a0 : Nat} {n0 : Nat} (h0 : zMe T a0 n0) {v1 : Int32} {r1 : Int32} {M : zM} (h : f2_holds a0 n0 v1 M = some r1) : zK T yX2_holds cX2_holds 2 (some .boolean) 0 [.ref a0, .int v1] M (some (.int r1)) M := by
  refine zK_of pl_X2 (Nat.le_of_ble_eq_true rfl) ?_
  show zJ T RX2 cX2_holds 2 _ 0 0 0 [(0, .ref a0), (1, .int v1)] [] M
  rw [f2_holds] at h
  refine zg_iload_n 1 dX2_holds_0 rfl rfl ?_
  refine zg_if_lt (tgt := 28) dX2_holds_1 (by decide) (fun hc => ?_) (fun hc => ?_)
  · replace h := (if_pos hc).symm.trans h
    refine zg_iconst dX2_holds_28 zki_0 ?_
    obtain rfl := z_ret1 h
    exact zg_zret rfl dX2_holds_29
  · replace h := (if_neg hc).symm.trans h
    refine zg_iload_n 1 dX2_holds_4 rfl rfl ?_
    refine zg_aload_n 0 dX2_holds_5 rfl rfl ?_
    refine zo_getr (a0 + 1) 0 rfl fl_X2_13 h0.1 rfl dX2_holds_6 ?_
    refine zg_alen (v := (Int32.ofNat n0)) h0.2.1 (by decide) rfl dX2_holds_9 ?_
    refine zg_icmp_ge (tgt := 28) dX2_holds_10 (by decide) (fun hc => ?_) (fun hc => ?_)
    · replace h := (if_pos hc).symm.trans h
      refine zg_iconst dX2_holds_28 zki_0 ?_
      obtain rfl := z_ret1 h
      exact zg_zret rfl dX2_holds_29
    · replace h := (if_neg hc).symm.trans h
      refine zg_aload_n 0 dX2_holds_13 rfl rfl ?_
      refine zo_getr (a0 + 1) 0 rfl fl_X2_13 h0.1 rfl dX2_holds_14 ?_
      refine zg_iload_n 1 dX2_holds_17 rfl rfl ?_
      obtain ⟨x1, hx1, h⟩ := z_bind h
      refine zo_lald h0.2.1 hx1 dX2_holds_18 ?_
      refine zg_lconst dX2_holds_19 (v := 0) rfl ?_
      refine zg_lcmp dX2_holds_20 ?_
      suffices hj : zJ T RX2 cX2_holds 2 (zBm T 0 (some .boolean) (some (.int r1)) M) 0 0 29 [(0, .ref a0), (1, .int v1)] [.int (if (lg_cmp x1 (0 : Int64)) = 0 then (0 : Int32) else (1 : Int32))] M by
        refine zg_if_eq (tgt := 28) dX2_holds_21 (by decide) (fun hc => ?_) (fun hc => ?_)
        · rw [show (if (lg_cmp x1 (0 : Int64)) = 0 then (0 : Int32) else (1 : Int32)) = (0 : Int32) from if_pos hc] at hj
          refine zg_iconst dX2_holds_28 zki_0 ?_
          exact hj
        · rw [show (if (lg_cmp x1 (0 : Int64)) = 0 then (0 : Int32) else (1 : Int32)) = (1 : Int32) from if_neg hc] at hj
          refine zg_iconst dX2_holds_24 zki_1 ?_
          refine zg_goto (tgt := 29) dX2_holds_25 (by decide) ?_
          exact hj
      obtain rfl := z_ret1 h
      exact zg_zret (zn_ite rfl rfl) dX2_holds_29
set_option maxRecDepth 20000 in
set_option maxHeartbeats 4000000 in
theorem k_X3_clear {M : zM} {Mr : zM} (h : f3_clear M = some Mr) : zK ztops yX3_clear cX3_clear 1 (none) 0 [.ref 9] M none Mr := by
  refine zK_of pl_X3 (Nat.le_of_ble_eq_true rfl) ?_
  show zJ ztops RX3 cX3_clear 1 _ 0 0 0 [(0, .ref 9)] [] M
  rw [f3_clear] at h
  refine zg_aload_n 0 dX3_clear_0 rfl rfl ?_
  refine zg_iconst dX3_clear_1 zki_0 ?_
  refine zg_puti fp_X3_15 zt_9 rfl dX3_clear_2 ?_
  obtain rfl := z_ret1 h
  exact zg_vret dX3_clear_5
set_option maxRecDepth 20000 in
set_option maxHeartbeats 4000000 in
theorem k_X3_add {v1 : Int64} {M : zM} {Mr : zM} (h : f3_add v1 M = some Mr) : zK ztops yX3_add cX3_add 3 (none) 0 [.ref 9, .long v1] M none Mr := by
  refine zK_of pl_X3 (Nat.le_of_ble_eq_true rfl) ?_
  show zJ ztops RX3 cX3_add 3 _ 0 0 0 [(0, .ref 9), (1, .long v1)] [] M
  rw [f3_add] at h
  refine zg_aload_n 0 dX3_add_0 rfl rfl ?_
  refine zg_geti fl_X3_15 zt_9 rfl dX3_add_1 ?_
  refine zg_aload_n 0 dX3_add_4 rfl rfl ?_
  refine zo_getr 10 0 rfl fl_X3_9 zt_9 rfl dX3_add_5 ?_
  refine zg_alen (v := (8 : Int32)) zt_10 (by decide) rfl dX3_add_8 ?_
  refine zg_icmp_ge (tgt := 32) dX3_add_9 (by decide) (fun hc => ?_) (fun hc => ?_)
  · replace h := (if_pos hc).symm.trans h
    obtain rfl := z_ret1 h
    exact zg_vret dX3_add_32
  · replace h := (if_neg hc).symm.trans h
    refine zg_aload_n 0 dX3_add_12 rfl rfl ?_
    refine zo_getr 10 0 rfl fl_X3_9 zt_9 rfl dX3_add_13 ?_
    refine zg_aload_n 0 dX3_add_16 rfl rfl ?_
    refine zg_geti fl_X3_15 zt_9 rfl dX3_add_17 ?_
    refine zg_lload_n 1 dX3_add_20 rfl rfl ?_
    obtain ⟨M1, hM1, h⟩ := z_bind h
    refine zo_last zt_10 hM1 dX3_add_21 ?_
    refine zg_aload_n 0 dX3_add_22 rfl rfl ?_
    refine zg_dup dX3_add_23 rfl ?_
    refine zg_geti fl_X3_15 zt_9 rfl dX3_add_24 ?_
    refine zg_iconst dX3_add_27 zki_1 ?_
    refine zg_iadd dX3_add_28 ?_
    refine zg_puti fp_X3_15 zt_9 rfl dX3_add_29 ?_
    obtain rfl := z_ret1 h
    exact zg_vret dX3_add_32
set_option maxRecDepth 20000 in
set_option maxHeartbeats 4000000 in
theorem k_X3_tell {v1 : Int64} {M : zM} {Mr : zM} (h : f3_tell v1 M = some Mr) : zK ztops yX3_tell cX3_tell 3 (none) 2 [.ref 9, .long v1] M none Mr := by
  refine zK_of pl_X3 (Nat.le_of_ble_eq_true rfl) ?_
  show zJ ztops RX3 cX3_tell 3 _ 0 0 0 [(0, .ref 9), (1, .long v1)] [] M
  rw [f3_tell] at h
  refine zg_aload_n 0 dX3_tell_0 rfl rfl ?_
  refine zg_iconst dX3_tell_1 zki_0 ?_
  refine zg_puti fp_X3_15 zt_9 rfl dX3_tell_2 ?_
  refine zg_aload_n 0 dX3_tell_5 rfl rfl ?_
  refine zg_lload_n 1 dX3_tell_6 rfl rfl ?_
  obtain ⟨M1, hM1, h⟩ := z_bind h
  refine zg_callV (st := []) (k_X3_add hM1) zY_X3_add lv_X3_19 rfl zt_9 rfl (zfit_m (by decide) (by decide)) (Nat.le_of_ble_eq_true rfl) dX3_tell_7 rfl ?_
  obtain rfl := z_ret1 h
  exact zg_vret dX3_tell_10
set_option maxRecDepth 20000 in
set_option maxHeartbeats 4000000 in
theorem k_X3_tell_ {v1 : Int64} {v3 : Int64} {M : zM} {Mr : zM} (h : f3_tell_ v1 v3 M = some Mr) : zK ztops yX3_tell_ cX3_tell_ 5 (none) 2 [.ref 9, .long v1, .long v3] M none Mr := by
  refine zK_of pl_X3 (Nat.le_of_ble_eq_true rfl) ?_
  show zJ ztops RX3 cX3_tell_ 5 _ 0 0 0 [(0, .ref 9), (1, .long v1), (3, .long v3)] [] M
  rw [f3_tell_] at h
  refine zg_aload_n 0 dX3_tell__0 rfl rfl ?_
  refine zg_iconst dX3_tell__1 zki_0 ?_
  refine zg_puti fp_X3_15 zt_9 rfl dX3_tell__2 ?_
  refine zg_aload_n 0 dX3_tell__5 rfl rfl ?_
  refine zg_lload_n 1 dX3_tell__6 rfl rfl ?_
  obtain ⟨M1, hM1, h⟩ := z_bind h
  refine zg_callV (st := []) (k_X3_add hM1) zY_X3_add lv_X3_19 rfl zt_9 rfl (zfit_m (by decide) (by decide)) (Nat.le_of_ble_eq_true rfl) dX3_tell__7 rfl ?_
  refine zg_aload_n 0 dX3_tell__10 rfl rfl ?_
  refine zg_lload_n 2 dX3_tell__11 rfl rfl ?_
  obtain ⟨M2, hM2, h⟩ := z_bind h
  refine zg_callV (st := []) (k_X3_add hM2) zY_X3_add lv_X3_19 rfl zt_9 rfl (zfit_m (by decide) (by decide)) (Nat.le_of_ble_eq_true rfl) dX3_tell__12 rfl ?_
  obtain rfl := z_ret1 h
  exact zg_vret dX3_tell__15
set_option maxRecDepth 20000 in
set_option maxHeartbeats 4000000 in
theorem k_X4_become {T : List zN} {a0 : Nat} {a1 : Nat} (h0 : zRu T a0) (h1 : zRu T a1) {M : zM} {Mr : zM} (h : f4_become a0 a1 M = some Mr) : zK T yX4_become cX4_become 2 (none) 2 [.ref a0, .ref a1] M none Mr := by
  refine zK_of pl_X4 (Nat.le_of_ble_eq_true rfl) ?_
  show zJ T RX4 cX4_become 2 _ 0 0 0 [(0, .ref a0), (1, .ref a1)] [] M
  rw [f4_become] at h
  refine zg_aload_n 0 dX4_become_0 rfl rfl ?_
  refine zg_aload_n 1 dX4_become_1 rfl rfl ?_
  refine zg_geti fl_X4_15 h1.1 rfl dX4_become_2 ?_
  refine zg_puti fp_X4_15 h0.1 rfl dX4_become_5 ?_
  refine zg_aload_n 1 dX4_become_8 rfl rfl ?_
  refine zo_getr (a1 + 1) 0 rfl fl_X4_11 h1.1 rfl dX4_become_9 ?_
  refine zg_iconst dX4_become_12 zki_0 ?_
  refine zg_aload_n 0 dX4_become_13 rfl rfl ?_
  refine zo_getr (a0 + 1) 0 rfl fl_X4_11 h0.1 rfl dX4_become_14 ?_
  refine zg_iconst dX4_become_17 zki_0 ?_
  refine zg_bipush dX4_become_18 zkb_40 ?_
  refine zo_copy 40 ls_X4_32 z_nat z_iS h1.2.1 h0.2.1 (by decide) rfl rfl ⟨Nat.le_of_ble_eq_true rfl, Nat.le_of_ble_eq_true rfl⟩ dX4_become_20 ?_
  obtain rfl := z_ret1 h
  exact zg_vret dX4_become_23
set_option maxRecDepth 20000 in
set_option maxHeartbeats 4000000 in
theorem k_X4_isTrait {T : List zN} {v0 : Int32} {r1 : Int32} {M : zM} (h : f4_isTrait v0 = some r1) : zK T yX4_isTrait cX4_isTrait 1 (some .boolean) 0 [.int v0] M (some (.int r1)) M := by
  refine zK_of pl_X4 (Nat.le_of_ble_eq_true rfl) ?_
  show zJ T RX4 cX4_isTrait 1 _ 0 0 0 [(0, .int v0)] [] M
  rw [f4_isTrait] at h
  refine zg_iload_n 0 dX4_isTrait_0 rfl rfl ?_
  by_cases hc1 : v0 = (99 : Int32)
  · replace h := (if_pos hc1).symm.trans h
    refine zg_tableEq (k := 99) (off := 83) (tgt := 84) dX4_isTrait_1 hc1 (by decide) (by decide) (by decide) (by decide) ?_
    refine zg_iconst dX4_isTrait_84 zki_1 ?_
    obtain rfl := z_ret1 h
    exact zg_zret rfl dX4_isTrait_85
  replace h := (if_neg hc1).symm.trans h
  by_cases hc2 : v0 = (100 : Int32)
  · replace h := (if_pos hc2).symm.trans h
    refine zg_tableEq (k := 100) (off := 85) (tgt := 86) dX4_isTrait_1 hc2 (by decide) (by decide) (by decide) (by decide) ?_
    refine zg_iconst dX4_isTrait_86 zki_0 ?_
    obtain rfl := z_ret1 h
    exact zg_zret rfl dX4_isTrait_87
  replace h := (if_neg hc2).symm.trans h
  by_cases hc3 : v0 = (101 : Int32)
  · replace h := (if_pos hc3).symm.trans h
    refine zg_tableEq (k := 101) (off := 83) (tgt := 84) dX4_isTrait_1 hc3 (by decide) (by decide) (by decide) (by decide) ?_
    refine zg_iconst dX4_isTrait_84 zki_1 ?_
    obtain rfl := z_ret1 h
    exact zg_zret rfl dX4_isTrait_85
  replace h := (if_neg hc3).symm.trans h
  by_cases hc4 : v0 = (102 : Int32)
  · replace h := (if_pos hc4).symm.trans h
    refine zg_tableEq (k := 102) (off := 85) (tgt := 86) dX4_isTrait_1 hc4 (by decide) (by decide) (by decide) (by decide) ?_
    refine zg_iconst dX4_isTrait_86 zki_0 ?_
    obtain rfl := z_ret1 h
    exact zg_zret rfl dX4_isTrait_87
  replace h := (if_neg hc4).symm.trans h
  by_cases hc5 : v0 = (103 : Int32)
  · replace h := (if_pos hc5).symm.trans h
    refine zg_tableEq (k := 103) (off := 85) (tgt := 86) dX4_isTrait_1 hc5 (by decide) (by decide) (by decide) (by decide) ?_
    refine zg_iconst dX4_isTrait_86 zki_0 ?_
    obtain rfl := z_ret1 h
    exact zg_zret rfl dX4_isTrait_87
  replace h := (if_neg hc5).symm.trans h
  by_cases hc6 : v0 = (104 : Int32)
  · replace h := (if_pos hc6).symm.trans h
    refine zg_tableEq (k := 104) (off := 85) (tgt := 86) dX4_isTrait_1 hc6 (by decide) (by decide) (by decide) (by decide) ?_
    refine zg_iconst dX4_isTrait_86 zki_0 ?_
    obtain rfl := z_ret1 h
    exact zg_zret rfl dX4_isTrait_87
  replace h := (if_neg hc6).symm.trans h
  by_cases hc7 : v0 = (105 : Int32)
  · replace h := (if_pos hc7).symm.trans h
    refine zg_tableEq (k := 105) (off := 83) (tgt := 84) dX4_isTrait_1 hc7 (by decide) (by decide) (by decide) (by decide) ?_
    refine zg_iconst dX4_isTrait_84 zki_1 ?_
    obtain rfl := z_ret1 h
    exact zg_zret rfl dX4_isTrait_85
  replace h := (if_neg hc7).symm.trans h
  by_cases hc8 : v0 = (106 : Int32)
  · replace h := (if_pos hc8).symm.trans h
    refine zg_tableEq (k := 106) (off := 85) (tgt := 86) dX4_isTrait_1 hc8 (by decide) (by decide) (by decide) (by decide) ?_
    refine zg_iconst dX4_isTrait_86 zki_0 ?_
    obtain rfl := z_ret1 h
    exact zg_zret rfl dX4_isTrait_87
  replace h := (if_neg hc8).symm.trans h
  by_cases hc9 : v0 = (107 : Int32)
  · replace h := (if_pos hc9).symm.trans h
    refine zg_tableEq (k := 107) (off := 83) (tgt := 84) dX4_isTrait_1 hc9 (by decide) (by decide) (by decide) (by decide) ?_
    refine zg_iconst dX4_isTrait_84 zki_1 ?_
    obtain rfl := z_ret1 h
    exact zg_zret rfl dX4_isTrait_85
  replace h := (if_neg hc9).symm.trans h
  by_cases hc10 : v0 = (108 : Int32)
  · replace h := (if_pos hc10).symm.trans h
    refine zg_tableEq (k := 108) (off := 83) (tgt := 84) dX4_isTrait_1 hc10 (by decide) (by decide) (by decide) (by decide) ?_
    refine zg_iconst dX4_isTrait_84 zki_1 ?_
    obtain rfl := z_ret1 h
    exact zg_zret rfl dX4_isTrait_85
  replace h := (if_neg hc10).symm.trans h
  by_cases hc11 : v0 = (109 : Int32)
  · replace h := (if_pos hc11).symm.trans h
    refine zg_tableEq (k := 109) (off := 85) (tgt := 86) dX4_isTrait_1 hc11 (by decide) (by decide) (by decide) (by decide) ?_
    refine zg_iconst dX4_isTrait_86 zki_0 ?_
    obtain rfl := z_ret1 h
    exact zg_zret rfl dX4_isTrait_87
  replace h := (if_neg hc11).symm.trans h
  by_cases hc12 : v0 = (110 : Int32)
  · replace h := (if_pos hc12).symm.trans h
    refine zg_tableEq (k := 110) (off := 83) (tgt := 84) dX4_isTrait_1 hc12 (by decide) (by decide) (by decide) (by decide) ?_
    refine zg_iconst dX4_isTrait_84 zki_1 ?_
    obtain rfl := z_ret1 h
    exact zg_zret rfl dX4_isTrait_85
  replace h := (if_neg hc12).symm.trans h
  by_cases hc13 : v0 = (111 : Int32)
  · replace h := (if_pos hc13).symm.trans h
    refine zg_tableEq (k := 111) (off := 83) (tgt := 84) dX4_isTrait_1 hc13 (by decide) (by decide) (by decide) (by decide) ?_
    refine zg_iconst dX4_isTrait_84 zki_1 ?_
    obtain rfl := z_ret1 h
    exact zg_zret rfl dX4_isTrait_85
  replace h := (if_neg hc13).symm.trans h
  by_cases hc14 : v0 = (112 : Int32)
  · replace h := (if_pos hc14).symm.trans h
    refine zg_tableEq (k := 112) (off := 85) (tgt := 86) dX4_isTrait_1 hc14 (by decide) (by decide) (by decide) (by decide) ?_
    refine zg_iconst dX4_isTrait_86 zki_0 ?_
    obtain rfl := z_ret1 h
    exact zg_zret rfl dX4_isTrait_87
  replace h := (if_neg hc14).symm.trans h
  by_cases hc15 : v0 = (113 : Int32)
  · replace h := (if_pos hc15).symm.trans h
    refine zg_tableEq (k := 113) (off := 85) (tgt := 86) dX4_isTrait_1 hc15 (by decide) (by decide) (by decide) (by decide) ?_
    refine zg_iconst dX4_isTrait_86 zki_0 ?_
    obtain rfl := z_ret1 h
    exact zg_zret rfl dX4_isTrait_87
  replace h := (if_neg hc15).symm.trans h
  by_cases hc16 : v0 = (114 : Int32)
  · replace h := (if_pos hc16).symm.trans h
    refine zg_tableEq (k := 114) (off := 85) (tgt := 86) dX4_isTrait_1 hc16 (by decide) (by decide) (by decide) (by decide) ?_
    refine zg_iconst dX4_isTrait_86 zki_0 ?_
    obtain rfl := z_ret1 h
    exact zg_zret rfl dX4_isTrait_87
  replace h := (if_neg hc16).symm.trans h
  by_cases hc17 : v0 = (115 : Int32)
  · replace h := (if_pos hc17).symm.trans h
    refine zg_tableEq (k := 115) (off := 83) (tgt := 84) dX4_isTrait_1 hc17 (by decide) (by decide) (by decide) (by decide) ?_
    refine zg_iconst dX4_isTrait_84 zki_1 ?_
    obtain rfl := z_ret1 h
    exact zg_zret rfl dX4_isTrait_85
  replace h := (if_neg hc17).symm.trans h
  refine zg_tableOut (tgt := 86) dX4_isTrait_1 (z_tout 17 (fun j hj => by match j, hj with | 0, _ => exact hc1 | 1, _ => exact hc2 | 2, _ => exact hc3 | 3, _ => exact hc4 | 4, _ => exact hc5 | 5, _ => exact hc6 | 6, _ => exact hc7 | 7, _ => exact hc8 | 8, _ => exact hc9 | 9, _ => exact hc10 | 10, _ => exact hc11 | 11, _ => exact hc12 | 12, _ => exact hc13 | 13, _ => exact hc14 | 14, _ => exact hc15 | 15, _ => exact hc16 | 16, _ => exact hc17 | j + 17, hj => exact absurd hj (by omega)) (by decide)) (by decide) ?_
  refine zg_iconst dX4_isTrait_86 zki_0 ?_
  obtain rfl := z_ret1 h
  exact zg_zret rfl dX4_isTrait_87
set_option maxRecDepth 20000 in
set_option maxHeartbeats 4000000 in
theorem k_X4_bindingOf {T : List zN} {v0 : Int32} {r1 : Int32} {M : zM} (h : f4_bindingOf v0 = some r1) : zK T yX4_bindingOf cX4_bindingOf 1 (some .int) 0 [.int v0] M (some (.int r1)) M := by
  refine zK_of pl_X4 (Nat.le_of_ble_eq_true rfl) ?_
  show zJ T RX4 cX4_bindingOf 1 _ 0 0 0 [(0, .int v0)] [] M
  rw [f4_bindingOf] at h
  refine zg_iload_n 0 dX4_bindingOf_0 rfl rfl ?_
  by_cases hc1 : v0 = (1042 : Int32)
  · replace h := (if_pos hc1).symm.trans h
    refine zg_lookEq (k := 1042) (off := 79) (tgt := 80) dX4_bindingOf_1 (by decide) hc1 (by decide) (by decide) ?_
    refine zg_iconst dX4_bindingOf_80 zki_3 ?_
    obtain rfl := z_ret1 h
    exact zg_iret dX4_bindingOf_81
  replace h := (if_neg hc1).symm.trans h
  by_cases hc2 : v0 = (1043 : Int32)
  · replace h := (if_pos hc2).symm.trans h
    refine zg_lookEq (k := 1043) (off := 77) (tgt := 78) dX4_bindingOf_1 (by decide) hc2 (by decide) (by decide) ?_
    refine zg_iconst dX4_bindingOf_78 zki_2 ?_
    obtain rfl := z_ret1 h
    exact zg_iret dX4_bindingOf_79
  replace h := (if_neg hc2).symm.trans h
  by_cases hc3 : v0 = (1045 : Int32)
  · replace h := (if_pos hc3).symm.trans h
    refine zg_lookEq (k := 1045) (off := 77) (tgt := 78) dX4_bindingOf_1 (by decide) hc3 (by decide) (by decide) ?_
    refine zg_iconst dX4_bindingOf_78 zki_2 ?_
    obtain rfl := z_ret1 h
    exact zg_iret dX4_bindingOf_79
  replace h := (if_neg hc3).symm.trans h
  by_cases hc4 : v0 = (1047 : Int32)
  · replace h := (if_pos hc4).symm.trans h
    refine zg_lookEq (k := 1047) (off := 79) (tgt := 80) dX4_bindingOf_1 (by decide) hc4 (by decide) (by decide) ?_
    refine zg_iconst dX4_bindingOf_80 zki_3 ?_
    obtain rfl := z_ret1 h
    exact zg_iret dX4_bindingOf_81
  replace h := (if_neg hc4).symm.trans h
  by_cases hc5 : v0 = (1060 : Int32)
  · replace h := (if_pos hc5).symm.trans h
    refine zg_lookEq (k := 1060) (off := 75) (tgt := 76) dX4_bindingOf_1 (by decide) hc5 (by decide) (by decide) ?_
    refine zg_iconst dX4_bindingOf_76 zki_1 ?_
    obtain rfl := z_ret1 h
    exact zg_iret dX4_bindingOf_77
  replace h := (if_neg hc5).symm.trans h
  by_cases hc6 : v0 = (1061 : Int32)
  · replace h := (if_pos hc6).symm.trans h
    refine zg_lookEq (k := 1061) (off := 75) (tgt := 76) dX4_bindingOf_1 (by decide) hc6 (by decide) (by decide) ?_
    refine zg_iconst dX4_bindingOf_76 zki_1 ?_
    obtain rfl := z_ret1 h
    exact zg_iret dX4_bindingOf_77
  replace h := (if_neg hc6).symm.trans h
  by_cases hc7 : v0 = (1062 : Int32)
  · replace h := (if_pos hc7).symm.trans h
    refine zg_lookEq (k := 1062) (off := 75) (tgt := 76) dX4_bindingOf_1 (by decide) hc7 (by decide) (by decide) ?_
    refine zg_iconst dX4_bindingOf_76 zki_1 ?_
    obtain rfl := z_ret1 h
    exact zg_iret dX4_bindingOf_77
  replace h := (if_neg hc7).symm.trans h
  by_cases hc8 : v0 = (1256 : Int32)
  · replace h := (if_pos hc8).symm.trans h
    refine zg_lookEq (k := 1256) (off := 81) (tgt := 82) dX4_bindingOf_1 (by decide) hc8 (by decide) (by decide) ?_
    refine zg_iconst dX4_bindingOf_82 zki_4 ?_
    obtain rfl := z_ret1 h
    exact zg_iret dX4_bindingOf_83
  replace h := (if_neg hc8).symm.trans h
  refine zg_lookup (off := 83) (tgt := 84) dX4_bindingOf_1 (by decide) ((lv_osw hc1 (by decide)).trans ((lv_osw hc2 (by decide)).trans ((lv_osw hc3 (by decide)).trans ((lv_osw hc4 (by decide)).trans ((lv_osw hc5 (by decide)).trans ((lv_osw hc6 (by decide)).trans ((lv_osw hc7 (by decide)).trans ((lv_osw hc8 (by decide)).trans (rfl))))))))) (by decide) ?_
  refine zg_iconst dX4_bindingOf_84 zki_0 ?_
  obtain rfl := z_ret1 h
  exact zg_iret dX4_bindingOf_85
set_option maxRecDepth 20000 in
set_option maxHeartbeats 4000000 in
theorem k_X4_emit {T : List zN} {a0 : Nat} (h0 : zRu T a0) {v1 : Int32} {M : zM} {Mr : zM} (h : f4_emit a0 v1 M = some Mr) : zK T yX4_emit cX4_emit 2 (none) 0 [.ref a0, .int v1] M none Mr := by
  refine zK_of pl_X4 (Nat.le_of_ble_eq_true rfl) ?_
  show zJ T RX4 cX4_emit 2 _ 0 0 0 [(0, .ref a0), (1, .int v1)] [] M
  rw [f4_emit] at h
  refine zg_aload_n 0 dX4_emit_0 rfl rfl ?_
  refine zg_geti fl_X4_15 h0.1 rfl dX4_emit_1 ?_
  refine zg_aload_n 0 dX4_emit_4 rfl rfl ?_
  refine zo_getr (a0 + 1) 0 rfl fl_X4_11 h0.1 rfl dX4_emit_5 ?_
  refine zg_alen (v := (40 : Int32)) h0.2.1 (by decide) rfl dX4_emit_8 ?_
  refine zg_icmp_ge (tgt := 32) dX4_emit_9 (by decide) (fun hc => ?_) (fun hc => ?_)
  · replace h := (if_pos hc).symm.trans h
    obtain rfl := z_ret1 h
    exact zg_vret dX4_emit_32
  · replace h := (if_neg hc).symm.trans h
    refine zg_aload_n 0 dX4_emit_12 rfl rfl ?_
    refine zo_getr (a0 + 1) 0 rfl fl_X4_11 h0.1 rfl dX4_emit_13 ?_
    refine zg_aload_n 0 dX4_emit_16 rfl rfl ?_
    refine zg_geti fl_X4_15 h0.1 rfl dX4_emit_17 ?_
    refine zg_iload_n 1 dX4_emit_20 rfl rfl ?_
    obtain ⟨M1, hM1, h⟩ := z_bind h
    refine zo_iast h0.2.1 hM1 dX4_emit_21 ?_
    refine zg_aload_n 0 dX4_emit_22 rfl rfl ?_
    refine zg_dup dX4_emit_23 rfl ?_
    refine zg_geti fl_X4_15 h0.1 rfl dX4_emit_24 ?_
    refine zg_iconst dX4_emit_27 zki_1 ?_
    refine zg_iadd dX4_emit_28 ?_
    refine zg_puti fp_X4_15 h0.1 rfl dX4_emit_29 ?_
    obtain rfl := z_ret1 h
    exact zg_vret dX4_emit_32
set_option maxRecDepth 20000 in
set_option maxHeartbeats 4000000 in
theorem k_X4_hold {T : List zN} {a0 : Nat} (h0 : zRu T a0) {v1 : Int32} {M : zM} {Mr : zM} (h : f4_hold a0 v1 M = some Mr) : zK T yX4_hold cX4_hold 2 (none) 0 [.ref a0, .int v1] M none Mr := by
  refine zK_of pl_X4 (Nat.le_of_ble_eq_true rfl) ?_
  show zJ T RX4 cX4_hold 2 _ 0 0 0 [(0, .ref a0), (1, .int v1)] [] M
  rw [f4_hold] at h
  refine zg_aload_n 0 dX4_hold_0 rfl rfl ?_
  refine zg_geti fl_X4_38 h0.1 rfl dX4_hold_1 ?_
  refine zg_aload_n 0 dX4_hold_4 rfl rfl ?_
  refine zo_getr (a0 + 2) 1 rfl fl_X4_19 h0.1 rfl dX4_hold_5 ?_
  refine zg_alen (v := (40 : Int32)) h0.2.2.1 (by decide) rfl dX4_hold_8 ?_
  refine zg_icmp_ge (tgt := 32) dX4_hold_9 (by decide) (fun hc => ?_) (fun hc => ?_)
  · replace h := (if_pos hc).symm.trans h
    obtain rfl := z_ret1 h
    exact zg_vret dX4_hold_32
  · replace h := (if_neg hc).symm.trans h
    refine zg_aload_n 0 dX4_hold_12 rfl rfl ?_
    refine zo_getr (a0 + 2) 1 rfl fl_X4_19 h0.1 rfl dX4_hold_13 ?_
    refine zg_aload_n 0 dX4_hold_16 rfl rfl ?_
    refine zg_geti fl_X4_38 h0.1 rfl dX4_hold_17 ?_
    refine zg_iload_n 1 dX4_hold_20 rfl rfl ?_
    obtain ⟨M1, hM1, h⟩ := z_bind h
    refine zo_iast h0.2.2.1 hM1 dX4_hold_21 ?_
    refine zg_aload_n 0 dX4_hold_22 rfl rfl ?_
    refine zg_dup dX4_hold_23 rfl ?_
    refine zg_geti fl_X4_38 h0.1 rfl dX4_hold_24 ?_
    refine zg_iconst dX4_hold_27 zki_1 ?_
    refine zg_iadd dX4_hold_28 ?_
    refine zg_puti fp_X4_38 h0.1 rfl dX4_hold_29 ?_
    obtain rfl := z_ret1 h
    exact zg_vret dX4_hold_32
set_option maxRecDepth 20000 in
set_option maxHeartbeats 4000000 in
theorem g4_release_0 {T : List zN} {a0 : Nat} (h0 : zRu T a0) {Mr : zM} : ∀ (n : Nat) (v1 : Int32) (M : zM), f4_release_0 a0 n v1 M = some Mr → zJ T RX4 cX4_release 2 (zBm T 2 (none) none Mr) 0 0 0 [(0, .ref a0), (1, .int v1)] [] M := by
  intro n
  induction n with
  | zero => intro v1 M h; cases h
  | succ n ih =>
    intro v1 M h
    rw [f4_release_0] at h
    refine zg_aload_n 0 dX4_release_0 rfl rfl ?_
    refine zg_geti fl_X4_38 h0.1 rfl dX4_release_1 ?_
    refine zg_if_le (tgt := 51) dX4_release_4 (by decide) (fun hc => ?_) (fun hc => ?_)
    · replace h := (if_pos hc).symm.trans h
      obtain rfl := z_ret1 h
      exact zg_vret dX4_release_51
    · replace h := (if_neg hc).symm.trans h
      refine zg_aload_n 0 dX4_release_7 rfl rfl ?_
      refine zo_getr (a0 + 2) 1 rfl fl_X4_19 h0.1 rfl dX4_release_8 ?_
      refine zg_aload_n 0 dX4_release_11 rfl rfl ?_
      refine zg_geti fl_X4_38 h0.1 rfl dX4_release_12 ?_
      refine zg_iconst dX4_release_15 zki_1 ?_
      refine zg_isub dX4_release_16 ?_
      obtain ⟨x1, hx1, h⟩ := z_bind h
      refine zo_iald h0.2.2.1 hx1 dX4_release_17 ?_
      obtain ⟨x2, hx2, h⟩ := z_bind h
      refine zg_callS (st := []) (k_X4_bindingOf hx2) zY_X4_bindingOf ls_X4_84 rfl (zfit_m (by decide) (by decide)) (Nat.le_of_ble_eq_true rfl) dX4_release_18 rfl ?_
      refine zg_iload_n 1 dX4_release_21 rfl rfl ?_
      refine zg_icmp_lt (tgt := 51) dX4_release_22 (by decide) (fun hc => ?_) (fun hc => ?_)
      · replace h := (if_pos hc).symm.trans h
        obtain rfl := z_ret1 h
        exact zg_vret dX4_release_51
      · replace h := (if_neg hc).symm.trans h
        refine zg_aload_n 0 dX4_release_25 rfl rfl ?_
        refine zg_dup dX4_release_26 rfl ?_
        refine zg_geti fl_X4_38 h0.1 rfl dX4_release_27 ?_
        refine zg_iconst dX4_release_30 zki_1 ?_
        refine zg_isub dX4_release_31 ?_
        refine zg_puti fp_X4_38 h0.1 rfl dX4_release_32 ?_
        refine zg_aload_n 0 dX4_release_35 rfl rfl ?_
        refine zg_aload_n 0 dX4_release_36 rfl rfl ?_
        refine zo_getr (a0 + 2) 1 rfl fl_X4_19 h0.1 rfl dX4_release_37 ?_
        refine zg_aload_n 0 dX4_release_40 rfl rfl ?_
        refine zg_geti fl_X4_38 h0.1 rfl dX4_release_41 ?_
        obtain ⟨x3, hx3, h⟩ := z_bind h
        refine zo_iald h0.2.2.1 hx3 dX4_release_44 ?_
        obtain ⟨M4, hM4, h⟩ := z_bind h
        refine zg_callV (st := []) (k_X4_emit h0 hM4) zY_X4_emit lv_X4_72 rfl h0.1 rfl (zfit_m (by decide) (by decide)) (Nat.le_of_ble_eq_true rfl) dX4_release_45 rfl ?_
        refine zg_goto (tgt := 0) dX4_release_48 (by decide) ?_
        exact ih _ _ h
set_option maxRecDepth 20000 in
set_option maxHeartbeats 4000000 in
theorem k_X4_release {T : List zN} {a0 : Nat} (h0 : zRu T a0) {v1 : Int32} {M : zM} {Mr : zM} (h : f4_release a0 v1 M = some Mr) : zK T yX4_release cX4_release 2 (none) 2 [.ref a0, .int v1] M none Mr := by
  refine zK_of pl_X4 (Nat.le_of_ble_eq_true rfl) ?_
  show zJ T RX4 cX4_release 2 _ 0 0 0 [(0, .ref a0), (1, .int v1)] [] M
  rw [f4_release] at h
  exact g4_release_0 h0 zfuel _ _ h
set_option maxRecDepth 20000 in
set_option maxHeartbeats 4000000 in
theorem k_X4_joined {T : List zN} {v0 : Int32} {v1 : Int32} {v2 : Int32} {r1 : Int32} {M : zM} (h : f4_joined v0 v1 v2 = some r1) : zK T yX4_joined cX4_joined 3 (some .int) 0 [.int v0, .int v1, .int v2] M (some (.int r1)) M := by
  refine zK_of pl_X4 (Nat.le_of_ble_eq_true rfl) ?_
  show zJ T RX4 cX4_joined 3 _ 0 0 0 [(0, .int v0), (1, .int v1), (2, .int v2)] [] M
  rw [f4_joined] at h
  refine zg_iload_n 0 dX4_joined_0 rfl rfl ?_
  by_cases hc1 : v0 = (42 : Int32)
  · replace h := (if_pos hc1).symm.trans h
    refine zg_lookEq (k := 42) (off := 100) (tgt := 101) dX4_joined_1 (by decide) hc1 (by decide) (by decide) ?_
    refine zg_iload_n 1 dX4_joined_101 rfl rfl ?_
    refine zg_iload_n 2 dX4_joined_102 rfl rfl ?_
    refine zg_imul dX4_joined_103 ?_
    obtain rfl := z_ret1 h
    exact zg_iret dX4_joined_104
  replace h := (if_neg hc1).symm.trans h
  by_cases hc2 : v0 = (43 : Int32)
  · replace h := (if_pos hc2).symm.trans h
    refine zg_lookEq (k := 43) (off := 92) (tgt := 93) dX4_joined_1 (by decide) hc2 (by decide) (by decide) ?_
    refine zg_iload_n 1 dX4_joined_93 rfl rfl ?_
    refine zg_iload_n 2 dX4_joined_94 rfl rfl ?_
    refine zg_iadd dX4_joined_95 ?_
    obtain rfl := z_ret1 h
    exact zg_iret dX4_joined_96
  replace h := (if_neg hc2).symm.trans h
  by_cases hc3 : v0 = (45 : Int32)
  · replace h := (if_pos hc3).symm.trans h
    refine zg_lookEq (k := 45) (off := 96) (tgt := 97) dX4_joined_1 (by decide) hc3 (by decide) (by decide) ?_
    refine zg_iload_n 1 dX4_joined_97 rfl rfl ?_
    refine zg_iload_n 2 dX4_joined_98 rfl rfl ?_
    refine zg_isub dX4_joined_99 ?_
    obtain rfl := z_ret1 h
    exact zg_iret dX4_joined_100
  replace h := (if_neg hc3).symm.trans h
  by_cases hc4 : v0 = (60 : Int32)
  · replace h := (if_pos hc4).symm.trans h
    refine zg_lookEq (k := 60) (off := 59) (tgt := 60) dX4_joined_1 (by decide) hc4 (by decide) (by decide) ?_
    refine zg_iload_n 1 dX4_joined_60 rfl rfl ?_
    refine zg_iload_n 2 dX4_joined_61 rfl rfl ?_
    suffices hj : zJ T RX4 cX4_joined 3 (zBm T 0 (some .int) (some (.int r1)) M) 0 0 70 [(0, .int v0), (1, .int v1), (2, .int v2)] [.int (if v2 ≤ v1 then (0 : Int32) else (1 : Int32))] M by
      refine zg_icmp_ge (tgt := 69) dX4_joined_62 (by decide) (fun hc => ?_) (fun hc => ?_)
      · rw [show (if v2 ≤ v1 then (0 : Int32) else (1 : Int32)) = (0 : Int32) from if_pos hc] at hj
        refine zg_iconst dX4_joined_69 zki_0 ?_
        exact hj
      · rw [show (if v2 ≤ v1 then (0 : Int32) else (1 : Int32)) = (1 : Int32) from if_neg hc] at hj
        refine zg_iconst dX4_joined_65 zki_1 ?_
        refine zg_goto (tgt := 70) dX4_joined_66 (by decide) ?_
        exact hj
    obtain rfl := z_ret1 h
    exact zg_iret dX4_joined_70
  replace h := (if_neg hc4).symm.trans h
  by_cases hc5 : v0 = (61 : Int32)
  · replace h := (if_pos hc5).symm.trans h
    refine zg_lookEq (k := 61) (off := 81) (tgt := 82) dX4_joined_1 (by decide) hc5 (by decide) (by decide) ?_
    refine zg_iload_n 1 dX4_joined_82 rfl rfl ?_
    refine zg_iload_n 2 dX4_joined_83 rfl rfl ?_
    suffices hj : zJ T RX4 cX4_joined 3 (zBm T 0 (some .int) (some (.int r1)) M) 0 0 92 [(0, .int v0), (1, .int v1), (2, .int v2)] [.int (if v1 = v2 then (1 : Int32) else (0 : Int32))] M by
      refine zg_icmp_ne (tgt := 91) dX4_joined_84 (by decide) (fun hc => ?_) (fun hc => ?_)
      · rw [show (if v1 = v2 then (1 : Int32) else (0 : Int32)) = (0 : Int32) from if_neg hc] at hj
        refine zg_iconst dX4_joined_91 zki_0 ?_
        exact hj
      · rw [show (if v1 = v2 then (1 : Int32) else (0 : Int32)) = (1 : Int32) from if_pos hc] at hj
        refine zg_iconst dX4_joined_87 zki_1 ?_
        refine zg_goto (tgt := 92) dX4_joined_88 (by decide) ?_
        exact hj
    obtain rfl := z_ret1 h
    exact zg_iret dX4_joined_92
  replace h := (if_neg hc5).symm.trans h
  by_cases hc6 : v0 = (62 : Int32)
  · replace h := (if_pos hc6).symm.trans h
    refine zg_lookEq (k := 62) (off := 70) (tgt := 71) dX4_joined_1 (by decide) hc6 (by decide) (by decide) ?_
    refine zg_iload_n 1 dX4_joined_71 rfl rfl ?_
    refine zg_iload_n 2 dX4_joined_72 rfl rfl ?_
    suffices hj : zJ T RX4 cX4_joined 3 (zBm T 0 (some .int) (some (.int r1)) M) 0 0 81 [(0, .int v0), (1, .int v1), (2, .int v2)] [.int (if v1 ≤ v2 then (0 : Int32) else (1 : Int32))] M by
      refine zg_icmp_le (tgt := 80) dX4_joined_73 (by decide) (fun hc => ?_) (fun hc => ?_)
      · rw [show (if v1 ≤ v2 then (0 : Int32) else (1 : Int32)) = (0 : Int32) from if_pos hc] at hj
        refine zg_iconst dX4_joined_80 zki_0 ?_
        exact hj
      · rw [show (if v1 ≤ v2 then (0 : Int32) else (1 : Int32)) = (1 : Int32) from if_neg hc] at hj
        refine zg_iconst dX4_joined_76 zki_1 ?_
        refine zg_goto (tgt := 81) dX4_joined_77 (by decide) ?_
        exact hj
    obtain rfl := z_ret1 h
    exact zg_iret dX4_joined_81
  replace h := (if_neg hc6).symm.trans h
  refine zg_lookup (off := 104) (tgt := 105) dX4_joined_1 (by decide) ((lv_osw hc1 (by decide)).trans ((lv_osw hc2 (by decide)).trans ((lv_osw hc3 (by decide)).trans ((lv_osw hc4 (by decide)).trans ((lv_osw hc5 (by decide)).trans ((lv_osw hc6 (by decide)).trans (rfl))))))) (by decide) ?_
  refine zg_iload_n 2 dX4_joined_105 rfl rfl ?_
  refine zg_if_ne (tgt := 113) dX4_joined_106 (by decide) (fun hc => ?_) (fun hc => ?_)
  · replace h := (if_neg hc).symm.trans h
    refine zg_iload_n 1 dX4_joined_113 rfl rfl ?_
    refine zg_iload_n 2 dX4_joined_114 rfl rfl ?_
    obtain ⟨x1, hx1, h⟩ := z_bind h
    refine zo_idiv hx1 dX4_joined_115 ?_
    obtain rfl := z_ret1 h
    exact zg_iret dX4_joined_116
  · replace h := (if_pos hc).symm.trans h
    refine zg_iconst dX4_joined_109 zki_0 ?_
    refine zg_goto (tgt := 116) dX4_joined_110 (by decide) ?_
    obtain rfl := z_ret1 h
    exact zg_iret dX4_joined_116
