/-! the world as it stands behind the constructors; the words of links, by their places -/
def ztops : List zN := [.inr (8, [3, 5, 7, 9, 11, 13, 18, 23, 29, 32, 35, 38, 0]), .inr (7, [0, 0, 0, 3]), .inl (0, 12), .inr (7, [0, 0, 0, 3]), .inl (0, 12), .inr (7, [0, 0, 0, 3]), .inl (0, 12), .inr (6, [3, 0]), .inl (0, 80), .inr (3, [3, 0]), .inl (1, 8), .inr (4, [3, 0, 4, 0, 5, 0, 0, 0, 6]), .inl (0, 40), .inl (0, 40), .inl (2, 5), .inl (0, 40), .inr (4, [3, 0, 4, 0, 5, 0, 0, 0, 6]), .inl (0, 40), .inl (0, 40), .inl (2, 5), .inl (0, 40), .inr (0, [3, 4, 5, 6, 7, 1]), .inl (0, 12), .inl (0, 12), .inl (1, 64), .inl (1, 64), .inl (0, 13), .inr (1, [3, 0, 4]), .inl (0, 6), .inl (1, 1024), .inr (5, [3, 4, 0]), .inl (0, 12), .inl (0, 12), .inr (2, [3, 4, 0]), .inl (1, 15), .inl (0, 15), .inr (2, [3, 4, 0]), .inl (1, 3), .inl (0, 3), .inr (9, [0, 0, 3, 4, 5, 0, 6, 0, 0, 0, 0, 7, 8, 9, 0, 0, 10, 11, 0, 12, 13, 14, 15, 16, 0, 17, 18, 19, 20, 21, 0, 22, 0, 23, 24, 25, 26, 0, 27, 28, 29]), .inl (1, 24), .inl (0, 9), .inl (0, 9), .inl (0, 80), .inl (0, 9), .inl (0, 80), .inl (0, 80), .inl (0, 80), .inl (0, 8), .inl (0, 144), .inl (0, 60), .inl (0, 60), .inl (0, 60), .inl (0, 60), .inl (0, 12), .inl (0, 12), .inl (2, 4096), .inl (1, 500), .inl (0, 4096), .inl (2, 4096), .inl (0, 12), .inl (0, 12), .inl (0, 80), .inl (0, 10), .inl (2, 3), .inl (0, 3), .inl (0, 27), .inl (1, 1)]
theorem zt_0 : ztops[0]? = some (.inr (8, [3, 5, 7, 9, 11, 13, 18, 23, 29, 32, 35, 38, 0])) := rfl
theorem zt_1 : ztops[1]? = some (.inr (7, [0, 0, 0, 3])) := rfl
theorem zt_2 : ztops[2]? = some (.inl (0, 12)) := rfl
theorem zt_3 : ztops[3]? = some (.inr (7, [0, 0, 0, 3])) := rfl
theorem zt_4 : ztops[4]? = some (.inl (0, 12)) := rfl
theorem zt_5 : ztops[5]? = some (.inr (7, [0, 0, 0, 3])) := rfl
theorem zt_6 : ztops[6]? = some (.inl (0, 12)) := rfl
theorem zt_7 : ztops[7]? = some (.inr (6, [3, 0])) := rfl
theorem zt_8 : ztops[8]? = some (.inl (0, 80)) := rfl
theorem zt_9 : ztops[9]? = some (.inr (3, [3, 0])) := rfl
theorem zt_10 : ztops[10]? = some (.inl (1, 8)) := rfl
theorem zt_11 : ztops[11]? = some (.inr (4, [3, 0, 4, 0, 5, 0, 0, 0, 6])) := rfl
theorem zt_12 : ztops[12]? = some (.inl (0, 40)) := rfl
theorem zt_13 : ztops[13]? = some (.inl (0, 40)) := rfl
theorem zt_14 : ztops[14]? = some (.inl (2, 5)) := rfl
theorem zt_15 : ztops[15]? = some (.inl (0, 40)) := rfl
theorem zt_16 : ztops[16]? = some (.inr (4, [3, 0, 4, 0, 5, 0, 0, 0, 6])) := rfl
theorem zt_17 : ztops[17]? = some (.inl (0, 40)) := rfl
theorem zt_18 : ztops[18]? = some (.inl (0, 40)) := rfl
theorem zt_19 : ztops[19]? = some (.inl (2, 5)) := rfl
theorem zt_20 : ztops[20]? = some (.inl (0, 40)) := rfl
theorem zt_21 : ztops[21]? = some (.inr (0, [3, 4, 5, 6, 7, 1])) := rfl
theorem zt_22 : ztops[22]? = some (.inl (0, 12)) := rfl
theorem zt_23 : ztops[23]? = some (.inl (0, 12)) := rfl
theorem zt_24 : ztops[24]? = some (.inl (1, 64)) := rfl
theorem zt_25 : ztops[25]? = some (.inl (1, 64)) := rfl
theorem zt_26 : ztops[26]? = some (.inl (0, 13)) := rfl
theorem zt_27 : ztops[27]? = some (.inr (1, [3, 0, 4])) := rfl
theorem zt_28 : ztops[28]? = some (.inl (0, 6)) := rfl
theorem zt_29 : ztops[29]? = some (.inl (1, 1024)) := rfl
theorem zt_30 : ztops[30]? = some (.inr (5, [3, 4, 0])) := rfl
theorem zt_31 : ztops[31]? = some (.inl (0, 12)) := rfl
theorem zt_32 : ztops[32]? = some (.inl (0, 12)) := rfl
theorem zt_33 : ztops[33]? = some (.inr (2, [3, 4, 0])) := rfl
theorem zt_34 : ztops[34]? = some (.inl (1, 15)) := rfl
theorem zt_35 : ztops[35]? = some (.inl (0, 15)) := rfl
theorem zt_36 : ztops[36]? = some (.inr (2, [3, 4, 0])) := rfl
theorem zt_37 : ztops[37]? = some (.inl (1, 3)) := rfl
theorem zt_38 : ztops[38]? = some (.inl (0, 3)) := rfl
theorem zt_39 : ztops[39]? = some (.inr (9, [0, 0, 3, 4, 5, 0, 6, 0, 0, 0, 0, 7, 8, 9, 0, 0, 10, 11, 0, 12, 13, 14, 15, 16, 0, 17, 18, 19, 20, 21, 0, 22, 0, 23, 24, 25, 26, 0, 27, 28, 29])) := rfl
theorem zt_40 : ztops[40]? = some (.inl (1, 24)) := rfl
theorem zt_41 : ztops[41]? = some (.inl (0, 9)) := rfl
theorem zt_42 : ztops[42]? = some (.inl (0, 9)) := rfl
theorem zt_43 : ztops[43]? = some (.inl (0, 80)) := rfl
theorem zt_44 : ztops[44]? = some (.inl (0, 9)) := rfl
theorem zt_45 : ztops[45]? = some (.inl (0, 80)) := rfl
theorem zt_46 : ztops[46]? = some (.inl (0, 80)) := rfl
theorem zt_47 : ztops[47]? = some (.inl (0, 80)) := rfl
theorem zt_48 : ztops[48]? = some (.inl (0, 8)) := rfl
theorem zt_49 : ztops[49]? = some (.inl (0, 144)) := rfl
theorem zt_50 : ztops[50]? = some (.inl (0, 60)) := rfl
theorem zt_51 : ztops[51]? = some (.inl (0, 60)) := rfl
theorem zt_52 : ztops[52]? = some (.inl (0, 60)) := rfl
theorem zt_53 : ztops[53]? = some (.inl (0, 60)) := rfl
theorem zt_54 : ztops[54]? = some (.inl (0, 12)) := rfl
theorem zt_55 : ztops[55]? = some (.inl (0, 12)) := rfl
theorem zt_56 : ztops[56]? = some (.inl (2, 4096)) := rfl
theorem zt_57 : ztops[57]? = some (.inl (1, 500)) := rfl
theorem zt_58 : ztops[58]? = some (.inl (0, 4096)) := rfl
theorem zt_59 : ztops[59]? = some (.inl (2, 4096)) := rfl
theorem zt_60 : ztops[60]? = some (.inl (0, 12)) := rfl
theorem zt_61 : ztops[61]? = some (.inl (0, 12)) := rfl
theorem zt_62 : ztops[62]? = some (.inl (0, 80)) := rfl
theorem zt_63 : ztops[63]? = some (.inl (0, 10)) := rfl
theorem zt_64 : ztops[64]? = some (.inl (2, 3)) := rfl
theorem zt_65 : ztops[65]? = some (.inl (0, 3)) := rfl
theorem zt_66 : ztops[66]? = some (.inl (0, 27)) := rfl
theorem zt_67 : ztops[67]? = some (.inl (1, 1)) := rfl
def zWv (T : List zN) (w : Nat) : Prop := T[w]? = some (.inr (7, [0, 0, 0, 3])) ∧ T[w + 1]? = some (.inl (0, 12))
def zRu (T : List zN) (r : Nat) : Prop := T[r]? = some (.inr (4, [3, 0, 4, 0, 5, 0, 0, 0, 6])) ∧ T[r + 1]? = some (.inl (0, 40)) ∧ T[r + 2]? = some (.inl (0, 40)) ∧ T[r + 3]? = some (.inl (2, 5)) ∧ T[r + 4]? = some (.inl (0, 40))
def zMe (T : List zN) (m n : Nat) : Prop := T[m]? = some (.inr (2, [3, 4, 0])) ∧ T[m + 1]? = some (.inl (1, n)) ∧ T[m + 2]? = some (.inl (0, n))
theorem zW_1 : zWv ztops 1 := ⟨rfl, rfl⟩
theorem zW_3 : zWv ztops 3 := ⟨rfl, rfl⟩
theorem zW_5 : zWv ztops 5 := ⟨rfl, rfl⟩
theorem zR_11 : zRu ztops 11 := ⟨rfl, rfl, rfl, rfl, rfl⟩
theorem zR_16 : zRu ztops 16 := ⟨rfl, rfl, rfl, rfl, rfl⟩
theorem zM_33 : zMe ztops 33 15 := ⟨rfl, rfl, rfl⟩
theorem zM_36 : zMe ztops 36 3 := ⟨rfl, rfl, rfl⟩
theorem z_all {ws : List Cond} (ps : List Nat) (h : ws = ps.filterMap (fun i => lw_tbl[i]?)) (hg : ws.all goodWord = true) : ∀ w ∈ ws, w ∈ z_tb := by
  intro w hw
  refine List.mem_filter.mpr ⟨?_, List.all_eq_true.mp hg w hw⟩
  rw [h] at hw
  obtain ⟨i, -, hi⟩ := List.mem_filterMap.mp hw
  exact List.mem_of_getElem? hi
theorem inl_X0 : ∀ w ∈ u_ws RX0 TX0 6, w ∈ z_tb := z_all [210, 212, 214, 216, 218, 220] (by decide +kernel) (by decide +kernel)
theorem inl_X1 : ∀ w ∈ u_ws RX1 TX1 3, w ∈ z_tb := z_all [232, 234, 236] (by decide +kernel) (by decide +kernel)
theorem inl_X2 : ∀ w ∈ u_ws RX2 TX2 3, w ∈ z_tb := z_all [266, 268, 270] (by decide +kernel) (by decide +kernel)
theorem inl_X3 : ∀ w ∈ u_ws RX3 TX3 2, w ∈ z_tb := z_all [146, 148] (by decide +kernel) (by decide +kernel)
theorem inl_X4 : ∀ w ∈ u_ws RX4 TX4 9, w ∈ z_tb := z_all [175, 177, 179, 181, 183, 185, 187, 189, 191] (by decide +kernel) (by decide +kernel)
theorem inl_X5 : ∀ w ∈ u_ws RX5 TX5 3, w ∈ z_tb := z_all [249, 251, 253] (by decide +kernel) (by decide +kernel)
theorem inl_X6 : ∀ w ∈ u_ws RX6 TX6 2, w ∈ z_tb := z_all [131, 133] (by decide +kernel) (by decide +kernel)
theorem inl_X7 : ∀ w ∈ u_ws RX7 TX7 4, w ∈ z_tb := z_all [110, 112, 114, 116] (by decide +kernel) (by decide +kernel)
theorem inl_X8 : ∀ w ∈ u_ws RX8 TX8 13, w ∈ z_tb := z_all [286, 288, 290, 292, 294, 296, 298, 300, 302, 304, 306, 308, 310] (by decide +kernel) (by decide +kernel)
theorem inl_X9 : ∀ w ∈ u_ws RX9 TX9 41, w ∈ z_tb := z_all [1114, 1116, 1118, 1120, 1122, 1124, 1126, 1128, 1130, 1132, 1134, 1136, 1138, 1140, 1142, 1144, 1146, 1148, 1150, 1152, 1154, 1156, 1158, 1160, 1162, 1164, 1166, 1168, 1170, 1172, 1174, 1176, 1178, 1180, 1182, 1184, 1186, 1188, 1190, 1192, 1194] (by decide +kernel) (by decide +kernel)
theorem fl_X7_9 : zFL RX7 9 7 0 := ⟨RX7, TX7, 4, rfl, by decide, inl_X7, z_mem 99 (by decide +kernel) (by decide +kernel)⟩
theorem fp_X7_9 : zFP RX7 9 7 0 .int := ⟨RX7, TX7, 4, rfl, by decide, inl_X7, z_mem 99 (by decide +kernel) (by decide +kernel), ⟨tyX7, tyX7_ok⟩, nmX7, rfl, (by decide +kernel)⟩
theorem fl_X1_34 : zFL RX1 34 7 0 := ⟨RX7, TX7, 4, rfl, by decide, inl_X7, z_mem 100 (by decide +kernel) (by decide +kernel)⟩
theorem fp_X1_34 : zFP RX1 34 7 0 .int := ⟨RX7, TX7, 4, rfl, by decide, inl_X7, z_mem 100 (by decide +kernel) (by decide +kernel), ⟨tyX7, tyX7_ok⟩, nmX7, rfl, (by decide +kernel)⟩
theorem fl_X8_100 : zFL RX8 100 7 0 := ⟨RX7, TX7, 4, rfl, by decide, inl_X7, z_mem 101 (by decide +kernel) (by decide +kernel)⟩
theorem fp_X8_100 : zFP RX8 100 7 0 .int := ⟨RX7, TX7, 4, rfl, by decide, inl_X7, z_mem 101 (by decide +kernel) (by decide +kernel), ⟨tyX7, tyX7_ok⟩, nmX7, rfl, (by decide +kernel)⟩
theorem fl_X7_15 : zFL RX7 15 7 1 := ⟨RX7, TX7, 4, rfl, by decide, inl_X7, z_mem 102 (by decide +kernel) (by decide +kernel)⟩
theorem fp_X7_15 : zFP RX7 15 7 1 .int := ⟨RX7, TX7, 4, rfl, by decide, inl_X7, z_mem 102 (by decide +kernel) (by decide +kernel), ⟨tyX7, tyX7_ok⟩, nmX7, rfl, (by decide +kernel)⟩
theorem fl_X1_19 : zFL RX1 19 7 1 := ⟨RX7, TX7, 4, rfl, by decide, inl_X7, z_mem 103 (by decide +kernel) (by decide +kernel)⟩
theorem fp_X1_19 : zFP RX1 19 7 1 .int := ⟨RX7, TX7, 4, rfl, by decide, inl_X7, z_mem 103 (by decide +kernel) (by decide +kernel), ⟨tyX7, tyX7_ok⟩, nmX7, rfl, (by decide +kernel)⟩
theorem fl_X8_213 : zFL RX8 213 7 1 := ⟨RX7, TX7, 4, rfl, by decide, inl_X7, z_mem 104 (by decide +kernel) (by decide +kernel)⟩
theorem fp_X8_213 : zFP RX8 213 7 1 .int := ⟨RX7, TX7, 4, rfl, by decide, inl_X7, z_mem 104 (by decide +kernel) (by decide +kernel), ⟨tyX7, tyX7_ok⟩, nmX7, rfl, (by decide +kernel)⟩
theorem fl_X7_18 : zFL RX7 18 7 2 := ⟨RX7, TX7, 4, rfl, by decide, inl_X7, z_mem 105 (by decide +kernel) (by decide +kernel)⟩
theorem fp_X7_18 : zFP RX7 18 7 2 .int := ⟨RX7, TX7, 4, rfl, by decide, inl_X7, z_mem 105 (by decide +kernel) (by decide +kernel), ⟨tyX7, tyX7_ok⟩, nmX7, rfl, (by decide +kernel)⟩
theorem fl_X2_41 : zFL RX2 41 7 2 := ⟨RX7, TX7, 4, rfl, by decide, inl_X7, z_mem 106 (by decide +kernel) (by decide +kernel)⟩
theorem fp_X2_41 : zFP RX2 41 7 2 .int := ⟨RX7, TX7, 4, rfl, by decide, inl_X7, z_mem 106 (by decide +kernel) (by decide +kernel), ⟨tyX7, tyX7_ok⟩, nmX7, rfl, (by decide +kernel)⟩
theorem fl_X8_145 : zFL RX8 145 7 2 := ⟨RX7, TX7, 4, rfl, by decide, inl_X7, z_mem 107 (by decide +kernel) (by decide +kernel)⟩
theorem fp_X8_145 : zFP RX8 145 7 2 .int := ⟨RX7, TX7, 4, rfl, by decide, inl_X7, z_mem 107 (by decide +kernel) (by decide +kernel), ⟨tyX7, tyX7_ok⟩, nmX7, rfl, (by decide +kernel)⟩
theorem fl_X4_117 : zFL RX4 117 7 2 := ⟨RX7, TX7, 4, rfl, by decide, inl_X7, z_mem 108 (by decide +kernel) (by decide +kernel)⟩
theorem fp_X4_117 : zFP RX4 117 7 2 .int := ⟨RX7, TX7, 4, rfl, by decide, inl_X7, z_mem 108 (by decide +kernel) (by decide +kernel), ⟨tyX7, tyX7_ok⟩, nmX7, rfl, (by decide +kernel)⟩
theorem fl_X7_21 : zFL RX7 21 7 3 := ⟨RX7, TX7, 4, rfl, by decide, inl_X7, z_mem 109 (by decide +kernel) (by decide +kernel)⟩
theorem fl_X6_9 : zFL RX6 9 6 0 := ⟨RX6, TX6, 2, rfl, by decide, inl_X6, z_mem 126 (by decide +kernel) (by decide +kernel)⟩
theorem fl_X6_15 : zFL RX6 15 6 1 := ⟨RX6, TX6, 2, rfl, by decide, inl_X6, z_mem 127 (by decide +kernel) (by decide +kernel)⟩
theorem fp_X6_15 : zFP RX6 15 6 1 .int := ⟨RX6, TX6, 2, rfl, by decide, inl_X6, z_mem 127 (by decide +kernel) (by decide +kernel), ⟨tyX6, tyX6_ok⟩, nmX6, rfl, (by decide +kernel)⟩
theorem fl_X8_83 : zFL RX8 83 6 1 := ⟨RX6, TX6, 2, rfl, by decide, inl_X6, z_mem 128 (by decide +kernel) (by decide +kernel)⟩
theorem fp_X8_83 : zFP RX8 83 6 1 .int := ⟨RX6, TX6, 2, rfl, by decide, inl_X6, z_mem 128 (by decide +kernel) (by decide +kernel), ⟨tyX6, tyX6_ok⟩, nmX6, rfl, (by decide +kernel)⟩
theorem fl_X4_48 : zFL RX4 48 6 1 := ⟨RX6, TX6, 2, rfl, by decide, inl_X6, z_mem 129 (by decide +kernel) (by decide +kernel)⟩
theorem fp_X4_48 : zFP RX4 48 6 1 .int := ⟨RX6, TX6, 2, rfl, by decide, inl_X6, z_mem 129 (by decide +kernel) (by decide +kernel), ⟨tyX6, tyX6_ok⟩, nmX6, rfl, (by decide +kernel)⟩
theorem fl_X7_80 : zFL RX7 80 6 1 := ⟨RX6, TX6, 2, rfl, by decide, inl_X6, z_mem 130 (by decide +kernel) (by decide +kernel)⟩
theorem fp_X7_80 : zFP RX7 80 6 1 .int := ⟨RX6, TX6, 2, rfl, by decide, inl_X6, z_mem 130 (by decide +kernel) (by decide +kernel), ⟨tyX6, tyX6_ok⟩, nmX6, rfl, (by decide +kernel)⟩
theorem fl_X3_9 : zFL RX3 9 3 0 := ⟨RX3, TX3, 2, rfl, by decide, inl_X3, z_mem 142 (by decide +kernel) (by decide +kernel)⟩
theorem fl_X8_375 : zFL RX8 375 3 0 := ⟨RX3, TX3, 2, rfl, by decide, inl_X3, z_mem 143 (by decide +kernel) (by decide +kernel)⟩
theorem fl_X3_15 : zFL RX3 15 3 1 := ⟨RX3, TX3, 2, rfl, by decide, inl_X3, z_mem 144 (by decide +kernel) (by decide +kernel)⟩
theorem fp_X3_15 : zFP RX3 15 3 1 .int := ⟨RX3, TX3, 2, rfl, by decide, inl_X3, z_mem 144 (by decide +kernel) (by decide +kernel), ⟨tyX3, tyX3_ok⟩, nmX3, rfl, (by decide +kernel)⟩
theorem fl_X8_374 : zFL RX8 374 3 1 := ⟨RX3, TX3, 2, rfl, by decide, inl_X3, z_mem 145 (by decide +kernel) (by decide +kernel)⟩
theorem fp_X8_374 : zFP RX8 374 3 1 .int := ⟨RX3, TX3, 2, rfl, by decide, inl_X3, z_mem 145 (by decide +kernel) (by decide +kernel), ⟨tyX3, tyX3_ok⟩, nmX3, rfl, (by decide +kernel)⟩
theorem fl_X4_11 : zFL RX4 11 4 0 := ⟨RX4, TX4, 9, rfl, by decide, inl_X4, z_mem 166 (by decide +kernel) (by decide +kernel)⟩
theorem fl_X4_15 : zFL RX4 15 4 1 := ⟨RX4, TX4, 9, rfl, by decide, inl_X4, z_mem 167 (by decide +kernel) (by decide +kernel)⟩
theorem fp_X4_15 : zFP RX4 15 4 1 .int := ⟨RX4, TX4, 9, rfl, by decide, inl_X4, z_mem 167 (by decide +kernel) (by decide +kernel), ⟨tyX4, tyX4_ok⟩, nmX4, rfl, (by decide +kernel)⟩
theorem fl_X4_19 : zFL RX4 19 4 2 := ⟨RX4, TX4, 9, rfl, by decide, inl_X4, z_mem 168 (by decide +kernel) (by decide +kernel)⟩
theorem fl_X4_38 : zFL RX4 38 4 3 := ⟨RX4, TX4, 9, rfl, by decide, inl_X4, z_mem 169 (by decide +kernel) (by decide +kernel)⟩
theorem fp_X4_38 : zFP RX4 38 4 3 .int := ⟨RX4, TX4, 9, rfl, by decide, inl_X4, z_mem 169 (by decide +kernel) (by decide +kernel), ⟨tyX4, tyX4_ok⟩, nmX4, rfl, (by decide +kernel)⟩
theorem fl_X4_22 : zFL RX4 22 4 4 := ⟨RX4, TX4, 9, rfl, by decide, inl_X4, z_mem 170 (by decide +kernel) (by decide +kernel)⟩
theorem fl_X4_41 : zFL RX4 41 4 5 := ⟨RX4, TX4, 9, rfl, by decide, inl_X4, z_mem 171 (by decide +kernel) (by decide +kernel)⟩
theorem fp_X4_41 : zFP RX4 41 4 5 .int := ⟨RX4, TX4, 9, rfl, by decide, inl_X4, z_mem 171 (by decide +kernel) (by decide +kernel), ⟨tyX4, tyX4_ok⟩, nmX4, rfl, (by decide +kernel)⟩
theorem fl_X4_81 : zFL RX4 81 4 6 := ⟨RX4, TX4, 9, rfl, by decide, inl_X4, z_mem 172 (by decide +kernel) (by decide +kernel)⟩
theorem fp_X4_81 : zFP RX4 81 4 6 .int := ⟨RX4, TX4, 9, rfl, by decide, inl_X4, z_mem 172 (by decide +kernel) (by decide +kernel), ⟨tyX4, tyX4_ok⟩, nmX4, rfl, (by decide +kernel)⟩
theorem fl_X4_44 : zFL RX4 44 4 7 := ⟨RX4, TX4, 9, rfl, by decide, inl_X4, z_mem 173 (by decide +kernel) (by decide +kernel)⟩
theorem fp_X4_44 : zFP RX4 44 4 7 .boolean := ⟨RX4, TX4, 9, rfl, by decide, inl_X4, z_mem 173 (by decide +kernel) (by decide +kernel), ⟨tyX4, tyX4_ok⟩, nmX4, rfl, (by decide +kernel)⟩
theorem fl_X4_26 : zFL RX4 26 4 8 := ⟨RX4, TX4, 9, rfl, by decide, inl_X4, z_mem 174 (by decide +kernel) (by decide +kernel)⟩
theorem fl_X0_9 : zFL RX0 9 0 0 := ⟨RX0, TX0, 6, rfl, by decide, inl_X0, z_mem 201 (by decide +kernel) (by decide +kernel)⟩
theorem fl_X8_265 : zFL RX8 265 0 0 := ⟨RX0, TX0, 6, rfl, by decide, inl_X0, z_mem 202 (by decide +kernel) (by decide +kernel)⟩
theorem fl_X0_15 : zFL RX0 15 0 1 := ⟨RX0, TX0, 6, rfl, by decide, inl_X0, z_mem 203 (by decide +kernel) (by decide +kernel)⟩
theorem fl_X8_273 : zFL RX8 273 0 1 := ⟨RX0, TX0, 6, rfl, by decide, inl_X0, z_mem 204 (by decide +kernel) (by decide +kernel)⟩
theorem fl_X0_18 : zFL RX0 18 0 2 := ⟨RX0, TX0, 6, rfl, by decide, inl_X0, z_mem 205 (by decide +kernel) (by decide +kernel)⟩
theorem fl_X8_289 : zFL RX8 289 0 2 := ⟨RX0, TX0, 6, rfl, by decide, inl_X0, z_mem 206 (by decide +kernel) (by decide +kernel)⟩
theorem fl_X0_22 : zFL RX0 22 0 3 := ⟨RX0, TX0, 6, rfl, by decide, inl_X0, z_mem 207 (by decide +kernel) (by decide +kernel)⟩
theorem fl_X0_25 : zFL RX0 25 0 4 := ⟨RX0, TX0, 6, rfl, by decide, inl_X0, z_mem 208 (by decide +kernel) (by decide +kernel)⟩
theorem fl_X0_28 : zFL RX0 28 0 5 := ⟨RX0, TX0, 6, rfl, by decide, inl_X0, z_mem 209 (by decide +kernel) (by decide +kernel)⟩
theorem fp_X0_28 : zFP RX0 28 0 5 .long := ⟨RX0, TX0, 6, rfl, by decide, inl_X0, z_mem 209 (by decide +kernel) (by decide +kernel), ⟨tyX0, tyX0_ok⟩, nmX0, rfl, (by decide +kernel)⟩
theorem fl_X1_9 : zFL RX1 9 1 0 := ⟨RX1, TX1, 3, rfl, by decide, inl_X1, z_mem 229 (by decide +kernel) (by decide +kernel)⟩
theorem fl_X1_31 : zFL RX1 31 1 1 := ⟨RX1, TX1, 3, rfl, by decide, inl_X1, z_mem 230 (by decide +kernel) (by decide +kernel)⟩
theorem fp_X1_31 : zFP RX1 31 1 1 .int := ⟨RX1, TX1, 3, rfl, by decide, inl_X1, z_mem 230 (by decide +kernel) (by decide +kernel), ⟨tyX1, tyX1_ok⟩, nmX1, rfl, (by decide +kernel)⟩
theorem fl_X1_15 : zFL RX1 15 1 2 := ⟨RX1, TX1, 3, rfl, by decide, inl_X1, z_mem 231 (by decide +kernel) (by decide +kernel)⟩
theorem fl_X5_9 : zFL RX5 9 5 0 := ⟨RX5, TX5, 3, rfl, by decide, inl_X5, z_mem 245 (by decide +kernel) (by decide +kernel)⟩
theorem fl_X5_15 : zFL RX5 15 5 1 := ⟨RX5, TX5, 3, rfl, by decide, inl_X5, z_mem 246 (by decide +kernel) (by decide +kernel)⟩
theorem fl_X5_18 : zFL RX5 18 5 2 := ⟨RX5, TX5, 3, rfl, by decide, inl_X5, z_mem 247 (by decide +kernel) (by decide +kernel)⟩
theorem fp_X5_18 : zFP RX5 18 5 2 .int := ⟨RX5, TX5, 3, rfl, by decide, inl_X5, z_mem 247 (by decide +kernel) (by decide +kernel), ⟨tyX5, tyX5_ok⟩, nmX5, rfl, (by decide +kernel)⟩
theorem fl_X8_325 : zFL RX8 325 5 2 := ⟨RX5, TX5, 3, rfl, by decide, inl_X5, z_mem 248 (by decide +kernel) (by decide +kernel)⟩
theorem fp_X8_325 : zFP RX8 325 5 2 .int := ⟨RX5, TX5, 3, rfl, by decide, inl_X5, z_mem 248 (by decide +kernel) (by decide +kernel), ⟨tyX5, tyX5_ok⟩, nmX5, rfl, (by decide +kernel)⟩
theorem fl_X2_13 : zFL RX2 13 2 0 := ⟨RX2, TX2, 3, rfl, by decide, inl_X2, z_mem 262 (by decide +kernel) (by decide +kernel)⟩
theorem fl_X2_17 : zFL RX2 17 2 1 := ⟨RX2, TX2, 3, rfl, by decide, inl_X2, z_mem 263 (by decide +kernel) (by decide +kernel)⟩
theorem fl_X2_7 : zFL RX2 7 2 2 := ⟨RX2, TX2, 3, rfl, by decide, inl_X2, z_mem 264 (by decide +kernel) (by decide +kernel)⟩
theorem fp_X2_7 : zFP RX2 7 2 2 .int := ⟨RX2, TX2, 3, rfl, by decide, inl_X2, z_mem 264 (by decide +kernel) (by decide +kernel), ⟨tyX2, tyX2_ok⟩, nmX2, rfl, (by decide +kernel)⟩
theorem fl_X8_198 : zFL RX8 198 2 2 := ⟨RX2, TX2, 3, rfl, by decide, inl_X2, z_mem 265 (by decide +kernel) (by decide +kernel)⟩
theorem fp_X8_198 : zFP RX8 198 2 2 .int := ⟨RX2, TX2, 3, rfl, by decide, inl_X2, z_mem 265 (by decide +kernel) (by decide +kernel), ⟨tyX2, tyX2_ok⟩, nmX2, rfl, (by decide +kernel)⟩
theorem fl_X8_10 : zFL RX8 10 8 0 := ⟨RX8, TX8, 13, rfl, by decide, inl_X8, z_mem 273 (by decide +kernel) (by decide +kernel)⟩
theorem fl_X8_16 : zFL RX8 16 8 1 := ⟨RX8, TX8, 13, rfl, by decide, inl_X8, z_mem 274 (by decide +kernel) (by decide +kernel)⟩
theorem fl_X8_19 : zFL RX8 19 8 2 := ⟨RX8, TX8, 13, rfl, by decide, inl_X8, z_mem 275 (by decide +kernel) (by decide +kernel)⟩
theorem fl_X8_25 : zFL RX8 25 8 3 := ⟨RX8, TX8, 13, rfl, by decide, inl_X8, z_mem 276 (by decide +kernel) (by decide +kernel)⟩
theorem fl_X8_32 : zFL RX8 32 8 4 := ⟨RX8, TX8, 13, rfl, by decide, inl_X8, z_mem 277 (by decide +kernel) (by decide +kernel)⟩
theorem fl_X8_39 : zFL RX8 39 8 5 := ⟨RX8, TX8, 13, rfl, by decide, inl_X8, z_mem 278 (by decide +kernel) (by decide +kernel)⟩
theorem fl_X8_43 : zFL RX8 43 8 6 := ⟨RX8, TX8, 13, rfl, by decide, inl_X8, z_mem 279 (by decide +kernel) (by decide +kernel)⟩
theorem fl_X8_49 : zFL RX8 49 8 7 := ⟨RX8, TX8, 13, rfl, by decide, inl_X8, z_mem 280 (by decide +kernel) (by decide +kernel)⟩
theorem fl_X8_56 : zFL RX8 56 8 8 := ⟨RX8, TX8, 13, rfl, by decide, inl_X8, z_mem 281 (by decide +kernel) (by decide +kernel)⟩
theorem fl_X8_63 : zFL RX8 63 8 9 := ⟨RX8, TX8, 13, rfl, by decide, inl_X8, z_mem 282 (by decide +kernel) (by decide +kernel)⟩
theorem fl_X8_72 : zFL RX8 72 8 10 := ⟨RX8, TX8, 13, rfl, by decide, inl_X8, z_mem 283 (by decide +kernel) (by decide +kernel)⟩
theorem fl_X8_76 : zFL RX8 76 8 11 := ⟨RX8, TX8, 13, rfl, by decide, inl_X8, z_mem 284 (by decide +kernel) (by decide +kernel)⟩
theorem fl_X8_79 : zFL RX8 79 8 12 := ⟨RX8, TX8, 13, rfl, by decide, inl_X8, z_mem 285 (by decide +kernel) (by decide +kernel)⟩
theorem fp_X8_79 : zFP RX8 79 8 12 .int := ⟨RX8, TX8, 13, rfl, by decide, inl_X8, z_mem 285 (by decide +kernel) (by decide +kernel), ⟨tyX8, tyX8_ok⟩, nmX8, rfl, (by decide +kernel)⟩
theorem fl_X9_3 : zFL RX9 3 9 0 := ⟨RX9, TX9, 41, rfl, by decide, inl_X9, z_mem 1073 (by decide +kernel) (by decide +kernel)⟩
theorem fp_X9_3 : zFP RX9 3 9 0 .int := ⟨RX9, TX9, 41, rfl, by decide, inl_X9, z_mem 1073 (by decide +kernel) (by decide +kernel), ⟨tyX9, tyX9_ok⟩, nmX9, rfl, (by decide +kernel)⟩
theorem fl_X9_15 : zFL RX9 15 9 1 := ⟨RX9, TX9, 41, rfl, by decide, inl_X9, z_mem 1074 (by decide +kernel) (by decide +kernel)⟩
theorem fp_X9_15 : zFP RX9 15 9 1 .int := ⟨RX9, TX9, 41, rfl, by decide, inl_X9, z_mem 1074 (by decide +kernel) (by decide +kernel), ⟨tyX9, tyX9_ok⟩, nmX9, rfl, (by decide +kernel)⟩
theorem fl_X9_11 : zFL RX9 11 9 2 := ⟨RX9, TX9, 41, rfl, by decide, inl_X9, z_mem 1075 (by decide +kernel) (by decide +kernel)⟩
theorem fl_X9_24 : zFL RX9 24 9 3 := ⟨RX9, TX9, 41, rfl, by decide, inl_X9, z_mem 1076 (by decide +kernel) (by decide +kernel)⟩
theorem fl_X9_28 : zFL RX9 28 9 4 := ⟨RX9, TX9, 41, rfl, by decide, inl_X9, z_mem 1077 (by decide +kernel) (by decide +kernel)⟩
theorem fl_X9_201 : zFL RX9 201 9 5 := ⟨RX9, TX9, 41, rfl, by decide, inl_X9, z_mem 1078 (by decide +kernel) (by decide +kernel)⟩
theorem fp_X9_201 : zFP RX9 201 9 5 .int := ⟨RX9, TX9, 41, rfl, by decide, inl_X9, z_mem 1078 (by decide +kernel) (by decide +kernel), ⟨tyX9, tyX9_ok⟩, nmX9, rfl, (by decide +kernel)⟩
theorem fl_X9_31 : zFL RX9 31 9 6 := ⟨RX9, TX9, 41, rfl, by decide, inl_X9, z_mem 1079 (by decide +kernel) (by decide +kernel)⟩
theorem fl_X9_144 : zFL RX9 144 9 7 := ⟨RX9, TX9, 41, rfl, by decide, inl_X9, z_mem 1080 (by decide +kernel) (by decide +kernel)⟩
theorem fp_X9_144 : zFP RX9 144 9 7 .int := ⟨RX9, TX9, 41, rfl, by decide, inl_X9, z_mem 1080 (by decide +kernel) (by decide +kernel), ⟨tyX9, tyX9_ok⟩, nmX9, rfl, (by decide +kernel)⟩
theorem fl_X9_147 : zFL RX9 147 9 8 := ⟨RX9, TX9, 41, rfl, by decide, inl_X9, z_mem 1081 (by decide +kernel) (by decide +kernel)⟩
theorem fp_X9_147 : zFP RX9 147 9 8 .int := ⟨RX9, TX9, 41, rfl, by decide, inl_X9, z_mem 1081 (by decide +kernel) (by decide +kernel), ⟨tyX9, tyX9_ok⟩, nmX9, rfl, (by decide +kernel)⟩
theorem fl_X9_158 : zFL RX9 158 9 9 := ⟨RX9, TX9, 41, rfl, by decide, inl_X9, z_mem 1082 (by decide +kernel) (by decide +kernel)⟩
theorem fp_X9_158 : zFP RX9 158 9 9 .int := ⟨RX9, TX9, 41, rfl, by decide, inl_X9, z_mem 1082 (by decide +kernel) (by decide +kernel), ⟨tyX9, tyX9_ok⟩, nmX9, rfl, (by decide +kernel)⟩
theorem fl_X9_150 : zFL RX9 150 9 10 := ⟨RX9, TX9, 41, rfl, by decide, inl_X9, z_mem 1083 (by decide +kernel) (by decide +kernel)⟩
theorem fp_X9_150 : zFP RX9 150 9 10 .int := ⟨RX9, TX9, 41, rfl, by decide, inl_X9, z_mem 1083 (by decide +kernel) (by decide +kernel), ⟨tyX9, tyX9_ok⟩, nmX9, rfl, (by decide +kernel)⟩
theorem fl_X9_34 : zFL RX9 34 9 11 := ⟨RX9, TX9, 41, rfl, by decide, inl_X9, z_mem 1084 (by decide +kernel) (by decide +kernel)⟩
theorem fl_X9_37 : zFL RX9 37 9 12 := ⟨RX9, TX9, 41, rfl, by decide, inl_X9, z_mem 1085 (by decide +kernel) (by decide +kernel)⟩
theorem fl_X9_40 : zFL RX9 40 9 13 := ⟨RX9, TX9, 41, rfl, by decide, inl_X9, z_mem 1086 (by decide +kernel) (by decide +kernel)⟩
theorem fl_X9_236 : zFL RX9 236 9 14 := ⟨RX9, TX9, 41, rfl, by decide, inl_X9, z_mem 1087 (by decide +kernel) (by decide +kernel)⟩
theorem fp_X9_236 : zFP RX9 236 9 14 .int := ⟨RX9, TX9, 41, rfl, by decide, inl_X9, z_mem 1087 (by decide +kernel) (by decide +kernel), ⟨tyX9, tyX9_ok⟩, nmX9, rfl, (by decide +kernel)⟩
theorem fl_X9_204 : zFL RX9 204 9 15 := ⟨RX9, TX9, 41, rfl, by decide, inl_X9, z_mem 1088 (by decide +kernel) (by decide +kernel)⟩
theorem fp_X9_204 : zFP RX9 204 9 15 .int := ⟨RX9, TX9, 41, rfl, by decide, inl_X9, z_mem 1088 (by decide +kernel) (by decide +kernel), ⟨tyX9, tyX9_ok⟩, nmX9, rfl, (by decide +kernel)⟩
theorem fl_X9_43 : zFL RX9 43 9 16 := ⟨RX9, TX9, 41, rfl, by decide, inl_X9, z_mem 1089 (by decide +kernel) (by decide +kernel)⟩
theorem fl_X9_46 : zFL RX9 46 9 17 := ⟨RX9, TX9, 41, rfl, by decide, inl_X9, z_mem 1090 (by decide +kernel) (by decide +kernel)⟩
theorem fl_X9_198 : zFL RX9 198 9 18 := ⟨RX9, TX9, 41, rfl, by decide, inl_X9, z_mem 1091 (by decide +kernel) (by decide +kernel)⟩
theorem fp_X9_198 : zFP RX9 198 9 18 .int := ⟨RX9, TX9, 41, rfl, by decide, inl_X9, z_mem 1091 (by decide +kernel) (by decide +kernel), ⟨tyX9, tyX9_ok⟩, nmX9, rfl, (by decide +kernel)⟩
theorem fl_X9_49 : zFL RX9 49 9 19 := ⟨RX9, TX9, 41, rfl, by decide, inl_X9, z_mem 1092 (by decide +kernel) (by decide +kernel)⟩
theorem fl_X9_52 : zFL RX9 52 9 20 := ⟨RX9, TX9, 41, rfl, by decide, inl_X9, z_mem 1093 (by decide +kernel) (by decide +kernel)⟩
theorem fl_X9_55 : zFL RX9 55 9 21 := ⟨RX9, TX9, 41, rfl, by decide, inl_X9, z_mem 1094 (by decide +kernel) (by decide +kernel)⟩
theorem fl_X9_58 : zFL RX9 58 9 22 := ⟨RX9, TX9, 41, rfl, by decide, inl_X9, z_mem 1095 (by decide +kernel) (by decide +kernel)⟩
theorem fl_X9_61 : zFL RX9 61 9 23 := ⟨RX9, TX9, 41, rfl, by decide, inl_X9, z_mem 1096 (by decide +kernel) (by decide +kernel)⟩
theorem fl_X9_334 : zFL RX9 334 9 24 := ⟨RX9, TX9, 41, rfl, by decide, inl_X9, z_mem 1097 (by decide +kernel) (by decide +kernel)⟩
theorem fp_X9_334 : zFP RX9 334 9 24 .int := ⟨RX9, TX9, 41, rfl, by decide, inl_X9, z_mem 1097 (by decide +kernel) (by decide +kernel), ⟨tyX9, tyX9_ok⟩, nmX9, rfl, (by decide +kernel)⟩
theorem fl_X9_64 : zFL RX9 64 9 25 := ⟨RX9, TX9, 41, rfl, by decide, inl_X9, z_mem 1098 (by decide +kernel) (by decide +kernel)⟩
theorem fl_X9_67 : zFL RX9 67 9 26 := ⟨RX9, TX9, 41, rfl, by decide, inl_X9, z_mem 1099 (by decide +kernel) (by decide +kernel)⟩
theorem fl_X9_70 : zFL RX9 70 9 27 := ⟨RX9, TX9, 41, rfl, by decide, inl_X9, z_mem 1100 (by decide +kernel) (by decide +kernel)⟩
theorem fl_X9_74 : zFL RX9 74 9 28 := ⟨RX9, TX9, 41, rfl, by decide, inl_X9, z_mem 1101 (by decide +kernel) (by decide +kernel)⟩
theorem fl_X9_77 : zFL RX9 77 9 29 := ⟨RX9, TX9, 41, rfl, by decide, inl_X9, z_mem 1102 (by decide +kernel) (by decide +kernel)⟩
theorem fl_X9_404 : zFL RX9 404 9 30 := ⟨RX9, TX9, 41, rfl, by decide, inl_X9, z_mem 1103 (by decide +kernel) (by decide +kernel)⟩
theorem fp_X9_404 : zFP RX9 404 9 30 .int := ⟨RX9, TX9, 41, rfl, by decide, inl_X9, z_mem 1103 (by decide +kernel) (by decide +kernel), ⟨tyX9, tyX9_ok⟩, nmX9, rfl, (by decide +kernel)⟩
theorem fl_X9_80 : zFL RX9 80 9 31 := ⟨RX9, TX9, 41, rfl, by decide, inl_X9, z_mem 1104 (by decide +kernel) (by decide +kernel)⟩
theorem fl_X9_413 : zFL RX9 413 9 32 := ⟨RX9, TX9, 41, rfl, by decide, inl_X9, z_mem 1105 (by decide +kernel) (by decide +kernel)⟩
theorem fp_X9_413 : zFP RX9 413 9 32 .int := ⟨RX9, TX9, 41, rfl, by decide, inl_X9, z_mem 1105 (by decide +kernel) (by decide +kernel), ⟨tyX9, tyX9_ok⟩, nmX9, rfl, (by decide +kernel)⟩
theorem fl_X9_83 : zFL RX9 83 9 33 := ⟨RX9, TX9, 41, rfl, by decide, inl_X9, z_mem 1106 (by decide +kernel) (by decide +kernel)⟩
theorem fl_X9_86 : zFL RX9 86 9 34 := ⟨RX9, TX9, 41, rfl, by decide, inl_X9, z_mem 1107 (by decide +kernel) (by decide +kernel)⟩
theorem fl_X9_89 : zFL RX9 89 9 35 := ⟨RX9, TX9, 41, rfl, by decide, inl_X9, z_mem 1108 (by decide +kernel) (by decide +kernel)⟩
theorem fl_X9_92 : zFL RX9 92 9 36 := ⟨RX9, TX9, 41, rfl, by decide, inl_X9, z_mem 1109 (by decide +kernel) (by decide +kernel)⟩
theorem fl_X9_430 : zFL RX9 430 9 37 := ⟨RX9, TX9, 41, rfl, by decide, inl_X9, z_mem 1110 (by decide +kernel) (by decide +kernel)⟩
theorem fp_X9_430 : zFP RX9 430 9 37 .int := ⟨RX9, TX9, 41, rfl, by decide, inl_X9, z_mem 1110 (by decide +kernel) (by decide +kernel), ⟨tyX9, tyX9_ok⟩, nmX9, rfl, (by decide +kernel)⟩
theorem fl_X9_95 : zFL RX9 95 9 38 := ⟨RX9, TX9, 41, rfl, by decide, inl_X9, z_mem 1111 (by decide +kernel) (by decide +kernel)⟩
theorem fl_X9_98 : zFL RX9 98 9 39 := ⟨RX9, TX9, 41, rfl, by decide, inl_X9, z_mem 1112 (by decide +kernel) (by decide +kernel)⟩
theorem fl_X9_101 : zFL RX9 101 9 40 := ⟨RX9, TX9, 41, rfl, by decide, inl_X9, z_mem 1113 (by decide +kernel) (by decide +kernel)⟩
theorem zY_X0_init : zY yX0_init cX0_init 1 (none) 0 := ⟨z_mem 199 (by decide +kernel) (by decide +kernel), z_mem 68 (by decide +kernel) (by decide +kernel), by decide, by decide, (by decide +kernel)⟩
theorem zY_X0_isIn : zY yX0_isIn cX0_isIn 3 (some .boolean) 2 := ⟨z_mem 798 (by decide +kernel) (by decide +kernel), z_mem 68 (by decide +kernel) (by decide +kernel), by decide, by decide, (by decide +kernel)⟩
theorem zY_X0_mark : zY yX0_mark cX0_mark 3 (none) 2 := ⟨z_mem 795 (by decide +kernel) (by decide +kernel), z_mem 68 (by decide +kernel) (by decide +kernel), by decide, by decide, (by decide +kernel)⟩
theorem zY_X0_tie : zY yX0_tie cX0_tie 3 (none) 1 := ⟨z_mem 672 (by decide +kernel) (by decide +kernel), z_mem 68 (by decide +kernel) (by decide +kernel), by decide, by decide, (by decide +kernel)⟩
theorem zY_X0_turn : zY yX0_turn cX0_turn 3 (none) 2 := ⟨z_mem 781 (by decide +kernel) (by decide +kernel), z_mem 68 (by decide +kernel) (by decide +kernel), by decide, by decide, (by decide +kernel)⟩
theorem zY_X0_reached : zY yX0_reached cX0_reached 9 (some .int) 3 := ⟨z_mem 686 (by decide +kernel) (by decide +kernel), z_mem 68 (by decide +kernel) (by decide +kernel), by decide, by decide, (by decide +kernel)⟩
theorem zY_X0_areTogether : zY yX0_areTogether cX0_areTogether 3 (some .boolean) 1 := ⟨z_mem 682 (by decide +kernel) (by decide +kernel), z_mem 68 (by decide +kernel) (by decide +kernel), by decide, by decide, (by decide +kernel)⟩
theorem zY_X0_isTogether : zY yX0_isTogether cX0_isTogether 2 (some .boolean) 1 := ⟨z_mem 668 (by decide +kernel) (by decide +kernel), z_mem 68 (by decide +kernel) (by decide +kernel), by decide, by decide, (by decide +kernel)⟩
theorem zY_X0_tabulate : zY yX0_tabulate cX0_tabulate 7 (none) 1 := ⟨z_mem 789 (by decide +kernel) (by decide +kernel), z_mem 68 (by decide +kernel) (by decide +kernel), by decide, by decide, (by decide +kernel)⟩
theorem zY_X0_holdingOf : zY yX0_holdingOf cX0_holdingOf 2 (some .int) 1 := ⟨z_mem 925 (by decide +kernel) (by decide +kernel), z_mem 68 (by decide +kernel) (by decide +kernel), by decide, by decide, (by decide +kernel)⟩
theorem zY_X0_longestTaking : zY yX0_longestTaking cX0_longestTaking 5 (some .int) 1 := ⟨z_mem 802 (by decide +kernel) (by decide +kernel), z_mem 68 (by decide +kernel) (by decide +kernel), by decide, by decide, (by decide +kernel)⟩
theorem zY_X0_markTakings : zY yX0_markTakings cX0_markTakings 4 (none) 1 := ⟨z_mem 808 (by decide +kernel) (by decide +kernel), z_mem 68 (by decide +kernel) (by decide +kernel), by decide, by decide, (by decide +kernel)⟩
theorem zY_X0_winningTake : zY yX0_winningTake cX0_winningTake 4 (some .int) 1 := ⟨z_mem 870 (by decide +kernel) (by decide +kernel), z_mem 68 (by decide +kernel) (by decide +kernel), by decide, by decide, (by decide +kernel)⟩
theorem zY_X0_leastTake : zY yX0_leastTake cX0_leastTake 4 (some .int) 1 := ⟨z_mem 874 (by decide +kernel) (by decide +kernel), z_mem 68 (by decide +kernel) (by decide +kernel), by decide, by decide, (by decide +kernel)⟩
theorem zY_X1_init : zY yX1_init cX1_init 1 (none) 0 := ⟨z_mem 227 (by decide +kernel) (by decide +kernel), z_mem 69 (by decide +kernel) (by decide +kernel), by decide, by decide, (by decide +kernel)⟩
theorem zY_X1_narrow : zY yX1_narrow cX1_narrow 6 (none) 2 := ⟨z_mem 703 (by decide +kernel) (by decide +kernel), z_mem 69 (by decide +kernel) (by decide +kernel), by decide, by decide, (by decide +kernel)⟩
theorem zY_X1_shapeWithout : zY yX1_shapeWithout cX1_shapeWithout 7 (some .long) 2 := ⟨z_mem 710 (by decide +kernel) (by decide +kernel), z_mem 69 (by decide +kernel) (by decide +kernel), by decide, by decide, (by decide +kernel)⟩
theorem zY_X1_forgetShapes : zY yX1_forgetShapes cX1_forgetShapes 1 (none) 0 := ⟨z_mem 718 (by decide +kernel) (by decide +kernel), z_mem 69 (by decide +kernel) (by decide +kernel), by decide, by decide, (by decide +kernel)⟩
theorem zY_X1_isNew : zY yX1_isNew cX1_isNew 7 (some .boolean) 1 := ⟨z_mem 723 (by decide +kernel) (by decide +kernel), z_mem 69 (by decide +kernel) (by decide +kernel), by decide, by decide, (by decide +kernel)⟩
theorem zY_X2_init : zY yX2_init cX2_init 2 (none) 1 := ⟨z_mem 260 (by decide +kernel) (by decide +kernel), z_mem 71 (by decide +kernel) (by decide +kernel), by decide, by decide, (by decide +kernel)⟩
theorem zY_X2_empty : zY yX2_empty cX2_empty 1 (none) 0 := ⟨z_mem 359 (by decide +kernel) (by decide +kernel), z_mem 71 (by decide +kernel) (by decide +kernel), by decide, by decide, (by decide +kernel)⟩
theorem zY_X2_push : zY yX2_push cX2_push 5 (none) 2 := ⟨z_mem 425 (by decide +kernel) (by decide +kernel), z_mem 71 (by decide +kernel) (by decide +kernel), by decide, by decide, (by decide +kernel)⟩
theorem zY_X2_put : zY yX2_put cX2_put 5 (none) 3 := ⟨z_mem 429 (by decide +kernel) (by decide +kernel), z_mem 71 (by decide +kernel) (by decide +kernel), by decide, by decide, (by decide +kernel)⟩
theorem zY_X2_holds : zY yX2_holds cX2_holds 2 (some .boolean) 1 := ⟨z_mem 639 (by decide +kernel) (by decide +kernel), z_mem 71 (by decide +kernel) (by decide +kernel), by decide, by decide, (by decide +kernel)⟩
theorem zY_X2_bringBack : zY yX2_bringBack cX2_bringBack 3 (none) 2 := ⟨z_mem 635 (by decide +kernel) (by decide +kernel), z_mem 71 (by decide +kernel) (by decide +kernel), by decide, by decide, (by decide +kernel)⟩
theorem zY_X3_init : zY yX3_init cX3_init 1 (none) 0 := ⟨z_mem 140 (by decide +kernel) (by decide +kernel), z_mem 66 (by decide +kernel) (by decide +kernel), by decide, by decide, (by decide +kernel)⟩
theorem zY_X3_clear : zY yX3_clear cX3_clear 1 (none) 0 := ⟨z_mem 694 (by decide +kernel) (by decide +kernel), z_mem 66 (by decide +kernel) (by decide +kernel), by decide, by decide, (by decide +kernel)⟩
theorem zY_X3_add : zY yX3_add cX3_add 3 (none) 1 := ⟨z_mem 498 (by decide +kernel) (by decide +kernel), z_mem 66 (by decide +kernel) (by decide +kernel), by decide, by decide, (by decide +kernel)⟩
theorem zY_X3_tell : zY yX3_tell cX3_tell 3 (none) 1 := ⟨z_mem 654 (by decide +kernel) (by decide +kernel), z_mem 66 (by decide +kernel) (by decide +kernel), by decide, by decide, (by decide +kernel)⟩
theorem zY_X3_tell_ : zY yX3_tell_ cX3_tell_ 5 (none) 2 := ⟨z_mem 494 (by decide +kernel) (by decide +kernel), z_mem 66 (by decide +kernel) (by decide +kernel), by decide, by decide, (by decide +kernel)⟩
theorem zY_X4_init : zY yX4_init cX4_init 1 (none) 0 := ⟨z_mem 156 (by decide +kernel) (by decide +kernel), z_mem 67 (by decide +kernel) (by decide +kernel), by decide, by decide, (by decide +kernel)⟩
theorem zY_X4_become : zY yX4_become cX4_become 2 (none) 1 := ⟨z_mem 400 (by decide +kernel) (by decide +kernel), z_mem 67 (by decide +kernel) (by decide +kernel), by decide, by decide, (by decide +kernel)⟩
theorem zY_X4_readFrom : zY yX4_readFrom cX4_readFrom 5 (some .int) 1 := ⟨z_mem 370 (by decide +kernel) (by decide +kernel), z_mem 67 (by decide +kernel) (by decide +kernel), by decide, by decide, (by decide +kernel)⟩
theorem zY_X4_putPlainRule : zY yX4_putPlainRule cX4_putPlainRule 1 (none) 0 := ⟨z_mem 161 (by decide +kernel) (by decide +kernel), z_mem 67 (by decide +kernel) (by decide +kernel), by decide, by decide, (by decide +kernel)⟩
theorem zY_X4_takesThing : zY yX4_takesThing cX4_takesThing 3 (some .boolean) 1 := ⟨z_mem 378 (by decide +kernel) (by decide +kernel), z_mem 67 (by decide +kernel) (by decide +kernel), by decide, by decide, (by decide +kernel)⟩
theorem zY_X4_takesJoin : zY yX4_takesJoin cX4_takesJoin 3 (some .boolean) 1 := ⟨z_mem 389 (by decide +kernel) (by decide +kernel), z_mem 67 (by decide +kernel) (by decide +kernel), by decide, by decide, (by decide +kernel)⟩
theorem zY_X4_isTrait : zY yX4_isTrait cX4_isTrait 1 (some .boolean) 1 := ⟨z_mem 385 (by decide +kernel) (by decide +kernel), z_mem 67 (by decide +kernel) (by decide +kernel), by decide, by decide, (by decide +kernel)⟩
theorem zY_X4_bindingOf : zY yX4_bindingOf cX4_bindingOf 1 (some .int) 1 := ⟨z_mem 396 (by decide +kernel) (by decide +kernel), z_mem 67 (by decide +kernel) (by decide +kernel), by decide, by decide, (by decide +kernel)⟩
theorem zY_X4_emit : zY yX4_emit cX4_emit 2 (none) 1 := ⟨z_mem 165 (by decide +kernel) (by decide +kernel), z_mem 67 (by decide +kernel) (by decide +kernel), by decide, by decide, (by decide +kernel)⟩
theorem zY_X4_hold : zY yX4_hold cX4_hold 2 (none) 1 := ⟨z_mem 382 (by decide +kernel) (by decide +kernel), z_mem 67 (by decide +kernel) (by decide +kernel), by decide, by decide, (by decide +kernel)⟩
theorem zY_X4_release : zY yX4_release cX4_release 2 (none) 1 := ⟨z_mem 393 (by decide +kernel) (by decide +kernel), z_mem 67 (by decide +kernel) (by decide +kernel), by decide, by decide, (by decide +kernel)⟩
theorem zY_X4_pullOf : zY yX4_pullOf cX4_pullOf 8 (some .int) 3 := ⟨z_mem 445 (by decide +kernel) (by decide +kernel), z_mem 67 (by decide +kernel) (by decide +kernel), by decide, by decide, (by decide +kernel)⟩
theorem zY_X4_traitOf : zY yX4_traitOf cX4_traitOf 4 (some .int) 4 := ⟨z_mem 448 (by decide +kernel) (by decide +kernel), z_mem 67 (by decide +kernel) (by decide +kernel), by decide, by decide, (by decide +kernel)⟩
theorem zY_X4_joined : zY yX4_joined cX4_joined 3 (some .int) 3 := ⟨z_mem 472 (by decide +kernel) (by decide +kernel), z_mem 67 (by decide +kernel) (by decide +kernel), by decide, by decide, (by decide +kernel)⟩
theorem zY_X4_goesOf : zY yX4_goesOf cX4_goesOf 7 (some .int) 1 := ⟨z_mem 437 (by decide +kernel) (by decide +kernel), z_mem 67 (by decide +kernel) (by decide +kernel), by decide, by decide, (by decide +kernel)⟩
theorem zY_X5_init : zY yX5_init cX5_init 1 (none) 0 := ⟨z_mem 243 (by decide +kernel) (by decide +kernel), z_mem 70 (by decide +kernel) (by decide +kernel), by decide, by decide, (by decide +kernel)⟩
theorem zY_X5_mostOf : zY yX5_mostOf cX5_mostOf 1 (some .int) 1 := ⟨z_mem 881 (by decide +kernel) (by decide +kernel), z_mem 70 (by decide +kernel) (by decide +kernel), by decide, by decide, (by decide +kernel)⟩
theorem zY_X5_add : zY yX5_add cX5_add 3 (none) 2 := ⟨z_mem 885 (by decide +kernel) (by decide +kernel), z_mem 70 (by decide +kernel) (by decide +kernel), by decide, by decide, (by decide +kernel)⟩
theorem zY_X5_those : zY yX5_those cX5_those 6 (some .int) 4 := ⟨z_mem 901 (by decide +kernel) (by decide +kernel), z_mem 70 (by decide +kernel) (by decide +kernel), by decide, by decide, (by decide +kernel)⟩
theorem zY_X5_isSo : zY yX5_isSo cX5_isSo 5 (some .boolean) 5 := ⟨z_mem 904 (by decide +kernel) (by decide +kernel), z_mem 70 (by decide +kernel) (by decide +kernel), by decide, by decide, (by decide +kernel)⟩
theorem zY_X5_fitting : zY yX5_fitting cX5_fitting 4 (some .int) 1 := ⟨z_mem 897 (by decide +kernel) (by decide +kernel), z_mem 70 (by decide +kernel) (by decide +kernel), by decide, by decide, (by decide +kernel)⟩
theorem zY_X6_init : zY yX6_init cX6_init 1 (none) 0 := ⟨z_mem 124 (by decide +kernel) (by decide +kernel), z_mem 65 (by decide +kernel) (by decide +kernel), by decide, by decide, (by decide +kernel)⟩
theorem zY_X6_add : zY yX6_add cX6_add 2 (none) 1 := ⟨z_mem 320 (by decide +kernel) (by decide +kernel), z_mem 65 (by decide +kernel) (by decide +kernel), by decide, by decide, (by decide +kernel)⟩
theorem zY_X6_at : zY yX6_at cX6_at 2 (some .int) 1 := ⟨z_mem 340 (by decide +kernel) (by decide +kernel), z_mem 65 (by decide +kernel) (by decide +kernel), by decide, by decide, (by decide +kernel)⟩
theorem zY_X6_digit : zY yX6_digit cX6_digit 3 (some .int) 1 := ⟨z_mem 336 (by decide +kernel) (by decide +kernel), z_mem 65 (by decide +kernel) (by decide +kernel), by decide, by decide, (by decide +kernel)⟩
theorem zY_X7_init : zY yX7_init cX7_init 1 (none) 0 := ⟨z_mem 97 (by decide +kernel) (by decide +kernel), z_mem 64 (by decide +kernel) (by decide +kernel), by decide, by decide, (by decide +kernel)⟩
theorem zY_X7_sizeOf : zY yX7_sizeOf cX7_sizeOf 2 (some .int) 1 := ⟨z_mem 441 (by decide +kernel) (by decide +kernel), z_mem 64 (by decide +kernel) (by decide +kernel), by decide, by decide, (by decide +kernel)⟩
theorem zY_X7_threads : zY yX7_threads cX7_threads 1 (some .int) 0 := ⟨z_mem 502 (by decide +kernel) (by decide +kernel), z_mem 64 (by decide +kernel) (by decide +kernel), by decide, by decide, (by decide +kernel)⟩
theorem zY_X7_fullOf : zY yX7_fullOf cX7_fullOf 2 (some .int) 1 := ⟨z_mem 413 (by decide +kernel) (by decide +kernel), z_mem 64 (by decide +kernel) (by decide +kernel), by decide, by decide, (by decide +kernel)⟩
theorem zY_X7_all : zY yX7_all cX7_all 1 (some .int) 0 := ⟨z_mem 678 (by decide +kernel) (by decide +kernel), z_mem 64 (by decide +kernel) (by decide +kernel), by decide, by decide, (by decide +kernel)⟩
theorem zY_X7_has : zY yX7_has cX7_has 3 (some .boolean) 2 := ⟨z_mem 487 (by decide +kernel) (by decide +kernel), z_mem 64 (by decide +kernel) (by decide +kernel), by decide, by decide, (by decide +kernel)⟩
theorem zY_X7_crosses : zY yX7_crosses cX7_crosses 3 (some .boolean) 2 := ⟨z_mem 534 (by decide +kernel) (by decide +kernel), z_mem 64 (by decide +kernel) (by decide +kernel), by decide, by decide, (by decide +kernel)⟩
theorem zY_X7_cellsOf : zY yX7_cellsOf cX7_cellsOf 4 (some .int) 2 := ⟨z_mem 452 (by decide +kernel) (by decide +kernel), z_mem 64 (by decide +kernel) (by decide +kernel), by decide, by decide, (by decide +kernel)⟩
theorem zY_X7_overAt : zY yX7_overAt cX7_overAt 3 (some .int) 2 := ⟨z_mem 820 (by decide +kernel) (by decide +kernel), z_mem 64 (by decide +kernel) (by decide +kernel), by decide, by decide, (by decide +kernel)⟩
theorem zY_X7_overs : zY yX7_overs cX7_overs 3 (some .int) 0 := ⟨z_mem 538 (by decide +kernel) (by decide +kernel), z_mem 64 (by decide +kernel) (by decide +kernel), by decide, by decide, (by decide +kernel)⟩
theorem zY_X7_changesOf : zY yX7_changesOf cX7_changesOf 5 (some .int) 2 := ⟨z_mem 462 (by decide +kernel) (by decide +kernel), z_mem 64 (by decide +kernel) (by decide +kernel), by decide, by decide, (by decide +kernel)⟩
theorem zY_X7_likesOf : zY yX7_likesOf cX7_likesOf 5 (some .int) 2 := ⟨z_mem 468 (by decide +kernel) (by decide +kernel), z_mem 64 (by decide +kernel) (by decide +kernel), by decide, by decide, (by decide +kernel)⟩
theorem zY_X7_areTwins : zY yX7_areTwins cX7_areTwins 4 (some .boolean) 2 := ⟨z_mem 862 (by decide +kernel) (by decide +kernel), z_mem 64 (by decide +kernel) (by decide +kernel), by decide, by decide, (by decide +kernel)⟩
theorem zY_X7_isLoose : zY yX7_isLoose cX7_isLoose 4 (some .boolean) 2 := ⟨z_mem 911 (by decide +kernel) (by decide +kernel), z_mem 64 (by decide +kernel) (by decide +kernel), by decide, by decide, (by decide +kernel)⟩
theorem zY_X7_looseIn : zY yX7_looseIn cX7_looseIn 8 (some .int) 1 := ⟨z_mem 753 (by decide +kernel) (by decide +kernel), z_mem 64 (by decide +kernel) (by decide +kernel), by decide, by decide, (by decide +kernel)⟩
theorem zY_X7_repeatOf : zY yX7_repeatOf cX7_repeatOf 5 (some .int) 1 := ⟨z_mem 840 (by decide +kernel) (by decide +kernel), z_mem 64 (by decide +kernel) (by decide +kernel), by decide, by decide, (by decide +kernel)⟩
theorem zY_X7_runsAlong : zY yX7_runsAlong cX7_runsAlong 4 (some .int) 1 := ⟨z_mem 853 (by decide +kernel) (by decide +kernel), z_mem 64 (by decide +kernel) (by decide +kernel), by decide, by decide, (by decide +kernel)⟩
theorem zY_X7_longestRun : zY yX7_longestRun cX7_longestRun 7 (some .int) 1 := ⟨z_mem 848 (by decide +kernel) (by decide +kernel), z_mem 64 (by decide +kernel) (by decide +kernel), by decide, by decide, (by decide +kernel)⟩
theorem zY_X7_settle : zY yX7_settle cX7_settle 4 (none) 0 := ⟨z_mem 348 (by decide +kernel) (by decide +kernel), z_mem 64 (by decide +kernel) (by decide +kernel), by decide, by decide, (by decide +kernel)⟩
theorem zY_X7_become : zY yX7_become cX7_become 2 (none) 1 := ⟨z_mem 352 (by decide +kernel) (by decide +kernel), z_mem 64 (by decide +kernel) (by decide +kernel), by decide, by decide, (by decide +kernel)⟩
theorem zY_X7_shape : zY yX7_shape cX7_shape 4 (some .long) 0 := ⟨z_mem 421 (by decide +kernel) (by decide +kernel), z_mem 64 (by decide +kernel) (by decide +kernel), by decide, by decide, (by decide +kernel)⟩
theorem zY_X7_takeShape : zY yX7_takeShape cX7_takeShape 4 (none) 1 := ⟨z_mem 643 (by decide +kernel) (by decide +kernel), z_mem 64 (by decide +kernel) (by decide +kernel), by decide, by decide, (by decide +kernel)⟩
theorem zY_X7_readFrom : zY yX7_readFrom cX7_readFrom 5 (some .int) 1 := ⟨z_mem 332 (by decide +kernel) (by decide +kernel), z_mem 64 (by decide +kernel) (by decide +kernel), by decide, by decide, (by decide +kernel)⟩
theorem zY_X7_fillPicks : zY yX7_fillPicks cX7_fillPicks 6 (some .int) 3 := ⟨z_mem 409 (by decide +kernel) (by decide +kernel), z_mem 64 (by decide +kernel) (by decide +kernel), by decide, by decide, (by decide +kernel)⟩
theorem zY_X7_weaveIn : zY yX7_weaveIn cX7_weaveIn 5 (some .int) 3 := ⟨z_mem 510 (by decide +kernel) (by decide +kernel), z_mem 64 (by decide +kernel) (by decide +kernel), by decide, by decide, (by decide +kernel)⟩
theorem zY_X7_drawOut : zY yX7_drawOut cX7_drawOut 5 (some .int) 2 := ⟨z_mem 483 (by decide +kernel) (by decide +kernel), z_mem 64 (by decide +kernel) (by decide +kernel), by decide, by decide, (by decide +kernel)⟩
theorem zY_X7_turnCell : zY yX7_turnCell cX7_turnCell 3 (some .int) 2 := ⟨z_mem 530 (by decide +kernel) (by decide +kernel), z_mem 64 (by decide +kernel) (by decide +kernel), by decide, by decide, (by decide +kernel)⟩
theorem zY_X7_turnRound : zY yX7_turnRound cX7_turnRound 6 (some .int) 1 := ⟨z_mem 546 (by decide +kernel) (by decide +kernel), z_mem 64 (by decide +kernel) (by decide +kernel), by decide, by decide, (by decide +kernel)⟩
theorem zY_X7_turnedRound : zY yX7_turnedRound cX7_turnedRound 4 (some .int) 1 := ⟨z_mem 550 (by decide +kernel) (by decide +kernel), z_mem 64 (by decide +kernel) (by decide +kernel), by decide, by decide, (by decide +kernel)⟩
theorem zY_X7_passNight : zY yX7_passNight cX7_passNight 2 (none) 1 := ⟨z_mem 479 (by decide +kernel) (by decide +kernel), z_mem 64 (by decide +kernel) (by decide +kernel), by decide, by decide, (by decide +kernel)⟩
theorem zY_X8_init : zY yX8_init cX8_init 1 (none) 0 := ⟨z_mem 89 (by decide +kernel) (by decide +kernel), z_mem 63 (by decide +kernel) (by decide +kernel), by decide, by decide, (by decide +kernel)⟩
theorem zY_X8_sign : zY yX8_sign cX8_sign 2 (some .int) 1 := ⟨z_mem 316 (by decide +kernel) (by decide +kernel), z_mem 63 (by decide +kernel) (by decide +kernel), by decide, by decide, (by decide +kernel)⟩
theorem zY_X8_end : zY yX8_end cX8_end 2 (some .boolean) 1 := ⟨z_mem 324 (by decide +kernel) (by decide +kernel), z_mem 63 (by decide +kernel) (by decide +kernel), by decide, by decide, (by decide +kernel)⟩
theorem zY_X8_cloth : zY yX8_cloth cX8_cloth 2 (some .int) 0 := ⟨z_mem 328 (by decide +kernel) (by decide +kernel), z_mem 63 (by decide +kernel) (by decide +kernel), by decide, by decide, (by decide +kernel)⟩
theorem zY_X8_rule : zY yX8_rule cX8_rule 2 (some .int) 0 := ⟨z_mem 366 (by decide +kernel) (by decide +kernel), z_mem 63 (by decide +kernel) (by decide +kernel), by decide, by decide, (by decide +kernel)⟩
theorem zY_X8_cell : zY yX8_cell cX8_cell 3 (some .int) 2 := ⟨z_mem 983 (by decide +kernel) (by decide +kernel), z_mem 63 (by decide +kernel) (by decide +kernel), by decide, by decide, (by decide +kernel)⟩
theorem zY_X8_thread : zY yX8_thread cX8_thread 4 (some .int) 3 := ⟨z_mem 1051 (by decide +kernel) (by decide +kernel), z_mem 63 (by decide +kernel) (by decide +kernel), by decide, by decide, (by decide +kernel)⟩
theorem zY_X8_sheet : zY yX8_sheet cX8_sheet 7 (some .int) 4 := ⟨z_mem 405 (by decide +kernel) (by decide +kernel), z_mem 63 (by decide +kernel) (by decide +kernel), by decide, by decide, (by decide +kernel)⟩
theorem zY_X8_nights : zY yX8_nights cX8_nights 2 (some .int) 1 := ⟨z_mem 417 (by decide +kernel) (by decide +kernel), z_mem 63 (by decide +kernel) (by decide +kernel), by decide, by decide, (by decide +kernel)⟩
theorem zY_X8_weaves : zY yX8_weaves cX8_weaves 7 (some .int) 3 := ⟨z_mem 506 (by decide +kernel) (by decide +kernel), z_mem 63 (by decide +kernel) (by decide +kernel), by decide, by decide, (by decide +kernel)⟩
theorem zY_X8_draws : zY yX8_draws cX8_draws 6 (some .int) 2 := ⟨z_mem 521 (by decide +kernel) (by decide +kernel), z_mem 63 (by decide +kernel) (by decide +kernel), by decide, by decide, (by decide +kernel)⟩
theorem zY_X8_flips : zY yX8_flips cX8_flips 6 (some .int) 2 := ⟨z_mem 526 (by decide +kernel) (by decide +kernel), z_mem 63 (by decide +kernel) (by decide +kernel), by decide, by decide, (by decide +kernel)⟩
theorem zY_X8_mirrors : zY yX8_mirrors cX8_mirrors 5 (some .int) 1 := ⟨z_mem 542 (by decide +kernel) (by decide +kernel), z_mem 63 (by decide +kernel) (by decide +kernel), by decide, by decide, (by decide +kernel)⟩
theorem zY_X8_work : zY yX8_work cX8_work 8 (some .int) 0 := ⟨z_mem 554 (by decide +kernel) (by decide +kernel), z_mem 63 (by decide +kernel) (by decide +kernel), by decide, by decide, (by decide +kernel)⟩
theorem zY_X8_undo : zY yX8_undo cX8_undo 1 (some .int) 0 := ⟨z_mem 631 (by decide +kernel) (by decide +kernel), z_mem 63 (by decide +kernel) (by decide +kernel), by decide, by decide, (by decide +kernel)⟩
theorem zY_X8_next : zY yX8_next cX8_next 2 (some .int) 0 := ⟨z_mem 649 (by decide +kernel) (by decide +kernel), z_mem 63 (by decide +kernel) (by decide +kernel), by decide, by decide, (by decide +kernel)⟩
theorem zY_X8_later : zY yX8_later cX8_later 3 (some .int) 1 := ⟨z_mem 658 (by decide +kernel) (by decide +kernel), z_mem 63 (by decide +kernel) (by decide +kernel), by decide, by decide, (by decide +kernel)⟩
theorem zY_X8_falls : zY yX8_falls cX8_falls 2 (some .int) 0 := ⟨z_mem 664 (by decide +kernel) (by decide +kernel), z_mem 63 (by decide +kernel) (by decide +kernel), by decide, by decide, (by decide +kernel)⟩
theorem zY_X8_rags : zY yX8_rags cX8_rags 4 (some .int) 0 := ⟨z_mem 690 (by decide +kernel) (by decide +kernel), z_mem 63 (by decide +kernel) (by decide +kernel), by decide, by decide, (by decide +kernel)⟩
theorem zY_X8_lefts : zY yX8_lefts cX8_lefts 8 (some .int) 1 := ⟨z_mem 714 (by decide +kernel) (by decide +kernel), z_mem 63 (by decide +kernel) (by decide +kernel), by decide, by decide, (by decide +kernel)⟩
theorem zY_X8_outlasts : zY yX8_outlasts cX8_outlasts 5 (some .int) 0 := ⟨z_mem 728 (by decide +kernel) (by decide +kernel), z_mem 63 (by decide +kernel) (by decide +kernel), by decide, by decide, (by decide +kernel)⟩
theorem zY_X8_words : zY yX8_words cX8_words 7 (some .int) 2 := ⟨z_mem 741 (by decide +kernel) (by decide +kernel), z_mem 63 (by decide +kernel) (by decide +kernel), by decide, by decide, (by decide +kernel)⟩
theorem zY_X8_loose : zY yX8_loose cX8_loose 2 (some .int) 0 := ⟨z_mem 748 (by decide +kernel) (by decide +kernel), z_mem 63 (by decide +kernel) (by decide +kernel), by decide, by decide, (by decide +kernel)⟩
theorem zY_X8_sheds : zY yX8_sheds cX8_sheds 4 (some .int) 0 := ⟨z_mem 757 (by decide +kernel) (by decide +kernel), z_mem 63 (by decide +kernel) (by decide +kernel), by decide, by decide, (by decide +kernel)⟩
theorem zY_X8_hangs : zY yX8_hangs cX8_hangs 9 (some .int) 0 := ⟨z_mem 761 (by decide +kernel) (by decide +kernel), z_mem 63 (by decide +kernel) (by decide +kernel), by decide, by decide, (by decide +kernel)⟩
theorem zY_X8_spares : zY yX8_spares cX8_spares 5 (some .int) 0 := ⟨z_mem 767 (by decide +kernel) (by decide +kernel), z_mem 63 (by decide +kernel) (by decide +kernel), by decide, by decide, (by decide +kernel)⟩
theorem zY_X8_mends : zY yX8_mends cX8_mends 5 (some .int) 0 := ⟨z_mem 772 (by decide +kernel) (by decide +kernel), z_mem 63 (by decide +kernel) (by decide +kernel), by decide, by decide, (by decide +kernel)⟩
theorem zY_X8_endures : zY yX8_endures cX8_endures 7 (some .int) 0 := ⟨z_mem 785 (by decide +kernel) (by decide +kernel), z_mem 63 (by decide +kernel) (by decide +kernel), by decide, by decide, (by decide +kernel)⟩
theorem zY_X8_differs : zY yX8_differs cX8_differs 8 (some .int) 0 := ⟨z_mem 812 (by decide +kernel) (by decide +kernel), z_mem 63 (by decide +kernel) (by decide +kernel), by decide, by decide, (by decide +kernel)⟩
theorem zY_X8_looks : zY yX8_looks cX8_looks 5 (some .int) 0 := ⟨z_mem 824 (by decide +kernel) (by decide +kernel), z_mem 63 (by decide +kernel) (by decide +kernel), by decide, by decide, (by decide +kernel)⟩
theorem zY_X8_repeats : zY yX8_repeats cX8_repeats 1 (some .int) 0 := ⟨z_mem 836 (by decide +kernel) (by decide +kernel), z_mem 63 (by decide +kernel) (by decide +kernel), by decide, by decide, (by decide +kernel)⟩
theorem zY_X8_runs : zY yX8_runs cX8_runs 1 (some .int) 0 := ⟨z_mem 844 (by decide +kernel) (by decide +kernel), z_mem 63 (by decide +kernel) (by decide +kernel), by decide, by decide, (by decide +kernel)⟩
theorem zY_X8_twins : zY yX8_twins cX8_twins 4 (some .int) 0 := ⟨z_mem 858 (by decide +kernel) (by decide +kernel), z_mem 63 (by decide +kernel) (by decide +kernel), by decide, by decide, (by decide +kernel)⟩
theorem zY_X8_game : zY yX8_game cX8_game 3 (some .int) 0 := ⟨z_mem 866 (by decide +kernel) (by decide +kernel), z_mem 63 (by decide +kernel) (by decide +kernel), by decide, by decide, (by decide +kernel)⟩
theorem zY_X8_told : zY yX8_told cX8_told 3 (some .int) 2 := ⟨z_mem 878 (by decide +kernel) (by decide +kernel), z_mem 63 (by decide +kernel) (by decide +kernel), by decide, by decide, (by decide +kernel)⟩
theorem zY_X8_forget : zY yX8_forget cX8_forget 2 (some .int) 0 := ⟨z_mem 889 (by decide +kernel) (by decide +kernel), z_mem 63 (by decide +kernel) (by decide +kernel), by decide, by decide, (by decide +kernel)⟩
theorem zY_X8_fits : zY yX8_fits cX8_fits 2 (some .int) 0 := ⟨z_mem 893 (by decide +kernel) (by decide +kernel), z_mem 63 (by decide +kernel) (by decide +kernel), by decide, by decide, (by decide +kernel)⟩
theorem zY_X8_asks : zY yX8_asks cX8_asks 8 (some .int) 0 := ⟨z_mem 915 (by decide +kernel) (by decide +kernel), z_mem 63 (by decide +kernel) (by decide +kernel), by decide, by decide, (by decide +kernel)⟩
theorem zY_X8_odds : zY yX8_odds cX8_odds 9 (some .int) 1 := ⟨z_mem 921 (by decide +kernel) (by decide +kernel), z_mem 63 (by decide +kernel) (by decide +kernel), by decide, by decide, (by decide +kernel)⟩
theorem zY_X8_law : zY yX8_law cX8_law 6 (some .int) 0 := ⟨z_mem 935 (by decide +kernel) (by decide +kernel), z_mem 63 (by decide +kernel) (by decide +kernel), by decide, by decide, (by decide +kernel)⟩
theorem zY_X8_rests : zY yX8_rests cX8_rests 5 (some .int) 1 := ⟨z_mem 939 (by decide +kernel) (by decide +kernel), z_mem 63 (by decide +kernel) (by decide +kernel), by decide, by decide, (by decide +kernel)⟩
theorem zY_X8_years : zY yX8_years cX8_years 7 (some .int) 2 := ⟨z_mem 949 (by decide +kernel) (by decide +kernel), z_mem 63 (by decide +kernel) (by decide +kernel), by decide, by decide, (by decide +kernel)⟩
theorem zY_X8_keep : zY yX8_keep cX8_keep 2 (some .boolean) 1 := ⟨z_mem 965 (by decide +kernel) (by decide +kernel), z_mem 63 (by decide +kernel) (by decide +kernel), by decide, by decide, (by decide +kernel)⟩
theorem zY_X8_again : zY yX8_again cX8_again 2 (some .boolean) 1 := ⟨z_mem 970 (by decide +kernel) (by decide +kernel), z_mem 63 (by decide +kernel) (by decide +kernel), by decide, by decide, (by decide +kernel)⟩
theorem zY_X8_count : zY yX8_count cX8_count 2 (some .int) 1 := ⟨z_mem 975 (by decide +kernel) (by decide +kernel), z_mem 63 (by decide +kernel) (by decide +kernel), by decide, by decide, (by decide +kernel)⟩
theorem zY_X8_row : zY yX8_row cX8_row 2 (some .long) 1 := ⟨z_mem 1062 (by decide +kernel) (by decide +kernel), z_mem 63 (by decide +kernel) (by decide +kernel), by decide, by decide, (by decide +kernel)⟩
theorem zY_X8_noted : zY yX8_noted cX8_noted 5 (some .int) 3 := ⟨z_mem 517 (by decide +kernel) (by decide +kernel), z_mem 63 (by decide +kernel) (by decide +kernel), by decide, by decide, (by decide +kernel)⟩
theorem zY_X8_passNights : zY yX8_passNights cX8_passNights 5 (some .int) 1 := ⟨z_mem 433 (by decide +kernel) (by decide +kernel), z_mem 63 (by decide +kernel) (by decide +kernel), by decide, by decide, (by decide +kernel)⟩
theorem zY_X8_digitsOf : zY yX8_digitsOf cX8_digitsOf 1 (some (.object "java/lang/String")) 1 := ⟨z_mem 574 (by decide +kernel) (by decide +kernel), z_mem 63 (by decide +kernel) (by decide +kernel), by decide, by decide, (by decide +kernel)⟩
theorem zY_X8_workFault : zY yX8_workFault cX8_workFault 6 (some .int) 0 := ⟨z_mem 558 (by decide +kernel) (by decide +kernel), z_mem 63 (by decide +kernel) (by decide +kernel), by decide, by decide, (by decide +kernel)⟩
theorem zY_X8_actAt : zY yX8_actAt cX8_actAt 4 (some .int) 1 := ⟨z_mem 625 (by decide +kernel) (by decide +kernel), z_mem 63 (by decide +kernel) (by decide +kernel), by decide, by decide, (by decide +kernel)⟩
theorem zY_X8_ragsWithout : zY yX8_ragsWithout cX8_ragsWithout 7 (some .int) 2 := ⟨z_mem 699 (by decide +kernel) (by decide +kernel), z_mem 63 (by decide +kernel) (by decide +kernel), by decide, by decide, (by decide +kernel)⟩
theorem zY_X8_staysApart : zY yX8_staysApart cX8_staysApart 4 (some .boolean) 1 := ⟨z_mem 732 (by decide +kernel) (by decide +kernel), z_mem 63 (by decide +kernel) (by decide +kernel), by decide, by decide, (by decide +kernel)⟩
theorem zY_X8_canBeAlike : zY yX8_canBeAlike cX8_canBeAlike 6 (some .boolean) 2 := ⟨z_mem 736 (by decide +kernel) (by decide +kernel), z_mem 63 (by decide +kernel) (by decide +kernel), by decide, by decide, (by decide +kernel)⟩
theorem zY_X8_checkSum : zY yX8_checkSum cX8_checkSum 4 (some .int) 2 := ⟨z_mem 744 (by decide +kernel) (by decide +kernel), z_mem 63 (by decide +kernel) (by decide +kernel), by decide, by decide, (by decide +kernel)⟩
theorem zY_X8_mendingCell : zY yX8_mendingCell cX8_mendingCell 5 (some .int) 2 := ⟨z_mem 776 (by decide +kernel) (by decide +kernel), z_mem 63 (by decide +kernel) (by decide +kernel), by decide, by decide, (by decide +kernel)⟩
theorem zY_X8_differences : zY yX8_differences cX8_differences 8 (some .int) 2 := ⟨z_mem 816 (by decide +kernel) (by decide +kernel), z_mem 63 (by decide +kernel) (by decide +kernel), by decide, by decide, (by decide +kernel)⟩
theorem zY_X8_otherwise : zY yX8_otherwise cX8_otherwise 8 (some .int) 2 := ⟨z_mem 828 (by decide +kernel) (by decide +kernel), z_mem 63 (by decide +kernel) (by decide +kernel), by decide, by decide, (by decide +kernel)⟩
theorem zY_X8_otherwiseAcross : zY yX8_otherwiseAcross cX8_otherwiseAcross 4 (some .int) 0 := ⟨z_mem 832 (by decide +kernel) (by decide +kernel), z_mem 63 (by decide +kernel) (by decide +kernel), by decide, by decide, (by decide +kernel)⟩
theorem zY_X8_power : zY yX8_power cX8_power 5 (some .long) 2 := ⟨z_mem 928 (by decide +kernel) (by decide +kernel), z_mem 63 (by decide +kernel) (by decide +kernel), by decide, by decide, (by decide +kernel)⟩
theorem zY_X8_commonDivisor : zY yX8_commonDivisor cX8_commonDivisor 11 (some .long) 2 := ⟨z_mem 931 (by decide +kernel) (by decide +kernel), z_mem 63 (by decide +kernel) (by decide +kernel), by decide, by decide, (by decide +kernel)⟩
theorem zY_X8_share : zY yX8_share cX8_share 3 (some .int) 3 := ⟨z_mem 945 (by decide +kernel) (by decide +kernel), z_mem 63 (by decide +kernel) (by decide +kernel), by decide, by decide, (by decide +kernel)⟩
theorem zY_X8_isBestAgainst : zY yX8_isBestAgainst cX8_isBestAgainst 5 (some .boolean) 3 := ⟨z_mem 942 (by decide +kernel) (by decide +kernel), z_mem 63 (by decide +kernel) (by decide +kernel), by decide, by decide, (by decide +kernel)⟩
theorem zY_X8_drawnBelow : zY yX8_drawnBelow cX8_drawnBelow 2 (some .int) 1 := ⟨z_mem 953 (by decide +kernel) (by decide +kernel), z_mem 63 (by decide +kernel) (by decide +kernel), by decide, by decide, (by decide +kernel)⟩
theorem zY_X8_weaveDrawn : zY yX8_weaveDrawn cX8_weaveDrawn 4 (none) 0 := ⟨z_mem 958 (by decide +kernel) (by decide +kernel), z_mem 63 (by decide +kernel) (by decide +kernel), by decide, by decide, (by decide +kernel)⟩
theorem zY_X8_without : zY yX8_without cX8_without 3 (some .int) 2 := ⟨z_mem 490 (by decide +kernel) (by decide +kernel), z_mem 63 (by decide +kernel) (by decide +kernel), by decide, by decide, (by decide +kernel)⟩
theorem zY_X8_with : zY yX8_with cX8_with 4 (some .int) 3 := ⟨z_mem 513 (by decide +kernel) (by decide +kernel), z_mem 63 (by decide +kernel) (by decide +kernel), by decide, by decide, (by decide +kernel)⟩
theorem zY_X9_thrown : zY yX9_thrown cX9_thrown 1 (some .int) 0 := ⟨z_mem 1066 (by decide +kernel) (by decide +kernel), z_mem 72 (by decide +kernel) (by decide +kernel), by decide, by decide, (by decide +kernel)⟩
theorem zY_X9_refuse : zY yX9_refuse cX9_refuse 1 (some .int) 0 := ⟨z_mem 1297 (by decide +kernel) (by decide +kernel), z_mem 72 (by decide +kernel) (by decide +kernel), by decide, by decide, (by decide +kernel)⟩
theorem zY_X9_in : zY yX9_in cX9_in 6 (some .boolean) 3 := ⟨z_mem 1207 (by decide +kernel) (by decide +kernel), z_mem 72 (by decide +kernel) (by decide +kernel), by decide, by decide, (by decide +kernel)⟩
theorem zY_X9_has : zY yX9_has cX9_has 2 (some .boolean) 2 := ⟨z_mem 1300 (by decide +kernel) (by decide +kernel), z_mem 72 (by decide +kernel) (by decide +kernel), by decide, by decide, (by decide +kernel)⟩
theorem zY_X9_flag : zY yX9_flag cX9_flag 1 (some .int) 1 := ⟨z_mem 1257 (by decide +kernel) (by decide +kernel), z_mem 72 (by decide +kernel) (by decide +kernel), by decide, by decide, (by decide +kernel)⟩
theorem zY_X9_common : zY yX9_common cX9_common 4 (some .long) 2 := ⟨z_mem 1615 (by decide +kernel) (by decide +kernel), z_mem 72 (by decide +kernel) (by decide +kernel), by decide, by decide, (by decide +kernel)⟩
theorem zY_X9_enters : zY yX9_enters cX9_enters 3 (none) 1 := ⟨z_mem 1381 (by decide +kernel) (by decide +kernel), z_mem 72 (by decide +kernel) (by decide +kernel), by decide, by decide, (by decide +kernel)⟩
theorem zY_X9_init : zY yX9_init cX9_init 1 (none) 0 := ⟨z_mem 1071 (by decide +kernel) (by decide +kernel), z_mem 72 (by decide +kernel) (by decide +kernel), by decide, by decide, (by decide +kernel)⟩
theorem zY_X9_copies : zY yX9_copies cX9_copies 3 (none) 2 := ⟨z_mem 1234 (by decide +kernel) (by decide +kernel), z_mem 72 (by decide +kernel) (by decide +kernel), by decide, by decide, (by decide +kernel)⟩
theorem zY_X9_manyOf : zY yX9_manyOf cX9_manyOf 2 (some .int) 2 := ⟨z_mem 1293 (by decide +kernel) (by decide +kernel), z_mem 72 (by decide +kernel) (by decide +kernel), by decide, by decide, (by decide +kernel)⟩
theorem zY_X9_cellsOf : zY yX9_cellsOf cX9_cellsOf 2 (some .int) 2 := ⟨z_mem 1311 (by decide +kernel) (by decide +kernel), z_mem 72 (by decide +kernel) (by decide +kernel), by decide, by decide, (by decide +kernel)⟩
theorem zY_X9_threadsOf : zY yX9_threadsOf cX9_threadsOf 1 (some .int) 1 := ⟨z_mem 1384 (by decide +kernel) (by decide +kernel), z_mem 72 (by decide +kernel) (by decide +kernel), by decide, by decide, (by decide +kernel)⟩
theorem zY_X9_isThread : zY yX9_isThread cX9_isThread 3 (some .boolean) 3 := ⟨z_mem 1290 (by decide +kernel) (by decide +kernel), z_mem 72 (by decide +kernel) (by decide +kernel), by decide, by decide, (by decide +kernel)⟩
theorem zY_X9_full : zY yX9_full cX9_full 1 (some .int) 1 := ⟨z_mem 1323 (by decide +kernel) (by decide +kernel), z_mem 72 (by decide +kernel) (by decide +kernel), by decide, by decide, (by decide +kernel)⟩
theorem zY_X9_bitsOf : zY yX9_bitsOf cX9_bitsOf 5 (some .int) 3 := ⟨z_mem 1308 (by decide +kernel) (by decide +kernel), z_mem 72 (by decide +kernel) (by decide +kernel), by decide, by decide, (by decide +kernel)⟩
theorem zY_X9_changesOf : zY yX9_changesOf cX9_changesOf 4 (some .int) 2 := ⟨z_mem 1314 (by decide +kernel) (by decide +kernel), z_mem 72 (by decide +kernel) (by decide +kernel), by decide, by decide, (by decide +kernel)⟩
theorem zY_X9_alike : zY yX9_alike cX9_alike 5 (some .int) 3 := ⟨z_mem 1317 (by decide +kernel) (by decide +kernel), z_mem 72 (by decide +kernel) (by decide +kernel), by decide, by decide, (by decide +kernel)⟩
theorem zY_X9_isLoose : zY yX9_isLoose cX9_isLoose 4 (some .boolean) 3 := ⟨z_mem 1320 (by decide +kernel) (by decide +kernel), z_mem 72 (by decide +kernel) (by decide +kernel), by decide, by decide, (by decide +kernel)⟩
theorem zY_X9_overs : zY yX9_overs cX9_overs 3 (some .int) 1 := ⟨z_mem 1423 (by decide +kernel) (by decide +kernel), z_mem 72 (by decide +kernel) (by decide +kernel), by decide, by decide, (by decide +kernel)⟩
theorem zY_X9_isAs : zY yX9_isAs cX9_isAs 4 (some .boolean) 2 := ⟨z_mem 1489 (by decide +kernel) (by decide +kernel), z_mem 72 (by decide +kernel) (by decide +kernel), by decide, by decide, (by decide +kernel)⟩
theorem zY_X9_without : zY yX9_without cX9_without 2 (some .int) 2 := ⟨z_mem 1377 (by decide +kernel) (by decide +kernel), z_mem 72 (by decide +kernel) (by decide +kernel), by decide, by decide, (by decide +kernel)⟩
theorem zY_X9_with : zY yX9_with cX9_with 3 (some .int) 3 := ⟨z_mem 1401 (by decide +kernel) (by decide +kernel), z_mem 72 (by decide +kernel) (by decide +kernel), by decide, by decide, (by decide +kernel)⟩
theorem zY_X9_goes : zY yX9_goes cX9_goes 4 (none) 3 := ⟨z_mem 1374 (by decide +kernel) (by decide +kernel), z_mem 72 (by decide +kernel) (by decide +kernel), by decide, by decide, (by decide +kernel)⟩
theorem zY_X9_comes : zY yX9_comes cX9_comes 5 (none) 4 := ⟨z_mem 1398 (by decide +kernel) (by decide +kernel), z_mem 72 (by decide +kernel) (by decide +kernel), by decide, by decide, (by decide +kernel)⟩
theorem zY_X9_sign : zY yX9_sign cX9_sign 3 (some .int) 1 := ⟨z_mem 1200 (by decide +kernel) (by decide +kernel), z_mem 72 (by decide +kernel) (by decide +kernel), by decide, by decide, (by decide +kernel)⟩
theorem zY_X9_end : zY yX9_end cX9_end 2 (some .boolean) 1 := ⟨z_mem 1204 (by decide +kernel) (by decide +kernel), z_mem 72 (by decide +kernel) (by decide +kernel), by decide, by decide, (by decide +kernel)⟩
theorem zY_X9_begins : zY yX9_begins cX9_begins 3 (some .int) 1 := ⟨z_mem 1219 (by decide +kernel) (by decide +kernel), z_mem 72 (by decide +kernel) (by decide +kernel), by decide, by decide, (by decide +kernel)⟩
theorem zY_X9_takes : zY yX9_takes cX9_takes 3 (some .boolean) 1 := ⟨z_mem 1254 (by decide +kernel) (by decide +kernel), z_mem 72 (by decide +kernel) (by decide +kernel), by decide, by decide, (by decide +kernel)⟩
theorem zY_X9_isDigit : zY yX9_isDigit cX9_isDigit 1 (some .boolean) 0 := ⟨z_mem 1265 (by decide +kernel) (by decide +kernel), z_mem 72 (by decide +kernel) (by decide +kernel), by decide, by decide, (by decide +kernel)⟩
theorem zY_X9_takesOf : zY yX9_takesOf cX9_takesOf 3 (some .int) 1 := ⟨z_mem 1229 (by decide +kernel) (by decide +kernel), z_mem 72 (by decide +kernel) (by decide +kernel), by decide, by decide, (by decide +kernel)⟩
theorem zY_X9_number : zY yX9_number cX9_number 4 (some .int) 1 := ⟨z_mem 1271 (by decide +kernel) (by decide +kernel), z_mem 72 (by decide +kernel) (by decide +kernel), by decide, by decide, (by decide +kernel)⟩
theorem zY_X9_digitIn : zY yX9_digitIn cX9_digitIn 3 (some .int) 2 := ⟨z_mem 1224 (by decide +kernel) (by decide +kernel), z_mem 72 (by decide +kernel) (by decide +kernel), by decide, by decide, (by decide +kernel)⟩
theorem zY_X9_faultOf : zY yX9_faultOf cX9_faultOf 5 (some .int) 3 := ⟨z_mem 1279 (by decide +kernel) (by decide +kernel), z_mem 72 (by decide +kernel) (by decide +kernel), by decide, by decide, (by decide +kernel)⟩
theorem zY_X9_readsCloth : zY yX9_readsCloth cX9_readsCloth 5 (some .int) 0 := ⟨z_mem 1215 (by decide +kernel) (by decide +kernel), z_mem 72 (by decide +kernel) (by decide +kernel), by decide, by decide, (by decide +kernel)⟩
theorem zY_X9_cloth : zY yX9_cloth cX9_cloth 2 (some .int) 0 := ⟨z_mem 1211 (by decide +kernel) (by decide +kernel), z_mem 72 (by decide +kernel) (by decide +kernel), by decide, by decide, (by decide +kernel)⟩
theorem zY_X9_codes : zY yX9_codes cX9_codes 2 (none) 1 := ⟨z_mem 1261 (by decide +kernel) (by decide +kernel), z_mem 72 (by decide +kernel) (by decide +kernel), by decide, by decide, (by decide +kernel)⟩
theorem zY_X9_readsThing : zY yX9_readsThing cX9_readsThing 2 (some .boolean) 0 := ⟨z_mem 1250 (by decide +kernel) (by decide +kernel), z_mem 72 (by decide +kernel) (by decide +kernel), by decide, by decide, (by decide +kernel)⟩
theorem zY_X9_readsRank : zY yX9_readsRank cX9_readsRank 4 (some .boolean) 1 := ⟨z_mem 1246 (by decide +kernel) (by decide +kernel), z_mem 72 (by decide +kernel) (by decide +kernel), by decide, by decide, (by decide +kernel)⟩
theorem zY_X9_readsRule : zY yX9_readsRule cX9_readsRule 3 (some .int) 0 := ⟨z_mem 1242 (by decide +kernel) (by decide +kernel), z_mem 72 (by decide +kernel) (by decide +kernel), by decide, by decide, (by decide +kernel)⟩
theorem zY_X9_laysCode : zY yX9_laysCode cX9_laysCode 4 (none) 2 := ⟨z_mem 1283 (by decide +kernel) (by decide +kernel), z_mem 72 (by decide +kernel) (by decide +kernel), by decide, by decide, (by decide +kernel)⟩
theorem zY_X9_rule : zY yX9_rule cX9_rule 2 (some .int) 0 := ⟨z_mem 1238 (by decide +kernel) (by decide +kernel), z_mem 72 (by decide +kernel) (by decide +kernel), by decide, by decide, (by decide +kernel)⟩
theorem zY_X9_worked : zY yX9_worked cX9_worked 3 (some .int) 3 := ⟨z_mem 1335 (by decide +kernel) (by decide +kernel), z_mem 72 (by decide +kernel) (by decide +kernel), by decide, by decide, (by decide +kernel)⟩
theorem zY_X9_ruled : zY yX9_ruled cX9_ruled 4 (some .int) 0 := ⟨z_mem 1332 (by decide +kernel) (by decide +kernel), z_mem 72 (by decide +kernel) (by decide +kernel), by decide, by decide, (by decide +kernel)⟩
theorem zY_X9_pull : zY yX9_pull cX9_pull 5 (some .int) 3 := ⟨z_mem 1327 (by decide +kernel) (by decide +kernel), z_mem 72 (by decide +kernel) (by decide +kernel), by decide, by decide, (by decide +kernel)⟩
theorem zY_X9_strongest : zY yX9_strongest cX9_strongest 6 (some .int) 1 := ⟨z_mem 1370 (by decide +kernel) (by decide +kernel), z_mem 72 (by decide +kernel) (by decide +kernel), by decide, by decide, (by decide +kernel)⟩
theorem zY_X9_nextOf : zY yX9_nextOf cX9_nextOf 3 (some .int) 1 := ⟨z_mem 1366 (by decide +kernel) (by decide +kernel), z_mem 72 (by decide +kernel) (by decide +kernel), by decide, by decide, (by decide +kernel)⟩
theorem zY_X9_cell : zY yX9_cell cX9_cell 3 (some .int) 2 := ⟨z_mem 1287 (by decide +kernel) (by decide +kernel), z_mem 72 (by decide +kernel) (by decide +kernel), by decide, by decide, (by decide +kernel)⟩
theorem zY_X9_thread : zY yX9_thread cX9_thread 5 (some .int) 3 := ⟨z_mem 1304 (by decide +kernel) (by decide +kernel), z_mem 72 (by decide +kernel) (by decide +kernel), by decide, by decide, (by decide +kernel)⟩
theorem zY_X9_sheet : zY yX9_sheet cX9_sheet 9 (some .int) 4 := ⟨z_mem 1340 (by decide +kernel) (by decide +kernel), z_mem 72 (by decide +kernel) (by decide +kernel), by decide, by decide, (by decide +kernel)⟩
theorem zY_X9_putsBy : zY yX9_putsBy cX9_putsBy 2 (none) 0 := ⟨z_mem 1354 (by decide +kernel) (by decide +kernel), z_mem 72 (by decide +kernel) (by decide +kernel), by decide, by decide, (by decide +kernel)⟩
theorem zY_X9_adds : zY yX9_adds cX9_adds 3 (some .int) 1 := ⟨z_mem 1388 (by decide +kernel) (by decide +kernel), z_mem 72 (by decide +kernel) (by decide +kernel), by decide, by decide, (by decide +kernel)⟩
theorem zY_X9_counted : zY yX9_counted cX9_counted 2 (some .int) 1 := ⟨z_mem 1405 (by decide +kernel) (by decide +kernel), z_mem 72 (by decide +kernel) (by decide +kernel), by decide, by decide, (by decide +kernel)⟩
theorem zY_X9_undo : zY yX9_undo cX9_undo 2 (some .int) 0 := ⟨z_mem 1345 (by decide +kernel) (by decide +kernel), z_mem 72 (by decide +kernel) (by decide +kernel), by decide, by decide, (by decide +kernel)⟩
theorem zY_X9_nightGoes : zY yX9_nightGoes cX9_nightGoes 3 (some .int) 1 := ⟨z_mem 1362 (by decide +kernel) (by decide +kernel), z_mem 72 (by decide +kernel) (by decide +kernel), by decide, by decide, (by decide +kernel)⟩
theorem zY_X9_goesOn : zY yX9_goesOn cX9_goesOn 4 (none) 2 := ⟨z_mem 1358 (by decide +kernel) (by decide +kernel), z_mem 72 (by decide +kernel) (by decide +kernel), by decide, by decide, (by decide +kernel)⟩
theorem zY_X9_weavesIn : zY yX9_weavesIn cX9_weavesIn 4 (some .int) 4 := ⟨z_mem 1395 (by decide +kernel) (by decide +kernel), z_mem 72 (by decide +kernel) (by decide +kernel), by decide, by decide, (by decide +kernel)⟩
theorem zY_X9_drawsOut : zY yX9_drawsOut cX9_drawsOut 4 (some .int) 2 := ⟨z_mem 1413 (by decide +kernel) (by decide +kernel), z_mem 72 (by decide +kernel) (by decide +kernel), by decide, by decide, (by decide +kernel)⟩
theorem zY_X9_flipsOne : zY yX9_flipsOne cX9_flipsOne 3 (some .int) 3 := ⟨z_mem 1420 (by decide +kernel) (by decide +kernel), z_mem 72 (by decide +kernel) (by decide +kernel), by decide, by decide, (by decide +kernel)⟩
theorem zY_X9_mirrorsAll : zY yX9_mirrorsAll cX9_mirrorsAll 5 (some .int) 1 := ⟨z_mem 1431 (by decide +kernel) (by decide +kernel), z_mem 72 (by decide +kernel) (by decide +kernel), by decide, by decide, (by decide +kernel)⟩
theorem zY_X9_nights : zY yX9_nights cX9_nights 4 (some .int) 1 := ⟨z_mem 1349 (by decide +kernel) (by decide +kernel), z_mem 72 (by decide +kernel) (by decide +kernel), by decide, by decide, (by decide +kernel)⟩
theorem zY_X9_weaves : zY yX9_weaves cX9_weaves 4 (some .int) 3 := ⟨z_mem 1392 (by decide +kernel) (by decide +kernel), z_mem 72 (by decide +kernel) (by decide +kernel), by decide, by decide, (by decide +kernel)⟩
theorem zY_X9_draws : zY yX9_draws cX9_draws 3 (some .int) 2 := ⟨z_mem 1409 (by decide +kernel) (by decide +kernel), z_mem 72 (by decide +kernel) (by decide +kernel), by decide, by decide, (by decide +kernel)⟩
theorem zY_X9_flips : zY yX9_flips cX9_flips 3 (some .int) 2 := ⟨z_mem 1417 (by decide +kernel) (by decide +kernel), z_mem 72 (by decide +kernel) (by decide +kernel), by decide, by decide, (by decide +kernel)⟩
theorem zY_X9_mirrors : zY yX9_mirrors cX9_mirrors 2 (some .int) 1 := ⟨z_mem 1427 (by decide +kernel) (by decide +kernel), z_mem 72 (by decide +kernel) (by decide +kernel), by decide, by decide, (by decide +kernel)⟩
theorem zY_X9_readsAct : zY yX9_readsAct cX9_readsAct 5 (some .boolean) 0 := ⟨z_mem 1439 (by decide +kernel) (by decide +kernel), z_mem 72 (by decide +kernel) (by decide +kernel), by decide, by decide, (by decide +kernel)⟩
theorem zY_X9_does : zY yX9_does cX9_does 3 (some .boolean) 1 := ⟨z_mem 1444 (by decide +kernel) (by decide +kernel), z_mem 72 (by decide +kernel) (by decide +kernel), by decide, by decide, (by decide +kernel)⟩
theorem zY_X9_work : zY yX9_work cX9_work 5 (some .int) 0 := ⟨z_mem 1435 (by decide +kernel) (by decide +kernel), z_mem 72 (by decide +kernel) (by decide +kernel), by decide, by decide, (by decide +kernel)⟩
theorem zY_X9_allOf : zY yX9_allOf cX9_allOf 1 (some .int) 1 := ⟨z_mem 1467 (by decide +kernel) (by decide +kernel), z_mem 72 (by decide +kernel) (by decide +kernel), by decide, by decide, (by decide +kernel)⟩
theorem zY_X9_laysAbove : zY yX9_laysAbove cX9_laysAbove 7 (none) 1 := ⟨z_mem 1464 (by decide +kernel) (by decide +kernel), z_mem 72 (by decide +kernel) (by decide +kernel), by decide, by decide, (by decide +kernel)⟩
theorem zY_X9_reach : zY yX9_reach cX9_reach 7 (some .int) 3 := ⟨z_mem 1478 (by decide +kernel) (by decide +kernel), z_mem 72 (by decide +kernel) (by decide +kernel), by decide, by decide, (by decide +kernel)⟩
theorem zY_X9_isHanging : zY yX9_isHanging cX9_isHanging 3 (some .boolean) 1 := ⟨z_mem 1471 (by decide +kernel) (by decide +kernel), z_mem 72 (by decide +kernel) (by decide +kernel), by decide, by decide, (by decide +kernel)⟩
theorem zY_X9_doesHang : zY yX9_doesHang cX9_doesHang 2 (some .boolean) 1 := ⟨z_mem 1460 (by decide +kernel) (by decide +kernel), z_mem 72 (by decide +kernel) (by decide +kernel), by decide, by decide, (by decide +kernel)⟩
theorem zY_X9_laysHangs : zY yX9_laysHangs cX9_laysHangs 3 (none) 0 := ⟨z_mem 1545 (by decide +kernel) (by decide +kernel), z_mem 72 (by decide +kernel) (by decide +kernel), by decide, by decide, (by decide +kernel)⟩
theorem zY_X9_next : zY yX9_next cX9_next 2 (some .int) 0 := ⟨z_mem 1448 (by decide +kernel) (by decide +kernel), z_mem 72 (by decide +kernel) (by decide +kernel), by decide, by decide, (by decide +kernel)⟩
theorem zY_X9_later : zY yX9_later cX9_later 3 (some .int) 1 := ⟨z_mem 1452 (by decide +kernel) (by decide +kernel), z_mem 72 (by decide +kernel) (by decide +kernel), by decide, by decide, (by decide +kernel)⟩
theorem zY_X9_falls : zY yX9_falls cX9_falls 2 (some .int) 0 := ⟨z_mem 1456 (by decide +kernel) (by decide +kernel), z_mem 72 (by decide +kernel) (by decide +kernel), by decide, by decide, (by decide +kernel)⟩
theorem zY_X9_leaves : zY yX9_leaves cX9_leaves 4 (some .boolean) 2 := ⟨z_mem 1486 (by decide +kernel) (by decide +kernel), z_mem 72 (by decide +kernel) (by decide +kernel), by decide, by decide, (by decide +kernel)⟩
theorem zY_X9_rags : zY yX9_rags cX9_rags 6 (some .int) 0 := ⟨z_mem 1482 (by decide +kernel) (by decide +kernel), z_mem 72 (by decide +kernel) (by decide +kernel), by decide, by decide, (by decide +kernel)⟩
theorem zY_X9_asNumber : zY yX9_asNumber cX9_asNumber 4 (some .long) 1 := ⟨z_mem 1496 (by decide +kernel) (by decide +kernel), z_mem 72 (by decide +kernel) (by decide +kernel), by decide, by decide, (by decide +kernel)⟩
theorem zY_X9_lefts : zY yX9_lefts cX9_lefts 10 (some .int) 1 := ⟨z_mem 1493 (by decide +kernel) (by decide +kernel), z_mem 72 (by decide +kernel) (by decide +kernel), by decide, by decide, (by decide +kernel)⟩
theorem zY_X9_canBeAlike : zY yX9_canBeAlike cX9_canBeAlike 6 (some .boolean) 3 := ⟨z_mem 1505 (by decide +kernel) (by decide +kernel), z_mem 72 (by decide +kernel) (by decide +kernel), by decide, by decide, (by decide +kernel)⟩
theorem zY_X9_outlasts : zY yX9_outlasts cX9_outlasts 6 (some .int) 0 := ⟨z_mem 1502 (by decide +kernel) (by decide +kernel), z_mem 72 (by decide +kernel) (by decide +kernel), by decide, by decide, (by decide +kernel)⟩
theorem zY_X9_words : zY yX9_words cX9_words 9 (some .int) 2 := ⟨z_mem 1509 (by decide +kernel) (by decide +kernel), z_mem 72 (by decide +kernel) (by decide +kernel), by decide, by decide, (by decide +kernel)⟩
theorem zY_X9_loose : zY yX9_loose cX9_loose 4 (some .int) 0 := ⟨z_mem 1514 (by decide +kernel) (by decide +kernel), z_mem 72 (by decide +kernel) (by decide +kernel), by decide, by decide, (by decide +kernel)⟩
theorem zY_X9_isLooseAmong : zY yX9_isLooseAmong cX9_isLooseAmong 4 (some .boolean) 2 := ⟨z_mem 1522 (by decide +kernel) (by decide +kernel), z_mem 72 (by decide +kernel) (by decide +kernel), by decide, by decide, (by decide +kernel)⟩
theorem zY_X9_sheds : zY yX9_sheds cX9_sheds 7 (some .int) 0 := ⟨z_mem 1518 (by decide +kernel) (by decide +kernel), z_mem 72 (by decide +kernel) (by decide +kernel), by decide, by decide, (by decide +kernel)⟩
theorem zY_X9_hangs : zY yX9_hangs cX9_hangs 7 (some .int) 0 := ⟨z_mem 1526 (by decide +kernel) (by decide +kernel), z_mem 72 (by decide +kernel) (by decide +kernel), by decide, by decide, (by decide +kernel)⟩
theorem zY_X9_spares : zY yX9_spares cX9_spares 4 (some .int) 0 := ⟨z_mem 1530 (by decide +kernel) (by decide +kernel), z_mem 72 (by decide +kernel) (by decide +kernel), by decide, by decide, (by decide +kernel)⟩
theorem zY_X9_isCell : zY yX9_isCell cX9_isCell 2 (some .boolean) 2 := ⟨z_mem 1537 (by decide +kernel) (by decide +kernel), z_mem 72 (by decide +kernel) (by decide +kernel), by decide, by decide, (by decide +kernel)⟩
theorem zY_X9_mends : zY yX9_mends cX9_mends 3 (some .int) 0 := ⟨z_mem 1534 (by decide +kernel) (by decide +kernel), z_mem 72 (by decide +kernel) (by decide +kernel), by decide, by decide, (by decide +kernel)⟩
theorem zY_X9_endures : zY yX9_endures cX9_endures 7 (some .int) 0 := ⟨z_mem 1541 (by decide +kernel) (by decide +kernel), z_mem 72 (by decide +kernel) (by decide +kernel), by decide, by decide, (by decide +kernel)⟩
theorem zY_X9_differs : zY yX9_differs cX9_differs 9 (some .int) 0 := ⟨z_mem 1549 (by decide +kernel) (by decide +kernel), z_mem 72 (by decide +kernel) (by decide +kernel), by decide, by decide, (by decide +kernel)⟩
theorem zY_X9_turned : zY yX9_turned cX9_turned 7 (some .int) 1 := ⟨z_mem 1558 (by decide +kernel) (by decide +kernel), z_mem 72 (by decide +kernel) (by decide +kernel), by decide, by decide, (by decide +kernel)⟩
theorem zY_X9_looks : zY yX9_looks cX9_looks 4 (some .int) 0 := ⟨z_mem 1554 (by decide +kernel) (by decide +kernel), z_mem 72 (by decide +kernel) (by decide +kernel), by decide, by decide, (by decide +kernel)⟩
theorem zY_X9_repeatsOf : zY yX9_repeatsOf cX9_repeatsOf 5 (some .int) 2 := ⟨z_mem 1565 (by decide +kernel) (by decide +kernel), z_mem 72 (by decide +kernel) (by decide +kernel), by decide, by decide, (by decide +kernel)⟩
theorem zY_X9_repeats : zY yX9_repeats cX9_repeats 1 (some .int) 0 := ⟨z_mem 1562 (by decide +kernel) (by decide +kernel), z_mem 72 (by decide +kernel) (by decide +kernel), by decide, by decide, (by decide +kernel)⟩
theorem zY_X9_runsOf : zY yX9_runsOf cX9_runsOf 8 (some .int) 1 := ⟨z_mem 1573 (by decide +kernel) (by decide +kernel), z_mem 72 (by decide +kernel) (by decide +kernel), by decide, by decide, (by decide +kernel)⟩
theorem zY_X9_runs : zY yX9_runs cX9_runs 2 (some .int) 0 := ⟨z_mem 1569 (by decide +kernel) (by decide +kernel), z_mem 72 (by decide +kernel) (by decide +kernel), by decide, by decide, (by decide +kernel)⟩
theorem zY_X9_twins : zY yX9_twins cX9_twins 5 (some .int) 0 := ⟨z_mem 1577 (by decide +kernel) (by decide +kernel), z_mem 72 (by decide +kernel) (by decide +kernel), by decide, by decide, (by decide +kernel)⟩
theorem zY_X9_game : zY yX9_game cX9_game 5 (some .int) 0 := ⟨z_mem 1581 (by decide +kernel) (by decide +kernel), z_mem 72 (by decide +kernel) (by decide +kernel), by decide, by decide, (by decide +kernel)⟩
theorem zY_X9_highest : zY yX9_highest cX9_highest 1 (some .int) 1 := ⟨z_mem 1588 (by decide +kernel) (by decide +kernel), z_mem 72 (by decide +kernel) (by decide +kernel), by decide, by decide, (by decide +kernel)⟩
theorem zY_X9_told : zY yX9_told cX9_told 3 (some .int) 2 := ⟨z_mem 1585 (by decide +kernel) (by decide +kernel), z_mem 72 (by decide +kernel) (by decide +kernel), by decide, by decide, (by decide +kernel)⟩
theorem zY_X9_forget : zY yX9_forget cX9_forget 2 (some .int) 0 := ⟨z_mem 1592 (by decide +kernel) (by decide +kernel), z_mem 72 (by decide +kernel) (by decide +kernel), by decide, by decide, (by decide +kernel)⟩
theorem zY_X9_isSo : zY yX9_isSo cX9_isSo 6 (some .boolean) 3 := ⟨z_mem 1604 (by decide +kernel) (by decide +kernel), z_mem 72 (by decide +kernel) (by decide +kernel), by decide, by decide, (by decide +kernel)⟩
theorem zY_X9_fitting : zY yX9_fitting cX9_fitting 4 (some .int) 0 := ⟨z_mem 1600 (by decide +kernel) (by decide +kernel), z_mem 72 (by decide +kernel) (by decide +kernel), by decide, by decide, (by decide +kernel)⟩
theorem zY_X9_fits : zY yX9_fits cX9_fits 2 (some .int) 0 := ⟨z_mem 1596 (by decide +kernel) (by decide +kernel), z_mem 72 (by decide +kernel) (by decide +kernel), by decide, by decide, (by decide +kernel)⟩
theorem zY_X9_asks : zY yX9_asks cX9_asks 8 (some .int) 0 := ⟨z_mem 1608 (by decide +kernel) (by decide +kernel), z_mem 72 (by decide +kernel) (by decide +kernel), by decide, by decide, (by decide +kernel)⟩
theorem zY_X9_odds : zY yX9_odds cX9_odds 11 (some .int) 1 := ⟨z_mem 1612 (by decide +kernel) (by decide +kernel), z_mem 72 (by decide +kernel) (by decide +kernel), by decide, by decide, (by decide +kernel)⟩
theorem zY_X9_law : zY yX9_law cX9_law 6 (some .int) 0 := ⟨z_mem 1619 (by decide +kernel) (by decide +kernel), z_mem 72 (by decide +kernel) (by decide +kernel), by decide, by decide, (by decide +kernel)⟩
theorem zY_X9_gets : zY yX9_gets cX9_gets 3 (some .int) 3 := ⟨z_mem 1630 (by decide +kernel) (by decide +kernel), z_mem 72 (by decide +kernel) (by decide +kernel), by decide, by decide, (by decide +kernel)⟩
theorem zY_X9_isRest : zY yX9_isRest cX9_isRest 5 (some .boolean) 3 := ⟨z_mem 1627 (by decide +kernel) (by decide +kernel), z_mem 72 (by decide +kernel) (by decide +kernel), by decide, by decide, (by decide +kernel)⟩
theorem zY_X9_rests : zY yX9_rests cX9_rests 5 (some .int) 1 := ⟨z_mem 1623 (by decide +kernel) (by decide +kernel), z_mem 72 (by decide +kernel) (by decide +kernel), by decide, by decide, (by decide +kernel)⟩
theorem zY_X9_drawn : zY yX9_drawn cX9_drawn 2 (some .int) 1 := ⟨z_mem 1638 (by decide +kernel) (by decide +kernel), z_mem 72 (by decide +kernel) (by decide +kernel), by decide, by decide, (by decide +kernel)⟩
theorem zY_X9_years : zY yX9_years cX9_years 7 (some .int) 2 := ⟨z_mem 1634 (by decide +kernel) (by decide +kernel), z_mem 72 (by decide +kernel) (by decide +kernel), by decide, by decide, (by decide +kernel)⟩
theorem zY_X9_keep : zY yX9_keep cX9_keep 3 (some .boolean) 1 := ⟨z_mem 1643 (by decide +kernel) (by decide +kernel), z_mem 72 (by decide +kernel) (by decide +kernel), by decide, by decide, (by decide +kernel)⟩
theorem zY_X9_again : zY yX9_again cX9_again 3 (some .boolean) 1 := ⟨z_mem 1648 (by decide +kernel) (by decide +kernel), z_mem 72 (by decide +kernel) (by decide +kernel), by decide, by decide, (by decide +kernel)⟩
theorem zY_X9_count : zY yX9_count cX9_count 2 (some .int) 1 := ⟨z_mem 1652 (by decide +kernel) (by decide +kernel), z_mem 72 (by decide +kernel) (by decide +kernel), by decide, by decide, (by decide +kernel)⟩
theorem zY_X9_row : zY yX9_row cX9_row 2 (some .long) 1 := ⟨z_mem 1656 (by decide +kernel) (by decide +kernel), z_mem 72 (by decide +kernel) (by decide +kernel), by decide, by decide, (by decide +kernel)⟩
theorem zY_J6_numberOfTrailingZeros_0f7a4 : zY yJ6_numberOfTrailingZeros_0f7a4 cJ6_numberOfTrailingZeros_0f7a4 2 (some .int) 1 := ⟨z_mem 1474 (by decide +kernel) (by decide +kernel), z_mem 84 (by decide +kernel) (by decide +kernel), by decide, by decide, (by decide +kernel)⟩
theorem zY_J6_bitCount_0f7a4 : zY yJ6_bitCount_0f7a4 cJ6_bitCount_0f7a4 1 (some .int) 1 := ⟨z_mem 455 (by decide +kernel) (by decide +kernel), z_mem 84 (by decide +kernel) (by decide +kernel), by decide, by decide, (by decide +kernel)⟩
theorem zY_J9_max_7cf53 : zY yJ9_max_7cf53 cJ9_max_7cf53 2 (some .int) 2 := ⟨z_mem 475 (by decide +kernel) (by decide +kernel), z_mem 75 (by decide +kernel) (by decide +kernel), by decide, by decide, (by decide +kernel)⟩
theorem zY_J9_min_7cf53 : zY yJ9_min_7cf53 cJ9_min_7cf53 2 (some .int) 2 := ⟨z_mem 373 (by decide +kernel) (by decide +kernel), z_mem 75 (by decide +kernel) (by decide +kernel), by decide, by decide, (by decide +kernel)⟩
theorem zY_J0_length_8abf5 : zY yJ0_length_8abf5 cJ0_length_8abf5 1 (some .int) 0 := ⟨z_mem 565 (by decide +kernel) (by decide +kernel), z_mem 76 (by decide +kernel) (by decide +kernel), by decide, by decide, (by decide +kernel)⟩
theorem zY_J0_isEmpty_aae02 : zY yJ0_isEmpty_aae02 cJ0_isEmpty_aae02 1 (some .boolean) 0 := ⟨z_mem 583 (by decide +kernel) (by decide +kernel), z_mem 76 (by decide +kernel) (by decide +kernel), by decide, by decide, (by decide +kernel)⟩
theorem zY_J0_charAt_5068e : zY yJ0_charAt_5068e cJ0_charAt_5068e 2 (some .char) 1 := ⟨z_mem 587 (by decide +kernel) (by decide +kernel), z_mem 76 (by decide +kernel) (by decide +kernel), by decide, by decide, (by decide +kernel)⟩
theorem zY_J0_coder_7d493 : zY yJ0_coder_7d493 cJ0_coder_7d493 1 (some .byte) 0 := ⟨z_mem 569 (by decide +kernel) (by decide +kernel), z_mem 76 (by decide +kernel) (by decide +kernel), by decide, by decide, (by decide +kernel)⟩
theorem zY_J0_isLatin1_aae02 : zY yJ0_isLatin1_aae02 cJ0_isLatin1_aae02 1 (some .boolean) 0 := ⟨z_mem 591 (by decide +kernel) (by decide +kernel), z_mem 76 (by decide +kernel) (by decide +kernel), by decide, by decide, (by decide +kernel)⟩
theorem zY_J0_checkIndex_df160 : zY yJ0_checkIndex_df160 cJ0_checkIndex_df160 2 (none) 2 := ⟨z_mem 597 (by decide +kernel) (by decide +kernel), z_mem 76 (by decide +kernel) (by decide +kernel), by decide, by decide, (by decide +kernel)⟩
theorem zY_J1_charAt_3b067 : zY yJ1_charAt_3b067 cJ1_charAt_3b067 2 (some .char) 2 := ⟨z_mem 594 (by decide +kernel) (by decide +kernel), z_mem 77 (by decide +kernel) (by decide +kernel), by decide, by decide, (by decide +kernel)⟩
theorem zY_J2_getChar_3b067 : zY yJ2_getChar_3b067 cJ2_getChar_3b067 2 (some .char) 2 := ⟨z_mem 615 (by decide +kernel) (by decide +kernel), z_mem 79 (by decide +kernel) (by decide +kernel), by decide, by decide, (by decide +kernel)⟩
theorem zY_J2_length_9d52b : zY yJ2_length_9d52b cJ2_length_9d52b 1 (some .int) 1 := ⟨z_mem 611 (by decide +kernel) (by decide +kernel), z_mem 79 (by decide +kernel) (by decide +kernel), by decide, by decide, (by decide +kernel)⟩
theorem zY_J2_charAt_3b067 : zY yJ2_charAt_3b067 cJ2_charAt_3b067 2 (some .char) 2 := ⟨z_mem 605 (by decide +kernel) (by decide +kernel), z_mem 79 (by decide +kernel) (by decide +kernel), by decide, by decide, (by decide +kernel)⟩
theorem zY_J2_checkIndex_2214a : zY yJ2_checkIndex_2214a cJ2_checkIndex_2214a 2 (none) 2 := ⟨z_mem 608 (by decide +kernel) (by decide +kernel), z_mem 79 (by decide +kernel) (by decide +kernel), by decide, by decide, (by decide +kernel)⟩
theorem zY_J7_fill_d0a16 : zY yJ7_fill_d0a16 cJ7_fill_d0a16 5 (none) 2 := ⟨z_mem 362 (by decide +kernel) (by decide +kernel), z_mem 73 (by decide +kernel) (by decide +kernel), by decide, by decide, (by decide +kernel)⟩
theorem zY_J7_fill_53178 : zY yJ7_fill_53178 cJ7_fill_53178 4 (none) 2 := ⟨z_mem 343 (by decide +kernel) (by decide +kernel), z_mem 73 (by decide +kernel) (by decide +kernel), by decide, by decide, (by decide +kernel)⟩
theorem zY_J3_checkIndex_8e157 : zY yJ3_checkIndex_8e157 cJ3_checkIndex_8e157 3 (some .int) 3 := ⟨z_mem 602 (by decide +kernel) (by decide +kernel), z_mem 78 (by decide +kernel) (by decide +kernel), by decide, by decide, (by decide +kernel)⟩
theorem lv_X4_29 : zLV RX4 29 yX4_putPlainRule := ⟨z_mem 158 (by decide +kernel) (by decide +kernel), z_mem 160 (by decide +kernel) (by decide +kernel), z_mem 0 (by decide +kernel) (by decide +kernel)⟩
theorem lv_X4_72 : zLV RX4 72 yX4_emit := ⟨z_mem 162 (by decide +kernel) (by decide +kernel), z_mem 164 (by decide +kernel) (by decide +kernel), z_mem 1 (by decide +kernel) (by decide +kernel)⟩
theorem lv_L_27 : zLV RL 27 yX8_sign := ⟨z_mem 313 (by decide +kernel) (by decide +kernel), z_mem 314 (by decide +kernel) (by decide +kernel), z_mem 315 (by decide +kernel) (by decide +kernel)⟩
theorem lv_X8_86 : zLV RX8 86 yX6_add := ⟨z_mem 317 (by decide +kernel) (by decide +kernel), z_mem 318 (by decide +kernel) (by decide +kernel), z_mem 319 (by decide +kernel) (by decide +kernel)⟩
theorem lv_L_32 : zLV RL 32 yX8_end := ⟨z_mem 321 (by decide +kernel) (by decide +kernel), z_mem 322 (by decide +kernel) (by decide +kernel), z_mem 323 (by decide +kernel) (by decide +kernel)⟩
theorem lv_L_37 : zLV RL 37 yX8_cloth := ⟨z_mem 325 (by decide +kernel) (by decide +kernel), z_mem 326 (by decide +kernel) (by decide +kernel), z_mem 327 (by decide +kernel) (by decide +kernel)⟩
theorem lv_X8_89 : zLV RX8 89 yX7_readFrom := ⟨z_mem 329 (by decide +kernel) (by decide +kernel), z_mem 330 (by decide +kernel) (by decide +kernel), z_mem 331 (by decide +kernel) (by decide +kernel)⟩
theorem lv_X7_69 : zLV RX7 69 yX6_digit := ⟨z_mem 333 (by decide +kernel) (by decide +kernel), z_mem 334 (by decide +kernel) (by decide +kernel), z_mem 335 (by decide +kernel) (by decide +kernel)⟩
theorem lv_X6_19 : zLV RX6 19 yX6_at := ⟨z_mem 337 (by decide +kernel) (by decide +kernel), z_mem 338 (by decide +kernel) (by decide +kernel), z_mem 339 (by decide +kernel) (by decide +kernel)⟩
theorem ls_X7_74 : zLS RX7 74 yJ7_fill_53178 := ⟨z_mem 341 (by decide +kernel) (by decide +kernel), z_mem 342 (by decide +kernel) (by decide +kernel)⟩
theorem lv_X7_83 : zLV RX7 83 yX6_at := ⟨z_mem 344 (by decide +kernel) (by decide +kernel), z_mem 338 (by decide +kernel) (by decide +kernel), z_mem 339 (by decide +kernel) (by decide +kernel)⟩
theorem lv_X7_66 : zLV RX7 66 yX7_settle := ⟨z_mem 345 (by decide +kernel) (by decide +kernel), z_mem 346 (by decide +kernel) (by decide +kernel), z_mem 347 (by decide +kernel) (by decide +kernel)⟩
theorem lv_X8_93 : zLV RX8 93 yX7_become := ⟨z_mem 349 (by decide +kernel) (by decide +kernel), z_mem 350 (by decide +kernel) (by decide +kernel), z_mem 351 (by decide +kernel) (by decide +kernel)⟩
theorem ls_X7_56 : zLS RX7 56 arraycopyName := ⟨z_mem 353 (by decide +kernel) (by decide +kernel), z_mem 354 (by decide +kernel) (by decide +kernel)⟩
theorem lv_X8_97 : zLV RX8 97 yX2_empty := ⟨z_mem 356 (by decide +kernel) (by decide +kernel), z_mem 357 (by decide +kernel) (by decide +kernel), z_mem 358 (by decide +kernel) (by decide +kernel)⟩
theorem ls_X2_21 : zLS RX2 21 yJ7_fill_d0a16 := ⟨z_mem 360 (by decide +kernel) (by decide +kernel), z_mem 361 (by decide +kernel) (by decide +kernel)⟩
theorem lv_L_42 : zLV RL 42 yX8_rule := ⟨z_mem 363 (by decide +kernel) (by decide +kernel), z_mem 364 (by decide +kernel) (by decide +kernel), z_mem 365 (by decide +kernel) (by decide +kernel)⟩
theorem lv_X8_103 : zLV RX8 103 yX4_readFrom := ⟨z_mem 367 (by decide +kernel) (by decide +kernel), z_mem 368 (by decide +kernel) (by decide +kernel), z_mem 369 (by decide +kernel) (by decide +kernel)⟩
theorem ls_X4_51 : zLS RX4 51 Lib.Math.min.name := ⟨z_mem 371 (by decide +kernel) (by decide +kernel), z_mem 372 (by decide +kernel) (by decide +kernel)⟩
theorem lv_X4_57 : zLV RX4 57 yX6_at := ⟨z_mem 374 (by decide +kernel) (by decide +kernel), z_mem 338 (by decide +kernel) (by decide +kernel), z_mem 339 (by decide +kernel) (by decide +kernel)⟩
theorem lv_X4_61 : zLV RX4 61 yX4_takesThing := ⟨z_mem 375 (by decide +kernel) (by decide +kernel), z_mem 377 (by decide +kernel) (by decide +kernel), z_mem 2 (by decide +kernel) (by decide +kernel)⟩
theorem lv_X4_75 : zLV RX4 75 yX4_hold := ⟨z_mem 379 (by decide +kernel) (by decide +kernel), z_mem 381 (by decide +kernel) (by decide +kernel), z_mem 3 (by decide +kernel) (by decide +kernel)⟩
theorem ls_X4_78 : zLS RX4 78 yX4_isTrait := ⟨z_mem 383 (by decide +kernel) (by decide +kernel), z_mem 384 (by decide +kernel) (by decide +kernel)⟩
theorem lv_X4_65 : zLV RX4 65 yX4_takesJoin := ⟨z_mem 386 (by decide +kernel) (by decide +kernel), z_mem 388 (by decide +kernel) (by decide +kernel), z_mem 4 (by decide +kernel) (by decide +kernel)⟩
theorem lv_X4_68 : zLV RX4 68 yX4_release := ⟨z_mem 390 (by decide +kernel) (by decide +kernel), z_mem 392 (by decide +kernel) (by decide +kernel), z_mem 5 (by decide +kernel) (by decide +kernel)⟩
theorem ls_X4_84 : zLS RX4 84 yX4_bindingOf := ⟨z_mem 394 (by decide +kernel) (by decide +kernel), z_mem 395 (by decide +kernel) (by decide +kernel)⟩
theorem lv_X8_104 : zLV RX8 104 yX4_become := ⟨z_mem 397 (by decide +kernel) (by decide +kernel), z_mem 398 (by decide +kernel) (by decide +kernel), z_mem 399 (by decide +kernel) (by decide +kernel)⟩
theorem ls_X4_32 : zLS RX4 32 arraycopyName := ⟨z_mem 401 (by decide +kernel) (by decide +kernel), z_mem 354 (by decide +kernel) (by decide +kernel)⟩
theorem lv_L_59 : zLV RL 59 yX8_sheet := ⟨z_mem 402 (by decide +kernel) (by decide +kernel), z_mem 403 (by decide +kernel) (by decide +kernel), z_mem 404 (by decide +kernel) (by decide +kernel)⟩
theorem lv_X8_137 : zLV RX8 137 yX7_fillPicks := ⟨z_mem 406 (by decide +kernel) (by decide +kernel), z_mem 407 (by decide +kernel) (by decide +kernel), z_mem 408 (by decide +kernel) (by decide +kernel)⟩
theorem lv_X7_25 : zLV RX7 25 yX7_fullOf := ⟨z_mem 410 (by decide +kernel) (by decide +kernel), z_mem 411 (by decide +kernel) (by decide +kernel), z_mem 412 (by decide +kernel) (by decide +kernel)⟩
theorem lv_L_64 : zLV RL 64 yX8_nights := ⟨z_mem 414 (by decide +kernel) (by decide +kernel), z_mem 415 (by decide +kernel) (by decide +kernel), z_mem 416 (by decide +kernel) (by decide +kernel)⟩
theorem lv_X8_141 : zLV RX8 141 yX7_shape := ⟨z_mem 418 (by decide +kernel) (by decide +kernel), z_mem 419 (by decide +kernel) (by decide +kernel), z_mem 420 (by decide +kernel) (by decide +kernel)⟩
theorem lv_X8_148 : zLV RX8 148 yX2_push := ⟨z_mem 422 (by decide +kernel) (by decide +kernel), z_mem 423 (by decide +kernel) (by decide +kernel), z_mem 424 (by decide +kernel) (by decide +kernel)⟩
theorem lv_X2_27 : zLV RX2 27 yX2_put := ⟨z_mem 426 (by decide +kernel) (by decide +kernel), z_mem 427 (by decide +kernel) (by decide +kernel), z_mem 428 (by decide +kernel) (by decide +kernel)⟩
theorem lv_X8_152 : zLV RX8 152 yX8_passNights := ⟨z_mem 430 (by decide +kernel) (by decide +kernel), z_mem 432 (by decide +kernel) (by decide +kernel), z_mem 6 (by decide +kernel) (by decide +kernel)⟩
theorem lv_X8_203 : zLV RX8 203 yX4_goesOf := ⟨z_mem 434 (by decide +kernel) (by decide +kernel), z_mem 435 (by decide +kernel) (by decide +kernel), z_mem 436 (by decide +kernel) (by decide +kernel)⟩
theorem lv_X4_111 : zLV RX4 111 yX7_sizeOf := ⟨z_mem 438 (by decide +kernel) (by decide +kernel), z_mem 439 (by decide +kernel) (by decide +kernel), z_mem 440 (by decide +kernel) (by decide +kernel)⟩
theorem lv_X4_120 : zLV RX4 120 yX4_pullOf := ⟨z_mem 442 (by decide +kernel) (by decide +kernel), z_mem 443 (by decide +kernel) (by decide +kernel), z_mem 444 (by decide +kernel) (by decide +kernel)⟩
theorem ls_X4_87 : zLS RX4 87 yX4_traitOf := ⟨z_mem 446 (by decide +kernel) (by decide +kernel), z_mem 447 (by decide +kernel) (by decide +kernel)⟩
theorem lv_X4_98 : zLV RX4 98 yX7_cellsOf := ⟨z_mem 449 (by decide +kernel) (by decide +kernel), z_mem 450 (by decide +kernel) (by decide +kernel), z_mem 451 (by decide +kernel) (by decide +kernel)⟩
theorem ls_X4_103 : zLS RX4 103 yJ6_bitCount_0f7a4 := ⟨z_mem 453 (by decide +kernel) (by decide +kernel), z_mem 454 (by decide +kernel) (by decide +kernel)⟩
theorem lv_X4_108 : zLV RX4 108 yX7_changesOf := ⟨z_mem 459 (by decide +kernel) (by decide +kernel), z_mem 460 (by decide +kernel) (by decide +kernel), z_mem 461 (by decide +kernel) (by decide +kernel)⟩
theorem lv_X7_44 : zLV RX7 44 yX7_cellsOf := ⟨z_mem 463 (by decide +kernel) (by decide +kernel), z_mem 450 (by decide +kernel) (by decide +kernel), z_mem 451 (by decide +kernel) (by decide +kernel)⟩
theorem ls_X7_39 : zLS RX7 39 yJ6_bitCount_0f7a4 := ⟨z_mem 464 (by decide +kernel) (by decide +kernel), z_mem 454 (by decide +kernel) (by decide +kernel)⟩
theorem lv_X4_114 : zLV RX4 114 yX7_likesOf := ⟨z_mem 465 (by decide +kernel) (by decide +kernel), z_mem 466 (by decide +kernel) (by decide +kernel), z_mem 467 (by decide +kernel) (by decide +kernel)⟩
theorem lv_X7_29 : zLV RX7 29 yX7_sizeOf := ⟨z_mem 469 (by decide +kernel) (by decide +kernel), z_mem 439 (by decide +kernel) (by decide +kernel), z_mem 440 (by decide +kernel) (by decide +kernel)⟩
theorem ls_X4_91 : zLS RX4 91 yX4_joined := ⟨z_mem 470 (by decide +kernel) (by decide +kernel), z_mem 471 (by decide +kernel) (by decide +kernel)⟩
theorem ls_X4_95 : zLS RX4 95 Lib.Math.max.name := ⟨z_mem 473 (by decide +kernel) (by decide +kernel), z_mem 474 (by decide +kernel) (by decide +kernel)⟩
theorem lv_X8_210 : zLV RX8 210 yX7_passNight := ⟨z_mem 476 (by decide +kernel) (by decide +kernel), z_mem 477 (by decide +kernel) (by decide +kernel), z_mem 478 (by decide +kernel) (by decide +kernel)⟩
theorem lv_X7_100 : zLV RX7 100 yX7_drawOut := ⟨z_mem 480 (by decide +kernel) (by decide +kernel), z_mem 481 (by decide +kernel) (by decide +kernel), z_mem 482 (by decide +kernel) (by decide +kernel)⟩
theorem lv_X7_32 : zLV RX7 32 yX7_has := ⟨z_mem 484 (by decide +kernel) (by decide +kernel), z_mem 485 (by decide +kernel) (by decide +kernel), z_mem 486 (by decide +kernel) (by decide +kernel)⟩
theorem lv_X8_194 : zLV RX8 194 yX3_tell_ := ⟨z_mem 491 (by decide +kernel) (by decide +kernel), z_mem 492 (by decide +kernel) (by decide +kernel), z_mem 493 (by decide +kernel) (by decide +kernel)⟩
theorem lv_X3_19 : zLV RX3 19 yX3_add := ⟨z_mem 495 (by decide +kernel) (by decide +kernel), z_mem 496 (by decide +kernel) (by decide +kernel), z_mem 497 (by decide +kernel) (by decide +kernel)⟩
theorem lv_X8_191 : zLV RX8 191 yX7_threads := ⟨z_mem 499 (by decide +kernel) (by decide +kernel), z_mem 500 (by decide +kernel) (by decide +kernel), z_mem 501 (by decide +kernel) (by decide +kernel)⟩
theorem lv_L_68 : zLV RL 68 yX8_weaves := ⟨z_mem 503 (by decide +kernel) (by decide +kernel), z_mem 504 (by decide +kernel) (by decide +kernel), z_mem 505 (by decide +kernel) (by decide +kernel)⟩
theorem lv_X8_156 : zLV RX8 156 yX7_weaveIn := ⟨z_mem 507 (by decide +kernel) (by decide +kernel), z_mem 508 (by decide +kernel) (by decide +kernel), z_mem 509 (by decide +kernel) (by decide +kernel)⟩
theorem lv_X8_159 : zLV RX8 159 yX8_noted := ⟨z_mem 514 (by decide +kernel) (by decide +kernel), z_mem 516 (by decide +kernel) (by decide +kernel), z_mem 7 (by decide +kernel) (by decide +kernel)⟩
theorem lv_L_72 : zLV RL 72 yX8_draws := ⟨z_mem 518 (by decide +kernel) (by decide +kernel), z_mem 519 (by decide +kernel) (by decide +kernel), z_mem 520 (by decide +kernel) (by decide +kernel)⟩
theorem lv_X8_163 : zLV RX8 163 yX7_drawOut := ⟨z_mem 522 (by decide +kernel) (by decide +kernel), z_mem 481 (by decide +kernel) (by decide +kernel), z_mem 482 (by decide +kernel) (by decide +kernel)⟩
theorem lv_L_76 : zLV RL 76 yX8_flips := ⟨z_mem 523 (by decide +kernel) (by decide +kernel), z_mem 524 (by decide +kernel) (by decide +kernel), z_mem 525 (by decide +kernel) (by decide +kernel)⟩
theorem lv_X8_166 : zLV RX8 166 yX7_turnCell := ⟨z_mem 527 (by decide +kernel) (by decide +kernel), z_mem 528 (by decide +kernel) (by decide +kernel), z_mem 529 (by decide +kernel) (by decide +kernel)⟩
theorem lv_X7_36 : zLV RX7 36 yX7_crosses := ⟨z_mem 531 (by decide +kernel) (by decide +kernel), z_mem 532 (by decide +kernel) (by decide +kernel), z_mem 533 (by decide +kernel) (by decide +kernel)⟩
theorem lv_X7_93 : zLV RX7 93 yX7_overs := ⟨z_mem 535 (by decide +kernel) (by decide +kernel), z_mem 536 (by decide +kernel) (by decide +kernel), z_mem 537 (by decide +kernel) (by decide +kernel)⟩
theorem lv_L_80 : zLV RL 80 yX8_mirrors := ⟨z_mem 539 (by decide +kernel) (by decide +kernel), z_mem 540 (by decide +kernel) (by decide +kernel), z_mem 541 (by decide +kernel) (by decide +kernel)⟩
theorem lv_X8_169 : zLV RX8 169 yX7_turnRound := ⟨z_mem 543 (by decide +kernel) (by decide +kernel), z_mem 544 (by decide +kernel) (by decide +kernel), z_mem 545 (by decide +kernel) (by decide +kernel)⟩
theorem lv_X7_97 : zLV RX7 97 yX7_turnedRound := ⟨z_mem 547 (by decide +kernel) (by decide +kernel), z_mem 549 (by decide +kernel) (by decide +kernel), z_mem 8 (by decide +kernel) (by decide +kernel)⟩
theorem lv_L_84 : zLV RL 84 yX8_work := ⟨z_mem 551 (by decide +kernel) (by decide +kernel), z_mem 552 (by decide +kernel) (by decide +kernel), z_mem 553 (by decide +kernel) (by decide +kernel)⟩
theorem lv_X8_172 : zLV RX8 172 yX8_workFault := ⟨z_mem 555 (by decide +kernel) (by decide +kernel), z_mem 557 (by decide +kernel) (by decide +kernel), z_mem 9 (by decide +kernel) (by decide +kernel)⟩
theorem ls_X8_390 : zLS RX8 390 Lib.Math.min.name := ⟨z_mem 560 (by decide +kernel) (by decide +kernel), z_mem 372 (by decide +kernel) (by decide +kernel)⟩
theorem lv_X8_179 : zLV RX8 179 yX6_at := ⟨z_mem 561 (by decide +kernel) (by decide +kernel), z_mem 338 (by decide +kernel) (by decide +kernel), z_mem 339 (by decide +kernel) (by decide +kernel)⟩
theorem lv_X8_186 : zLV RX8 186 yJ0_length_8abf5 := ⟨z_mem 562 (by decide +kernel) (by decide +kernel), z_mem 563 (by decide +kernel) (by decide +kernel), z_mem 564 (by decide +kernel) (by decide +kernel)⟩
theorem lv_J0_335 : zLV RJ0 335 yJ0_coder_7d493 := ⟨z_mem 566 (by decide +kernel) (by decide +kernel), z_mem 567 (by decide +kernel) (by decide +kernel), z_mem 568 (by decide +kernel) (by decide +kernel)⟩
theorem ls_X8_182 : zLS RX8 182 yX8_digitsOf := ⟨z_mem 572 (by decide +kernel) (by decide +kernel), z_mem 573 (by decide +kernel) (by decide +kernel)⟩
theorem lv_X8_393 : zLV RX8 393 yJ0_isEmpty_aae02 := ⟨z_mem 580 (by decide +kernel) (by decide +kernel), z_mem 581 (by decide +kernel) (by decide +kernel), z_mem 582 (by decide +kernel) (by decide +kernel)⟩
theorem lv_X8_397 : zLV RX8 397 yJ0_charAt_5068e := ⟨z_mem 584 (by decide +kernel) (by decide +kernel), z_mem 585 (by decide +kernel) (by decide +kernel), z_mem 586 (by decide +kernel) (by decide +kernel)⟩
theorem lv_J0_492 : zLV RJ0 492 yJ0_isLatin1_aae02 := ⟨z_mem 588 (by decide +kernel) (by decide +kernel), z_mem 589 (by decide +kernel) (by decide +kernel), z_mem 590 (by decide +kernel) (by decide +kernel)⟩
theorem ls_J0_495 : zLS RJ0 495 yJ1_charAt_3b067 := ⟨z_mem 592 (by decide +kernel) (by decide +kernel), z_mem 593 (by decide +kernel) (by decide +kernel)⟩
theorem ls_J1_9 : zLS RJ1 9 yJ0_checkIndex_df160 := ⟨z_mem 595 (by decide +kernel) (by decide +kernel), z_mem 596 (by decide +kernel) (by decide +kernel)⟩
theorem ls_J0_1059 : zLS RJ0 1059 yJ3_checkIndex_8e157 := ⟨z_mem 600 (by decide +kernel) (by decide +kernel), z_mem 601 (by decide +kernel) (by decide +kernel)⟩
theorem ls_J0_498 : zLS RJ0 498 yJ2_charAt_3b067 := ⟨z_mem 603 (by decide +kernel) (by decide +kernel), z_mem 604 (by decide +kernel) (by decide +kernel)⟩
theorem ls_J2_67 : zLS RJ2 67 yJ2_checkIndex_2214a := ⟨z_mem 606 (by decide +kernel) (by decide +kernel), z_mem 607 (by decide +kernel) (by decide +kernel)⟩
theorem ls_J2_48 : zLS RJ2 48 yJ2_length_9d52b := ⟨z_mem 609 (by decide +kernel) (by decide +kernel), z_mem 610 (by decide +kernel) (by decide +kernel)⟩
theorem ls_J2_414 : zLS RJ2 414 yJ0_checkIndex_df160 := ⟨z_mem 612 (by decide +kernel) (by decide +kernel), z_mem 596 (by decide +kernel) (by decide +kernel)⟩
theorem ls_J2_71 : zLS RJ2 71 yJ2_getChar_3b067 := ⟨z_mem 613 (by decide +kernel) (by decide +kernel), z_mem 614 (by decide +kernel) (by decide +kernel)⟩
theorem lv_X8_176 : zLV RX8 176 yX8_actAt := ⟨z_mem 622 (by decide +kernel) (by decide +kernel), z_mem 624 (by decide +kernel) (by decide +kernel), z_mem 10 (by decide +kernel) (by decide +kernel)⟩
theorem lv_X8_401 : zLV RX8 401 yX6_digit := ⟨z_mem 626 (by decide +kernel) (by decide +kernel), z_mem 334 (by decide +kernel) (by decide +kernel), z_mem 335 (by decide +kernel) (by decide +kernel)⟩
theorem lv_L_88 : zLV RL 88 yX8_undo := ⟨z_mem 628 (by decide +kernel) (by decide +kernel), z_mem 629 (by decide +kernel) (by decide +kernel), z_mem 630 (by decide +kernel) (by decide +kernel)⟩
theorem lv_X8_199 : zLV RX8 199 yX2_bringBack := ⟨z_mem 632 (by decide +kernel) (by decide +kernel), z_mem 633 (by decide +kernel) (by decide +kernel), z_mem 634 (by decide +kernel) (by decide +kernel)⟩
theorem lv_X2_31 : zLV RX2 31 yX2_holds := ⟨z_mem 636 (by decide +kernel) (by decide +kernel), z_mem 637 (by decide +kernel) (by decide +kernel), z_mem 638 (by decide +kernel) (by decide +kernel)⟩
theorem lv_X2_35 : zLV RX2 35 yX7_takeShape := ⟨z_mem 640 (by decide +kernel) (by decide +kernel), z_mem 641 (by decide +kernel) (by decide +kernel), z_mem 642 (by decide +kernel) (by decide +kernel)⟩
theorem lv_L_92 : zLV RL 92 yX8_next := ⟨z_mem 646 (by decide +kernel) (by decide +kernel), z_mem 647 (by decide +kernel) (by decide +kernel), z_mem 648 (by decide +kernel) (by decide +kernel)⟩
theorem lv_X8_133 : zLV RX8 133 yX4_pullOf := ⟨z_mem 650 (by decide +kernel) (by decide +kernel), z_mem 443 (by decide +kernel) (by decide +kernel), z_mem 444 (by decide +kernel) (by decide +kernel)⟩
theorem lv_X8_207 : zLV RX8 207 yX3_tell := ⟨z_mem 651 (by decide +kernel) (by decide +kernel), z_mem 652 (by decide +kernel) (by decide +kernel), z_mem 653 (by decide +kernel) (by decide +kernel)⟩
theorem lv_L_96 : zLV RL 96 yX8_later := ⟨z_mem 655 (by decide +kernel) (by decide +kernel), z_mem 656 (by decide +kernel) (by decide +kernel), z_mem 657 (by decide +kernel) (by decide +kernel)⟩
theorem lv_X8_121 : zLV RX8 121 yX7_cellsOf := ⟨z_mem 659 (by decide +kernel) (by decide +kernel), z_mem 450 (by decide +kernel) (by decide +kernel), z_mem 451 (by decide +kernel) (by decide +kernel)⟩
theorem lv_X8_216 : zLV RX8 216 yX3_add := ⟨z_mem 660 (by decide +kernel) (by decide +kernel), z_mem 496 (by decide +kernel) (by decide +kernel), z_mem 497 (by decide +kernel) (by decide +kernel)⟩
theorem lv_L_100 : zLV RL 100 yX8_falls := ⟨z_mem 661 (by decide +kernel) (by decide +kernel), z_mem 662 (by decide +kernel) (by decide +kernel), z_mem 663 (by decide +kernel) (by decide +kernel)⟩
theorem lv_X8_218 : zLV RX8 218 yX0_isTogether := ⟨z_mem 665 (by decide +kernel) (by decide +kernel), z_mem 666 (by decide +kernel) (by decide +kernel), z_mem 667 (by decide +kernel) (by decide +kernel)⟩
theorem lv_X0_51 : zLV RX0 51 yX0_tie := ⟨z_mem 669 (by decide +kernel) (by decide +kernel), z_mem 670 (by decide +kernel) (by decide +kernel), z_mem 671 (by decide +kernel) (by decide +kernel)⟩
theorem lv_X0_32 : zLV RX0 32 yX7_cellsOf := ⟨z_mem 673 (by decide +kernel) (by decide +kernel), z_mem 450 (by decide +kernel) (by decide +kernel), z_mem 451 (by decide +kernel) (by decide +kernel)⟩
theorem lv_X0_38 : zLV RX0 38 yX7_fullOf := ⟨z_mem 674 (by decide +kernel) (by decide +kernel), z_mem 411 (by decide +kernel) (by decide +kernel), z_mem 412 (by decide +kernel) (by decide +kernel)⟩
theorem lv_X0_55 : zLV RX0 55 yX7_all := ⟨z_mem 675 (by decide +kernel) (by decide +kernel), z_mem 676 (by decide +kernel) (by decide +kernel), z_mem 677 (by decide +kernel) (by decide +kernel)⟩
theorem lv_X0_59 : zLV RX0 59 yX0_areTogether := ⟨z_mem 679 (by decide +kernel) (by decide +kernel), z_mem 680 (by decide +kernel) (by decide +kernel), z_mem 681 (by decide +kernel) (by decide +kernel)⟩
theorem ls_X0_42 : zLS RX0 42 yJ6_bitCount_0f7a4 := ⟨z_mem 683 (by decide +kernel) (by decide +kernel), z_mem 454 (by decide +kernel) (by decide +kernel)⟩
theorem ls_X0_47 : zLS RX0 47 yX0_reached := ⟨z_mem 684 (by decide +kernel) (by decide +kernel), z_mem 685 (by decide +kernel) (by decide +kernel)⟩
theorem lv_L_104 : zLV RL 104 yX8_rags := ⟨z_mem 687 (by decide +kernel) (by decide +kernel), z_mem 688 (by decide +kernel) (by decide +kernel), z_mem 689 (by decide +kernel) (by decide +kernel)⟩
theorem lv_X8_222 : zLV RX8 222 yX3_clear := ⟨z_mem 691 (by decide +kernel) (by decide +kernel), z_mem 692 (by decide +kernel) (by decide +kernel), z_mem 693 (by decide +kernel) (by decide +kernel)⟩
theorem ls_X8_225 : zLS RX8 225 yJ6_bitCount_0f7a4 := ⟨z_mem 695 (by decide +kernel) (by decide +kernel), z_mem 454 (by decide +kernel) (by decide +kernel)⟩
theorem lv_X8_230 : zLV RX8 230 yX8_ragsWithout := ⟨z_mem 696 (by decide +kernel) (by decide +kernel), z_mem 698 (by decide +kernel) (by decide +kernel), z_mem 11 (by decide +kernel) (by decide +kernel)⟩
theorem lv_X8_237 : zLV RX8 237 yX1_narrow := ⟨z_mem 700 (by decide +kernel) (by decide +kernel), z_mem 701 (by decide +kernel) (by decide +kernel), z_mem 702 (by decide +kernel) (by decide +kernel)⟩
theorem ls_X1_25 : zLS RX1 25 yJ6_bitCount_0f7a4 := ⟨z_mem 704 (by decide +kernel) (by decide +kernel), z_mem 454 (by decide +kernel) (by decide +kernel)⟩
theorem lv_X1_37 : zLV RX1 37 yX7_cellsOf := ⟨z_mem 705 (by decide +kernel) (by decide +kernel), z_mem 450 (by decide +kernel) (by decide +kernel), z_mem 451 (by decide +kernel) (by decide +kernel)⟩
theorem lv_X8_241 : zLV RX8 241 yX1_shapeWithout := ⟨z_mem 707 (by decide +kernel) (by decide +kernel), z_mem 708 (by decide +kernel) (by decide +kernel), z_mem 709 (by decide +kernel) (by decide +kernel)⟩
theorem lv_L_108 : zLV RL 108 yX8_lefts := ⟨z_mem 711 (by decide +kernel) (by decide +kernel), z_mem 712 (by decide +kernel) (by decide +kernel), z_mem 713 (by decide +kernel) (by decide +kernel)⟩
theorem lv_X8_234 : zLV RX8 234 yX1_forgetShapes := ⟨z_mem 715 (by decide +kernel) (by decide +kernel), z_mem 716 (by decide +kernel) (by decide +kernel), z_mem 717 (by decide +kernel) (by decide +kernel)⟩
theorem ls_X1_44 : zLS RX1 44 yJ7_fill_d0a16 := ⟨z_mem 719 (by decide +kernel) (by decide +kernel), z_mem 361 (by decide +kernel) (by decide +kernel)⟩
theorem lv_X8_245 : zLV RX8 245 yX1_isNew := ⟨z_mem 720 (by decide +kernel) (by decide +kernel), z_mem 721 (by decide +kernel) (by decide +kernel), z_mem 722 (by decide +kernel) (by decide +kernel)⟩
theorem lv_L_112 : zLV RL 112 yX8_outlasts := ⟨z_mem 725 (by decide +kernel) (by decide +kernel), z_mem 726 (by decide +kernel) (by decide +kernel), z_mem 727 (by decide +kernel) (by decide +kernel)⟩
theorem lv_X8_249 : zLV RX8 249 yX8_staysApart := ⟨z_mem 729 (by decide +kernel) (by decide +kernel), z_mem 731 (by decide +kernel) (by decide +kernel), z_mem 12 (by decide +kernel) (by decide +kernel)⟩
theorem lv_X8_404 : zLV RX8 404 yX8_canBeAlike := ⟨z_mem 733 (by decide +kernel) (by decide +kernel), z_mem 735 (by decide +kernel) (by decide +kernel), z_mem 13 (by decide +kernel) (by decide +kernel)⟩
theorem ls_X8_407 : zLS RX8 407 yX8_without := ⟨z_mem 737 (by decide +kernel) (by decide +kernel), z_mem 489 (by decide +kernel) (by decide +kernel)⟩
theorem lv_L_116 : zLV RL 116 yX8_words := ⟨z_mem 738 (by decide +kernel) (by decide +kernel), z_mem 739 (by decide +kernel) (by decide +kernel), z_mem 740 (by decide +kernel) (by decide +kernel)⟩
theorem ls_X8_253 : zLS RX8 253 yX8_checkSum := ⟨z_mem 742 (by decide +kernel) (by decide +kernel), z_mem 743 (by decide +kernel) (by decide +kernel)⟩
theorem lv_L_120 : zLV RL 120 yX8_loose := ⟨z_mem 745 (by decide +kernel) (by decide +kernel), z_mem 746 (by decide +kernel) (by decide +kernel), z_mem 747 (by decide +kernel) (by decide +kernel)⟩
theorem lv_X8_256 : zLV RX8 256 yX7_all := ⟨z_mem 749 (by decide +kernel) (by decide +kernel), z_mem 676 (by decide +kernel) (by decide +kernel), z_mem 677 (by decide +kernel) (by decide +kernel)⟩
theorem lv_X8_259 : zLV RX8 259 yX7_looseIn := ⟨z_mem 750 (by decide +kernel) (by decide +kernel), z_mem 751 (by decide +kernel) (by decide +kernel), z_mem 752 (by decide +kernel) (by decide +kernel)⟩
theorem lv_L_124 : zLV RL 124 yX8_sheds := ⟨z_mem 754 (by decide +kernel) (by decide +kernel), z_mem 755 (by decide +kernel) (by decide +kernel), z_mem 756 (by decide +kernel) (by decide +kernel)⟩
theorem lv_L_128 : zLV RL 128 yX8_hangs := ⟨z_mem 758 (by decide +kernel) (by decide +kernel), z_mem 759 (by decide +kernel) (by decide +kernel), z_mem 760 (by decide +kernel) (by decide +kernel)⟩
theorem lv_X8_262 : zLV RX8 262 yX0_tie := ⟨z_mem 762 (by decide +kernel) (by decide +kernel), z_mem 670 (by decide +kernel) (by decide +kernel), z_mem 671 (by decide +kernel) (by decide +kernel)⟩
theorem ls_X8_269 : zLS RX8 269 yX0_reached := ⟨z_mem 763 (by decide +kernel) (by decide +kernel), z_mem 685 (by decide +kernel) (by decide +kernel)⟩
theorem lv_L_132 : zLV RL 132 yX8_spares := ⟨z_mem 764 (by decide +kernel) (by decide +kernel), z_mem 765 (by decide +kernel) (by decide +kernel), z_mem 766 (by decide +kernel) (by decide +kernel)⟩
theorem lv_X8_276 : zLV RX8 276 yX0_areTogether := ⟨z_mem 768 (by decide +kernel) (by decide +kernel), z_mem 680 (by decide +kernel) (by decide +kernel), z_mem 681 (by decide +kernel) (by decide +kernel)⟩
theorem lv_L_136 : zLV RL 136 yX8_mends := ⟨z_mem 769 (by decide +kernel) (by decide +kernel), z_mem 770 (by decide +kernel) (by decide +kernel), z_mem 771 (by decide +kernel) (by decide +kernel)⟩
theorem lv_X8_279 : zLV RX8 279 yX8_mendingCell := ⟨z_mem 773 (by decide +kernel) (by decide +kernel), z_mem 775 (by decide +kernel) (by decide +kernel), z_mem 14 (by decide +kernel) (by decide +kernel)⟩
theorem lv_X8_107 : zLV RX8 107 yX7_crosses := ⟨z_mem 777 (by decide +kernel) (by decide +kernel), z_mem 532 (by decide +kernel) (by decide +kernel), z_mem 533 (by decide +kernel) (by decide +kernel)⟩
theorem lv_X8_282 : zLV RX8 282 yX0_turn := ⟨z_mem 778 (by decide +kernel) (by decide +kernel), z_mem 779 (by decide +kernel) (by decide +kernel), z_mem 780 (by decide +kernel) (by decide +kernel)⟩
theorem lv_L_140 : zLV RL 140 yX8_endures := ⟨z_mem 782 (by decide +kernel) (by decide +kernel), z_mem 783 (by decide +kernel) (by decide +kernel), z_mem 784 (by decide +kernel) (by decide +kernel)⟩
theorem lv_X8_286 : zLV RX8 286 yX0_tabulate := ⟨z_mem 786 (by decide +kernel) (by decide +kernel), z_mem 787 (by decide +kernel) (by decide +kernel), z_mem 788 (by decide +kernel) (by decide +kernel)⟩
theorem lv_X0_63 : zLV RX0 63 yX7_shape := ⟨z_mem 790 (by decide +kernel) (by decide +kernel), z_mem 419 (by decide +kernel) (by decide +kernel), z_mem 420 (by decide +kernel) (by decide +kernel)⟩
theorem ls_X0_67 : zLS RX0 67 yJ7_fill_d0a16 := ⟨z_mem 791 (by decide +kernel) (by decide +kernel), z_mem 361 (by decide +kernel) (by decide +kernel)⟩
theorem ls_X0_73 : zLS RX0 73 yJ7_fill_53178 := ⟨z_mem 792 (by decide +kernel) (by decide +kernel), z_mem 342 (by decide +kernel) (by decide +kernel)⟩
theorem ls_X0_76 : zLS RX0 76 yX0_mark := ⟨z_mem 793 (by decide +kernel) (by decide +kernel), z_mem 794 (by decide +kernel) (by decide +kernel)⟩
theorem ls_X8_293 : zLS RX8 293 yX0_isIn := ⟨z_mem 796 (by decide +kernel) (by decide +kernel), z_mem 797 (by decide +kernel) (by decide +kernel)⟩
theorem lv_X8_297 : zLV RX8 297 yX0_longestTaking := ⟨z_mem 799 (by decide +kernel) (by decide +kernel), z_mem 800 (by decide +kernel) (by decide +kernel), z_mem 801 (by decide +kernel) (by decide +kernel)⟩
theorem ls_X0_80 : zLS RX0 80 yX0_isIn := ⟨z_mem 803 (by decide +kernel) (by decide +kernel), z_mem 797 (by decide +kernel) (by decide +kernel)⟩
theorem ls_X0_84 : zLS RX0 84 Lib.Math.min.name := ⟨z_mem 804 (by decide +kernel) (by decide +kernel), z_mem 372 (by decide +kernel) (by decide +kernel)⟩
theorem lv_X0_89 : zLV RX0 89 yX0_markTakings := ⟨z_mem 805 (by decide +kernel) (by decide +kernel), z_mem 807 (by decide +kernel) (by decide +kernel), z_mem 15 (by decide +kernel) (by decide +kernel)⟩
theorem lv_L_144 : zLV RL 144 yX8_differs := ⟨z_mem 809 (by decide +kernel) (by decide +kernel), z_mem 810 (by decide +kernel) (by decide +kernel), z_mem 811 (by decide +kernel) (by decide +kernel)⟩
theorem lv_X8_300 : zLV RX8 300 yX8_differences := ⟨z_mem 813 (by decide +kernel) (by decide +kernel), z_mem 815 (by decide +kernel) (by decide +kernel), z_mem 16 (by decide +kernel) (by decide +kernel)⟩
theorem lv_X8_114 : zLV RX8 114 yX7_overAt := ⟨z_mem 817 (by decide +kernel) (by decide +kernel), z_mem 818 (by decide +kernel) (by decide +kernel), z_mem 819 (by decide +kernel) (by decide +kernel)⟩
theorem lv_L_148 : zLV RL 148 yX8_looks := ⟨z_mem 821 (by decide +kernel) (by decide +kernel), z_mem 822 (by decide +kernel) (by decide +kernel), z_mem 823 (by decide +kernel) (by decide +kernel)⟩
theorem lv_X8_303 : zLV RX8 303 yX8_otherwise := ⟨z_mem 825 (by decide +kernel) (by decide +kernel), z_mem 827 (by decide +kernel) (by decide +kernel), z_mem 17 (by decide +kernel) (by decide +kernel)⟩
theorem lv_X8_307 : zLV RX8 307 yX8_otherwiseAcross := ⟨z_mem 829 (by decide +kernel) (by decide +kernel), z_mem 831 (by decide +kernel) (by decide +kernel), z_mem 18 (by decide +kernel) (by decide +kernel)⟩
theorem lv_L_152 : zLV RL 152 yX8_repeats := ⟨z_mem 833 (by decide +kernel) (by decide +kernel), z_mem 834 (by decide +kernel) (by decide +kernel), z_mem 835 (by decide +kernel) (by decide +kernel)⟩
theorem lv_X8_310 : zLV RX8 310 yX7_repeatOf := ⟨z_mem 837 (by decide +kernel) (by decide +kernel), z_mem 838 (by decide +kernel) (by decide +kernel), z_mem 839 (by decide +kernel) (by decide +kernel)⟩
theorem lv_L_156 : zLV RL 156 yX8_runs := ⟨z_mem 841 (by decide +kernel) (by decide +kernel), z_mem 842 (by decide +kernel) (by decide +kernel), z_mem 843 (by decide +kernel) (by decide +kernel)⟩
theorem lv_X8_313 : zLV RX8 313 yX7_longestRun := ⟨z_mem 845 (by decide +kernel) (by decide +kernel), z_mem 846 (by decide +kernel) (by decide +kernel), z_mem 847 (by decide +kernel) (by decide +kernel)⟩
theorem ls_X7_51 : zLS RX7 51 Lib.Math.max.name := ⟨z_mem 849 (by decide +kernel) (by decide +kernel), z_mem 474 (by decide +kernel) (by decide +kernel)⟩
theorem lv_X8_316 : zLV RX8 316 yX7_runsAlong := ⟨z_mem 850 (by decide +kernel) (by decide +kernel), z_mem 851 (by decide +kernel) (by decide +kernel), z_mem 852 (by decide +kernel) (by decide +kernel)⟩
theorem lv_X7_48 : zLV RX7 48 yX7_changesOf := ⟨z_mem 854 (by decide +kernel) (by decide +kernel), z_mem 460 (by decide +kernel) (by decide +kernel), z_mem 461 (by decide +kernel) (by decide +kernel)⟩
theorem lv_L_160 : zLV RL 160 yX8_twins := ⟨z_mem 855 (by decide +kernel) (by decide +kernel), z_mem 856 (by decide +kernel) (by decide +kernel), z_mem 857 (by decide +kernel) (by decide +kernel)⟩
theorem lv_X8_319 : zLV RX8 319 yX7_areTwins := ⟨z_mem 859 (by decide +kernel) (by decide +kernel), z_mem 860 (by decide +kernel) (by decide +kernel), z_mem 861 (by decide +kernel) (by decide +kernel)⟩
theorem lv_L_164 : zLV RL 164 yX8_game := ⟨z_mem 863 (by decide +kernel) (by decide +kernel), z_mem 864 (by decide +kernel) (by decide +kernel), z_mem 865 (by decide +kernel) (by decide +kernel)⟩
theorem lv_X8_322 : zLV RX8 322 yX0_winningTake := ⟨z_mem 867 (by decide +kernel) (by decide +kernel), z_mem 868 (by decide +kernel) (by decide +kernel), z_mem 869 (by decide +kernel) (by decide +kernel)⟩
theorem lv_X0_93 : zLV RX0 93 yX0_leastTake := ⟨z_mem 871 (by decide +kernel) (by decide +kernel), z_mem 873 (by decide +kernel) (by decide +kernel), z_mem 19 (by decide +kernel) (by decide +kernel)⟩
theorem lv_L_168 : zLV RL 168 yX8_told := ⟨z_mem 875 (by decide +kernel) (by decide +kernel), z_mem 876 (by decide +kernel) (by decide +kernel), z_mem 877 (by decide +kernel) (by decide +kernel)⟩
theorem ls_X8_326 : zLS RX8 326 yX5_mostOf := ⟨z_mem 879 (by decide +kernel) (by decide +kernel), z_mem 880 (by decide +kernel) (by decide +kernel)⟩
theorem lv_X8_329 : zLV RX8 329 yX5_add := ⟨z_mem 882 (by decide +kernel) (by decide +kernel), z_mem 883 (by decide +kernel) (by decide +kernel), z_mem 884 (by decide +kernel) (by decide +kernel)⟩
theorem lv_L_172 : zLV RL 172 yX8_forget := ⟨z_mem 886 (by decide +kernel) (by decide +kernel), z_mem 887 (by decide +kernel) (by decide +kernel), z_mem 888 (by decide +kernel) (by decide +kernel)⟩
theorem lv_L_176 : zLV RL 176 yX8_fits := ⟨z_mem 890 (by decide +kernel) (by decide +kernel), z_mem 891 (by decide +kernel) (by decide +kernel), z_mem 892 (by decide +kernel) (by decide +kernel)⟩
theorem lv_X8_331 : zLV RX8 331 yX5_fitting := ⟨z_mem 894 (by decide +kernel) (by decide +kernel), z_mem 895 (by decide +kernel) (by decide +kernel), z_mem 896 (by decide +kernel) (by decide +kernel)⟩
theorem lv_X5_45 : zLV RX5 45 yX7_all := ⟨z_mem 898 (by decide +kernel) (by decide +kernel), z_mem 676 (by decide +kernel) (by decide +kernel), z_mem 677 (by decide +kernel) (by decide +kernel)⟩
theorem ls_X5_49 : zLS RX5 49 yX5_those := ⟨z_mem 899 (by decide +kernel) (by decide +kernel), z_mem 900 (by decide +kernel) (by decide +kernel)⟩
theorem ls_X5_22 : zLS RX5 22 yX5_isSo := ⟨z_mem 902 (by decide +kernel) (by decide +kernel), z_mem 903 (by decide +kernel) (by decide +kernel)⟩
theorem lv_X5_26 : zLV RX5 26 yX7_cellsOf := ⟨z_mem 905 (by decide +kernel) (by decide +kernel), z_mem 450 (by decide +kernel) (by decide +kernel), z_mem 451 (by decide +kernel) (by decide +kernel)⟩
theorem ls_X5_32 : zLS RX5 32 yJ6_bitCount_0f7a4 := ⟨z_mem 906 (by decide +kernel) (by decide +kernel), z_mem 454 (by decide +kernel) (by decide +kernel)⟩
theorem lv_X5_38 : zLV RX5 38 yX7_changesOf := ⟨z_mem 907 (by decide +kernel) (by decide +kernel), z_mem 460 (by decide +kernel) (by decide +kernel), z_mem 461 (by decide +kernel) (by decide +kernel)⟩
theorem lv_X5_41 : zLV RX5 41 yX7_isLoose := ⟨z_mem 908 (by decide +kernel) (by decide +kernel), z_mem 909 (by decide +kernel) (by decide +kernel), z_mem 910 (by decide +kernel) (by decide +kernel)⟩
theorem lv_L_180 : zLV RL 180 yX8_asks := ⟨z_mem 912 (by decide +kernel) (by decide +kernel), z_mem 913 (by decide +kernel) (by decide +kernel), z_mem 914 (by decide +kernel) (by decide +kernel)⟩
theorem ls_X8_334 : zLS RX8 334 yX5_those := ⟨z_mem 916 (by decide +kernel) (by decide +kernel), z_mem 900 (by decide +kernel) (by decide +kernel)⟩
theorem ls_X8_338 : zLS RX8 338 Lib.Math.max.name := ⟨z_mem 917 (by decide +kernel) (by decide +kernel), z_mem 474 (by decide +kernel) (by decide +kernel)⟩
theorem lv_L_184 : zLV RL 184 yX8_odds := ⟨z_mem 918 (by decide +kernel) (by decide +kernel), z_mem 919 (by decide +kernel) (by decide +kernel), z_mem 920 (by decide +kernel) (by decide +kernel)⟩
theorem lv_X8_343 : zLV RX8 343 yX0_holdingOf := ⟨z_mem 922 (by decide +kernel) (by decide +kernel), z_mem 923 (by decide +kernel) (by decide +kernel), z_mem 924 (by decide +kernel) (by decide +kernel)⟩
theorem ls_X8_346 : zLS RX8 346 yX8_power := ⟨z_mem 926 (by decide +kernel) (by decide +kernel), z_mem 927 (by decide +kernel) (by decide +kernel)⟩
theorem ls_X8_350 : zLS RX8 350 yX8_commonDivisor := ⟨z_mem 929 (by decide +kernel) (by decide +kernel), z_mem 930 (by decide +kernel) (by decide +kernel)⟩
theorem lv_L_188 : zLV RL 188 yX8_law := ⟨z_mem 932 (by decide +kernel) (by decide +kernel), z_mem 933 (by decide +kernel) (by decide +kernel), z_mem 934 (by decide +kernel) (by decide +kernel)⟩
theorem lv_L_192 : zLV RL 192 yX8_rests := ⟨z_mem 936 (by decide +kernel) (by decide +kernel), z_mem 937 (by decide +kernel) (by decide +kernel), z_mem 938 (by decide +kernel) (by decide +kernel)⟩
theorem ls_X8_354 : zLS RX8 354 yX8_isBestAgainst := ⟨z_mem 940 (by decide +kernel) (by decide +kernel), z_mem 941 (by decide +kernel) (by decide +kernel)⟩
theorem ls_X8_410 : zLS RX8 410 yX8_share := ⟨z_mem 943 (by decide +kernel) (by decide +kernel), z_mem 944 (by decide +kernel) (by decide +kernel)⟩
theorem lv_L_196 : zLV RL 196 yX8_years := ⟨z_mem 946 (by decide +kernel) (by decide +kernel), z_mem 947 (by decide +kernel) (by decide +kernel), z_mem 948 (by decide +kernel) (by decide +kernel)⟩
theorem lv_X8_358 : zLV RX8 358 yX8_drawnBelow := ⟨z_mem 950 (by decide +kernel) (by decide +kernel), z_mem 952 (by decide +kernel) (by decide +kernel), z_mem 20 (by decide +kernel) (by decide +kernel)⟩
theorem lv_X8_361 : zLV RX8 361 yX8_weaveDrawn := ⟨z_mem 955 (by decide +kernel) (by decide +kernel), z_mem 957 (by decide +kernel) (by decide +kernel), z_mem 21 (by decide +kernel) (by decide +kernel)⟩
theorem lv_X8_414 : zLV RX8 414 yX7_sizeOf := ⟨z_mem 959 (by decide +kernel) (by decide +kernel), z_mem 439 (by decide +kernel) (by decide +kernel), z_mem 440 (by decide +kernel) (by decide +kernel)⟩
theorem lv_X8_417 : zLV RX8 417 yX7_fullOf := ⟨z_mem 960 (by decide +kernel) (by decide +kernel), z_mem 411 (by decide +kernel) (by decide +kernel), z_mem 412 (by decide +kernel) (by decide +kernel)⟩
theorem lv_X8_364 : zLV RX8 364 yX7_overs := ⟨z_mem 961 (by decide +kernel) (by decide +kernel), z_mem 536 (by decide +kernel) (by decide +kernel), z_mem 537 (by decide +kernel) (by decide +kernel)⟩
theorem lv_L_200 : zLV RL 200 yX8_keep := ⟨z_mem 962 (by decide +kernel) (by decide +kernel), z_mem 963 (by decide +kernel) (by decide +kernel), z_mem 964 (by decide +kernel) (by decide +kernel)⟩
theorem lv_X8_367 : zLV RX8 367 yX2_put := ⟨z_mem 966 (by decide +kernel) (by decide +kernel), z_mem 427 (by decide +kernel) (by decide +kernel), z_mem 428 (by decide +kernel) (by decide +kernel)⟩
theorem lv_L_204 : zLV RL 204 yX8_again := ⟨z_mem 967 (by decide +kernel) (by decide +kernel), z_mem 968 (by decide +kernel) (by decide +kernel), z_mem 969 (by decide +kernel) (by decide +kernel)⟩
theorem lv_X8_371 : zLV RX8 371 yX2_holds := ⟨z_mem 971 (by decide +kernel) (by decide +kernel), z_mem 637 (by decide +kernel) (by decide +kernel), z_mem 638 (by decide +kernel) (by decide +kernel)⟩
theorem lv_L_208 : zLV RL 208 yX8_count := ⟨z_mem 972 (by decide +kernel) (by decide +kernel), z_mem 973 (by decide +kernel) (by decide +kernel), z_mem 974 (by decide +kernel) (by decide +kernel)⟩
theorem ls_L_46 : zLS RL 46 yL_cell := ⟨z_mem 976 (by decide +kernel) (by decide +kernel), z_mem 977 (by decide +kernel) (by decide +kernel)⟩
theorem lv_L_7 : zLV RL 7 yX8_cell := ⟨z_mem 980 (by decide +kernel) (by decide +kernel), z_mem 981 (by decide +kernel) (by decide +kernel), z_mem 982 (by decide +kernel) (by decide +kernel)⟩
theorem ls_L_55 : zLS RL 55 yL_thread := ⟨z_mem 1045 (by decide +kernel) (by decide +kernel), z_mem 1046 (by decide +kernel) (by decide +kernel)⟩
theorem lv_L_15 : zLV RL 15 yX8_thread := ⟨z_mem 1048 (by decide +kernel) (by decide +kernel), z_mem 1049 (by decide +kernel) (by decide +kernel), z_mem 1050 (by decide +kernel) (by decide +kernel)⟩
theorem lv_X8_118 : zLV RX8 118 yX7_has := ⟨z_mem 1052 (by decide +kernel) (by decide +kernel), z_mem 485 (by decide +kernel) (by decide +kernel), z_mem 486 (by decide +kernel) (by decide +kernel)⟩
theorem lv_X8_124 : zLV RX8 124 yX7_changesOf := ⟨z_mem 1053 (by decide +kernel) (by decide +kernel), z_mem 460 (by decide +kernel) (by decide +kernel), z_mem 461 (by decide +kernel) (by decide +kernel)⟩
theorem lv_X8_127 : zLV RX8 127 yX7_likesOf := ⟨z_mem 1054 (by decide +kernel) (by decide +kernel), z_mem 466 (by decide +kernel) (by decide +kernel), z_mem 467 (by decide +kernel) (by decide +kernel)⟩
theorem lv_X8_130 : zLV RX8 130 yX7_isLoose := ⟨z_mem 1055 (by decide +kernel) (by decide +kernel), z_mem 909 (by decide +kernel) (by decide +kernel), z_mem 910 (by decide +kernel) (by decide +kernel)⟩
theorem ls_L_212 : zLS RL 212 yL_row := ⟨z_mem 1056 (by decide +kernel) (by decide +kernel), z_mem 1057 (by decide +kernel) (by decide +kernel)⟩
theorem lv_L_19 : zLV RL 19 yX8_row := ⟨z_mem 1059 (by decide +kernel) (by decide +kernel), z_mem 1060 (by decide +kernel) (by decide +kernel), z_mem 1061 (by decide +kernel) (by decide +kernel)⟩
theorem lv_L_52 : zLV RL 52 yX9_thrown := ⟨z_mem 1063 (by decide +kernel) (by decide +kernel), z_mem 1064 (by decide +kernel) (by decide +kernel), z_mem 1065 (by decide +kernel) (by decide +kernel)⟩
theorem lv_L_31 : zLV RL 31 yX9_sign := ⟨z_mem 1197 (by decide +kernel) (by decide +kernel), z_mem 1198 (by decide +kernel) (by decide +kernel), z_mem 1199 (by decide +kernel) (by decide +kernel)⟩
theorem lv_L_36 : zLV RL 36 yX9_end := ⟨z_mem 1201 (by decide +kernel) (by decide +kernel), z_mem 1202 (by decide +kernel) (by decide +kernel), z_mem 1203 (by decide +kernel) (by decide +kernel)⟩
theorem ls_X9_104 : zLS RX9 104 yX9_in := ⟨z_mem 1205 (by decide +kernel) (by decide +kernel), z_mem 1206 (by decide +kernel) (by decide +kernel)⟩
theorem lv_L_41 : zLV RL 41 yX9_cloth := ⟨z_mem 1208 (by decide +kernel) (by decide +kernel), z_mem 1209 (by decide +kernel) (by decide +kernel), z_mem 1210 (by decide +kernel) (by decide +kernel)⟩
theorem lv_X9_191 : zLV RX9 191 yX9_readsCloth := ⟨z_mem 1212 (by decide +kernel) (by decide +kernel), z_mem 1214 (by decide +kernel) (by decide +kernel), z_mem 23 (by decide +kernel) (by decide +kernel)⟩
theorem lv_X9_179 : zLV RX9 179 yX9_begins := ⟨z_mem 1216 (by decide +kernel) (by decide +kernel), z_mem 1218 (by decide +kernel) (by decide +kernel), z_mem 24 (by decide +kernel) (by decide +kernel)⟩
theorem ls_X9_153 : zLS RX9 153 Lib.Math.min.name := ⟨z_mem 1220 (by decide +kernel) (by decide +kernel), z_mem 372 (by decide +kernel) (by decide +kernel)⟩
theorem lv_X9_182 : zLV RX9 182 yX9_digitIn := ⟨z_mem 1221 (by decide +kernel) (by decide +kernel), z_mem 1223 (by decide +kernel) (by decide +kernel), z_mem 25 (by decide +kernel) (by decide +kernel)⟩
theorem lv_X9_187 : zLV RX9 187 yX9_takesOf := ⟨z_mem 1226 (by decide +kernel) (by decide +kernel), z_mem 1228 (by decide +kernel) (by decide +kernel), z_mem 26 (by decide +kernel) (by decide +kernel)⟩
theorem lv_X9_165 : zLV RX9 165 yJ0_length_8abf5 := ⟨z_mem 1230 (by decide +kernel) (by decide +kernel), z_mem 563 (by decide +kernel) (by decide +kernel), z_mem 564 (by decide +kernel) (by decide +kernel)⟩
theorem lv_X9_171 : zLV RX9 171 yJ0_charAt_5068e := ⟨z_mem 1231 (by decide +kernel) (by decide +kernel), z_mem 585 (by decide +kernel) (by decide +kernel), z_mem 586 (by decide +kernel) (by decide +kernel)⟩
theorem ls_X9_194 : zLS RX9 194 yX9_copies := ⟨z_mem 1232 (by decide +kernel) (by decide +kernel), z_mem 1233 (by decide +kernel) (by decide +kernel)⟩
theorem lv_L_45 : zLV RL 45 yX9_rule := ⟨z_mem 1235 (by decide +kernel) (by decide +kernel), z_mem 1236 (by decide +kernel) (by decide +kernel), z_mem 1237 (by decide +kernel) (by decide +kernel)⟩
theorem lv_X9_239 : zLV RX9 239 yX9_readsRule := ⟨z_mem 1239 (by decide +kernel) (by decide +kernel), z_mem 1241 (by decide +kernel) (by decide +kernel), z_mem 27 (by decide +kernel) (by decide +kernel)⟩
theorem lv_X9_223 : zLV RX9 223 yX9_readsRank := ⟨z_mem 1243 (by decide +kernel) (by decide +kernel), z_mem 1245 (by decide +kernel) (by decide +kernel), z_mem 28 (by decide +kernel) (by decide +kernel)⟩
theorem lv_X9_211 : zLV RX9 211 yX9_readsThing := ⟨z_mem 1247 (by decide +kernel) (by decide +kernel), z_mem 1249 (by decide +kernel) (by decide +kernel), z_mem 29 (by decide +kernel) (by decide +kernel)⟩
theorem lv_X9_207 : zLV RX9 207 yX9_takes := ⟨z_mem 1251 (by decide +kernel) (by decide +kernel), z_mem 1253 (by decide +kernel) (by decide +kernel), z_mem 30 (by decide +kernel) (by decide +kernel)⟩
theorem ls_X9_116 : zLS RX9 116 yX9_flag := ⟨z_mem 1255 (by decide +kernel) (by decide +kernel), z_mem 1256 (by decide +kernel) (by decide +kernel)⟩
theorem lv_X9_214 : zLV RX9 214 yX9_codes := ⟨z_mem 1258 (by decide +kernel) (by decide +kernel), z_mem 1260 (by decide +kernel) (by decide +kernel), z_mem 31 (by decide +kernel) (by decide +kernel)⟩
theorem lv_X9_175 : zLV RX9 175 yX9_isDigit := ⟨z_mem 1262 (by decide +kernel) (by decide +kernel), z_mem 1264 (by decide +kernel) (by decide +kernel), z_mem 32 (by decide +kernel) (by decide +kernel)⟩
theorem lv_X9_218 : zLV RX9 218 yX9_number := ⟨z_mem 1268 (by decide +kernel) (by decide +kernel), z_mem 1270 (by decide +kernel) (by decide +kernel), z_mem 33 (by decide +kernel) (by decide +kernel)⟩
theorem lv_X9_232 : zLV RX9 232 yX9_faultOf := ⟨z_mem 1276 (by decide +kernel) (by decide +kernel), z_mem 1278 (by decide +kernel) (by decide +kernel), z_mem 34 (by decide +kernel) (by decide +kernel)⟩
theorem lv_X9_242 : zLV RX9 242 yX9_laysCode := ⟨z_mem 1280 (by decide +kernel) (by decide +kernel), z_mem 1282 (by decide +kernel) (by decide +kernel), z_mem 35 (by decide +kernel) (by decide +kernel)⟩
theorem lv_L_51 : zLV RL 51 yX9_cell := ⟨z_mem 1284 (by decide +kernel) (by decide +kernel), z_mem 1285 (by decide +kernel) (by decide +kernel), z_mem 1286 (by decide +kernel) (by decide +kernel)⟩
theorem ls_X9_262 : zLS RX9 262 yX9_isThread := ⟨z_mem 1288 (by decide +kernel) (by decide +kernel), z_mem 1289 (by decide +kernel) (by decide +kernel)⟩
theorem ls_X9_108 : zLS RX9 108 yX9_manyOf := ⟨z_mem 1291 (by decide +kernel) (by decide +kernel), z_mem 1292 (by decide +kernel) (by decide +kernel)⟩
theorem lv_X9_273 : zLV RX9 273 yX9_refuse := ⟨z_mem 1294 (by decide +kernel) (by decide +kernel), z_mem 1296 (by decide +kernel) (by decide +kernel), z_mem 36 (by decide +kernel) (by decide +kernel)⟩
theorem ls_X9_112 : zLS RX9 112 yX9_has := ⟨z_mem 1298 (by decide +kernel) (by decide +kernel), z_mem 1299 (by decide +kernel) (by decide +kernel)⟩
theorem lv_L_58 : zLV RL 58 yX9_thread := ⟨z_mem 1301 (by decide +kernel) (by decide +kernel), z_mem 1302 (by decide +kernel) (by decide +kernel), z_mem 1303 (by decide +kernel) (by decide +kernel)⟩
theorem ls_X9_120 : zLS RX9 120 yX9_bitsOf := ⟨z_mem 1306 (by decide +kernel) (by decide +kernel), z_mem 1307 (by decide +kernel) (by decide +kernel)⟩
theorem ls_X9_124 : zLS RX9 124 yX9_cellsOf := ⟨z_mem 1309 (by decide +kernel) (by decide +kernel), z_mem 1310 (by decide +kernel) (by decide +kernel)⟩
theorem ls_X9_249 : zLS RX9 249 yX9_changesOf := ⟨z_mem 1312 (by decide +kernel) (by decide +kernel), z_mem 1313 (by decide +kernel) (by decide +kernel)⟩
theorem ls_X9_252 : zLS RX9 252 yX9_alike := ⟨z_mem 1315 (by decide +kernel) (by decide +kernel), z_mem 1316 (by decide +kernel) (by decide +kernel)⟩
theorem ls_X9_278 : zLS RX9 278 yX9_isLoose := ⟨z_mem 1318 (by decide +kernel) (by decide +kernel), z_mem 1319 (by decide +kernel) (by decide +kernel)⟩
theorem ls_X9_127 : zLS RX9 127 yX9_full := ⟨z_mem 1321 (by decide +kernel) (by decide +kernel), z_mem 1322 (by decide +kernel) (by decide +kernel)⟩
theorem lv_X9_266 : zLV RX9 266 yX9_pull := ⟨z_mem 1324 (by decide +kernel) (by decide +kernel), z_mem 1326 (by decide +kernel) (by decide +kernel), z_mem 37 (by decide +kernel) (by decide +kernel)⟩
theorem ls_X9_131 : zLS RX9 131 yJ6_bitCount_0f7a4 := ⟨z_mem 1328 (by decide +kernel) (by decide +kernel), z_mem 454 (by decide +kernel) (by decide +kernel)⟩
theorem lv_X9_255 : zLV RX9 255 yX9_ruled := ⟨z_mem 1329 (by decide +kernel) (by decide +kernel), z_mem 1331 (by decide +kernel) (by decide +kernel), z_mem 38 (by decide +kernel) (by decide +kernel)⟩
theorem ls_X9_246 : zLS RX9 246 yX9_worked := ⟨z_mem 1333 (by decide +kernel) (by decide +kernel), z_mem 1334 (by decide +kernel) (by decide +kernel)⟩
theorem ls_X9_258 : zLS RX9 258 Lib.Math.max.name := ⟨z_mem 1336 (by decide +kernel) (by decide +kernel), z_mem 474 (by decide +kernel) (by decide +kernel)⟩
theorem lv_L_63 : zLV RL 63 yX9_sheet := ⟨z_mem 1337 (by decide +kernel) (by decide +kernel), z_mem 1338 (by decide +kernel) (by decide +kernel), z_mem 1339 (by decide +kernel) (by decide +kernel)⟩
theorem lv_L_91 : zLV RL 91 yX9_undo := ⟨z_mem 1342 (by decide +kernel) (by decide +kernel), z_mem 1343 (by decide +kernel) (by decide +kernel), z_mem 1344 (by decide +kernel) (by decide +kernel)⟩
theorem lv_L_67 : zLV RL 67 yX9_nights := ⟨z_mem 1346 (by decide +kernel) (by decide +kernel), z_mem 1347 (by decide +kernel) (by decide +kernel), z_mem 1348 (by decide +kernel) (by decide +kernel)⟩
theorem lv_X9_305 : zLV RX9 305 yX9_putsBy := ⟨z_mem 1351 (by decide +kernel) (by decide +kernel), z_mem 1353 (by decide +kernel) (by decide +kernel), z_mem 39 (by decide +kernel) (by decide +kernel)⟩
theorem lv_X9_308 : zLV RX9 308 yX9_goesOn := ⟨z_mem 1355 (by decide +kernel) (by decide +kernel), z_mem 1357 (by decide +kernel) (by decide +kernel), z_mem 40 (by decide +kernel) (by decide +kernel)⟩
theorem lv_X9_293 : zLV RX9 293 yX9_nightGoes := ⟨z_mem 1359 (by decide +kernel) (by decide +kernel), z_mem 1361 (by decide +kernel) (by decide +kernel), z_mem 41 (by decide +kernel) (by decide +kernel)⟩
theorem lv_X9_286 : zLV RX9 286 yX9_nextOf := ⟨z_mem 1363 (by decide +kernel) (by decide +kernel), z_mem 1365 (by decide +kernel) (by decide +kernel), z_mem 42 (by decide +kernel) (by decide +kernel)⟩
theorem lv_X9_269 : zLV RX9 269 yX9_strongest := ⟨z_mem 1367 (by decide +kernel) (by decide +kernel), z_mem 1369 (by decide +kernel) (by decide +kernel), z_mem 43 (by decide +kernel) (by decide +kernel)⟩
theorem ls_X9_289 : zLS RX9 289 yX9_goes := ⟨z_mem 1372 (by decide +kernel) (by decide +kernel), z_mem 1373 (by decide +kernel) (by decide +kernel)⟩
theorem ls_X9_136 : zLS RX9 136 yX9_without := ⟨z_mem 1375 (by decide +kernel) (by decide +kernel), z_mem 1376 (by decide +kernel) (by decide +kernel)⟩
theorem lv_X9_311 : zLV RX9 311 yX9_enters := ⟨z_mem 1378 (by decide +kernel) (by decide +kernel), z_mem 1380 (by decide +kernel) (by decide +kernel), z_mem 44 (by decide +kernel) (by decide +kernel)⟩
theorem ls_X9_315 : zLS RX9 315 yX9_threadsOf := ⟨z_mem 1382 (by decide +kernel) (by decide +kernel), z_mem 1383 (by decide +kernel) (by decide +kernel)⟩
theorem lv_X9_283 : zLV RX9 283 yX9_adds := ⟨z_mem 1385 (by decide +kernel) (by decide +kernel), z_mem 1387 (by decide +kernel) (by decide +kernel), z_mem 45 (by decide +kernel) (by decide +kernel)⟩
theorem lv_L_71 : zLV RL 71 yX9_weaves := ⟨z_mem 1389 (by decide +kernel) (by decide +kernel), z_mem 1390 (by decide +kernel) (by decide +kernel), z_mem 1391 (by decide +kernel) (by decide +kernel)⟩
theorem ls_X9_318 : zLS RX9 318 yX9_weavesIn := ⟨z_mem 1393 (by decide +kernel) (by decide +kernel), z_mem 1394 (by decide +kernel) (by decide +kernel)⟩
theorem ls_X9_296 : zLS RX9 296 yX9_comes := ⟨z_mem 1396 (by decide +kernel) (by decide +kernel), z_mem 1397 (by decide +kernel) (by decide +kernel)⟩
theorem ls_X9_140 : zLS RX9 140 yX9_with := ⟨z_mem 1399 (by decide +kernel) (by decide +kernel), z_mem 1400 (by decide +kernel) (by decide +kernel)⟩
theorem lv_X9_322 : zLV RX9 322 yX9_counted := ⟨z_mem 1402 (by decide +kernel) (by decide +kernel), z_mem 1404 (by decide +kernel) (by decide +kernel), z_mem 46 (by decide +kernel) (by decide +kernel)⟩
theorem lv_L_75 : zLV RL 75 yX9_draws := ⟨z_mem 1406 (by decide +kernel) (by decide +kernel), z_mem 1407 (by decide +kernel) (by decide +kernel), z_mem 1408 (by decide +kernel) (by decide +kernel)⟩
theorem lv_X9_325 : zLV RX9 325 yX9_drawsOut := ⟨z_mem 1410 (by decide +kernel) (by decide +kernel), z_mem 1412 (by decide +kernel) (by decide +kernel), z_mem 47 (by decide +kernel) (by decide +kernel)⟩
theorem lv_L_79 : zLV RL 79 yX9_flips := ⟨z_mem 1414 (by decide +kernel) (by decide +kernel), z_mem 1415 (by decide +kernel) (by decide +kernel), z_mem 1416 (by decide +kernel) (by decide +kernel)⟩
theorem ls_X9_328 : zLS RX9 328 yX9_flipsOne := ⟨z_mem 1418 (by decide +kernel) (by decide +kernel), z_mem 1419 (by decide +kernel) (by decide +kernel)⟩
theorem ls_X9_300 : zLS RX9 300 yX9_overs := ⟨z_mem 1421 (by decide +kernel) (by decide +kernel), z_mem 1422 (by decide +kernel) (by decide +kernel)⟩
theorem lv_L_83 : zLV RL 83 yX9_mirrors := ⟨z_mem 1424 (by decide +kernel) (by decide +kernel), z_mem 1425 (by decide +kernel) (by decide +kernel), z_mem 1426 (by decide +kernel) (by decide +kernel)⟩
theorem lv_X9_331 : zLV RX9 331 yX9_mirrorsAll := ⟨z_mem 1428 (by decide +kernel) (by decide +kernel), z_mem 1430 (by decide +kernel) (by decide +kernel), z_mem 48 (by decide +kernel) (by decide +kernel)⟩
theorem lv_L_87 : zLV RL 87 yX9_work := ⟨z_mem 1432 (by decide +kernel) (by decide +kernel), z_mem 1433 (by decide +kernel) (by decide +kernel), z_mem 1434 (by decide +kernel) (by decide +kernel)⟩
theorem lv_X9_339 : zLV RX9 339 yX9_readsAct := ⟨z_mem 1436 (by decide +kernel) (by decide +kernel), z_mem 1438 (by decide +kernel) (by decide +kernel), z_mem 49 (by decide +kernel) (by decide +kernel)⟩
theorem lv_X9_342 : zLV RX9 342 yX9_does := ⟨z_mem 1441 (by decide +kernel) (by decide +kernel), z_mem 1443 (by decide +kernel) (by decide +kernel), z_mem 50 (by decide +kernel) (by decide +kernel)⟩
theorem lv_L_95 : zLV RL 95 yX9_next := ⟨z_mem 1445 (by decide +kernel) (by decide +kernel), z_mem 1446 (by decide +kernel) (by decide +kernel), z_mem 1447 (by decide +kernel) (by decide +kernel)⟩
theorem lv_L_99 : zLV RL 99 yX9_later := ⟨z_mem 1449 (by decide +kernel) (by decide +kernel), z_mem 1450 (by decide +kernel) (by decide +kernel), z_mem 1451 (by decide +kernel) (by decide +kernel)⟩
theorem lv_L_103 : zLV RL 103 yX9_falls := ⟨z_mem 1453 (by decide +kernel) (by decide +kernel), z_mem 1454 (by decide +kernel) (by decide +kernel), z_mem 1455 (by decide +kernel) (by decide +kernel)⟩
theorem lv_X9_362 : zLV RX9 362 yX9_doesHang := ⟨z_mem 1457 (by decide +kernel) (by decide +kernel), z_mem 1459 (by decide +kernel) (by decide +kernel), z_mem 51 (by decide +kernel) (by decide +kernel)⟩
theorem lv_X9_352 : zLV RX9 352 yX9_laysAbove := ⟨z_mem 1461 (by decide +kernel) (by decide +kernel), z_mem 1463 (by decide +kernel) (by decide +kernel), z_mem 52 (by decide +kernel) (by decide +kernel)⟩
theorem ls_X9_356 : zLS RX9 356 yX9_allOf := ⟨z_mem 1465 (by decide +kernel) (by decide +kernel), z_mem 1466 (by decide +kernel) (by decide +kernel)⟩
theorem lv_X9_359 : zLV RX9 359 yX9_isHanging := ⟨z_mem 1468 (by decide +kernel) (by decide +kernel), z_mem 1470 (by decide +kernel) (by decide +kernel), z_mem 53 (by decide +kernel) (by decide +kernel)⟩
theorem ls_X9_345 : zLS RX9 345 yJ6_numberOfTrailingZeros_0f7a4 := ⟨z_mem 1472 (by decide +kernel) (by decide +kernel), z_mem 1473 (by decide +kernel) (by decide +kernel)⟩
theorem ls_X9_348 : zLS RX9 348 yX9_reach := ⟨z_mem 1476 (by decide +kernel) (by decide +kernel), z_mem 1477 (by decide +kernel) (by decide +kernel)⟩
theorem lv_L_107 : zLV RL 107 yX9_rags := ⟨z_mem 1479 (by decide +kernel) (by decide +kernel), z_mem 1480 (by decide +kernel) (by decide +kernel), z_mem 1481 (by decide +kernel) (by decide +kernel)⟩
theorem lv_X9_366 : zLV RX9 366 yX9_leaves := ⟨z_mem 1483 (by decide +kernel) (by decide +kernel), z_mem 1485 (by decide +kernel) (by decide +kernel), z_mem 54 (by decide +kernel) (by decide +kernel)⟩
theorem ls_X9_370 : zLS RX9 370 yX9_isAs := ⟨z_mem 1487 (by decide +kernel) (by decide +kernel), z_mem 1488 (by decide +kernel) (by decide +kernel)⟩
theorem lv_L_111 : zLV RL 111 yX9_lefts := ⟨z_mem 1490 (by decide +kernel) (by decide +kernel), z_mem 1491 (by decide +kernel) (by decide +kernel), z_mem 1492 (by decide +kernel) (by decide +kernel)⟩
theorem ls_X9_378 : zLS RX9 378 yX9_asNumber := ⟨z_mem 1494 (by decide +kernel) (by decide +kernel), z_mem 1495 (by decide +kernel) (by decide +kernel)⟩
theorem lv_L_115 : zLV RL 115 yX9_outlasts := ⟨z_mem 1499 (by decide +kernel) (by decide +kernel), z_mem 1500 (by decide +kernel) (by decide +kernel), z_mem 1501 (by decide +kernel) (by decide +kernel)⟩
theorem ls_X9_382 : zLS RX9 382 yX9_canBeAlike := ⟨z_mem 1503 (by decide +kernel) (by decide +kernel), z_mem 1504 (by decide +kernel) (by decide +kernel)⟩
theorem lv_L_119 : zLV RL 119 yX9_words := ⟨z_mem 1506 (by decide +kernel) (by decide +kernel), z_mem 1507 (by decide +kernel) (by decide +kernel), z_mem 1508 (by decide +kernel) (by decide +kernel)⟩
theorem lv_L_123 : zLV RL 123 yX9_loose := ⟨z_mem 1511 (by decide +kernel) (by decide +kernel), z_mem 1512 (by decide +kernel) (by decide +kernel), z_mem 1513 (by decide +kernel) (by decide +kernel)⟩
theorem lv_L_127 : zLV RL 127 yX9_sheds := ⟨z_mem 1515 (by decide +kernel) (by decide +kernel), z_mem 1516 (by decide +kernel) (by decide +kernel), z_mem 1517 (by decide +kernel) (by decide +kernel)⟩
theorem lv_X9_388 : zLV RX9 388 yX9_isLooseAmong := ⟨z_mem 1519 (by decide +kernel) (by decide +kernel), z_mem 1521 (by decide +kernel) (by decide +kernel), z_mem 55 (by decide +kernel) (by decide +kernel)⟩
theorem lv_L_131 : zLV RL 131 yX9_hangs := ⟨z_mem 1523 (by decide +kernel) (by decide +kernel), z_mem 1524 (by decide +kernel) (by decide +kernel), z_mem 1525 (by decide +kernel) (by decide +kernel)⟩
theorem lv_L_135 : zLV RL 135 yX9_spares := ⟨z_mem 1527 (by decide +kernel) (by decide +kernel), z_mem 1528 (by decide +kernel) (by decide +kernel), z_mem 1529 (by decide +kernel) (by decide +kernel)⟩
theorem lv_L_139 : zLV RL 139 yX9_mends := ⟨z_mem 1531 (by decide +kernel) (by decide +kernel), z_mem 1532 (by decide +kernel) (by decide +kernel), z_mem 1533 (by decide +kernel) (by decide +kernel)⟩
theorem ls_X9_391 : zLS RX9 391 yX9_isCell := ⟨z_mem 1535 (by decide +kernel) (by decide +kernel), z_mem 1536 (by decide +kernel) (by decide +kernel)⟩
theorem lv_L_143 : zLV RL 143 yX9_endures := ⟨z_mem 1538 (by decide +kernel) (by decide +kernel), z_mem 1539 (by decide +kernel) (by decide +kernel), z_mem 1540 (by decide +kernel) (by decide +kernel)⟩
theorem lv_X9_394 : zLV RX9 394 yX9_laysHangs := ⟨z_mem 1542 (by decide +kernel) (by decide +kernel), z_mem 1544 (by decide +kernel) (by decide +kernel), z_mem 56 (by decide +kernel) (by decide +kernel)⟩
theorem lv_L_147 : zLV RL 147 yX9_differs := ⟨z_mem 1546 (by decide +kernel) (by decide +kernel), z_mem 1547 (by decide +kernel) (by decide +kernel), z_mem 1548 (by decide +kernel) (by decide +kernel)⟩
theorem lv_L_151 : zLV RL 151 yX9_looks := ⟨z_mem 1551 (by decide +kernel) (by decide +kernel), z_mem 1552 (by decide +kernel) (by decide +kernel), z_mem 1553 (by decide +kernel) (by decide +kernel)⟩
theorem lv_X9_398 : zLV RX9 398 yX9_turned := ⟨z_mem 1555 (by decide +kernel) (by decide +kernel), z_mem 1557 (by decide +kernel) (by decide +kernel), z_mem 57 (by decide +kernel) (by decide +kernel)⟩
theorem lv_L_155 : zLV RL 155 yX9_repeats := ⟨z_mem 1559 (by decide +kernel) (by decide +kernel), z_mem 1560 (by decide +kernel) (by decide +kernel), z_mem 1561 (by decide +kernel) (by decide +kernel)⟩
theorem ls_X9_401 : zLS RX9 401 yX9_repeatsOf := ⟨z_mem 1563 (by decide +kernel) (by decide +kernel), z_mem 1564 (by decide +kernel) (by decide +kernel)⟩
theorem lv_L_159 : zLV RL 159 yX9_runs := ⟨z_mem 1566 (by decide +kernel) (by decide +kernel), z_mem 1567 (by decide +kernel) (by decide +kernel), z_mem 1568 (by decide +kernel) (by decide +kernel)⟩
theorem lv_X9_407 : zLV RX9 407 yX9_runsOf := ⟨z_mem 1570 (by decide +kernel) (by decide +kernel), z_mem 1572 (by decide +kernel) (by decide +kernel), z_mem 58 (by decide +kernel) (by decide +kernel)⟩
theorem lv_L_163 : zLV RL 163 yX9_twins := ⟨z_mem 1574 (by decide +kernel) (by decide +kernel), z_mem 1575 (by decide +kernel) (by decide +kernel), z_mem 1576 (by decide +kernel) (by decide +kernel)⟩
theorem lv_L_167 : zLV RL 167 yX9_game := ⟨z_mem 1578 (by decide +kernel) (by decide +kernel), z_mem 1579 (by decide +kernel) (by decide +kernel), z_mem 1580 (by decide +kernel) (by decide +kernel)⟩
theorem lv_L_171 : zLV RL 171 yX9_told := ⟨z_mem 1582 (by decide +kernel) (by decide +kernel), z_mem 1583 (by decide +kernel) (by decide +kernel), z_mem 1584 (by decide +kernel) (by decide +kernel)⟩
theorem ls_X9_410 : zLS RX9 410 yX9_highest := ⟨z_mem 1586 (by decide +kernel) (by decide +kernel), z_mem 1587 (by decide +kernel) (by decide +kernel)⟩
theorem lv_L_175 : zLV RL 175 yX9_forget := ⟨z_mem 1589 (by decide +kernel) (by decide +kernel), z_mem 1590 (by decide +kernel) (by decide +kernel), z_mem 1591 (by decide +kernel) (by decide +kernel)⟩
theorem lv_L_179 : zLV RL 179 yX9_fits := ⟨z_mem 1593 (by decide +kernel) (by decide +kernel), z_mem 1594 (by decide +kernel) (by decide +kernel), z_mem 1595 (by decide +kernel) (by decide +kernel)⟩
theorem lv_X9_419 : zLV RX9 419 yX9_fitting := ⟨z_mem 1597 (by decide +kernel) (by decide +kernel), z_mem 1599 (by decide +kernel) (by decide +kernel), z_mem 59 (by decide +kernel) (by decide +kernel)⟩
theorem lv_X9_416 : zLV RX9 416 yX9_isSo := ⟨z_mem 1601 (by decide +kernel) (by decide +kernel), z_mem 1603 (by decide +kernel) (by decide +kernel), z_mem 60 (by decide +kernel) (by decide +kernel)⟩
theorem lv_L_183 : zLV RL 183 yX9_asks := ⟨z_mem 1605 (by decide +kernel) (by decide +kernel), z_mem 1606 (by decide +kernel) (by decide +kernel), z_mem 1607 (by decide +kernel) (by decide +kernel)⟩
theorem lv_L_187 : zLV RL 187 yX9_odds := ⟨z_mem 1609 (by decide +kernel) (by decide +kernel), z_mem 1610 (by decide +kernel) (by decide +kernel), z_mem 1611 (by decide +kernel) (by decide +kernel)⟩
theorem ls_X9_7 : zLS RX9 7 yX9_common := ⟨z_mem 1613 (by decide +kernel) (by decide +kernel), z_mem 1614 (by decide +kernel) (by decide +kernel)⟩
theorem lv_L_191 : zLV RL 191 yX9_law := ⟨z_mem 1616 (by decide +kernel) (by decide +kernel), z_mem 1617 (by decide +kernel) (by decide +kernel), z_mem 1618 (by decide +kernel) (by decide +kernel)⟩
theorem lv_L_195 : zLV RL 195 yX9_rests := ⟨z_mem 1620 (by decide +kernel) (by decide +kernel), z_mem 1621 (by decide +kernel) (by decide +kernel), z_mem 1622 (by decide +kernel) (by decide +kernel)⟩
theorem ls_X9_427 : zLS RX9 427 yX9_isRest := ⟨z_mem 1625 (by decide +kernel) (by decide +kernel), z_mem 1626 (by decide +kernel) (by decide +kernel)⟩
theorem ls_X9_422 : zLS RX9 422 yX9_gets := ⟨z_mem 1628 (by decide +kernel) (by decide +kernel), z_mem 1629 (by decide +kernel) (by decide +kernel)⟩
theorem lv_L_199 : zLV RL 199 yX9_years := ⟨z_mem 1631 (by decide +kernel) (by decide +kernel), z_mem 1632 (by decide +kernel) (by decide +kernel), z_mem 1633 (by decide +kernel) (by decide +kernel)⟩
theorem lv_X9_434 : zLV RX9 434 yX9_drawn := ⟨z_mem 1635 (by decide +kernel) (by decide +kernel), z_mem 1637 (by decide +kernel) (by decide +kernel), z_mem 61 (by decide +kernel) (by decide +kernel)⟩
theorem lv_L_203 : zLV RL 203 yX9_keep := ⟨z_mem 1640 (by decide +kernel) (by decide +kernel), z_mem 1641 (by decide +kernel) (by decide +kernel), z_mem 1642 (by decide +kernel) (by decide +kernel)⟩
theorem lv_L_207 : zLV RL 207 yX9_again := ⟨z_mem 1645 (by decide +kernel) (by decide +kernel), z_mem 1646 (by decide +kernel) (by decide +kernel), z_mem 1647 (by decide +kernel) (by decide +kernel)⟩
theorem lv_L_211 : zLV RL 211 yX9_count := ⟨z_mem 1649 (by decide +kernel) (by decide +kernel), z_mem 1650 (by decide +kernel) (by decide +kernel), z_mem 1651 (by decide +kernel) (by decide +kernel)⟩
theorem lv_L_215 : zLV RL 215 yX9_row := ⟨z_mem 1653 (by decide +kernel) (by decide +kernel), z_mem 1654 (by decide +kernel) (by decide +kernel), z_mem 1655 (by decide +kernel) (by decide +kernel)⟩
theorem z_iM : Cond.initialized "java/lang/Math" ∈ z_tb := z_mem 75 (by decide +kernel) (by decide +kernel)
theorem z_iS : Cond.initialized "java/lang/System" ∈ z_tb := z_mem 74 (by decide +kernel) (by decide +kernel)
theorem z_cmax : Cond.code Lib.Math.max.name Lib.Math.max.code 2 (some .int) ∈ z_tb := z_mem 475 (by decide +kernel) (by decide +kernel)
theorem z_cmin : Cond.code Lib.Math.min.name Lib.Math.min.code 2 (some .int) ∈ z_tb := z_mem 373 (by decide +kernel) (by decide +kernel)
theorem z_nat : Cond.native arraycopyName ∈ z_tb := z_mem 355 (by decide +kernel) (by decide +kernel)
theorem kc_J6_265 : Cond.constant RJ6 265 (1431655765) ∈ z_tb := z_mem 456 (by decide +kernel) (by decide +kernel)
theorem kc_J6_266 : Cond.constant RJ6 266 (858993459) ∈ z_tb := z_mem 457 (by decide +kernel) (by decide +kernel)
theorem kc_J6_267 : Cond.constant RJ6 267 (252645135) ∈ z_tb := z_mem 458 (by decide +kernel) (by decide +kernel)
theorem kc_X7_62 : Cond.constantLong RX7 62 (7) ∈ z_tb := z_mem 644 (by decide +kernel) (by decide +kernel)
theorem kc_X7_64 : Cond.constantLong RX7 64 (63) ∈ z_tb := z_mem 645 (by decide +kernel) (by decide +kernel)
theorem kc_X1_50 : Cond.constantLong RX1 50 (1023) ∈ z_tb := z_mem 724 (by decide +kernel) (by decide +kernel)
theorem kc_X8_413 : Cond.constant RX8 413 (1103515245) ∈ z_tb := z_mem 954 (by decide +kernel) (by decide +kernel)
theorem kc_X9_161 : Cond.constantLong RX9 161 (48) ∈ z_tb := z_mem 1266 (by decide +kernel) (by decide +kernel)
theorem kc_X9_163 : Cond.constantLong RX9 163 (57) ∈ z_tb := z_mem 1267 (by decide +kernel) (by decide +kernel)
theorem kc_X9_276 : Cond.constantLong RX9 276 (4) ∈ z_tb := z_mem 1305 (by decide +kernel) (by decide +kernel)
theorem kc_X9_281 : Cond.constantLong RX9 281 (3) ∈ z_tb := z_mem 1341 (by decide +kernel) (by decide +kernel)
theorem kc_X9_303 : Cond.constantLong RX9 303 (60) ∈ z_tb := z_mem 1350 (by decide +kernel) (by decide +kernel)
theorem kc_X9_261 : Cond.constant RX9 261 (-1000000) ∈ z_tb := z_mem 1371 (by decide +kernel) (by decide +kernel)
theorem kc_J6_264 : Cond.constant RJ6 264 (65536) ∈ z_tb := z_mem 1475 (by decide +kernel) (by decide +kernel)
theorem kc_X9_374 : Cond.constantLong RX9 374 (10) ∈ z_tb := z_mem 1497 (by decide +kernel) (by decide +kernel)
theorem kc_X9_376 : Cond.constantLong RX9 376 (64) ∈ z_tb := z_mem 1498 (by decide +kernel) (by decide +kernel)
theorem kc_X9_386 : Cond.constantLong RX9 386 (6) ∈ z_tb := z_mem 1510 (by decide +kernel) (by decide +kernel)
theorem kc_X9_397 : Cond.constant RX9 397 (1000000) ∈ z_tb := z_mem 1550 (by decide +kernel) (by decide +kernel)
theorem kc_X9_425 : Cond.constantLong RX9 425 (20) ∈ z_tb := z_mem 1624 (by decide +kernel) (by decide +kernel)
theorem kc_X9_433 : Cond.constant RX9 433 (1103515245) ∈ z_tb := z_mem 1639 (by decide +kernel) (by decide +kernel)
theorem kc_X9_437 : Cond.constantLong RX9 437 (2) ∈ z_tb := z_mem 1644 (by decide +kernel) (by decide +kernel)
theorem pl_J0 : plainName RJ0 = true := (by decide +kernel)
theorem pl_J1 : plainName RJ1 = true := (by decide +kernel)
theorem pl_J2 : plainName RJ2 = true := (by decide +kernel)
theorem pl_J3 : plainName RJ3 = true := (by decide +kernel)
theorem pl_J6 : plainName RJ6 = true := (by decide +kernel)
theorem pl_J7 : plainName RJ7 = true := (by decide +kernel)
theorem pl_L : plainName RL = true := (by decide +kernel)
theorem pl_X0 : plainName RX0 = true := (by decide +kernel)
theorem pl_X1 : plainName RX1 = true := (by decide +kernel)
theorem pl_X2 : plainName RX2 = true := (by decide +kernel)
theorem pl_X3 : plainName RX3 = true := (by decide +kernel)
theorem pl_X4 : plainName RX4 = true := (by decide +kernel)
theorem pl_X5 : plainName RX5 = true := (by decide +kernel)
theorem pl_X6 : plainName RX6 = true := (by decide +kernel)
theorem pl_X7 : plainName RX7 = true := (by decide +kernel)
theorem pl_X8 : plainName RX8 = true := (by decide +kernel)
theorem pl_X9 : plainName RX9 = true := (by decide +kernel)
