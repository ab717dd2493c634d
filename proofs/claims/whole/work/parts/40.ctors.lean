theorem ow_X8_1 : Cond.methodLink RX8 1 Lib.objectInit ∈ z_tb := z_mem 90 (by decide +kernel) (by decide +kernel)
theorem ow_i : Cond.instanceMethod Lib.objectInit ∈ z_tb := z_mem 91 (by decide +kernel) (by decide +kernel)
theorem ow_c : Cond.code Lib.objectInit ⟨#[0xb1]⟩ 1 none ∈ z_tb := z_mem 92 (by decide +kernel) (by decide +kernel)
theorem cl_X8_7 : Cond.classLink RX8 7 RX7 ∈ z_tb := z_mem 93 (by decide +kernel) (by decide +kernel)
theorem ins_X7 : Cond.instantiable RX7 4 ∈ z_tb := z_mem 94 (by decide +kernel) (by decide +kernel)
theorem ini_X7 : Cond.initialized RX7 ∈ z_tb := z_mem 64 (by decide +kernel) (by decide +kernel)
theorem ow_X7_3 : Cond.methodLink RX7 3 Lib.objectInit ∈ z_tb := z_mem 98 (by decide +kernel) (by decide +kernel)
theorem aw_0 : Cond.arrayClass (newarray.typeOf .int) ∈ z_tb := z_mem 119 (by decide +kernel) (by decide +kernel)
theorem fw_X7_21 : Cond.fieldLink RX7 21 (TX7 3).1 (TX7 3).2.1 (TX7 3).2.2.1 ∈ z_tb := z_mem 109 (by decide +kernel) (by decide +kernel)
theorem im_X7_init : Cond.instanceMethod yX7_init ∈ z_tb := z_mem 96 (by decide +kernel) (by decide +kernel)
theorem fw_X8_10 : Cond.fieldLink RX8 10 (TX8 0).1 (TX8 0).2.1 (TX8 0).2.2.1 ∈ z_tb := z_mem 273 (by decide +kernel) (by decide +kernel)
theorem fw_X8_16 : Cond.fieldLink RX8 16 (TX8 1).1 (TX8 1).2.1 (TX8 1).2.2.1 ∈ z_tb := z_mem 274 (by decide +kernel) (by decide +kernel)
theorem fw_X8_19 : Cond.fieldLink RX8 19 (TX8 2).1 (TX8 2).2.1 (TX8 2).2.2.1 ∈ z_tb := z_mem 275 (by decide +kernel) (by decide +kernel)
theorem cl_X8_22 : Cond.classLink RX8 22 RX6 ∈ z_tb := z_mem 120 (by decide +kernel) (by decide +kernel)
theorem ins_X6 : Cond.instantiable RX6 2 ∈ z_tb := z_mem 121 (by decide +kernel) (by decide +kernel)
theorem ini_X6 : Cond.initialized RX6 ∈ z_tb := z_mem 65 (by decide +kernel) (by decide +kernel)
theorem ow_X6_3 : Cond.methodLink RX6 3 Lib.objectInit ∈ z_tb := z_mem 125 (by decide +kernel) (by decide +kernel)
theorem fw_X6_9 : Cond.fieldLink RX6 9 (TX6 0).1 (TX6 0).2.1 (TX6 0).2.2.1 ∈ z_tb := z_mem 126 (by decide +kernel) (by decide +kernel)
theorem im_X6_init : Cond.instanceMethod yX6_init ∈ z_tb := z_mem 123 (by decide +kernel) (by decide +kernel)
theorem fw_X8_25 : Cond.fieldLink RX8 25 (TX8 3).1 (TX8 3).2.1 (TX8 3).2.2.1 ∈ z_tb := z_mem 276 (by decide +kernel) (by decide +kernel)
theorem cl_X8_29 : Cond.classLink RX8 29 RX3 ∈ z_tb := z_mem 136 (by decide +kernel) (by decide +kernel)
theorem ins_X3 : Cond.instantiable RX3 2 ∈ z_tb := z_mem 137 (by decide +kernel) (by decide +kernel)
theorem ini_X3 : Cond.initialized RX3 ∈ z_tb := z_mem 66 (by decide +kernel) (by decide +kernel)
theorem ow_X3_3 : Cond.methodLink RX3 3 Lib.objectInit ∈ z_tb := z_mem 141 (by decide +kernel) (by decide +kernel)
theorem aw_1 : Cond.arrayClass (newarray.typeOf .long) ∈ z_tb := z_mem 151 (by decide +kernel) (by decide +kernel)
theorem fw_X3_9 : Cond.fieldLink RX3 9 (TX3 0).1 (TX3 0).2.1 (TX3 0).2.2.1 ∈ z_tb := z_mem 142 (by decide +kernel) (by decide +kernel)
theorem im_X3_init : Cond.instanceMethod yX3_init ∈ z_tb := z_mem 139 (by decide +kernel) (by decide +kernel)
theorem fw_X8_32 : Cond.fieldLink RX8 32 (TX8 4).1 (TX8 4).2.1 (TX8 4).2.2.1 ∈ z_tb := z_mem 277 (by decide +kernel) (by decide +kernel)
theorem cl_X8_36 : Cond.classLink RX8 36 RX4 ∈ z_tb := z_mem 152 (by decide +kernel) (by decide +kernel)
theorem ins_X4 : Cond.instantiable RX4 9 ∈ z_tb := z_mem 153 (by decide +kernel) (by decide +kernel)
theorem ini_X4 : Cond.initialized RX4 ∈ z_tb := z_mem 67 (by decide +kernel) (by decide +kernel)
theorem ow_X4_5 : Cond.methodLink RX4 5 Lib.objectInit ∈ z_tb := z_mem 157 (by decide +kernel) (by decide +kernel)
theorem fw_X4_11 : Cond.fieldLink RX4 11 (TX4 0).1 (TX4 0).2.1 (TX4 0).2.2.1 ∈ z_tb := z_mem 166 (by decide +kernel) (by decide +kernel)
theorem fw_X4_19 : Cond.fieldLink RX4 19 (TX4 2).1 (TX4 2).2.1 (TX4 2).2.2.1 ∈ z_tb := z_mem 168 (by decide +kernel) (by decide +kernel)
theorem aw_2 : Cond.arrayClass (newarray.typeOf .boolean) ∈ z_tb := z_mem 194 (by decide +kernel) (by decide +kernel)
theorem fw_X4_22 : Cond.fieldLink RX4 22 (TX4 4).1 (TX4 4).2.1 (TX4 4).2.2.1 ∈ z_tb := z_mem 170 (by decide +kernel) (by decide +kernel)
theorem fw_X4_26 : Cond.fieldLink RX4 26 (TX4 8).1 (TX4 8).2.1 (TX4 8).2.2.1 ∈ z_tb := z_mem 174 (by decide +kernel) (by decide +kernel)
theorem im_X4_init : Cond.instanceMethod yX4_init ∈ z_tb := z_mem 155 (by decide +kernel) (by decide +kernel)
theorem ml_X8_38 : Cond.methodLink RX8 38 yX4_init ∈ z_tb := z_mem 154 (by decide +kernel) (by decide +kernel)
theorem fw_X8_39 : Cond.fieldLink RX8 39 (TX8 5).1 (TX8 5).2.1 (TX8 5).2.2.1 ∈ z_tb := z_mem 278 (by decide +kernel) (by decide +kernel)
theorem fw_X8_43 : Cond.fieldLink RX8 43 (TX8 6).1 (TX8 6).2.1 (TX8 6).2.2.1 ∈ z_tb := z_mem 279 (by decide +kernel) (by decide +kernel)
theorem cl_X8_46 : Cond.classLink RX8 46 RX0 ∈ z_tb := z_mem 195 (by decide +kernel) (by decide +kernel)
theorem ins_X0 : Cond.instantiable RX0 6 ∈ z_tb := z_mem 196 (by decide +kernel) (by decide +kernel)
theorem ini_X0 : Cond.initialized RX0 ∈ z_tb := z_mem 68 (by decide +kernel) (by decide +kernel)
theorem ow_X0_3 : Cond.methodLink RX0 3 Lib.objectInit ∈ z_tb := z_mem 200 (by decide +kernel) (by decide +kernel)
theorem fw_X0_9 : Cond.fieldLink RX0 9 (TX0 0).1 (TX0 0).2.1 (TX0 0).2.2.1 ∈ z_tb := z_mem 201 (by decide +kernel) (by decide +kernel)
theorem fw_X0_15 : Cond.fieldLink RX0 15 (TX0 1).1 (TX0 1).2.1 (TX0 1).2.2.1 ∈ z_tb := z_mem 203 (by decide +kernel) (by decide +kernel)
theorem fw_X0_18 : Cond.fieldLink RX0 18 (TX0 2).1 (TX0 2).2.1 (TX0 2).2.2.1 ∈ z_tb := z_mem 205 (by decide +kernel) (by decide +kernel)
theorem fw_X0_22 : Cond.fieldLink RX0 22 (TX0 3).1 (TX0 3).2.1 (TX0 3).2.2.1 ∈ z_tb := z_mem 207 (by decide +kernel) (by decide +kernel)
theorem fw_X0_25 : Cond.fieldLink RX0 25 (TX0 4).1 (TX0 4).2.1 (TX0 4).2.2.1 ∈ z_tb := z_mem 208 (by decide +kernel) (by decide +kernel)
theorem im_X0_init : Cond.instanceMethod yX0_init ∈ z_tb := z_mem 198 (by decide +kernel) (by decide +kernel)
theorem fw_X8_49 : Cond.fieldLink RX8 49 (TX8 7).1 (TX8 7).2.1 (TX8 7).2.2.1 ∈ z_tb := z_mem 280 (by decide +kernel) (by decide +kernel)
theorem cl_X8_53 : Cond.classLink RX8 53 RX1 ∈ z_tb := z_mem 223 (by decide +kernel) (by decide +kernel)
theorem ins_X1 : Cond.instantiable RX1 3 ∈ z_tb := z_mem 224 (by decide +kernel) (by decide +kernel)
theorem ini_X1 : Cond.initialized RX1 ∈ z_tb := z_mem 69 (by decide +kernel) (by decide +kernel)
theorem ow_X1_3 : Cond.methodLink RX1 3 Lib.objectInit ∈ z_tb := z_mem 228 (by decide +kernel) (by decide +kernel)
theorem fw_X1_9 : Cond.fieldLink RX1 9 (TX1 0).1 (TX1 0).2.1 (TX1 0).2.2.1 ∈ z_tb := z_mem 229 (by decide +kernel) (by decide +kernel)
theorem fw_X1_15 : Cond.fieldLink RX1 15 (TX1 2).1 (TX1 2).2.1 (TX1 2).2.2.1 ∈ z_tb := z_mem 231 (by decide +kernel) (by decide +kernel)
theorem im_X1_init : Cond.instanceMethod yX1_init ∈ z_tb := z_mem 226 (by decide +kernel) (by decide +kernel)
theorem fw_X8_56 : Cond.fieldLink RX8 56 (TX8 8).1 (TX8 8).2.1 (TX8 8).2.2.1 ∈ z_tb := z_mem 281 (by decide +kernel) (by decide +kernel)
theorem cl_X8_60 : Cond.classLink RX8 60 RX5 ∈ z_tb := z_mem 239 (by decide +kernel) (by decide +kernel)
theorem ins_X5 : Cond.instantiable RX5 3 ∈ z_tb := z_mem 240 (by decide +kernel) (by decide +kernel)
theorem ini_X5 : Cond.initialized RX5 ∈ z_tb := z_mem 70 (by decide +kernel) (by decide +kernel)
theorem ow_X5_3 : Cond.methodLink RX5 3 Lib.objectInit ∈ z_tb := z_mem 244 (by decide +kernel) (by decide +kernel)
theorem fw_X5_9 : Cond.fieldLink RX5 9 (TX5 0).1 (TX5 0).2.1 (TX5 0).2.2.1 ∈ z_tb := z_mem 245 (by decide +kernel) (by decide +kernel)
theorem fw_X5_15 : Cond.fieldLink RX5 15 (TX5 1).1 (TX5 1).2.1 (TX5 1).2.2.1 ∈ z_tb := z_mem 246 (by decide +kernel) (by decide +kernel)
theorem im_X5_init : Cond.instanceMethod yX5_init ∈ z_tb := z_mem 242 (by decide +kernel) (by decide +kernel)
theorem fw_X8_63 : Cond.fieldLink RX8 63 (TX8 9).1 (TX8 9).2.1 (TX8 9).2.2.1 ∈ z_tb := z_mem 282 (by decide +kernel) (by decide +kernel)
theorem cl_X8_67 : Cond.classLink RX8 67 RX2 ∈ z_tb := z_mem 256 (by decide +kernel) (by decide +kernel)
theorem ins_X2 : Cond.instantiable RX2 3 ∈ z_tb := z_mem 257 (by decide +kernel) (by decide +kernel)
theorem ini_X2 : Cond.initialized RX2 ∈ z_tb := z_mem 71 (by decide +kernel) (by decide +kernel)
theorem ow_X2_1 : Cond.methodLink RX2 1 Lib.objectInit ∈ z_tb := z_mem 261 (by decide +kernel) (by decide +kernel)
theorem fw_X2_13 : Cond.fieldLink RX2 13 (TX2 0).1 (TX2 0).2.1 (TX2 0).2.2.1 ∈ z_tb := z_mem 262 (by decide +kernel) (by decide +kernel)
theorem fw_X2_17 : Cond.fieldLink RX2 17 (TX2 1).1 (TX2 1).2.1 (TX2 1).2.2.1 ∈ z_tb := z_mem 263 (by decide +kernel) (by decide +kernel)
theorem im_X2_init : Cond.instanceMethod yX2_init ∈ z_tb := z_mem 259 (by decide +kernel) (by decide +kernel)
theorem ml_X8_69 : Cond.methodLink RX8 69 yX2_init ∈ z_tb := z_mem 258 (by decide +kernel) (by decide +kernel)
theorem fw_X8_72 : Cond.fieldLink RX8 72 (TX8 10).1 (TX8 10).2.1 (TX8 10).2.2.1 ∈ z_tb := z_mem 283 (by decide +kernel) (by decide +kernel)
theorem fw_X8_76 : Cond.fieldLink RX8 76 (TX8 11).1 (TX8 11).2.1 (TX8 11).2.2.1 ∈ z_tb := z_mem 284 (by decide +kernel) (by decide +kernel)
theorem ow_X9_18 : Cond.methodLink RX9 18 Lib.objectInit ∈ z_tb := z_mem 1072 (by decide +kernel) (by decide +kernel)
theorem fw_X9_11 : Cond.fieldLink RX9 11 (TX9 2).1 (TX9 2).2.1 (TX9 2).2.2.1 ∈ z_tb := z_mem 1075 (by decide +kernel) (by decide +kernel)
theorem fw_X9_24 : Cond.fieldLink RX9 24 (TX9 3).1 (TX9 3).2.1 (TX9 3).2.2.1 ∈ z_tb := z_mem 1076 (by decide +kernel) (by decide +kernel)
theorem fw_X9_28 : Cond.fieldLink RX9 28 (TX9 4).1 (TX9 4).2.1 (TX9 4).2.2.1 ∈ z_tb := z_mem 1077 (by decide +kernel) (by decide +kernel)
theorem fw_X9_31 : Cond.fieldLink RX9 31 (TX9 6).1 (TX9 6).2.1 (TX9 6).2.2.1 ∈ z_tb := z_mem 1079 (by decide +kernel) (by decide +kernel)
theorem fw_X9_34 : Cond.fieldLink RX9 34 (TX9 11).1 (TX9 11).2.1 (TX9 11).2.2.1 ∈ z_tb := z_mem 1084 (by decide +kernel) (by decide +kernel)
theorem fw_X9_37 : Cond.fieldLink RX9 37 (TX9 12).1 (TX9 12).2.1 (TX9 12).2.2.1 ∈ z_tb := z_mem 1085 (by decide +kernel) (by decide +kernel)
theorem fw_X9_40 : Cond.fieldLink RX9 40 (TX9 13).1 (TX9 13).2.1 (TX9 13).2.2.1 ∈ z_tb := z_mem 1086 (by decide +kernel) (by decide +kernel)
theorem fw_X9_43 : Cond.fieldLink RX9 43 (TX9 16).1 (TX9 16).2.1 (TX9 16).2.2.1 ∈ z_tb := z_mem 1089 (by decide +kernel) (by decide +kernel)
theorem fw_X9_46 : Cond.fieldLink RX9 46 (TX9 17).1 (TX9 17).2.1 (TX9 17).2.2.1 ∈ z_tb := z_mem 1090 (by decide +kernel) (by decide +kernel)
theorem fw_X9_49 : Cond.fieldLink RX9 49 (TX9 19).1 (TX9 19).2.1 (TX9 19).2.2.1 ∈ z_tb := z_mem 1092 (by decide +kernel) (by decide +kernel)
theorem fw_X9_52 : Cond.fieldLink RX9 52 (TX9 20).1 (TX9 20).2.1 (TX9 20).2.2.1 ∈ z_tb := z_mem 1093 (by decide +kernel) (by decide +kernel)
theorem fw_X9_55 : Cond.fieldLink RX9 55 (TX9 21).1 (TX9 21).2.1 (TX9 21).2.2.1 ∈ z_tb := z_mem 1094 (by decide +kernel) (by decide +kernel)
theorem fw_X9_58 : Cond.fieldLink RX9 58 (TX9 22).1 (TX9 22).2.1 (TX9 22).2.2.1 ∈ z_tb := z_mem 1095 (by decide +kernel) (by decide +kernel)
theorem fw_X9_61 : Cond.fieldLink RX9 61 (TX9 23).1 (TX9 23).2.1 (TX9 23).2.2.1 ∈ z_tb := z_mem 1096 (by decide +kernel) (by decide +kernel)
theorem fw_X9_64 : Cond.fieldLink RX9 64 (TX9 25).1 (TX9 25).2.1 (TX9 25).2.2.1 ∈ z_tb := z_mem 1098 (by decide +kernel) (by decide +kernel)
theorem fw_X9_67 : Cond.fieldLink RX9 67 (TX9 26).1 (TX9 26).2.1 (TX9 26).2.2.1 ∈ z_tb := z_mem 1099 (by decide +kernel) (by decide +kernel)
theorem fw_X9_70 : Cond.fieldLink RX9 70 (TX9 27).1 (TX9 27).2.1 (TX9 27).2.2.1 ∈ z_tb := z_mem 1100 (by decide +kernel) (by decide +kernel)
theorem fw_X9_74 : Cond.fieldLink RX9 74 (TX9 28).1 (TX9 28).2.1 (TX9 28).2.2.1 ∈ z_tb := z_mem 1101 (by decide +kernel) (by decide +kernel)
theorem fw_X9_77 : Cond.fieldLink RX9 77 (TX9 29).1 (TX9 29).2.1 (TX9 29).2.2.1 ∈ z_tb := z_mem 1102 (by decide +kernel) (by decide +kernel)
theorem fw_X9_80 : Cond.fieldLink RX9 80 (TX9 31).1 (TX9 31).2.1 (TX9 31).2.2.1 ∈ z_tb := z_mem 1104 (by decide +kernel) (by decide +kernel)
theorem fw_X9_83 : Cond.fieldLink RX9 83 (TX9 33).1 (TX9 33).2.1 (TX9 33).2.2.1 ∈ z_tb := z_mem 1106 (by decide +kernel) (by decide +kernel)
theorem fw_X9_86 : Cond.fieldLink RX9 86 (TX9 34).1 (TX9 34).2.1 (TX9 34).2.2.1 ∈ z_tb := z_mem 1107 (by decide +kernel) (by decide +kernel)
theorem fw_X9_89 : Cond.fieldLink RX9 89 (TX9 35).1 (TX9 35).2.1 (TX9 35).2.2.1 ∈ z_tb := z_mem 1108 (by decide +kernel) (by decide +kernel)
theorem fw_X9_92 : Cond.fieldLink RX9 92 (TX9 36).1 (TX9 36).2.1 (TX9 36).2.2.1 ∈ z_tb := z_mem 1109 (by decide +kernel) (by decide +kernel)
theorem fw_X9_95 : Cond.fieldLink RX9 95 (TX9 38).1 (TX9 38).2.1 (TX9 38).2.2.1 ∈ z_tb := z_mem 1111 (by decide +kernel) (by decide +kernel)
theorem fw_X9_98 : Cond.fieldLink RX9 98 (TX9 39).1 (TX9 39).2.1 (TX9 39).2.2.1 ∈ z_tb := z_mem 1112 (by decide +kernel) (by decide +kernel)
theorem fw_X9_101 : Cond.fieldLink RX9 101 (TX9 40).1 (TX9 40).2.1 (TX9 40).2.2.1 ∈ z_tb := z_mem 1113 (by decide +kernel) (by decide +kernel)
def zq0 : List zN := [.inr (8, [2, 2, 2, 2, 2, 2, 2, 2, 2, 2, 2, 2, 0]), .inr (7, [0, 0, 0, 2])]
def zq1 : List zN := [.inr (8, [2, 2, 2, 2, 2, 2, 2, 2, 2, 2, 2, 2, 0]), .inr (7, [0, 0, 0, 2]), .inl (0, 12)]
def zq2 : List zN := [.inr (8, [2, 2, 2, 2, 2, 2, 2, 2, 2, 2, 2, 2, 0]), .inr (7, [0, 0, 0, 3]), .inl (0, 12)]
def zq3 : List zN := [.inr (8, [3, 2, 2, 2, 2, 2, 2, 2, 2, 2, 2, 2, 0]), .inr (7, [0, 0, 0, 3]), .inl (0, 12)]
def zq4 : List zN := [.inr (8, [3, 2, 2, 2, 2, 2, 2, 2, 2, 2, 2, 2, 0]), .inr (7, [0, 0, 0, 3]), .inl (0, 12), .inr (7, [0, 0, 0, 2])]
def zq5 : List zN := [.inr (8, [3, 2, 2, 2, 2, 2, 2, 2, 2, 2, 2, 2, 0]), .inr (7, [0, 0, 0, 3]), .inl (0, 12), .inr (7, [0, 0, 0, 2]), .inl (0, 12)]
def zq6 : List zN := [.inr (8, [3, 2, 2, 2, 2, 2, 2, 2, 2, 2, 2, 2, 0]), .inr (7, [0, 0, 0, 3]), .inl (0, 12), .inr (7, [0, 0, 0, 3]), .inl (0, 12)]
def zq7 : List zN := [.inr (8, [3, 5, 2, 2, 2, 2, 2, 2, 2, 2, 2, 2, 0]), .inr (7, [0, 0, 0, 3]), .inl (0, 12), .inr (7, [0, 0, 0, 3]), .inl (0, 12)]
def zq8 : List zN := [.inr (8, [3, 5, 2, 2, 2, 2, 2, 2, 2, 2, 2, 2, 0]), .inr (7, [0, 0, 0, 3]), .inl (0, 12), .inr (7, [0, 0, 0, 3]), .inl (0, 12), .inr (7, [0, 0, 0, 2])]
def zq9 : List zN := [.inr (8, [3, 5, 2, 2, 2, 2, 2, 2, 2, 2, 2, 2, 0]), .inr (7, [0, 0, 0, 3]), .inl (0, 12), .inr (7, [0, 0, 0, 3]), .inl (0, 12), .inr (7, [0, 0, 0, 2]), .inl (0, 12)]
def zq10 : List zN := [.inr (8, [3, 5, 2, 2, 2, 2, 2, 2, 2, 2, 2, 2, 0]), .inr (7, [0, 0, 0, 3]), .inl (0, 12), .inr (7, [0, 0, 0, 3]), .inl (0, 12), .inr (7, [0, 0, 0, 3]), .inl (0, 12)]
def zq11 : List zN := [.inr (8, [3, 5, 7, 2, 2, 2, 2, 2, 2, 2, 2, 2, 0]), .inr (7, [0, 0, 0, 3]), .inl (0, 12), .inr (7, [0, 0, 0, 3]), .inl (0, 12), .inr (7, [0, 0, 0, 3]), .inl (0, 12)]
def zq12 : List zN := [.inr (8, [3, 5, 7, 2, 2, 2, 2, 2, 2, 2, 2, 2, 0]), .inr (7, [0, 0, 0, 3]), .inl (0, 12), .inr (7, [0, 0, 0, 3]), .inl (0, 12), .inr (7, [0, 0, 0, 3]), .inl (0, 12), .inr (6, [2, 0])]
def zq13 : List zN := [.inr (8, [3, 5, 7, 2, 2, 2, 2, 2, 2, 2, 2, 2, 0]), .inr (7, [0, 0, 0, 3]), .inl (0, 12), .inr (7, [0, 0, 0, 3]), .inl (0, 12), .inr (7, [0, 0, 0, 3]), .inl (0, 12), .inr (6, [2, 0]), .inl (0, 80)]
def zq14 : List zN := [.inr (8, [3, 5, 7, 2, 2, 2, 2, 2, 2, 2, 2, 2, 0]), .inr (7, [0, 0, 0, 3]), .inl (0, 12), .inr (7, [0, 0, 0, 3]), .inl (0, 12), .inr (7, [0, 0, 0, 3]), .inl (0, 12), .inr (6, [3, 0]), .inl (0, 80)]
def zq15 : List zN := [.inr (8, [3, 5, 7, 9, 2, 2, 2, 2, 2, 2, 2, 2, 0]), .inr (7, [0, 0, 0, 3]), .inl (0, 12), .inr (7, [0, 0, 0, 3]), .inl (0, 12), .inr (7, [0, 0, 0, 3]), .inl (0, 12), .inr (6, [3, 0]), .inl (0, 80)]
def zq16 : List zN := [.inr (8, [3, 5, 7, 9, 2, 2, 2, 2, 2, 2, 2, 2, 0]), .inr (7, [0, 0, 0, 3]), .inl (0, 12), .inr (7, [0, 0, 0, 3]), .inl (0, 12), .inr (7, [0, 0, 0, 3]), .inl (0, 12), .inr (6, [3, 0]), .inl (0, 80), .inr (3, [2, 0])]
def zq17 : List zN := [.inr (8, [3, 5, 7, 9, 2, 2, 2, 2, 2, 2, 2, 2, 0]), .inr (7, [0, 0, 0, 3]), .inl (0, 12), .inr (7, [0, 0, 0, 3]), .inl (0, 12), .inr (7, [0, 0, 0, 3]), .inl (0, 12), .inr (6, [3, 0]), .inl (0, 80), .inr (3, [2, 0]), .inl (1, 8)]
def zq18 : List zN := [.inr (8, [3, 5, 7, 9, 2, 2, 2, 2, 2, 2, 2, 2, 0]), .inr (7, [0, 0, 0, 3]), .inl (0, 12), .inr (7, [0, 0, 0, 3]), .inl (0, 12), .inr (7, [0, 0, 0, 3]), .inl (0, 12), .inr (6, [3, 0]), .inl (0, 80), .inr (3, [3, 0]), .inl (1, 8)]
def zq19 : List zN := [.inr (8, [3, 5, 7, 9, 11, 2, 2, 2, 2, 2, 2, 2, 0]), .inr (7, [0, 0, 0, 3]), .inl (0, 12), .inr (7, [0, 0, 0, 3]), .inl (0, 12), .inr (7, [0, 0, 0, 3]), .inl (0, 12), .inr (6, [3, 0]), .inl (0, 80), .inr (3, [3, 0]), .inl (1, 8)]
def zq20 : List zN := [.inr (8, [3, 5, 7, 9, 11, 2, 2, 2, 2, 2, 2, 2, 0]), .inr (7, [0, 0, 0, 3]), .inl (0, 12), .inr (7, [0, 0, 0, 3]), .inl (0, 12), .inr (7, [0, 0, 0, 3]), .inl (0, 12), .inr (6, [3, 0]), .inl (0, 80), .inr (3, [3, 0]), .inl (1, 8), .inr (4, [2, 0, 2, 0, 2, 0, 0, 0, 2])]
def zq21 : List zN := [.inr (8, [3, 5, 7, 9, 11, 2, 2, 2, 2, 2, 2, 2, 0]), .inr (7, [0, 0, 0, 3]), .inl (0, 12), .inr (7, [0, 0, 0, 3]), .inl (0, 12), .inr (7, [0, 0, 0, 3]), .inl (0, 12), .inr (6, [3, 0]), .inl (0, 80), .inr (3, [3, 0]), .inl (1, 8), .inr (4, [2, 0, 2, 0, 2, 0, 0, 0, 2]), .inl (0, 40)]
def zq22 : List zN := [.inr (8, [3, 5, 7, 9, 11, 2, 2, 2, 2, 2, 2, 2, 0]), .inr (7, [0, 0, 0, 3]), .inl (0, 12), .inr (7, [0, 0, 0, 3]), .inl (0, 12), .inr (7, [0, 0, 0, 3]), .inl (0, 12), .inr (6, [3, 0]), .inl (0, 80), .inr (3, [3, 0]), .inl (1, 8), .inr (4, [3, 0, 2, 0, 2, 0, 0, 0, 2]), .inl (0, 40)]
def zq23 : List zN := [.inr (8, [3, 5, 7, 9, 11, 2, 2, 2, 2, 2, 2, 2, 0]), .inr (7, [0, 0, 0, 3]), .inl (0, 12), .inr (7, [0, 0, 0, 3]), .inl (0, 12), .inr (7, [0, 0, 0, 3]), .inl (0, 12), .inr (6, [3, 0]), .inl (0, 80), .inr (3, [3, 0]), .inl (1, 8), .inr (4, [3, 0, 2, 0, 2, 0, 0, 0, 2]), .inl (0, 40), .inl (0, 40)]
def zq24 : List zN := [.inr (8, [3, 5, 7, 9, 11, 2, 2, 2, 2, 2, 2, 2, 0]), .inr (7, [0, 0, 0, 3]), .inl (0, 12), .inr (7, [0, 0, 0, 3]), .inl (0, 12), .inr (7, [0, 0, 0, 3]), .inl (0, 12), .inr (6, [3, 0]), .inl (0, 80), .inr (3, [3, 0]), .inl (1, 8), .inr (4, [3, 0, 4, 0, 2, 0, 0, 0, 2]), .inl (0, 40), .inl (0, 40)]
def zq25 : List zN := [.inr (8, [3, 5, 7, 9, 11, 2, 2, 2, 2, 2, 2, 2, 0]), .inr (7, [0, 0, 0, 3]), .inl (0, 12), .inr (7, [0, 0, 0, 3]), .inl (0, 12), .inr (7, [0, 0, 0, 3]), .inl (0, 12), .inr (6, [3, 0]), .inl (0, 80), .inr (3, [3, 0]), .inl (1, 8), .inr (4, [3, 0, 4, 0, 2, 0, 0, 0, 2]), .inl (0, 40), .inl (0, 40), .inl (2, 5)]
def zq26 : List zN := [.inr (8, [3, 5, 7, 9, 11, 2, 2, 2, 2, 2, 2, 2, 0]), .inr (7, [0, 0, 0, 3]), .inl (0, 12), .inr (7, [0, 0, 0, 3]), .inl (0, 12), .inr (7, [0, 0, 0, 3]), .inl (0, 12), .inr (6, [3, 0]), .inl (0, 80), .inr (3, [3, 0]), .inl (1, 8), .inr (4, [3, 0, 4, 0, 5, 0, 0, 0, 2]), .inl (0, 40), .inl (0, 40), .inl (2, 5)]
def zq27 : List zN := [.inr (8, [3, 5, 7, 9, 11, 2, 2, 2, 2, 2, 2, 2, 0]), .inr (7, [0, 0, 0, 3]), .inl (0, 12), .inr (7, [0, 0, 0, 3]), .inl (0, 12), .inr (7, [0, 0, 0, 3]), .inl (0, 12), .inr (6, [3, 0]), .inl (0, 80), .inr (3, [3, 0]), .inl (1, 8), .inr (4, [3, 0, 4, 0, 5, 0, 0, 0, 2]), .inl (0, 40), .inl (0, 40), .inl (2, 5), .inl (0, 40)]
def zq28 : List zN := [.inr (8, [3, 5, 7, 9, 11, 2, 2, 2, 2, 2, 2, 2, 0]), .inr (7, [0, 0, 0, 3]), .inl (0, 12), .inr (7, [0, 0, 0, 3]), .inl (0, 12), .inr (7, [0, 0, 0, 3]), .inl (0, 12), .inr (6, [3, 0]), .inl (0, 80), .inr (3, [3, 0]), .inl (1, 8), .inr (4, [3, 0, 4, 0, 5, 0, 0, 0, 6]), .inl (0, 40), .inl (0, 40), .inl (2, 5), .inl (0, 40)]
def zq29 : List zN := [.inr (8, [3, 5, 7, 9, 11, 13, 2, 2, 2, 2, 2, 2, 0]), .inr (7, [0, 0, 0, 3]), .inl (0, 12), .inr (7, [0, 0, 0, 3]), .inl (0, 12), .inr (7, [0, 0, 0, 3]), .inl (0, 12), .inr (6, [3, 0]), .inl (0, 80), .inr (3, [3, 0]), .inl (1, 8), .inr (4, [3, 0, 4, 0, 5, 0, 0, 0, 6]), .inl (0, 40), .inl (0, 40), .inl (2, 5), .inl (0, 40)]
def zq30 : List zN := [.inr (8, [3, 5, 7, 9, 11, 13, 2, 2, 2, 2, 2, 2, 0]), .inr (7, [0, 0, 0, 3]), .inl (0, 12), .inr (7, [0, 0, 0, 3]), .inl (0, 12), .inr (7, [0, 0, 0, 3]), .inl (0, 12), .inr (6, [3, 0]), .inl (0, 80), .inr (3, [3, 0]), .inl (1, 8), .inr (4, [3, 0, 4, 0, 5, 0, 0, 0, 6]), .inl (0, 40), .inl (0, 40), .inl (2, 5), .inl (0, 40), .inr (4, [2, 0, 2, 0, 2, 0, 0, 0, 2])]
def zq31 : List zN := [.inr (8, [3, 5, 7, 9, 11, 13, 2, 2, 2, 2, 2, 2, 0]), .inr (7, [0, 0, 0, 3]), .inl (0, 12), .inr (7, [0, 0, 0, 3]), .inl (0, 12), .inr (7, [0, 0, 0, 3]), .inl (0, 12), .inr (6, [3, 0]), .inl (0, 80), .inr (3, [3, 0]), .inl (1, 8), .inr (4, [3, 0, 4, 0, 5, 0, 0, 0, 6]), .inl (0, 40), .inl (0, 40), .inl (2, 5), .inl (0, 40), .inr (4, [2, 0, 2, 0, 2, 0, 0, 0, 2]), .inl (0, 40)]
def zq32 : List zN := [.inr (8, [3, 5, 7, 9, 11, 13, 2, 2, 2, 2, 2, 2, 0]), .inr (7, [0, 0, 0, 3]), .inl (0, 12), .inr (7, [0, 0, 0, 3]), .inl (0, 12), .inr (7, [0, 0, 0, 3]), .inl (0, 12), .inr (6, [3, 0]), .inl (0, 80), .inr (3, [3, 0]), .inl (1, 8), .inr (4, [3, 0, 4, 0, 5, 0, 0, 0, 6]), .inl (0, 40), .inl (0, 40), .inl (2, 5), .inl (0, 40), .inr (4, [3, 0, 2, 0, 2, 0, 0, 0, 2]), .inl (0, 40)]
def zq33 : List zN := [.inr (8, [3, 5, 7, 9, 11, 13, 2, 2, 2, 2, 2, 2, 0]), .inr (7, [0, 0, 0, 3]), .inl (0, 12), .inr (7, [0, 0, 0, 3]), .inl (0, 12), .inr (7, [0, 0, 0, 3]), .inl (0, 12), .inr (6, [3, 0]), .inl (0, 80), .inr (3, [3, 0]), .inl (1, 8), .inr (4, [3, 0, 4, 0, 5, 0, 0, 0, 6]), .inl (0, 40), .inl (0, 40), .inl (2, 5), .inl (0, 40), .inr (4, [3, 0, 2, 0, 2, 0, 0, 0, 2]), .inl (0, 40), .inl (0, 40)]
def zq34 : List zN := [.inr (8, [3, 5, 7, 9, 11, 13, 2, 2, 2, 2, 2, 2, 0]), .inr (7, [0, 0, 0, 3]), .inl (0, 12), .inr (7, [0, 0, 0, 3]), .inl (0, 12), .inr (7, [0, 0, 0, 3]), .inl (0, 12), .inr (6, [3, 0]), .inl (0, 80), .inr (3, [3, 0]), .inl (1, 8), .inr (4, [3, 0, 4, 0, 5, 0, 0, 0, 6]), .inl (0, 40), .inl (0, 40), .inl (2, 5), .inl (0, 40), .inr (4, [3, 0, 4, 0, 2, 0, 0, 0, 2]), .inl (0, 40), .inl (0, 40)]
def zq35 : List zN := [.inr (8, [3, 5, 7, 9, 11, 13, 2, 2, 2, 2, 2, 2, 0]), .inr (7, [0, 0, 0, 3]), .inl (0, 12), .inr (7, [0, 0, 0, 3]), .inl (0, 12), .inr (7, [0, 0, 0, 3]), .inl (0, 12), .inr (6, [3, 0]), .inl (0, 80), .inr (3, [3, 0]), .inl (1, 8), .inr (4, [3, 0, 4, 0, 5, 0, 0, 0, 6]), .inl (0, 40), .inl (0, 40), .inl (2, 5), .inl (0, 40), .inr (4, [3, 0, 4, 0, 2, 0, 0, 0, 2]), .inl (0, 40), .inl (0, 40), .inl (2, 5)]
def zq36 : List zN := [.inr (8, [3, 5, 7, 9, 11, 13, 2, 2, 2, 2, 2, 2, 0]), .inr (7, [0, 0, 0, 3]), .inl (0, 12), .inr (7, [0, 0, 0, 3]), .inl (0, 12), .inr (7, [0, 0, 0, 3]), .inl (0, 12), .inr (6, [3, 0]), .inl (0, 80), .inr (3, [3, 0]), .inl (1, 8), .inr (4, [3, 0, 4, 0, 5, 0, 0, 0, 6]), .inl (0, 40), .inl (0, 40), .inl (2, 5), .inl (0, 40), .inr (4, [3, 0, 4, 0, 5, 0, 0, 0, 2]), .inl (0, 40), .inl (0, 40), .inl (2, 5)]
def zq37 : List zN := [.inr (8, [3, 5, 7, 9, 11, 13, 2, 2, 2, 2, 2, 2, 0]), .inr (7, [0, 0, 0, 3]), .inl (0, 12), .inr (7, [0, 0, 0, 3]), .inl (0, 12), .inr (7, [0, 0, 0, 3]), .inl (0, 12), .inr (6, [3, 0]), .inl (0, 80), .inr (3, [3, 0]), .inl (1, 8), .inr (4, [3, 0, 4, 0, 5, 0, 0, 0, 6]), .inl (0, 40), .inl (0, 40), .inl (2, 5), .inl (0, 40), .inr (4, [3, 0, 4, 0, 5, 0, 0, 0, 2]), .inl (0, 40), .inl (0, 40), .inl (2, 5), .inl (0, 40)]
def zq38 : List zN := [.inr (8, [3, 5, 7, 9, 11, 13, 2, 2, 2, 2, 2, 2, 0]), .inr (7, [0, 0, 0, 3]), .inl (0, 12), .inr (7, [0, 0, 0, 3]), .inl (0, 12), .inr (7, [0, 0, 0, 3]), .inl (0, 12), .inr (6, [3, 0]), .inl (0, 80), .inr (3, [3, 0]), .inl (1, 8), .inr (4, [3, 0, 4, 0, 5, 0, 0, 0, 6]), .inl (0, 40), .inl (0, 40), .inl (2, 5), .inl (0, 40), .inr (4, [3, 0, 4, 0, 5, 0, 0, 0, 6]), .inl (0, 40), .inl (0, 40), .inl (2, 5), .inl (0, 40)]
def zq39 : List zN := [.inr (8, [3, 5, 7, 9, 11, 13, 18, 2, 2, 2, 2, 2, 0]), .inr (7, [0, 0, 0, 3]), .inl (0, 12), .inr (7, [0, 0, 0, 3]), .inl (0, 12), .inr (7, [0, 0, 0, 3]), .inl (0, 12), .inr (6, [3, 0]), .inl (0, 80), .inr (3, [3, 0]), .inl (1, 8), .inr (4, [3, 0, 4, 0, 5, 0, 0, 0, 6]), .inl (0, 40), .inl (0, 40), .inl (2, 5), .inl (0, 40), .inr (4, [3, 0, 4, 0, 5, 0, 0, 0, 6]), .inl (0, 40), .inl (0, 40), .inl (2, 5), .inl (0, 40)]
def zq40 : List zN := [.inr (8, [3, 5, 7, 9, 11, 13, 18, 2, 2, 2, 2, 2, 0]), .inr (7, [0, 0, 0, 3]), .inl (0, 12), .inr (7, [0, 0, 0, 3]), .inl (0, 12), .inr (7, [0, 0, 0, 3]), .inl (0, 12), .inr (6, [3, 0]), .inl (0, 80), .inr (3, [3, 0]), .inl (1, 8), .inr (4, [3, 0, 4, 0, 5, 0, 0, 0, 6]), .inl (0, 40), .inl (0, 40), .inl (2, 5), .inl (0, 40), .inr (4, [3, 0, 4, 0, 5, 0, 0, 0, 6]), .inl (0, 40), .inl (0, 40), .inl (2, 5), .inl (0, 40), .inr (0, [2, 2, 2, 2, 2, 1])]
def zq41 : List zN := [.inr (8, [3, 5, 7, 9, 11, 13, 18, 2, 2, 2, 2, 2, 0]), .inr (7, [0, 0, 0, 3]), .inl (0, 12), .inr (7, [0, 0, 0, 3]), .inl (0, 12), .inr (7, [0, 0, 0, 3]), .inl (0, 12), .inr (6, [3, 0]), .inl (0, 80), .inr (3, [3, 0]), .inl (1, 8), .inr (4, [3, 0, 4, 0, 5, 0, 0, 0, 6]), .inl (0, 40), .inl (0, 40), .inl (2, 5), .inl (0, 40), .inr (4, [3, 0, 4, 0, 5, 0, 0, 0, 6]), .inl (0, 40), .inl (0, 40), .inl (2, 5), .inl (0, 40), .inr (0, [2, 2, 2, 2, 2, 1]), .inl (0, 12)]
def zq42 : List zN := [.inr (8, [3, 5, 7, 9, 11, 13, 18, 2, 2, 2, 2, 2, 0]), .inr (7, [0, 0, 0, 3]), .inl (0, 12), .inr (7, [0, 0, 0, 3]), .inl (0, 12), .inr (7, [0, 0, 0, 3]), .inl (0, 12), .inr (6, [3, 0]), .inl (0, 80), .inr (3, [3, 0]), .inl (1, 8), .inr (4, [3, 0, 4, 0, 5, 0, 0, 0, 6]), .inl (0, 40), .inl (0, 40), .inl (2, 5), .inl (0, 40), .inr (4, [3, 0, 4, 0, 5, 0, 0, 0, 6]), .inl (0, 40), .inl (0, 40), .inl (2, 5), .inl (0, 40), .inr (0, [3, 2, 2, 2, 2, 1]), .inl (0, 12)]
def zq43 : List zN := [.inr (8, [3, 5, 7, 9, 11, 13, 18, 2, 2, 2, 2, 2, 0]), .inr (7, [0, 0, 0, 3]), .inl (0, 12), .inr (7, [0, 0, 0, 3]), .inl (0, 12), .inr (7, [0, 0, 0, 3]), .inl (0, 12), .inr (6, [3, 0]), .inl (0, 80), .inr (3, [3, 0]), .inl (1, 8), .inr (4, [3, 0, 4, 0, 5, 0, 0, 0, 6]), .inl (0, 40), .inl (0, 40), .inl (2, 5), .inl (0, 40), .inr (4, [3, 0, 4, 0, 5, 0, 0, 0, 6]), .inl (0, 40), .inl (0, 40), .inl (2, 5), .inl (0, 40), .inr (0, [3, 2, 2, 2, 2, 1]), .inl (0, 12), .inl (0, 12)]
def zq44 : List zN := [.inr (8, [3, 5, 7, 9, 11, 13, 18, 2, 2, 2, 2, 2, 0]), .inr (7, [0, 0, 0, 3]), .inl (0, 12), .inr (7, [0, 0, 0, 3]), .inl (0, 12), .inr (7, [0, 0, 0, 3]), .inl (0, 12), .inr (6, [3, 0]), .inl (0, 80), .inr (3, [3, 0]), .inl (1, 8), .inr (4, [3, 0, 4, 0, 5, 0, 0, 0, 6]), .inl (0, 40), .inl (0, 40), .inl (2, 5), .inl (0, 40), .inr (4, [3, 0, 4, 0, 5, 0, 0, 0, 6]), .inl (0, 40), .inl (0, 40), .inl (2, 5), .inl (0, 40), .inr (0, [3, 4, 2, 2, 2, 1]), .inl (0, 12), .inl (0, 12)]
def zq45 : List zN := [.inr (8, [3, 5, 7, 9, 11, 13, 18, 2, 2, 2, 2, 2, 0]), .inr (7, [0, 0, 0, 3]), .inl (0, 12), .inr (7, [0, 0, 0, 3]), .inl (0, 12), .inr (7, [0, 0, 0, 3]), .inl (0, 12), .inr (6, [3, 0]), .inl (0, 80), .inr (3, [3, 0]), .inl (1, 8), .inr (4, [3, 0, 4, 0, 5, 0, 0, 0, 6]), .inl (0, 40), .inl (0, 40), .inl (2, 5), .inl (0, 40), .inr (4, [3, 0, 4, 0, 5, 0, 0, 0, 6]), .inl (0, 40), .inl (0, 40), .inl (2, 5), .inl (0, 40), .inr (0, [3, 4, 2, 2, 2, 1]), .inl (0, 12), .inl (0, 12), .inl (1, 64)]
def zq46 : List zN := [.inr (8, [3, 5, 7, 9, 11, 13, 18, 2, 2, 2, 2, 2, 0]), .inr (7, [0, 0, 0, 3]), .inl (0, 12), .inr (7, [0, 0, 0, 3]), .inl (0, 12), .inr (7, [0, 0, 0, 3]), .inl (0, 12), .inr (6, [3, 0]), .inl (0, 80), .inr (3, [3, 0]), .inl (1, 8), .inr (4, [3, 0, 4, 0, 5, 0, 0, 0, 6]), .inl (0, 40), .inl (0, 40), .inl (2, 5), .inl (0, 40), .inr (4, [3, 0, 4, 0, 5, 0, 0, 0, 6]), .inl (0, 40), .inl (0, 40), .inl (2, 5), .inl (0, 40), .inr (0, [3, 4, 5, 2, 2, 1]), .inl (0, 12), .inl (0, 12), .inl (1, 64)]
def zq47 : List zN := [.inr (8, [3, 5, 7, 9, 11, 13, 18, 2, 2, 2, 2, 2, 0]), .inr (7, [0, 0, 0, 3]), .inl (0, 12), .inr (7, [0, 0, 0, 3]), .inl (0, 12), .inr (7, [0, 0, 0, 3]), .inl (0, 12), .inr (6, [3, 0]), .inl (0, 80), .inr (3, [3, 0]), .inl (1, 8), .inr (4, [3, 0, 4, 0, 5, 0, 0, 0, 6]), .inl (0, 40), .inl (0, 40), .inl (2, 5), .inl (0, 40), .inr (4, [3, 0, 4, 0, 5, 0, 0, 0, 6]), .inl (0, 40), .inl (0, 40), .inl (2, 5), .inl (0, 40), .inr (0, [3, 4, 5, 2, 2, 1]), .inl (0, 12), .inl (0, 12), .inl (1, 64), .inl (1, 64)]
def zq48 : List zN := [.inr (8, [3, 5, 7, 9, 11, 13, 18, 2, 2, 2, 2, 2, 0]), .inr (7, [0, 0, 0, 3]), .inl (0, 12), .inr (7, [0, 0, 0, 3]), .inl (0, 12), .inr (7, [0, 0, 0, 3]), .inl (0, 12), .inr (6, [3, 0]), .inl (0, 80), .inr (3, [3, 0]), .inl (1, 8), .inr (4, [3, 0, 4, 0, 5, 0, 0, 0, 6]), .inl (0, 40), .inl (0, 40), .inl (2, 5), .inl (0, 40), .inr (4, [3, 0, 4, 0, 5, 0, 0, 0, 6]), .inl (0, 40), .inl (0, 40), .inl (2, 5), .inl (0, 40), .inr (0, [3, 4, 5, 6, 2, 1]), .inl (0, 12), .inl (0, 12), .inl (1, 64), .inl (1, 64)]
def zq49 : List zN := [.inr (8, [3, 5, 7, 9, 11, 13, 18, 2, 2, 2, 2, 2, 0]), .inr (7, [0, 0, 0, 3]), .inl (0, 12), .inr (7, [0, 0, 0, 3]), .inl (0, 12), .inr (7, [0, 0, 0, 3]), .inl (0, 12), .inr (6, [3, 0]), .inl (0, 80), .inr (3, [3, 0]), .inl (1, 8), .inr (4, [3, 0, 4, 0, 5, 0, 0, 0, 6]), .inl (0, 40), .inl (0, 40), .inl (2, 5), .inl (0, 40), .inr (4, [3, 0, 4, 0, 5, 0, 0, 0, 6]), .inl (0, 40), .inl (0, 40), .inl (2, 5), .inl (0, 40), .inr (0, [3, 4, 5, 6, 2, 1]), .inl (0, 12), .inl (0, 12), .inl (1, 64), .inl (1, 64), .inl (0, 13)]
def zq50 : List zN := [.inr (8, [3, 5, 7, 9, 11, 13, 18, 2, 2, 2, 2, 2, 0]), .inr (7, [0, 0, 0, 3]), .inl (0, 12), .inr (7, [0, 0, 0, 3]), .inl (0, 12), .inr (7, [0, 0, 0, 3]), .inl (0, 12), .inr (6, [3, 0]), .inl (0, 80), .inr (3, [3, 0]), .inl (1, 8), .inr (4, [3, 0, 4, 0, 5, 0, 0, 0, 6]), .inl (0, 40), .inl (0, 40), .inl (2, 5), .inl (0, 40), .inr (4, [3, 0, 4, 0, 5, 0, 0, 0, 6]), .inl (0, 40), .inl (0, 40), .inl (2, 5), .inl (0, 40), .inr (0, [3, 4, 5, 6, 7, 1]), .inl (0, 12), .inl (0, 12), .inl (1, 64), .inl (1, 64), .inl (0, 13)]
def zq51 : List zN := [.inr (8, [3, 5, 7, 9, 11, 13, 18, 23, 2, 2, 2, 2, 0]), .inr (7, [0, 0, 0, 3]), .inl (0, 12), .inr (7, [0, 0, 0, 3]), .inl (0, 12), .inr (7, [0, 0, 0, 3]), .inl (0, 12), .inr (6, [3, 0]), .inl (0, 80), .inr (3, [3, 0]), .inl (1, 8), .inr (4, [3, 0, 4, 0, 5, 0, 0, 0, 6]), .inl (0, 40), .inl (0, 40), .inl (2, 5), .inl (0, 40), .inr (4, [3, 0, 4, 0, 5, 0, 0, 0, 6]), .inl (0, 40), .inl (0, 40), .inl (2, 5), .inl (0, 40), .inr (0, [3, 4, 5, 6, 7, 1]), .inl (0, 12), .inl (0, 12), .inl (1, 64), .inl (1, 64), .inl (0, 13)]
def zq52 : List zN := [.inr (8, [3, 5, 7, 9, 11, 13, 18, 23, 2, 2, 2, 2, 0]), .inr (7, [0, 0, 0, 3]), .inl (0, 12), .inr (7, [0, 0, 0, 3]), .inl (0, 12), .inr (7, [0, 0, 0, 3]), .inl (0, 12), .inr (6, [3, 0]), .inl (0, 80), .inr (3, [3, 0]), .inl (1, 8), .inr (4, [3, 0, 4, 0, 5, 0, 0, 0, 6]), .inl (0, 40), .inl (0, 40), .inl (2, 5), .inl (0, 40), .inr (4, [3, 0, 4, 0, 5, 0, 0, 0, 6]), .inl (0, 40), .inl (0, 40), .inl (2, 5), .inl (0, 40), .inr (0, [3, 4, 5, 6, 7, 1]), .inl (0, 12), .inl (0, 12), .inl (1, 64), .inl (1, 64), .inl (0, 13), .inr (1, [2, 0, 2])]
def zq53 : List zN := [.inr (8, [3, 5, 7, 9, 11, 13, 18, 23, 2, 2, 2, 2, 0]), .inr (7, [0, 0, 0, 3]), .inl (0, 12), .inr (7, [0, 0, 0, 3]), .inl (0, 12), .inr (7, [0, 0, 0, 3]), .inl (0, 12), .inr (6, [3, 0]), .inl (0, 80), .inr (3, [3, 0]), .inl (1, 8), .inr (4, [3, 0, 4, 0, 5, 0, 0, 0, 6]), .inl (0, 40), .inl (0, 40), .inl (2, 5), .inl (0, 40), .inr (4, [3, 0, 4, 0, 5, 0, 0, 0, 6]), .inl (0, 40), .inl (0, 40), .inl (2, 5), .inl (0, 40), .inr (0, [3, 4, 5, 6, 7, 1]), .inl (0, 12), .inl (0, 12), .inl (1, 64), .inl (1, 64), .inl (0, 13), .inr (1, [2, 0, 2]), .inl (0, 6)]
def zq54 : List zN := [.inr (8, [3, 5, 7, 9, 11, 13, 18, 23, 2, 2, 2, 2, 0]), .inr (7, [0, 0, 0, 3]), .inl (0, 12), .inr (7, [0, 0, 0, 3]), .inl (0, 12), .inr (7, [0, 0, 0, 3]), .inl (0, 12), .inr (6, [3, 0]), .inl (0, 80), .inr (3, [3, 0]), .inl (1, 8), .inr (4, [3, 0, 4, 0, 5, 0, 0, 0, 6]), .inl (0, 40), .inl (0, 40), .inl (2, 5), .inl (0, 40), .inr (4, [3, 0, 4, 0, 5, 0, 0, 0, 6]), .inl (0, 40), .inl (0, 40), .inl (2, 5), .inl (0, 40), .inr (0, [3, 4, 5, 6, 7, 1]), .inl (0, 12), .inl (0, 12), .inl (1, 64), .inl (1, 64), .inl (0, 13), .inr (1, [3, 0, 2]), .inl (0, 6)]
def zq55 : List zN := [.inr (8, [3, 5, 7, 9, 11, 13, 18, 23, 2, 2, 2, 2, 0]), .inr (7, [0, 0, 0, 3]), .inl (0, 12), .inr (7, [0, 0, 0, 3]), .inl (0, 12), .inr (7, [0, 0, 0, 3]), .inl (0, 12), .inr (6, [3, 0]), .inl (0, 80), .inr (3, [3, 0]), .inl (1, 8), .inr (4, [3, 0, 4, 0, 5, 0, 0, 0, 6]), .inl (0, 40), .inl (0, 40), .inl (2, 5), .inl (0, 40), .inr (4, [3, 0, 4, 0, 5, 0, 0, 0, 6]), .inl (0, 40), .inl (0, 40), .inl (2, 5), .inl (0, 40), .inr (0, [3, 4, 5, 6, 7, 1]), .inl (0, 12), .inl (0, 12), .inl (1, 64), .inl (1, 64), .inl (0, 13), .inr (1, [3, 0, 2]), .inl (0, 6), .inl (1, 1024)]
def zq56 : List zN := [.inr (8, [3, 5, 7, 9, 11, 13, 18, 23, 2, 2, 2, 2, 0]), .inr (7, [0, 0, 0, 3]), .inl (0, 12), .inr (7, [0, 0, 0, 3]), .inl (0, 12), .inr (7, [0, 0, 0, 3]), .inl (0, 12), .inr (6, [3, 0]), .inl (0, 80), .inr (3, [3, 0]), .inl (1, 8), .inr (4, [3, 0, 4, 0, 5, 0, 0, 0, 6]), .inl (0, 40), .inl (0, 40), .inl (2, 5), .inl (0, 40), .inr (4, [3, 0, 4, 0, 5, 0, 0, 0, 6]), .inl (0, 40), .inl (0, 40), .inl (2, 5), .inl (0, 40), .inr (0, [3, 4, 5, 6, 7, 1]), .inl (0, 12), .inl (0, 12), .inl (1, 64), .inl (1, 64), .inl (0, 13), .inr (1, [3, 0, 4]), .inl (0, 6), .inl (1, 1024)]
def zq57 : List zN := [.inr (8, [3, 5, 7, 9, 11, 13, 18, 23, 29, 2, 2, 2, 0]), .inr (7, [0, 0, 0, 3]), .inl (0, 12), .inr (7, [0, 0, 0, 3]), .inl (0, 12), .inr (7, [0, 0, 0, 3]), .inl (0, 12), .inr (6, [3, 0]), .inl (0, 80), .inr (3, [3, 0]), .inl (1, 8), .inr (4, [3, 0, 4, 0, 5, 0, 0, 0, 6]), .inl (0, 40), .inl (0, 40), .inl (2, 5), .inl (0, 40), .inr (4, [3, 0, 4, 0, 5, 0, 0, 0, 6]), .inl (0, 40), .inl (0, 40), .inl (2, 5), .inl (0, 40), .inr (0, [3, 4, 5, 6, 7, 1]), .inl (0, 12), .inl (0, 12), .inl (1, 64), .inl (1, 64), .inl (0, 13), .inr (1, [3, 0, 4]), .inl (0, 6), .inl (1, 1024)]
def zq58 : List zN := [.inr (8, [3, 5, 7, 9, 11, 13, 18, 23, 29, 2, 2, 2, 0]), .inr (7, [0, 0, 0, 3]), .inl (0, 12), .inr (7, [0, 0, 0, 3]), .inl (0, 12), .inr (7, [0, 0, 0, 3]), .inl (0, 12), .inr (6, [3, 0]), .inl (0, 80), .inr (3, [3, 0]), .inl (1, 8), .inr (4, [3, 0, 4, 0, 5, 0, 0, 0, 6]), .inl (0, 40), .inl (0, 40), .inl (2, 5), .inl (0, 40), .inr (4, [3, 0, 4, 0, 5, 0, 0, 0, 6]), .inl (0, 40), .inl (0, 40), .inl (2, 5), .inl (0, 40), .inr (0, [3, 4, 5, 6, 7, 1]), .inl (0, 12), .inl (0, 12), .inl (1, 64), .inl (1, 64), .inl (0, 13), .inr (1, [3, 0, 4]), .inl (0, 6), .inl (1, 1024), .inr (5, [2, 2, 0])]
def zq59 : List zN := [.inr (8, [3, 5, 7, 9, 11, 13, 18, 23, 29, 2, 2, 2, 0]), .inr (7, [0, 0, 0, 3]), .inl (0, 12), .inr (7, [0, 0, 0, 3]), .inl (0, 12), .inr (7, [0, 0, 0, 3]), .inl (0, 12), .inr (6, [3, 0]), .inl (0, 80), .inr (3, [3, 0]), .inl (1, 8), .inr (4, [3, 0, 4, 0, 5, 0, 0, 0, 6]), .inl (0, 40), .inl (0, 40), .inl (2, 5), .inl (0, 40), .inr (4, [3, 0, 4, 0, 5, 0, 0, 0, 6]), .inl (0, 40), .inl (0, 40), .inl (2, 5), .inl (0, 40), .inr (0, [3, 4, 5, 6, 7, 1]), .inl (0, 12), .inl (0, 12), .inl (1, 64), .inl (1, 64), .inl (0, 13), .inr (1, [3, 0, 4]), .inl (0, 6), .inl (1, 1024), .inr (5, [2, 2, 0]), .inl (0, 12)]
def zq60 : List zN := [.inr (8, [3, 5, 7, 9, 11, 13, 18, 23, 29, 2, 2, 2, 0]), .inr (7, [0, 0, 0, 3]), .inl (0, 12), .inr (7, [0, 0, 0, 3]), .inl (0, 12), .inr (7, [0, 0, 0, 3]), .inl (0, 12), .inr (6, [3, 0]), .inl (0, 80), .inr (3, [3, 0]), .inl (1, 8), .inr (4, [3, 0, 4, 0, 5, 0, 0, 0, 6]), .inl (0, 40), .inl (0, 40), .inl (2, 5), .inl (0, 40), .inr (4, [3, 0, 4, 0, 5, 0, 0, 0, 6]), .inl (0, 40), .inl (0, 40), .inl (2, 5), .inl (0, 40), .inr (0, [3, 4, 5, 6, 7, 1]), .inl (0, 12), .inl (0, 12), .inl (1, 64), .inl (1, 64), .inl (0, 13), .inr (1, [3, 0, 4]), .inl (0, 6), .inl (1, 1024), .inr (5, [3, 2, 0]), .inl (0, 12)]
def zq61 : List zN := [.inr (8, [3, 5, 7, 9, 11, 13, 18, 23, 29, 2, 2, 2, 0]), .inr (7, [0, 0, 0, 3]), .inl (0, 12), .inr (7, [0, 0, 0, 3]), .inl (0, 12), .inr (7, [0, 0, 0, 3]), .inl (0, 12), .inr (6, [3, 0]), .inl (0, 80), .inr (3, [3, 0]), .inl (1, 8), .inr (4, [3, 0, 4, 0, 5, 0, 0, 0, 6]), .inl (0, 40), .inl (0, 40), .inl (2, 5), .inl (0, 40), .inr (4, [3, 0, 4, 0, 5, 0, 0, 0, 6]), .inl (0, 40), .inl (0, 40), .inl (2, 5), .inl (0, 40), .inr (0, [3, 4, 5, 6, 7, 1]), .inl (0, 12), .inl (0, 12), .inl (1, 64), .inl (1, 64), .inl (0, 13), .inr (1, [3, 0, 4]), .inl (0, 6), .inl (1, 1024), .inr (5, [3, 2, 0]), .inl (0, 12), .inl (0, 12)]
def zq62 : List zN := [.inr (8, [3, 5, 7, 9, 11, 13, 18, 23, 29, 2, 2, 2, 0]), .inr (7, [0, 0, 0, 3]), .inl (0, 12), .inr (7, [0, 0, 0, 3]), .inl (0, 12), .inr (7, [0, 0, 0, 3]), .inl (0, 12), .inr (6, [3, 0]), .inl (0, 80), .inr (3, [3, 0]), .inl (1, 8), .inr (4, [3, 0, 4, 0, 5, 0, 0, 0, 6]), .inl (0, 40), .inl (0, 40), .inl (2, 5), .inl (0, 40), .inr (4, [3, 0, 4, 0, 5, 0, 0, 0, 6]), .inl (0, 40), .inl (0, 40), .inl (2, 5), .inl (0, 40), .inr (0, [3, 4, 5, 6, 7, 1]), .inl (0, 12), .inl (0, 12), .inl (1, 64), .inl (1, 64), .inl (0, 13), .inr (1, [3, 0, 4]), .inl (0, 6), .inl (1, 1024), .inr (5, [3, 4, 0]), .inl (0, 12), .inl (0, 12)]
def zq63 : List zN := [.inr (8, [3, 5, 7, 9, 11, 13, 18, 23, 29, 32, 2, 2, 0]), .inr (7, [0, 0, 0, 3]), .inl (0, 12), .inr (7, [0, 0, 0, 3]), .inl (0, 12), .inr (7, [0, 0, 0, 3]), .inl (0, 12), .inr (6, [3, 0]), .inl (0, 80), .inr (3, [3, 0]), .inl (1, 8), .inr (4, [3, 0, 4, 0, 5, 0, 0, 0, 6]), .inl (0, 40), .inl (0, 40), .inl (2, 5), .inl (0, 40), .inr (4, [3, 0, 4, 0, 5, 0, 0, 0, 6]), .inl (0, 40), .inl (0, 40), .inl (2, 5), .inl (0, 40), .inr (0, [3, 4, 5, 6, 7, 1]), .inl (0, 12), .inl (0, 12), .inl (1, 64), .inl (1, 64), .inl (0, 13), .inr (1, [3, 0, 4]), .inl (0, 6), .inl (1, 1024), .inr (5, [3, 4, 0]), .inl (0, 12), .inl (0, 12)]
def zq64 : List zN := [.inr (8, [3, 5, 7, 9, 11, 13, 18, 23, 29, 32, 2, 2, 0]), .inr (7, [0, 0, 0, 3]), .inl (0, 12), .inr (7, [0, 0, 0, 3]), .inl (0, 12), .inr (7, [0, 0, 0, 3]), .inl (0, 12), .inr (6, [3, 0]), .inl (0, 80), .inr (3, [3, 0]), .inl (1, 8), .inr (4, [3, 0, 4, 0, 5, 0, 0, 0, 6]), .inl (0, 40), .inl (0, 40), .inl (2, 5), .inl (0, 40), .inr (4, [3, 0, 4, 0, 5, 0, 0, 0, 6]), .inl (0, 40), .inl (0, 40), .inl (2, 5), .inl (0, 40), .inr (0, [3, 4, 5, 6, 7, 1]), .inl (0, 12), .inl (0, 12), .inl (1, 64), .inl (1, 64), .inl (0, 13), .inr (1, [3, 0, 4]), .inl (0, 6), .inl (1, 1024), .inr (5, [3, 4, 0]), .inl (0, 12), .inl (0, 12), .inr (2, [2, 2, 0])]
def zq65 : List zN := [.inr (8, [3, 5, 7, 9, 11, 13, 18, 23, 29, 32, 2, 2, 0]), .inr (7, [0, 0, 0, 3]), .inl (0, 12), .inr (7, [0, 0, 0, 3]), .inl (0, 12), .inr (7, [0, 0, 0, 3]), .inl (0, 12), .inr (6, [3, 0]), .inl (0, 80), .inr (3, [3, 0]), .inl (1, 8), .inr (4, [3, 0, 4, 0, 5, 0, 0, 0, 6]), .inl (0, 40), .inl (0, 40), .inl (2, 5), .inl (0, 40), .inr (4, [3, 0, 4, 0, 5, 0, 0, 0, 6]), .inl (0, 40), .inl (0, 40), .inl (2, 5), .inl (0, 40), .inr (0, [3, 4, 5, 6, 7, 1]), .inl (0, 12), .inl (0, 12), .inl (1, 64), .inl (1, 64), .inl (0, 13), .inr (1, [3, 0, 4]), .inl (0, 6), .inl (1, 1024), .inr (5, [3, 4, 0]), .inl (0, 12), .inl (0, 12), .inr (2, [2, 2, 0]), .inl (1, 15)]
def zq66 : List zN := [.inr (8, [3, 5, 7, 9, 11, 13, 18, 23, 29, 32, 2, 2, 0]), .inr (7, [0, 0, 0, 3]), .inl (0, 12), .inr (7, [0, 0, 0, 3]), .inl (0, 12), .inr (7, [0, 0, 0, 3]), .inl (0, 12), .inr (6, [3, 0]), .inl (0, 80), .inr (3, [3, 0]), .inl (1, 8), .inr (4, [3, 0, 4, 0, 5, 0, 0, 0, 6]), .inl (0, 40), .inl (0, 40), .inl (2, 5), .inl (0, 40), .inr (4, [3, 0, 4, 0, 5, 0, 0, 0, 6]), .inl (0, 40), .inl (0, 40), .inl (2, 5), .inl (0, 40), .inr (0, [3, 4, 5, 6, 7, 1]), .inl (0, 12), .inl (0, 12), .inl (1, 64), .inl (1, 64), .inl (0, 13), .inr (1, [3, 0, 4]), .inl (0, 6), .inl (1, 1024), .inr (5, [3, 4, 0]), .inl (0, 12), .inl (0, 12), .inr (2, [3, 2, 0]), .inl (1, 15)]
def zq67 : List zN := [.inr (8, [3, 5, 7, 9, 11, 13, 18, 23, 29, 32, 2, 2, 0]), .inr (7, [0, 0, 0, 3]), .inl (0, 12), .inr (7, [0, 0, 0, 3]), .inl (0, 12), .inr (7, [0, 0, 0, 3]), .inl (0, 12), .inr (6, [3, 0]), .inl (0, 80), .inr (3, [3, 0]), .inl (1, 8), .inr (4, [3, 0, 4, 0, 5, 0, 0, 0, 6]), .inl (0, 40), .inl (0, 40), .inl (2, 5), .inl (0, 40), .inr (4, [3, 0, 4, 0, 5, 0, 0, 0, 6]), .inl (0, 40), .inl (0, 40), .inl (2, 5), .inl (0, 40), .inr (0, [3, 4, 5, 6, 7, 1]), .inl (0, 12), .inl (0, 12), .inl (1, 64), .inl (1, 64), .inl (0, 13), .inr (1, [3, 0, 4]), .inl (0, 6), .inl (1, 1024), .inr (5, [3, 4, 0]), .inl (0, 12), .inl (0, 12), .inr (2, [3, 2, 0]), .inl (1, 15), .inl (0, 15)]
def zq68 : List zN := [.inr (8, [3, 5, 7, 9, 11, 13, 18, 23, 29, 32, 2, 2, 0]), .inr (7, [0, 0, 0, 3]), .inl (0, 12), .inr (7, [0, 0, 0, 3]), .inl (0, 12), .inr (7, [0, 0, 0, 3]), .inl (0, 12), .inr (6, [3, 0]), .inl (0, 80), .inr (3, [3, 0]), .inl (1, 8), .inr (4, [3, 0, 4, 0, 5, 0, 0, 0, 6]), .inl (0, 40), .inl (0, 40), .inl (2, 5), .inl (0, 40), .inr (4, [3, 0, 4, 0, 5, 0, 0, 0, 6]), .inl (0, 40), .inl (0, 40), .inl (2, 5), .inl (0, 40), .inr (0, [3, 4, 5, 6, 7, 1]), .inl (0, 12), .inl (0, 12), .inl (1, 64), .inl (1, 64), .inl (0, 13), .inr (1, [3, 0, 4]), .inl (0, 6), .inl (1, 1024), .inr (5, [3, 4, 0]), .inl (0, 12), .inl (0, 12), .inr (2, [3, 4, 0]), .inl (1, 15), .inl (0, 15)]
def zq69 : List zN := [.inr (8, [3, 5, 7, 9, 11, 13, 18, 23, 29, 32, 35, 2, 0]), .inr (7, [0, 0, 0, 3]), .inl (0, 12), .inr (7, [0, 0, 0, 3]), .inl (0, 12), .inr (7, [0, 0, 0, 3]), .inl (0, 12), .inr (6, [3, 0]), .inl (0, 80), .inr (3, [3, 0]), .inl (1, 8), .inr (4, [3, 0, 4, 0, 5, 0, 0, 0, 6]), .inl (0, 40), .inl (0, 40), .inl (2, 5), .inl (0, 40), .inr (4, [3, 0, 4, 0, 5, 0, 0, 0, 6]), .inl (0, 40), .inl (0, 40), .inl (2, 5), .inl (0, 40), .inr (0, [3, 4, 5, 6, 7, 1]), .inl (0, 12), .inl (0, 12), .inl (1, 64), .inl (1, 64), .inl (0, 13), .inr (1, [3, 0, 4]), .inl (0, 6), .inl (1, 1024), .inr (5, [3, 4, 0]), .inl (0, 12), .inl (0, 12), .inr (2, [3, 4, 0]), .inl (1, 15), .inl (0, 15)]
def zq70 : List zN := [.inr (8, [3, 5, 7, 9, 11, 13, 18, 23, 29, 32, 35, 2, 0]), .inr (7, [0, 0, 0, 3]), .inl (0, 12), .inr (7, [0, 0, 0, 3]), .inl (0, 12), .inr (7, [0, 0, 0, 3]), .inl (0, 12), .inr (6, [3, 0]), .inl (0, 80), .inr (3, [3, 0]), .inl (1, 8), .inr (4, [3, 0, 4, 0, 5, 0, 0, 0, 6]), .inl (0, 40), .inl (0, 40), .inl (2, 5), .inl (0, 40), .inr (4, [3, 0, 4, 0, 5, 0, 0, 0, 6]), .inl (0, 40), .inl (0, 40), .inl (2, 5), .inl (0, 40), .inr (0, [3, 4, 5, 6, 7, 1]), .inl (0, 12), .inl (0, 12), .inl (1, 64), .inl (1, 64), .inl (0, 13), .inr (1, [3, 0, 4]), .inl (0, 6), .inl (1, 1024), .inr (5, [3, 4, 0]), .inl (0, 12), .inl (0, 12), .inr (2, [3, 4, 0]), .inl (1, 15), .inl (0, 15), .inr (2, [2, 2, 0])]
def zq71 : List zN := [.inr (8, [3, 5, 7, 9, 11, 13, 18, 23, 29, 32, 35, 2, 0]), .inr (7, [0, 0, 0, 3]), .inl (0, 12), .inr (7, [0, 0, 0, 3]), .inl (0, 12), .inr (7, [0, 0, 0, 3]), .inl (0, 12), .inr (6, [3, 0]), .inl (0, 80), .inr (3, [3, 0]), .inl (1, 8), .inr (4, [3, 0, 4, 0, 5, 0, 0, 0, 6]), .inl (0, 40), .inl (0, 40), .inl (2, 5), .inl (0, 40), .inr (4, [3, 0, 4, 0, 5, 0, 0, 0, 6]), .inl (0, 40), .inl (0, 40), .inl (2, 5), .inl (0, 40), .inr (0, [3, 4, 5, 6, 7, 1]), .inl (0, 12), .inl (0, 12), .inl (1, 64), .inl (1, 64), .inl (0, 13), .inr (1, [3, 0, 4]), .inl (0, 6), .inl (1, 1024), .inr (5, [3, 4, 0]), .inl (0, 12), .inl (0, 12), .inr (2, [3, 4, 0]), .inl (1, 15), .inl (0, 15), .inr (2, [2, 2, 0]), .inl (1, 3)]
def zq72 : List zN := [.inr (8, [3, 5, 7, 9, 11, 13, 18, 23, 29, 32, 35, 2, 0]), .inr (7, [0, 0, 0, 3]), .inl (0, 12), .inr (7, [0, 0, 0, 3]), .inl (0, 12), .inr (7, [0, 0, 0, 3]), .inl (0, 12), .inr (6, [3, 0]), .inl (0, 80), .inr (3, [3, 0]), .inl (1, 8), .inr (4, [3, 0, 4, 0, 5, 0, 0, 0, 6]), .inl (0, 40), .inl (0, 40), .inl (2, 5), .inl (0, 40), .inr (4, [3, 0, 4, 0, 5, 0, 0, 0, 6]), .inl (0, 40), .inl (0, 40), .inl (2, 5), .inl (0, 40), .inr (0, [3, 4, 5, 6, 7, 1]), .inl (0, 12), .inl (0, 12), .inl (1, 64), .inl (1, 64), .inl (0, 13), .inr (1, [3, 0, 4]), .inl (0, 6), .inl (1, 1024), .inr (5, [3, 4, 0]), .inl (0, 12), .inl (0, 12), .inr (2, [3, 4, 0]), .inl (1, 15), .inl (0, 15), .inr (2, [3, 2, 0]), .inl (1, 3)]
def zq73 : List zN := [.inr (8, [3, 5, 7, 9, 11, 13, 18, 23, 29, 32, 35, 2, 0]), .inr (7, [0, 0, 0, 3]), .inl (0, 12), .inr (7, [0, 0, 0, 3]), .inl (0, 12), .inr (7, [0, 0, 0, 3]), .inl (0, 12), .inr (6, [3, 0]), .inl (0, 80), .inr (3, [3, 0]), .inl (1, 8), .inr (4, [3, 0, 4, 0, 5, 0, 0, 0, 6]), .inl (0, 40), .inl (0, 40), .inl (2, 5), .inl (0, 40), .inr (4, [3, 0, 4, 0, 5, 0, 0, 0, 6]), .inl (0, 40), .inl (0, 40), .inl (2, 5), .inl (0, 40), .inr (0, [3, 4, 5, 6, 7, 1]), .inl (0, 12), .inl (0, 12), .inl (1, 64), .inl (1, 64), .inl (0, 13), .inr (1, [3, 0, 4]), .inl (0, 6), .inl (1, 1024), .inr (5, [3, 4, 0]), .inl (0, 12), .inl (0, 12), .inr (2, [3, 4, 0]), .inl (1, 15), .inl (0, 15), .inr (2, [3, 2, 0]), .inl (1, 3), .inl (0, 3)]
def zq74 : List zN := [.inr (8, [3, 5, 7, 9, 11, 13, 18, 23, 29, 32, 35, 2, 0]), .inr (7, [0, 0, 0, 3]), .inl (0, 12), .inr (7, [0, 0, 0, 3]), .inl (0, 12), .inr (7, [0, 0, 0, 3]), .inl (0, 12), .inr (6, [3, 0]), .inl (0, 80), .inr (3, [3, 0]), .inl (1, 8), .inr (4, [3, 0, 4, 0, 5, 0, 0, 0, 6]), .inl (0, 40), .inl (0, 40), .inl (2, 5), .inl (0, 40), .inr (4, [3, 0, 4, 0, 5, 0, 0, 0, 6]), .inl (0, 40), .inl (0, 40), .inl (2, 5), .inl (0, 40), .inr (0, [3, 4, 5, 6, 7, 1]), .inl (0, 12), .inl (0, 12), .inl (1, 64), .inl (1, 64), .inl (0, 13), .inr (1, [3, 0, 4]), .inl (0, 6), .inl (1, 1024), .inr (5, [3, 4, 0]), .inl (0, 12), .inl (0, 12), .inr (2, [3, 4, 0]), .inl (1, 15), .inl (0, 15), .inr (2, [3, 4, 0]), .inl (1, 3), .inl (0, 3)]
def zq75 : List zN := [.inr (8, [3, 5, 7, 9, 11, 13, 18, 23, 29, 32, 35, 38, 0]), .inr (7, [0, 0, 0, 3]), .inl (0, 12), .inr (7, [0, 0, 0, 3]), .inl (0, 12), .inr (7, [0, 0, 0, 3]), .inl (0, 12), .inr (6, [3, 0]), .inl (0, 80), .inr (3, [3, 0]), .inl (1, 8), .inr (4, [3, 0, 4, 0, 5, 0, 0, 0, 6]), .inl (0, 40), .inl (0, 40), .inl (2, 5), .inl (0, 40), .inr (4, [3, 0, 4, 0, 5, 0, 0, 0, 6]), .inl (0, 40), .inl (0, 40), .inl (2, 5), .inl (0, 40), .inr (0, [3, 4, 5, 6, 7, 1]), .inl (0, 12), .inl (0, 12), .inl (1, 64), .inl (1, 64), .inl (0, 13), .inr (1, [3, 0, 4]), .inl (0, 6), .inl (1, 1024), .inr (5, [3, 4, 0]), .inl (0, 12), .inl (0, 12), .inr (2, [3, 4, 0]), .inl (1, 15), .inl (0, 15), .inr (2, [3, 4, 0]), .inl (1, 3), .inl (0, 3)]
def zq76 : List zN := [.inr (8, [2, 2, 2, 2, 2, 2, 2, 2, 2, 2, 2, 2, 0])]
def zq77 : List zN := [.inr (8, [3, 5, 7, 9, 11, 13, 18, 23, 29, 32, 35, 38, 0]), .inr (7, [0, 0, 0, 3]), .inl (0, 12), .inr (7, [0, 0, 0, 3]), .inl (0, 12), .inr (7, [0, 0, 0, 3]), .inl (0, 12), .inr (6, [3, 0]), .inl (0, 80), .inr (3, [3, 0]), .inl (1, 8), .inr (4, [3, 0, 4, 0, 5, 0, 0, 0, 6]), .inl (0, 40), .inl (0, 40), .inl (2, 5), .inl (0, 40), .inr (4, [3, 0, 4, 0, 5, 0, 0, 0, 6]), .inl (0, 40), .inl (0, 40), .inl (2, 5), .inl (0, 40), .inr (0, [3, 4, 5, 6, 7, 1]), .inl (0, 12), .inl (0, 12), .inl (1, 64), .inl (1, 64), .inl (0, 13), .inr (1, [3, 0, 4]), .inl (0, 6), .inl (1, 1024), .inr (5, [3, 4, 0]), .inl (0, 12), .inl (0, 12), .inr (2, [3, 4, 0]), .inl (1, 15), .inl (0, 15), .inr (2, [3, 4, 0]), .inl (1, 3), .inl (0, 3), .inr (9, [0, 0, 2, 2, 2, 0, 2, 0, 0, 0, 0, 2, 2, 2, 0, 0, 2, 2, 0, 2, 2, 2, 2, 2, 0, 2, 2, 2, 2, 2, 0, 2, 0, 2, 2, 2, 2, 0, 2, 2, 2]), .inl (1, 24)]
def zq78 : List zN := [.inr (8, [3, 5, 7, 9, 11, 13, 18, 23, 29, 32, 35, 38, 0]), .inr (7, [0, 0, 0, 3]), .inl (0, 12), .inr (7, [0, 0, 0, 3]), .inl (0, 12), .inr (7, [0, 0, 0, 3]), .inl (0, 12), .inr (6, [3, 0]), .inl (0, 80), .inr (3, [3, 0]), .inl (1, 8), .inr (4, [3, 0, 4, 0, 5, 0, 0, 0, 6]), .inl (0, 40), .inl (0, 40), .inl (2, 5), .inl (0, 40), .inr (4, [3, 0, 4, 0, 5, 0, 0, 0, 6]), .inl (0, 40), .inl (0, 40), .inl (2, 5), .inl (0, 40), .inr (0, [3, 4, 5, 6, 7, 1]), .inl (0, 12), .inl (0, 12), .inl (1, 64), .inl (1, 64), .inl (0, 13), .inr (1, [3, 0, 4]), .inl (0, 6), .inl (1, 1024), .inr (5, [3, 4, 0]), .inl (0, 12), .inl (0, 12), .inr (2, [3, 4, 0]), .inl (1, 15), .inl (0, 15), .inr (2, [3, 4, 0]), .inl (1, 3), .inl (0, 3), .inr (9, [0, 0, 3, 2, 2, 0, 2, 0, 0, 0, 0, 2, 2, 2, 0, 0, 2, 2, 0, 2, 2, 2, 2, 2, 0, 2, 2, 2, 2, 2, 0, 2, 0, 2, 2, 2, 2, 0, 2, 2, 2]), .inl (1, 24)]
def zq79 : List zN := [.inr (8, [3, 5, 7, 9, 11, 13, 18, 23, 29, 32, 35, 38, 0]), .inr (7, [0, 0, 0, 3]), .inl (0, 12), .inr (7, [0, 0, 0, 3]), .inl (0, 12), .inr (7, [0, 0, 0, 3]), .inl (0, 12), .inr (6, [3, 0]), .inl (0, 80), .inr (3, [3, 0]), .inl (1, 8), .inr (4, [3, 0, 4, 0, 5, 0, 0, 0, 6]), .inl (0, 40), .inl (0, 40), .inl (2, 5), .inl (0, 40), .inr (4, [3, 0, 4, 0, 5, 0, 0, 0, 6]), .inl (0, 40), .inl (0, 40), .inl (2, 5), .inl (0, 40), .inr (0, [3, 4, 5, 6, 7, 1]), .inl (0, 12), .inl (0, 12), .inl (1, 64), .inl (1, 64), .inl (0, 13), .inr (1, [3, 0, 4]), .inl (0, 6), .inl (1, 1024), .inr (5, [3, 4, 0]), .inl (0, 12), .inl (0, 12), .inr (2, [3, 4, 0]), .inl (1, 15), .inl (0, 15), .inr (2, [3, 4, 0]), .inl (1, 3), .inl (0, 3), .inr (9, [0, 0, 3, 2, 2, 0, 2, 0, 0, 0, 0, 2, 2, 2, 0, 0, 2, 2, 0, 2, 2, 2, 2, 2, 0, 2, 2, 2, 2, 2, 0, 2, 0, 2, 2, 2, 2, 0, 2, 2, 2]), .inl (1, 24), .inl (0, 9)]
def zq80 : List zN := [.inr (8, [3, 5, 7, 9, 11, 13, 18, 23, 29, 32, 35, 38, 0]), .inr (7, [0, 0, 0, 3]), .inl (0, 12), .inr (7, [0, 0, 0, 3]), .inl (0, 12), .inr (7, [0, 0, 0, 3]), .inl (0, 12), .inr (6, [3, 0]), .inl (0, 80), .inr (3, [3, 0]), .inl (1, 8), .inr (4, [3, 0, 4, 0, 5, 0, 0, 0, 6]), .inl (0, 40), .inl (0, 40), .inl (2, 5), .inl (0, 40), .inr (4, [3, 0, 4, 0, 5, 0, 0, 0, 6]), .inl (0, 40), .inl (0, 40), .inl (2, 5), .inl (0, 40), .inr (0, [3, 4, 5, 6, 7, 1]), .inl (0, 12), .inl (0, 12), .inl (1, 64), .inl (1, 64), .inl (0, 13), .inr (1, [3, 0, 4]), .inl (0, 6), .inl (1, 1024), .inr (5, [3, 4, 0]), .inl (0, 12), .inl (0, 12), .inr (2, [3, 4, 0]), .inl (1, 15), .inl (0, 15), .inr (2, [3, 4, 0]), .inl (1, 3), .inl (0, 3), .inr (9, [0, 0, 3, 4, 2, 0, 2, 0, 0, 0, 0, 2, 2, 2, 0, 0, 2, 2, 0, 2, 2, 2, 2, 2, 0, 2, 2, 2, 2, 2, 0, 2, 0, 2, 2, 2, 2, 0, 2, 2, 2]), .inl (1, 24), .inl (0, 9)]
def zq81 : List zN := [.inr (8, [3, 5, 7, 9, 11, 13, 18, 23, 29, 32, 35, 38, 0]), .inr (7, [0, 0, 0, 3]), .inl (0, 12), .inr (7, [0, 0, 0, 3]), .inl (0, 12), .inr (7, [0, 0, 0, 3]), .inl (0, 12), .inr (6, [3, 0]), .inl (0, 80), .inr (3, [3, 0]), .inl (1, 8), .inr (4, [3, 0, 4, 0, 5, 0, 0, 0, 6]), .inl (0, 40), .inl (0, 40), .inl (2, 5), .inl (0, 40), .inr (4, [3, 0, 4, 0, 5, 0, 0, 0, 6]), .inl (0, 40), .inl (0, 40), .inl (2, 5), .inl (0, 40), .inr (0, [3, 4, 5, 6, 7, 1]), .inl (0, 12), .inl (0, 12), .inl (1, 64), .inl (1, 64), .inl (0, 13), .inr (1, [3, 0, 4]), .inl (0, 6), .inl (1, 1024), .inr (5, [3, 4, 0]), .inl (0, 12), .inl (0, 12), .inr (2, [3, 4, 0]), .inl (1, 15), .inl (0, 15), .inr (2, [3, 4, 0]), .inl (1, 3), .inl (0, 3), .inr (9, [0, 0, 3, 4, 2, 0, 2, 0, 0, 0, 0, 2, 2, 2, 0, 0, 2, 2, 0, 2, 2, 2, 2, 2, 0, 2, 2, 2, 2, 2, 0, 2, 0, 2, 2, 2, 2, 0, 2, 2, 2]), .inl (1, 24), .inl (0, 9), .inl (0, 9)]
def zq82 : List zN := [.inr (8, [3, 5, 7, 9, 11, 13, 18, 23, 29, 32, 35, 38, 0]), .inr (7, [0, 0, 0, 3]), .inl (0, 12), .inr (7, [0, 0, 0, 3]), .inl (0, 12), .inr (7, [0, 0, 0, 3]), .inl (0, 12), .inr (6, [3, 0]), .inl (0, 80), .inr (3, [3, 0]), .inl (1, 8), .inr (4, [3, 0, 4, 0, 5, 0, 0, 0, 6]), .inl (0, 40), .inl (0, 40), .inl (2, 5), .inl (0, 40), .inr (4, [3, 0, 4, 0, 5, 0, 0, 0, 6]), .inl (0, 40), .inl (0, 40), .inl (2, 5), .inl (0, 40), .inr (0, [3, 4, 5, 6, 7, 1]), .inl (0, 12), .inl (0, 12), .inl (1, 64), .inl (1, 64), .inl (0, 13), .inr (1, [3, 0, 4]), .inl (0, 6), .inl (1, 1024), .inr (5, [3, 4, 0]), .inl (0, 12), .inl (0, 12), .inr (2, [3, 4, 0]), .inl (1, 15), .inl (0, 15), .inr (2, [3, 4, 0]), .inl (1, 3), .inl (0, 3), .inr (9, [0, 0, 3, 4, 5, 0, 2, 0, 0, 0, 0, 2, 2, 2, 0, 0, 2, 2, 0, 2, 2, 2, 2, 2, 0, 2, 2, 2, 2, 2, 0, 2, 0, 2, 2, 2, 2, 0, 2, 2, 2]), .inl (1, 24), .inl (0, 9), .inl (0, 9)]
def zq83 : List zN := [.inr (8, [3, 5, 7, 9, 11, 13, 18, 23, 29, 32, 35, 38, 0]), .inr (7, [0, 0, 0, 3]), .inl (0, 12), .inr (7, [0, 0, 0, 3]), .inl (0, 12), .inr (7, [0, 0, 0, 3]), .inl (0, 12), .inr (6, [3, 0]), .inl (0, 80), .inr (3, [3, 0]), .inl (1, 8), .inr (4, [3, 0, 4, 0, 5, 0, 0, 0, 6]), .inl (0, 40), .inl (0, 40), .inl (2, 5), .inl (0, 40), .inr (4, [3, 0, 4, 0, 5, 0, 0, 0, 6]), .inl (0, 40), .inl (0, 40), .inl (2, 5), .inl (0, 40), .inr (0, [3, 4, 5, 6, 7, 1]), .inl (0, 12), .inl (0, 12), .inl (1, 64), .inl (1, 64), .inl (0, 13), .inr (1, [3, 0, 4]), .inl (0, 6), .inl (1, 1024), .inr (5, [3, 4, 0]), .inl (0, 12), .inl (0, 12), .inr (2, [3, 4, 0]), .inl (1, 15), .inl (0, 15), .inr (2, [3, 4, 0]), .inl (1, 3), .inl (0, 3), .inr (9, [0, 0, 3, 4, 5, 0, 2, 0, 0, 0, 0, 2, 2, 2, 0, 0, 2, 2, 0, 2, 2, 2, 2, 2, 0, 2, 2, 2, 2, 2, 0, 2, 0, 2, 2, 2, 2, 0, 2, 2, 2]), .inl (1, 24), .inl (0, 9), .inl (0, 9), .inl (0, 80)]
def zq84 : List zN := [.inr (8, [3, 5, 7, 9, 11, 13, 18, 23, 29, 32, 35, 38, 0]), .inr (7, [0, 0, 0, 3]), .inl (0, 12), .inr (7, [0, 0, 0, 3]), .inl (0, 12), .inr (7, [0, 0, 0, 3]), .inl (0, 12), .inr (6, [3, 0]), .inl (0, 80), .inr (3, [3, 0]), .inl (1, 8), .inr (4, [3, 0, 4, 0, 5, 0, 0, 0, 6]), .inl (0, 40), .inl (0, 40), .inl (2, 5), .inl (0, 40), .inr (4, [3, 0, 4, 0, 5, 0, 0, 0, 6]), .inl (0, 40), .inl (0, 40), .inl (2, 5), .inl (0, 40), .inr (0, [3, 4, 5, 6, 7, 1]), .inl (0, 12), .inl (0, 12), .inl (1, 64), .inl (1, 64), .inl (0, 13), .inr (1, [3, 0, 4]), .inl (0, 6), .inl (1, 1024), .inr (5, [3, 4, 0]), .inl (0, 12), .inl (0, 12), .inr (2, [3, 4, 0]), .inl (1, 15), .inl (0, 15), .inr (2, [3, 4, 0]), .inl (1, 3), .inl (0, 3), .inr (9, [0, 0, 3, 4, 5, 0, 6, 0, 0, 0, 0, 2, 2, 2, 0, 0, 2, 2, 0, 2, 2, 2, 2, 2, 0, 2, 2, 2, 2, 2, 0, 2, 0, 2, 2, 2, 2, 0, 2, 2, 2]), .inl (1, 24), .inl (0, 9), .inl (0, 9), .inl (0, 80)]
def zq85 : List zN := [.inr (8, [3, 5, 7, 9, 11, 13, 18, 23, 29, 32, 35, 38, 0]), .inr (7, [0, 0, 0, 3]), .inl (0, 12), .inr (7, [0, 0, 0, 3]), .inl (0, 12), .inr (7, [0, 0, 0, 3]), .inl (0, 12), .inr (6, [3, 0]), .inl (0, 80), .inr (3, [3, 0]), .inl (1, 8), .inr (4, [3, 0, 4, 0, 5, 0, 0, 0, 6]), .inl (0, 40), .inl (0, 40), .inl (2, 5), .inl (0, 40), .inr (4, [3, 0, 4, 0, 5, 0, 0, 0, 6]), .inl (0, 40), .inl (0, 40), .inl (2, 5), .inl (0, 40), .inr (0, [3, 4, 5, 6, 7, 1]), .inl (0, 12), .inl (0, 12), .inl (1, 64), .inl (1, 64), .inl (0, 13), .inr (1, [3, 0, 4]), .inl (0, 6), .inl (1, 1024), .inr (5, [3, 4, 0]), .inl (0, 12), .inl (0, 12), .inr (2, [3, 4, 0]), .inl (1, 15), .inl (0, 15), .inr (2, [3, 4, 0]), .inl (1, 3), .inl (0, 3), .inr (9, [0, 0, 3, 4, 5, 0, 6, 0, 0, 0, 0, 2, 2, 2, 0, 0, 2, 2, 0, 2, 2, 2, 2, 2, 0, 2, 2, 2, 2, 2, 0, 2, 0, 2, 2, 2, 2, 0, 2, 2, 2]), .inl (1, 24), .inl (0, 9), .inl (0, 9), .inl (0, 80), .inl (0, 9)]
def zq86 : List zN := [.inr (8, [3, 5, 7, 9, 11, 13, 18, 23, 29, 32, 35, 38, 0]), .inr (7, [0, 0, 0, 3]), .inl (0, 12), .inr (7, [0, 0, 0, 3]), .inl (0, 12), .inr (7, [0, 0, 0, 3]), .inl (0, 12), .inr (6, [3, 0]), .inl (0, 80), .inr (3, [3, 0]), .inl (1, 8), .inr (4, [3, 0, 4, 0, 5, 0, 0, 0, 6]), .inl (0, 40), .inl (0, 40), .inl (2, 5), .inl (0, 40), .inr (4, [3, 0, 4, 0, 5, 0, 0, 0, 6]), .inl (0, 40), .inl (0, 40), .inl (2, 5), .inl (0, 40), .inr (0, [3, 4, 5, 6, 7, 1]), .inl (0, 12), .inl (0, 12), .inl (1, 64), .inl (1, 64), .inl (0, 13), .inr (1, [3, 0, 4]), .inl (0, 6), .inl (1, 1024), .inr (5, [3, 4, 0]), .inl (0, 12), .inl (0, 12), .inr (2, [3, 4, 0]), .inl (1, 15), .inl (0, 15), .inr (2, [3, 4, 0]), .inl (1, 3), .inl (0, 3), .inr (9, [0, 0, 3, 4, 5, 0, 6, 0, 0, 0, 0, 7, 2, 2, 0, 0, 2, 2, 0, 2, 2, 2, 2, 2, 0, 2, 2, 2, 2, 2, 0, 2, 0, 2, 2, 2, 2, 0, 2, 2, 2]), .inl (1, 24), .inl (0, 9), .inl (0, 9), .inl (0, 80), .inl (0, 9)]
def zq87 : List zN := [.inr (8, [3, 5, 7, 9, 11, 13, 18, 23, 29, 32, 35, 38, 0]), .inr (7, [0, 0, 0, 3]), .inl (0, 12), .inr (7, [0, 0, 0, 3]), .inl (0, 12), .inr (7, [0, 0, 0, 3]), .inl (0, 12), .inr (6, [3, 0]), .inl (0, 80), .inr (3, [3, 0]), .inl (1, 8), .inr (4, [3, 0, 4, 0, 5, 0, 0, 0, 6]), .inl (0, 40), .inl (0, 40), .inl (2, 5), .inl (0, 40), .inr (4, [3, 0, 4, 0, 5, 0, 0, 0, 6]), .inl (0, 40), .inl (0, 40), .inl (2, 5), .inl (0, 40), .inr (0, [3, 4, 5, 6, 7, 1]), .inl (0, 12), .inl (0, 12), .inl (1, 64), .inl (1, 64), .inl (0, 13), .inr (1, [3, 0, 4]), .inl (0, 6), .inl (1, 1024), .inr (5, [3, 4, 0]), .inl (0, 12), .inl (0, 12), .inr (2, [3, 4, 0]), .inl (1, 15), .inl (0, 15), .inr (2, [3, 4, 0]), .inl (1, 3), .inl (0, 3), .inr (9, [0, 0, 3, 4, 5, 0, 6, 0, 0, 0, 0, 7, 2, 2, 0, 0, 2, 2, 0, 2, 2, 2, 2, 2, 0, 2, 2, 2, 2, 2, 0, 2, 0, 2, 2, 2, 2, 0, 2, 2, 2]), .inl (1, 24), .inl (0, 9), .inl (0, 9), .inl (0, 80), .inl (0, 9), .inl (0, 80)]
def zq88 : List zN := [.inr (8, [3, 5, 7, 9, 11, 13, 18, 23, 29, 32, 35, 38, 0]), .inr (7, [0, 0, 0, 3]), .inl (0, 12), .inr (7, [0, 0, 0, 3]), .inl (0, 12), .inr (7, [0, 0, 0, 3]), .inl (0, 12), .inr (6, [3, 0]), .inl (0, 80), .inr (3, [3, 0]), .inl (1, 8), .inr (4, [3, 0, 4, 0, 5, 0, 0, 0, 6]), .inl (0, 40), .inl (0, 40), .inl (2, 5), .inl (0, 40), .inr (4, [3, 0, 4, 0, 5, 0, 0, 0, 6]), .inl (0, 40), .inl (0, 40), .inl (2, 5), .inl (0, 40), .inr (0, [3, 4, 5, 6, 7, 1]), .inl (0, 12), .inl (0, 12), .inl (1, 64), .inl (1, 64), .inl (0, 13), .inr (1, [3, 0, 4]), .inl (0, 6), .inl (1, 1024), .inr (5, [3, 4, 0]), .inl (0, 12), .inl (0, 12), .inr (2, [3, 4, 0]), .inl (1, 15), .inl (0, 15), .inr (2, [3, 4, 0]), .inl (1, 3), .inl (0, 3), .inr (9, [0, 0, 3, 4, 5, 0, 6, 0, 0, 0, 0, 7, 8, 2, 0, 0, 2, 2, 0, 2, 2, 2, 2, 2, 0, 2, 2, 2, 2, 2, 0, 2, 0, 2, 2, 2, 2, 0, 2, 2, 2]), .inl (1, 24), .inl (0, 9), .inl (0, 9), .inl (0, 80), .inl (0, 9), .inl (0, 80)]
def zq89 : List zN := [.inr (8, [3, 5, 7, 9, 11, 13, 18, 23, 29, 32, 35, 38, 0]), .inr (7, [0, 0, 0, 3]), .inl (0, 12), .inr (7, [0, 0, 0, 3]), .inl (0, 12), .inr (7, [0, 0, 0, 3]), .inl (0, 12), .inr (6, [3, 0]), .inl (0, 80), .inr (3, [3, 0]), .inl (1, 8), .inr (4, [3, 0, 4, 0, 5, 0, 0, 0, 6]), .inl (0, 40), .inl (0, 40), .inl (2, 5), .inl (0, 40), .inr (4, [3, 0, 4, 0, 5, 0, 0, 0, 6]), .inl (0, 40), .inl (0, 40), .inl (2, 5), .inl (0, 40), .inr (0, [3, 4, 5, 6, 7, 1]), .inl (0, 12), .inl (0, 12), .inl (1, 64), .inl (1, 64), .inl (0, 13), .inr (1, [3, 0, 4]), .inl (0, 6), .inl (1, 1024), .inr (5, [3, 4, 0]), .inl (0, 12), .inl (0, 12), .inr (2, [3, 4, 0]), .inl (1, 15), .inl (0, 15), .inr (2, [3, 4, 0]), .inl (1, 3), .inl (0, 3), .inr (9, [0, 0, 3, 4, 5, 0, 6, 0, 0, 0, 0, 7, 8, 2, 0, 0, 2, 2, 0, 2, 2, 2, 2, 2, 0, 2, 2, 2, 2, 2, 0, 2, 0, 2, 2, 2, 2, 0, 2, 2, 2]), .inl (1, 24), .inl (0, 9), .inl (0, 9), .inl (0, 80), .inl (0, 9), .inl (0, 80), .inl (0, 80)]
def zq90 : List zN := [.inr (8, [3, 5, 7, 9, 11, 13, 18, 23, 29, 32, 35, 38, 0]), .inr (7, [0, 0, 0, 3]), .inl (0, 12), .inr (7, [0, 0, 0, 3]), .inl (0, 12), .inr (7, [0, 0, 0, 3]), .inl (0, 12), .inr (6, [3, 0]), .inl (0, 80), .inr (3, [3, 0]), .inl (1, 8), .inr (4, [3, 0, 4, 0, 5, 0, 0, 0, 6]), .inl (0, 40), .inl (0, 40), .inl (2, 5), .inl (0, 40), .inr (4, [3, 0, 4, 0, 5, 0, 0, 0, 6]), .inl (0, 40), .inl (0, 40), .inl (2, 5), .inl (0, 40), .inr (0, [3, 4, 5, 6, 7, 1]), .inl (0, 12), .inl (0, 12), .inl (1, 64), .inl (1, 64), .inl (0, 13), .inr (1, [3, 0, 4]), .inl (0, 6), .inl (1, 1024), .inr (5, [3, 4, 0]), .inl (0, 12), .inl (0, 12), .inr (2, [3, 4, 0]), .inl (1, 15), .inl (0, 15), .inr (2, [3, 4, 0]), .inl (1, 3), .inl (0, 3), .inr (9, [0, 0, 3, 4, 5, 0, 6, 0, 0, 0, 0, 7, 8, 9, 0, 0, 2, 2, 0, 2, 2, 2, 2, 2, 0, 2, 2, 2, 2, 2, 0, 2, 0, 2, 2, 2, 2, 0, 2, 2, 2]), .inl (1, 24), .inl (0, 9), .inl (0, 9), .inl (0, 80), .inl (0, 9), .inl (0, 80), .inl (0, 80)]
def zq91 : List zN := [.inr (8, [3, 5, 7, 9, 11, 13, 18, 23, 29, 32, 35, 38, 0]), .inr (7, [0, 0, 0, 3]), .inl (0, 12), .inr (7, [0, 0, 0, 3]), .inl (0, 12), .inr (7, [0, 0, 0, 3]), .inl (0, 12), .inr (6, [3, 0]), .inl (0, 80), .inr (3, [3, 0]), .inl (1, 8), .inr (4, [3, 0, 4, 0, 5, 0, 0, 0, 6]), .inl (0, 40), .inl (0, 40), .inl (2, 5), .inl (0, 40), .inr (4, [3, 0, 4, 0, 5, 0, 0, 0, 6]), .inl (0, 40), .inl (0, 40), .inl (2, 5), .inl (0, 40), .inr (0, [3, 4, 5, 6, 7, 1]), .inl (0, 12), .inl (0, 12), .inl (1, 64), .inl (1, 64), .inl (0, 13), .inr (1, [3, 0, 4]), .inl (0, 6), .inl (1, 1024), .inr (5, [3, 4, 0]), .inl (0, 12), .inl (0, 12), .inr (2, [3, 4, 0]), .inl (1, 15), .inl (0, 15), .inr (2, [3, 4, 0]), .inl (1, 3), .inl (0, 3), .inr (9, [0, 0, 3, 4, 5, 0, 6, 0, 0, 0, 0, 7, 8, 9, 0, 0, 2, 2, 0, 2, 2, 2, 2, 2, 0, 2, 2, 2, 2, 2, 0, 2, 0, 2, 2, 2, 2, 0, 2, 2, 2]), .inl (1, 24), .inl (0, 9), .inl (0, 9), .inl (0, 80), .inl (0, 9), .inl (0, 80), .inl (0, 80), .inl (0, 80)]
def zq92 : List zN := [.inr (8, [3, 5, 7, 9, 11, 13, 18, 23, 29, 32, 35, 38, 0]), .inr (7, [0, 0, 0, 3]), .inl (0, 12), .inr (7, [0, 0, 0, 3]), .inl (0, 12), .inr (7, [0, 0, 0, 3]), .inl (0, 12), .inr (6, [3, 0]), .inl (0, 80), .inr (3, [3, 0]), .inl (1, 8), .inr (4, [3, 0, 4, 0, 5, 0, 0, 0, 6]), .inl (0, 40), .inl (0, 40), .inl (2, 5), .inl (0, 40), .inr (4, [3, 0, 4, 0, 5, 0, 0, 0, 6]), .inl (0, 40), .inl (0, 40), .inl (2, 5), .inl (0, 40), .inr (0, [3, 4, 5, 6, 7, 1]), .inl (0, 12), .inl (0, 12), .inl (1, 64), .inl (1, 64), .inl (0, 13), .inr (1, [3, 0, 4]), .inl (0, 6), .inl (1, 1024), .inr (5, [3, 4, 0]), .inl (0, 12), .inl (0, 12), .inr (2, [3, 4, 0]), .inl (1, 15), .inl (0, 15), .inr (2, [3, 4, 0]), .inl (1, 3), .inl (0, 3), .inr (9, [0, 0, 3, 4, 5, 0, 6, 0, 0, 0, 0, 7, 8, 9, 0, 0, 10, 2, 0, 2, 2, 2, 2, 2, 0, 2, 2, 2, 2, 2, 0, 2, 0, 2, 2, 2, 2, 0, 2, 2, 2]), .inl (1, 24), .inl (0, 9), .inl (0, 9), .inl (0, 80), .inl (0, 9), .inl (0, 80), .inl (0, 80), .inl (0, 80)]
def zq93 : List zN := [.inr (8, [3, 5, 7, 9, 11, 13, 18, 23, 29, 32, 35, 38, 0]), .inr (7, [0, 0, 0, 3]), .inl (0, 12), .inr (7, [0, 0, 0, 3]), .inl (0, 12), .inr (7, [0, 0, 0, 3]), .inl (0, 12), .inr (6, [3, 0]), .inl (0, 80), .inr (3, [3, 0]), .inl (1, 8), .inr (4, [3, 0, 4, 0, 5, 0, 0, 0, 6]), .inl (0, 40), .inl (0, 40), .inl (2, 5), .inl (0, 40), .inr (4, [3, 0, 4, 0, 5, 0, 0, 0, 6]), .inl (0, 40), .inl (0, 40), .inl (2, 5), .inl (0, 40), .inr (0, [3, 4, 5, 6, 7, 1]), .inl (0, 12), .inl (0, 12), .inl (1, 64), .inl (1, 64), .inl (0, 13), .inr (1, [3, 0, 4]), .inl (0, 6), .inl (1, 1024), .inr (5, [3, 4, 0]), .inl (0, 12), .inl (0, 12), .inr (2, [3, 4, 0]), .inl (1, 15), .inl (0, 15), .inr (2, [3, 4, 0]), .inl (1, 3), .inl (0, 3), .inr (9, [0, 0, 3, 4, 5, 0, 6, 0, 0, 0, 0, 7, 8, 9, 0, 0, 10, 2, 0, 2, 2, 2, 2, 2, 0, 2, 2, 2, 2, 2, 0, 2, 0, 2, 2, 2, 2, 0, 2, 2, 2]), .inl (1, 24), .inl (0, 9), .inl (0, 9), .inl (0, 80), .inl (0, 9), .inl (0, 80), .inl (0, 80), .inl (0, 80), .inl (0, 8)]
def zq94 : List zN := [.inr (8, [3, 5, 7, 9, 11, 13, 18, 23, 29, 32, 35, 38, 0]), .inr (7, [0, 0, 0, 3]), .inl (0, 12), .inr (7, [0, 0, 0, 3]), .inl (0, 12), .inr (7, [0, 0, 0, 3]), .inl (0, 12), .inr (6, [3, 0]), .inl (0, 80), .inr (3, [3, 0]), .inl (1, 8), .inr (4, [3, 0, 4, 0, 5, 0, 0, 0, 6]), .inl (0, 40), .inl (0, 40), .inl (2, 5), .inl (0, 40), .inr (4, [3, 0, 4, 0, 5, 0, 0, 0, 6]), .inl (0, 40), .inl (0, 40), .inl (2, 5), .inl (0, 40), .inr (0, [3, 4, 5, 6, 7, 1]), .inl (0, 12), .inl (0, 12), .inl (1, 64), .inl (1, 64), .inl (0, 13), .inr (1, [3, 0, 4]), .inl (0, 6), .inl (1, 1024), .inr (5, [3, 4, 0]), .inl (0, 12), .inl (0, 12), .inr (2, [3, 4, 0]), .inl (1, 15), .inl (0, 15), .inr (2, [3, 4, 0]), .inl (1, 3), .inl (0, 3), .inr (9, [0, 0, 3, 4, 5, 0, 6, 0, 0, 0, 0, 7, 8, 9, 0, 0, 10, 11, 0, 2, 2, 2, 2, 2, 0, 2, 2, 2, 2, 2, 0, 2, 0, 2, 2, 2, 2, 0, 2, 2, 2]), .inl (1, 24), .inl (0, 9), .inl (0, 9), .inl (0, 80), .inl (0, 9), .inl (0, 80), .inl (0, 80), .inl (0, 80), .inl (0, 8)]
def zq95 : List zN := [.inr (8, [3, 5, 7, 9, 11, 13, 18, 23, 29, 32, 35, 38, 0]), .inr (7, [0, 0, 0, 3]), .inl (0, 12), .inr (7, [0, 0, 0, 3]), .inl (0, 12), .inr (7, [0, 0, 0, 3]), .inl (0, 12), .inr (6, [3, 0]), .inl (0, 80), .inr (3, [3, 0]), .inl (1, 8), .inr (4, [3, 0, 4, 0, 5, 0, 0, 0, 6]), .inl (0, 40), .inl (0, 40), .inl (2, 5), .inl (0, 40), .inr (4, [3, 0, 4, 0, 5, 0, 0, 0, 6]), .inl (0, 40), .inl (0, 40), .inl (2, 5), .inl (0, 40), .inr (0, [3, 4, 5, 6, 7, 1]), .inl (0, 12), .inl (0, 12), .inl (1, 64), .inl (1, 64), .inl (0, 13), .inr (1, [3, 0, 4]), .inl (0, 6), .inl (1, 1024), .inr (5, [3, 4, 0]), .inl (0, 12), .inl (0, 12), .inr (2, [3, 4, 0]), .inl (1, 15), .inl (0, 15), .inr (2, [3, 4, 0]), .inl (1, 3), .inl (0, 3), .inr (9, [0, 0, 3, 4, 5, 0, 6, 0, 0, 0, 0, 7, 8, 9, 0, 0, 10, 11, 0, 2, 2, 2, 2, 2, 0, 2, 2, 2, 2, 2, 0, 2, 0, 2, 2, 2, 2, 0, 2, 2, 2]), .inl (1, 24), .inl (0, 9), .inl (0, 9), .inl (0, 80), .inl (0, 9), .inl (0, 80), .inl (0, 80), .inl (0, 80), .inl (0, 8), .inl (0, 144)]
def zq96 : List zN := [.inr (8, [3, 5, 7, 9, 11, 13, 18, 23, 29, 32, 35, 38, 0]), .inr (7, [0, 0, 0, 3]), .inl (0, 12), .inr (7, [0, 0, 0, 3]), .inl (0, 12), .inr (7, [0, 0, 0, 3]), .inl (0, 12), .inr (6, [3, 0]), .inl (0, 80), .inr (3, [3, 0]), .inl (1, 8), .inr (4, [3, 0, 4, 0, 5, 0, 0, 0, 6]), .inl (0, 40), .inl (0, 40), .inl (2, 5), .inl (0, 40), .inr (4, [3, 0, 4, 0, 5, 0, 0, 0, 6]), .inl (0, 40), .inl (0, 40), .inl (2, 5), .inl (0, 40), .inr (0, [3, 4, 5, 6, 7, 1]), .inl (0, 12), .inl (0, 12), .inl (1, 64), .inl (1, 64), .inl (0, 13), .inr (1, [3, 0, 4]), .inl (0, 6), .inl (1, 1024), .inr (5, [3, 4, 0]), .inl (0, 12), .inl (0, 12), .inr (2, [3, 4, 0]), .inl (1, 15), .inl (0, 15), .inr (2, [3, 4, 0]), .inl (1, 3), .inl (0, 3), .inr (9, [0, 0, 3, 4, 5, 0, 6, 0, 0, 0, 0, 7, 8, 9, 0, 0, 10, 11, 0, 12, 2, 2, 2, 2, 0, 2, 2, 2, 2, 2, 0, 2, 0, 2, 2, 2, 2, 0, 2, 2, 2]), .inl (1, 24), .inl (0, 9), .inl (0, 9), .inl (0, 80), .inl (0, 9), .inl (0, 80), .inl (0, 80), .inl (0, 80), .inl (0, 8), .inl (0, 144)]
def zq97 : List zN := [.inr (8, [3, 5, 7, 9, 11, 13, 18, 23, 29, 32, 35, 38, 0]), .inr (7, [0, 0, 0, 3]), .inl (0, 12), .inr (7, [0, 0, 0, 3]), .inl (0, 12), .inr (7, [0, 0, 0, 3]), .inl (0, 12), .inr (6, [3, 0]), .inl (0, 80), .inr (3, [3, 0]), .inl (1, 8), .inr (4, [3, 0, 4, 0, 5, 0, 0, 0, 6]), .inl (0, 40), .inl (0, 40), .inl (2, 5), .inl (0, 40), .inr (4, [3, 0, 4, 0, 5, 0, 0, 0, 6]), .inl (0, 40), .inl (0, 40), .inl (2, 5), .inl (0, 40), .inr (0, [3, 4, 5, 6, 7, 1]), .inl (0, 12), .inl (0, 12), .inl (1, 64), .inl (1, 64), .inl (0, 13), .inr (1, [3, 0, 4]), .inl (0, 6), .inl (1, 1024), .inr (5, [3, 4, 0]), .inl (0, 12), .inl (0, 12), .inr (2, [3, 4, 0]), .inl (1, 15), .inl (0, 15), .inr (2, [3, 4, 0]), .inl (1, 3), .inl (0, 3), .inr (9, [0, 0, 3, 4, 5, 0, 6, 0, 0, 0, 0, 7, 8, 9, 0, 0, 10, 11, 0, 12, 2, 2, 2, 2, 0, 2, 2, 2, 2, 2, 0, 2, 0, 2, 2, 2, 2, 0, 2, 2, 2]), .inl (1, 24), .inl (0, 9), .inl (0, 9), .inl (0, 80), .inl (0, 9), .inl (0, 80), .inl (0, 80), .inl (0, 80), .inl (0, 8), .inl (0, 144), .inl (0, 60)]
def zq98 : List zN := [.inr (8, [3, 5, 7, 9, 11, 13, 18, 23, 29, 32, 35, 38, 0]), .inr (7, [0, 0, 0, 3]), .inl (0, 12), .inr (7, [0, 0, 0, 3]), .inl (0, 12), .inr (7, [0, 0, 0, 3]), .inl (0, 12), .inr (6, [3, 0]), .inl (0, 80), .inr (3, [3, 0]), .inl (1, 8), .inr (4, [3, 0, 4, 0, 5, 0, 0, 0, 6]), .inl (0, 40), .inl (0, 40), .inl (2, 5), .inl (0, 40), .inr (4, [3, 0, 4, 0, 5, 0, 0, 0, 6]), .inl (0, 40), .inl (0, 40), .inl (2, 5), .inl (0, 40), .inr (0, [3, 4, 5, 6, 7, 1]), .inl (0, 12), .inl (0, 12), .inl (1, 64), .inl (1, 64), .inl (0, 13), .inr (1, [3, 0, 4]), .inl (0, 6), .inl (1, 1024), .inr (5, [3, 4, 0]), .inl (0, 12), .inl (0, 12), .inr (2, [3, 4, 0]), .inl (1, 15), .inl (0, 15), .inr (2, [3, 4, 0]), .inl (1, 3), .inl (0, 3), .inr (9, [0, 0, 3, 4, 5, 0, 6, 0, 0, 0, 0, 7, 8, 9, 0, 0, 10, 11, 0, 12, 13, 2, 2, 2, 0, 2, 2, 2, 2, 2, 0, 2, 0, 2, 2, 2, 2, 0, 2, 2, 2]), .inl (1, 24), .inl (0, 9), .inl (0, 9), .inl (0, 80), .inl (0, 9), .inl (0, 80), .inl (0, 80), .inl (0, 80), .inl (0, 8), .inl (0, 144), .inl (0, 60)]
def zq99 : List zN := [.inr (8, [3, 5, 7, 9, 11, 13, 18, 23, 29, 32, 35, 38, 0]), .inr (7, [0, 0, 0, 3]), .inl (0, 12), .inr (7, [0, 0, 0, 3]), .inl (0, 12), .inr (7, [0, 0, 0, 3]), .inl (0, 12), .inr (6, [3, 0]), .inl (0, 80), .inr (3, [3, 0]), .inl (1, 8), .inr (4, [3, 0, 4, 0, 5, 0, 0, 0, 6]), .inl (0, 40), .inl (0, 40), .inl (2, 5), .inl (0, 40), .inr (4, [3, 0, 4, 0, 5, 0, 0, 0, 6]), .inl (0, 40), .inl (0, 40), .inl (2, 5), .inl (0, 40), .inr (0, [3, 4, 5, 6, 7, 1]), .inl (0, 12), .inl (0, 12), .inl (1, 64), .inl (1, 64), .inl (0, 13), .inr (1, [3, 0, 4]), .inl (0, 6), .inl (1, 1024), .inr (5, [3, 4, 0]), .inl (0, 12), .inl (0, 12), .inr (2, [3, 4, 0]), .inl (1, 15), .inl (0, 15), .inr (2, [3, 4, 0]), .inl (1, 3), .inl (0, 3), .inr (9, [0, 0, 3, 4, 5, 0, 6, 0, 0, 0, 0, 7, 8, 9, 0, 0, 10, 11, 0, 12, 13, 2, 2, 2, 0, 2, 2, 2, 2, 2, 0, 2, 0, 2, 2, 2, 2, 0, 2, 2, 2]), .inl (1, 24), .inl (0, 9), .inl (0, 9), .inl (0, 80), .inl (0, 9), .inl (0, 80), .inl (0, 80), .inl (0, 80), .inl (0, 8), .inl (0, 144), .inl (0, 60), .inl (0, 60)]
def zq100 : List zN := [.inr (8, [3, 5, 7, 9, 11, 13, 18, 23, 29, 32, 35, 38, 0]), .inr (7, [0, 0, 0, 3]), .inl (0, 12), .inr (7, [0, 0, 0, 3]), .inl (0, 12), .inr (7, [0, 0, 0, 3]), .inl (0, 12), .inr (6, [3, 0]), .inl (0, 80), .inr (3, [3, 0]), .inl (1, 8), .inr (4, [3, 0, 4, 0, 5, 0, 0, 0, 6]), .inl (0, 40), .inl (0, 40), .inl (2, 5), .inl (0, 40), .inr (4, [3, 0, 4, 0, 5, 0, 0, 0, 6]), .inl (0, 40), .inl (0, 40), .inl (2, 5), .inl (0, 40), .inr (0, [3, 4, 5, 6, 7, 1]), .inl (0, 12), .inl (0, 12), .inl (1, 64), .inl (1, 64), .inl (0, 13), .inr (1, [3, 0, 4]), .inl (0, 6), .inl (1, 1024), .inr (5, [3, 4, 0]), .inl (0, 12), .inl (0, 12), .inr (2, [3, 4, 0]), .inl (1, 15), .inl (0, 15), .inr (2, [3, 4, 0]), .inl (1, 3), .inl (0, 3), .inr (9, [0, 0, 3, 4, 5, 0, 6, 0, 0, 0, 0, 7, 8, 9, 0, 0, 10, 11, 0, 12, 13, 14, 2, 2, 0, 2, 2, 2, 2, 2, 0, 2, 0, 2, 2, 2, 2, 0, 2, 2, 2]), .inl (1, 24), .inl (0, 9), .inl (0, 9), .inl (0, 80), .inl (0, 9), .inl (0, 80), .inl (0, 80), .inl (0, 80), .inl (0, 8), .inl (0, 144), .inl (0, 60), .inl (0, 60)]
def zq101 : List zN := [.inr (8, [3, 5, 7, 9, 11, 13, 18, 23, 29, 32, 35, 38, 0]), .inr (7, [0, 0, 0, 3]), .inl (0, 12), .inr (7, [0, 0, 0, 3]), .inl (0, 12), .inr (7, [0, 0, 0, 3]), .inl (0, 12), .inr (6, [3, 0]), .inl (0, 80), .inr (3, [3, 0]), .inl (1, 8), .inr (4, [3, 0, 4, 0, 5, 0, 0, 0, 6]), .inl (0, 40), .inl (0, 40), .inl (2, 5), .inl (0, 40), .inr (4, [3, 0, 4, 0, 5, 0, 0, 0, 6]), .inl (0, 40), .inl (0, 40), .inl (2, 5), .inl (0, 40), .inr (0, [3, 4, 5, 6, 7, 1]), .inl (0, 12), .inl (0, 12), .inl (1, 64), .inl (1, 64), .inl (0, 13), .inr (1, [3, 0, 4]), .inl (0, 6), .inl (1, 1024), .inr (5, [3, 4, 0]), .inl (0, 12), .inl (0, 12), .inr (2, [3, 4, 0]), .inl (1, 15), .inl (0, 15), .inr (2, [3, 4, 0]), .inl (1, 3), .inl (0, 3), .inr (9, [0, 0, 3, 4, 5, 0, 6, 0, 0, 0, 0, 7, 8, 9, 0, 0, 10, 11, 0, 12, 13, 14, 2, 2, 0, 2, 2, 2, 2, 2, 0, 2, 0, 2, 2, 2, 2, 0, 2, 2, 2]), .inl (1, 24), .inl (0, 9), .inl (0, 9), .inl (0, 80), .inl (0, 9), .inl (0, 80), .inl (0, 80), .inl (0, 80), .inl (0, 8), .inl (0, 144), .inl (0, 60), .inl (0, 60), .inl (0, 60)]
def zq102 : List zN := [.inr (8, [3, 5, 7, 9, 11, 13, 18, 23, 29, 32, 35, 38, 0]), .inr (7, [0, 0, 0, 3]), .inl (0, 12), .inr (7, [0, 0, 0, 3]), .inl (0, 12), .inr (7, [0, 0, 0, 3]), .inl (0, 12), .inr (6, [3, 0]), .inl (0, 80), .inr (3, [3, 0]), .inl (1, 8), .inr (4, [3, 0, 4, 0, 5, 0, 0, 0, 6]), .inl (0, 40), .inl (0, 40), .inl (2, 5), .inl (0, 40), .inr (4, [3, 0, 4, 0, 5, 0, 0, 0, 6]), .inl (0, 40), .inl (0, 40), .inl (2, 5), .inl (0, 40), .inr (0, [3, 4, 5, 6, 7, 1]), .inl (0, 12), .inl (0, 12), .inl (1, 64), .inl (1, 64), .inl (0, 13), .inr (1, [3, 0, 4]), .inl (0, 6), .inl (1, 1024), .inr (5, [3, 4, 0]), .inl (0, 12), .inl (0, 12), .inr (2, [3, 4, 0]), .inl (1, 15), .inl (0, 15), .inr (2, [3, 4, 0]), .inl (1, 3), .inl (0, 3), .inr (9, [0, 0, 3, 4, 5, 0, 6, 0, 0, 0, 0, 7, 8, 9, 0, 0, 10, 11, 0, 12, 13, 14, 15, 2, 0, 2, 2, 2, 2, 2, 0, 2, 0, 2, 2, 2, 2, 0, 2, 2, 2]), .inl (1, 24), .inl (0, 9), .inl (0, 9), .inl (0, 80), .inl (0, 9), .inl (0, 80), .inl (0, 80), .inl (0, 80), .inl (0, 8), .inl (0, 144), .inl (0, 60), .inl (0, 60), .inl (0, 60)]
def zq103 : List zN := [.inr (8, [3, 5, 7, 9, 11, 13, 18, 23, 29, 32, 35, 38, 0]), .inr (7, [0, 0, 0, 3]), .inl (0, 12), .inr (7, [0, 0, 0, 3]), .inl (0, 12), .inr (7, [0, 0, 0, 3]), .inl (0, 12), .inr (6, [3, 0]), .inl (0, 80), .inr (3, [3, 0]), .inl (1, 8), .inr (4, [3, 0, 4, 0, 5, 0, 0, 0, 6]), .inl (0, 40), .inl (0, 40), .inl (2, 5), .inl (0, 40), .inr (4, [3, 0, 4, 0, 5, 0, 0, 0, 6]), .inl (0, 40), .inl (0, 40), .inl (2, 5), .inl (0, 40), .inr (0, [3, 4, 5, 6, 7, 1]), .inl (0, 12), .inl (0, 12), .inl (1, 64), .inl (1, 64), .inl (0, 13), .inr (1, [3, 0, 4]), .inl (0, 6), .inl (1, 1024), .inr (5, [3, 4, 0]), .inl (0, 12), .inl (0, 12), .inr (2, [3, 4, 0]), .inl (1, 15), .inl (0, 15), .inr (2, [3, 4, 0]), .inl (1, 3), .inl (0, 3), .inr (9, [0, 0, 3, 4, 5, 0, 6, 0, 0, 0, 0, 7, 8, 9, 0, 0, 10, 11, 0, 12, 13, 14, 15, 2, 0, 2, 2, 2, 2, 2, 0, 2, 0, 2, 2, 2, 2, 0, 2, 2, 2]), .inl (1, 24), .inl (0, 9), .inl (0, 9), .inl (0, 80), .inl (0, 9), .inl (0, 80), .inl (0, 80), .inl (0, 80), .inl (0, 8), .inl (0, 144), .inl (0, 60), .inl (0, 60), .inl (0, 60), .inl (0, 60)]
def zq104 : List zN := [.inr (8, [3, 5, 7, 9, 11, 13, 18, 23, 29, 32, 35, 38, 0]), .inr (7, [0, 0, 0, 3]), .inl (0, 12), .inr (7, [0, 0, 0, 3]), .inl (0, 12), .inr (7, [0, 0, 0, 3]), .inl (0, 12), .inr (6, [3, 0]), .inl (0, 80), .inr (3, [3, 0]), .inl (1, 8), .inr (4, [3, 0, 4, 0, 5, 0, 0, 0, 6]), .inl (0, 40), .inl (0, 40), .inl (2, 5), .inl (0, 40), .inr (4, [3, 0, 4, 0, 5, 0, 0, 0, 6]), .inl (0, 40), .inl (0, 40), .inl (2, 5), .inl (0, 40), .inr (0, [3, 4, 5, 6, 7, 1]), .inl (0, 12), .inl (0, 12), .inl (1, 64), .inl (1, 64), .inl (0, 13), .inr (1, [3, 0, 4]), .inl (0, 6), .inl (1, 1024), .inr (5, [3, 4, 0]), .inl (0, 12), .inl (0, 12), .inr (2, [3, 4, 0]), .inl (1, 15), .inl (0, 15), .inr (2, [3, 4, 0]), .inl (1, 3), .inl (0, 3), .inr (9, [0, 0, 3, 4, 5, 0, 6, 0, 0, 0, 0, 7, 8, 9, 0, 0, 10, 11, 0, 12, 13, 14, 15, 16, 0, 2, 2, 2, 2, 2, 0, 2, 0, 2, 2, 2, 2, 0, 2, 2, 2]), .inl (1, 24), .inl (0, 9), .inl (0, 9), .inl (0, 80), .inl (0, 9), .inl (0, 80), .inl (0, 80), .inl (0, 80), .inl (0, 8), .inl (0, 144), .inl (0, 60), .inl (0, 60), .inl (0, 60), .inl (0, 60)]
def zq105 : List zN := [.inr (8, [3, 5, 7, 9, 11, 13, 18, 23, 29, 32, 35, 38, 0]), .inr (7, [0, 0, 0, 3]), .inl (0, 12), .inr (7, [0, 0, 0, 3]), .inl (0, 12), .inr (7, [0, 0, 0, 3]), .inl (0, 12), .inr (6, [3, 0]), .inl (0, 80), .inr (3, [3, 0]), .inl (1, 8), .inr (4, [3, 0, 4, 0, 5, 0, 0, 0, 6]), .inl (0, 40), .inl (0, 40), .inl (2, 5), .inl (0, 40), .inr (4, [3, 0, 4, 0, 5, 0, 0, 0, 6]), .inl (0, 40), .inl (0, 40), .inl (2, 5), .inl (0, 40), .inr (0, [3, 4, 5, 6, 7, 1]), .inl (0, 12), .inl (0, 12), .inl (1, 64), .inl (1, 64), .inl (0, 13), .inr (1, [3, 0, 4]), .inl (0, 6), .inl (1, 1024), .inr (5, [3, 4, 0]), .inl (0, 12), .inl (0, 12), .inr (2, [3, 4, 0]), .inl (1, 15), .inl (0, 15), .inr (2, [3, 4, 0]), .inl (1, 3), .inl (0, 3), .inr (9, [0, 0, 3, 4, 5, 0, 6, 0, 0, 0, 0, 7, 8, 9, 0, 0, 10, 11, 0, 12, 13, 14, 15, 16, 0, 2, 2, 2, 2, 2, 0, 2, 0, 2, 2, 2, 2, 0, 2, 2, 2]), .inl (1, 24), .inl (0, 9), .inl (0, 9), .inl (0, 80), .inl (0, 9), .inl (0, 80), .inl (0, 80), .inl (0, 80), .inl (0, 8), .inl (0, 144), .inl (0, 60), .inl (0, 60), .inl (0, 60), .inl (0, 60), .inl (0, 12)]
def zq106 : List zN := [.inr (8, [3, 5, 7, 9, 11, 13, 18, 23, 29, 32, 35, 38, 0]), .inr (7, [0, 0, 0, 3]), .inl (0, 12), .inr (7, [0, 0, 0, 3]), .inl (0, 12), .inr (7, [0, 0, 0, 3]), .inl (0, 12), .inr (6, [3, 0]), .inl (0, 80), .inr (3, [3, 0]), .inl (1, 8), .inr (4, [3, 0, 4, 0, 5, 0, 0, 0, 6]), .inl (0, 40), .inl (0, 40), .inl (2, 5), .inl (0, 40), .inr (4, [3, 0, 4, 0, 5, 0, 0, 0, 6]), .inl (0, 40), .inl (0, 40), .inl (2, 5), .inl (0, 40), .inr (0, [3, 4, 5, 6, 7, 1]), .inl (0, 12), .inl (0, 12), .inl (1, 64), .inl (1, 64), .inl (0, 13), .inr (1, [3, 0, 4]), .inl (0, 6), .inl (1, 1024), .inr (5, [3, 4, 0]), .inl (0, 12), .inl (0, 12), .inr (2, [3, 4, 0]), .inl (1, 15), .inl (0, 15), .inr (2, [3, 4, 0]), .inl (1, 3), .inl (0, 3), .inr (9, [0, 0, 3, 4, 5, 0, 6, 0, 0, 0, 0, 7, 8, 9, 0, 0, 10, 11, 0, 12, 13, 14, 15, 16, 0, 17, 2, 2, 2, 2, 0, 2, 0, 2, 2, 2, 2, 0, 2, 2, 2]), .inl (1, 24), .inl (0, 9), .inl (0, 9), .inl (0, 80), .inl (0, 9), .inl (0, 80), .inl (0, 80), .inl (0, 80), .inl (0, 8), .inl (0, 144), .inl (0, 60), .inl (0, 60), .inl (0, 60), .inl (0, 60), .inl (0, 12)]
def zq107 : List zN := [.inr (8, [3, 5, 7, 9, 11, 13, 18, 23, 29, 32, 35, 38, 0]), .inr (7, [0, 0, 0, 3]), .inl (0, 12), .inr (7, [0, 0, 0, 3]), .inl (0, 12), .inr (7, [0, 0, 0, 3]), .inl (0, 12), .inr (6, [3, 0]), .inl (0, 80), .inr (3, [3, 0]), .inl (1, 8), .inr (4, [3, 0, 4, 0, 5, 0, 0, 0, 6]), .inl (0, 40), .inl (0, 40), .inl (2, 5), .inl (0, 40), .inr (4, [3, 0, 4, 0, 5, 0, 0, 0, 6]), .inl (0, 40), .inl (0, 40), .inl (2, 5), .inl (0, 40), .inr (0, [3, 4, 5, 6, 7, 1]), .inl (0, 12), .inl (0, 12), .inl (1, 64), .inl (1, 64), .inl (0, 13), .inr (1, [3, 0, 4]), .inl (0, 6), .inl (1, 1024), .inr (5, [3, 4, 0]), .inl (0, 12), .inl (0, 12), .inr (2, [3, 4, 0]), .inl (1, 15), .inl (0, 15), .inr (2, [3, 4, 0]), .inl (1, 3), .inl (0, 3), .inr (9, [0, 0, 3, 4, 5, 0, 6, 0, 0, 0, 0, 7, 8, 9, 0, 0, 10, 11, 0, 12, 13, 14, 15, 16, 0, 17, 2, 2, 2, 2, 0, 2, 0, 2, 2, 2, 2, 0, 2, 2, 2]), .inl (1, 24), .inl (0, 9), .inl (0, 9), .inl (0, 80), .inl (0, 9), .inl (0, 80), .inl (0, 80), .inl (0, 80), .inl (0, 8), .inl (0, 144), .inl (0, 60), .inl (0, 60), .inl (0, 60), .inl (0, 60), .inl (0, 12), .inl (0, 12)]
def zq108 : List zN := [.inr (8, [3, 5, 7, 9, 11, 13, 18, 23, 29, 32, 35, 38, 0]), .inr (7, [0, 0, 0, 3]), .inl (0, 12), .inr (7, [0, 0, 0, 3]), .inl (0, 12), .inr (7, [0, 0, 0, 3]), .inl (0, 12), .inr (6, [3, 0]), .inl (0, 80), .inr (3, [3, 0]), .inl (1, 8), .inr (4, [3, 0, 4, 0, 5, 0, 0, 0, 6]), .inl (0, 40), .inl (0, 40), .inl (2, 5), .inl (0, 40), .inr (4, [3, 0, 4, 0, 5, 0, 0, 0, 6]), .inl (0, 40), .inl (0, 40), .inl (2, 5), .inl (0, 40), .inr (0, [3, 4, 5, 6, 7, 1]), .inl (0, 12), .inl (0, 12), .inl (1, 64), .inl (1, 64), .inl (0, 13), .inr (1, [3, 0, 4]), .inl (0, 6), .inl (1, 1024), .inr (5, [3, 4, 0]), .inl (0, 12), .inl (0, 12), .inr (2, [3, 4, 0]), .inl (1, 15), .inl (0, 15), .inr (2, [3, 4, 0]), .inl (1, 3), .inl (0, 3), .inr (9, [0, 0, 3, 4, 5, 0, 6, 0, 0, 0, 0, 7, 8, 9, 0, 0, 10, 11, 0, 12, 13, 14, 15, 16, 0, 17, 18, 2, 2, 2, 0, 2, 0, 2, 2, 2, 2, 0, 2, 2, 2]), .inl (1, 24), .inl (0, 9), .inl (0, 9), .inl (0, 80), .inl (0, 9), .inl (0, 80), .inl (0, 80), .inl (0, 80), .inl (0, 8), .inl (0, 144), .inl (0, 60), .inl (0, 60), .inl (0, 60), .inl (0, 60), .inl (0, 12), .inl (0, 12)]
def zq109 : List zN := [.inr (8, [3, 5, 7, 9, 11, 13, 18, 23, 29, 32, 35, 38, 0]), .inr (7, [0, 0, 0, 3]), .inl (0, 12), .inr (7, [0, 0, 0, 3]), .inl (0, 12), .inr (7, [0, 0, 0, 3]), .inl (0, 12), .inr (6, [3, 0]), .inl (0, 80), .inr (3, [3, 0]), .inl (1, 8), .inr (4, [3, 0, 4, 0, 5, 0, 0, 0, 6]), .inl (0, 40), .inl (0, 40), .inl (2, 5), .inl (0, 40), .inr (4, [3, 0, 4, 0, 5, 0, 0, 0, 6]), .inl (0, 40), .inl (0, 40), .inl (2, 5), .inl (0, 40), .inr (0, [3, 4, 5, 6, 7, 1]), .inl (0, 12), .inl (0, 12), .inl (1, 64), .inl (1, 64), .inl (0, 13), .inr (1, [3, 0, 4]), .inl (0, 6), .inl (1, 1024), .inr (5, [3, 4, 0]), .inl (0, 12), .inl (0, 12), .inr (2, [3, 4, 0]), .inl (1, 15), .inl (0, 15), .inr (2, [3, 4, 0]), .inl (1, 3), .inl (0, 3), .inr (9, [0, 0, 3, 4, 5, 0, 6, 0, 0, 0, 0, 7, 8, 9, 0, 0, 10, 11, 0, 12, 13, 14, 15, 16, 0, 17, 18, 2, 2, 2, 0, 2, 0, 2, 2, 2, 2, 0, 2, 2, 2]), .inl (1, 24), .inl (0, 9), .inl (0, 9), .inl (0, 80), .inl (0, 9), .inl (0, 80), .inl (0, 80), .inl (0, 80), .inl (0, 8), .inl (0, 144), .inl (0, 60), .inl (0, 60), .inl (0, 60), .inl (0, 60), .inl (0, 12), .inl (0, 12), .inl (2, 4096)]
def zq110 : List zN := [.inr (8, [3, 5, 7, 9, 11, 13, 18, 23, 29, 32, 35, 38, 0]), .inr (7, [0, 0, 0, 3]), .inl (0, 12), .inr (7, [0, 0, 0, 3]), .inl (0, 12), .inr (7, [0, 0, 0, 3]), .inl (0, 12), .inr (6, [3, 0]), .inl (0, 80), .inr (3, [3, 0]), .inl (1, 8), .inr (4, [3, 0, 4, 0, 5, 0, 0, 0, 6]), .inl (0, 40), .inl (0, 40), .inl (2, 5), .inl (0, 40), .inr (4, [3, 0, 4, 0, 5, 0, 0, 0, 6]), .inl (0, 40), .inl (0, 40), .inl (2, 5), .inl (0, 40), .inr (0, [3, 4, 5, 6, 7, 1]), .inl (0, 12), .inl (0, 12), .inl (1, 64), .inl (1, 64), .inl (0, 13), .inr (1, [3, 0, 4]), .inl (0, 6), .inl (1, 1024), .inr (5, [3, 4, 0]), .inl (0, 12), .inl (0, 12), .inr (2, [3, 4, 0]), .inl (1, 15), .inl (0, 15), .inr (2, [3, 4, 0]), .inl (1, 3), .inl (0, 3), .inr (9, [0, 0, 3, 4, 5, 0, 6, 0, 0, 0, 0, 7, 8, 9, 0, 0, 10, 11, 0, 12, 13, 14, 15, 16, 0, 17, 18, 19, 2, 2, 0, 2, 0, 2, 2, 2, 2, 0, 2, 2, 2]), .inl (1, 24), .inl (0, 9), .inl (0, 9), .inl (0, 80), .inl (0, 9), .inl (0, 80), .inl (0, 80), .inl (0, 80), .inl (0, 8), .inl (0, 144), .inl (0, 60), .inl (0, 60), .inl (0, 60), .inl (0, 60), .inl (0, 12), .inl (0, 12), .inl (2, 4096)]
def zq111 : List zN := [.inr (8, [3, 5, 7, 9, 11, 13, 18, 23, 29, 32, 35, 38, 0]), .inr (7, [0, 0, 0, 3]), .inl (0, 12), .inr (7, [0, 0, 0, 3]), .inl (0, 12), .inr (7, [0, 0, 0, 3]), .inl (0, 12), .inr (6, [3, 0]), .inl (0, 80), .inr (3, [3, 0]), .inl (1, 8), .inr (4, [3, 0, 4, 0, 5, 0, 0, 0, 6]), .inl (0, 40), .inl (0, 40), .inl (2, 5), .inl (0, 40), .inr (4, [3, 0, 4, 0, 5, 0, 0, 0, 6]), .inl (0, 40), .inl (0, 40), .inl (2, 5), .inl (0, 40), .inr (0, [3, 4, 5, 6, 7, 1]), .inl (0, 12), .inl (0, 12), .inl (1, 64), .inl (1, 64), .inl (0, 13), .inr (1, [3, 0, 4]), .inl (0, 6), .inl (1, 1024), .inr (5, [3, 4, 0]), .inl (0, 12), .inl (0, 12), .inr (2, [3, 4, 0]), .inl (1, 15), .inl (0, 15), .inr (2, [3, 4, 0]), .inl (1, 3), .inl (0, 3), .inr (9, [0, 0, 3, 4, 5, 0, 6, 0, 0, 0, 0, 7, 8, 9, 0, 0, 10, 11, 0, 12, 13, 14, 15, 16, 0, 17, 18, 19, 2, 2, 0, 2, 0, 2, 2, 2, 2, 0, 2, 2, 2]), .inl (1, 24), .inl (0, 9), .inl (0, 9), .inl (0, 80), .inl (0, 9), .inl (0, 80), .inl (0, 80), .inl (0, 80), .inl (0, 8), .inl (0, 144), .inl (0, 60), .inl (0, 60), .inl (0, 60), .inl (0, 60), .inl (0, 12), .inl (0, 12), .inl (2, 4096), .inl (1, 500)]
def zq112 : List zN := [.inr (8, [3, 5, 7, 9, 11, 13, 18, 23, 29, 32, 35, 38, 0]), .inr (7, [0, 0, 0, 3]), .inl (0, 12), .inr (7, [0, 0, 0, 3]), .inl (0, 12), .inr (7, [0, 0, 0, 3]), .inl (0, 12), .inr (6, [3, 0]), .inl (0, 80), .inr (3, [3, 0]), .inl (1, 8), .inr (4, [3, 0, 4, 0, 5, 0, 0, 0, 6]), .inl (0, 40), .inl (0, 40), .inl (2, 5), .inl (0, 40), .inr (4, [3, 0, 4, 0, 5, 0, 0, 0, 6]), .inl (0, 40), .inl (0, 40), .inl (2, 5), .inl (0, 40), .inr (0, [3, 4, 5, 6, 7, 1]), .inl (0, 12), .inl (0, 12), .inl (1, 64), .inl (1, 64), .inl (0, 13), .inr (1, [3, 0, 4]), .inl (0, 6), .inl (1, 1024), .inr (5, [3, 4, 0]), .inl (0, 12), .inl (0, 12), .inr (2, [3, 4, 0]), .inl (1, 15), .inl (0, 15), .inr (2, [3, 4, 0]), .inl (1, 3), .inl (0, 3), .inr (9, [0, 0, 3, 4, 5, 0, 6, 0, 0, 0, 0, 7, 8, 9, 0, 0, 10, 11, 0, 12, 13, 14, 15, 16, 0, 17, 18, 19, 20, 2, 0, 2, 0, 2, 2, 2, 2, 0, 2, 2, 2]), .inl (1, 24), .inl (0, 9), .inl (0, 9), .inl (0, 80), .inl (0, 9), .inl (0, 80), .inl (0, 80), .inl (0, 80), .inl (0, 8), .inl (0, 144), .inl (0, 60), .inl (0, 60), .inl (0, 60), .inl (0, 60), .inl (0, 12), .inl (0, 12), .inl (2, 4096), .inl (1, 500)]
def zq113 : List zN := [.inr (8, [3, 5, 7, 9, 11, 13, 18, 23, 29, 32, 35, 38, 0]), .inr (7, [0, 0, 0, 3]), .inl (0, 12), .inr (7, [0, 0, 0, 3]), .inl (0, 12), .inr (7, [0, 0, 0, 3]), .inl (0, 12), .inr (6, [3, 0]), .inl (0, 80), .inr (3, [3, 0]), .inl (1, 8), .inr (4, [3, 0, 4, 0, 5, 0, 0, 0, 6]), .inl (0, 40), .inl (0, 40), .inl (2, 5), .inl (0, 40), .inr (4, [3, 0, 4, 0, 5, 0, 0, 0, 6]), .inl (0, 40), .inl (0, 40), .inl (2, 5), .inl (0, 40), .inr (0, [3, 4, 5, 6, 7, 1]), .inl (0, 12), .inl (0, 12), .inl (1, 64), .inl (1, 64), .inl (0, 13), .inr (1, [3, 0, 4]), .inl (0, 6), .inl (1, 1024), .inr (5, [3, 4, 0]), .inl (0, 12), .inl (0, 12), .inr (2, [3, 4, 0]), .inl (1, 15), .inl (0, 15), .inr (2, [3, 4, 0]), .inl (1, 3), .inl (0, 3), .inr (9, [0, 0, 3, 4, 5, 0, 6, 0, 0, 0, 0, 7, 8, 9, 0, 0, 10, 11, 0, 12, 13, 14, 15, 16, 0, 17, 18, 19, 20, 2, 0, 2, 0, 2, 2, 2, 2, 0, 2, 2, 2]), .inl (1, 24), .inl (0, 9), .inl (0, 9), .inl (0, 80), .inl (0, 9), .inl (0, 80), .inl (0, 80), .inl (0, 80), .inl (0, 8), .inl (0, 144), .inl (0, 60), .inl (0, 60), .inl (0, 60), .inl (0, 60), .inl (0, 12), .inl (0, 12), .inl (2, 4096), .inl (1, 500), .inl (0, 4096)]
def zq114 : List zN := [.inr (8, [3, 5, 7, 9, 11, 13, 18, 23, 29, 32, 35, 38, 0]), .inr (7, [0, 0, 0, 3]), .inl (0, 12), .inr (7, [0, 0, 0, 3]), .inl (0, 12), .inr (7, [0, 0, 0, 3]), .inl (0, 12), .inr (6, [3, 0]), .inl (0, 80), .inr (3, [3, 0]), .inl (1, 8), .inr (4, [3, 0, 4, 0, 5, 0, 0, 0, 6]), .inl (0, 40), .inl (0, 40), .inl (2, 5), .inl (0, 40), .inr (4, [3, 0, 4, 0, 5, 0, 0, 0, 6]), .inl (0, 40), .inl (0, 40), .inl (2, 5), .inl (0, 40), .inr (0, [3, 4, 5, 6, 7, 1]), .inl (0, 12), .inl (0, 12), .inl (1, 64), .inl (1, 64), .inl (0, 13), .inr (1, [3, 0, 4]), .inl (0, 6), .inl (1, 1024), .inr (5, [3, 4, 0]), .inl (0, 12), .inl (0, 12), .inr (2, [3, 4, 0]), .inl (1, 15), .inl (0, 15), .inr (2, [3, 4, 0]), .inl (1, 3), .inl (0, 3), .inr (9, [0, 0, 3, 4, 5, 0, 6, 0, 0, 0, 0, 7, 8, 9, 0, 0, 10, 11, 0, 12, 13, 14, 15, 16, 0, 17, 18, 19, 20, 21, 0, 2, 0, 2, 2, 2, 2, 0, 2, 2, 2]), .inl (1, 24), .inl (0, 9), .inl (0, 9), .inl (0, 80), .inl (0, 9), .inl (0, 80), .inl (0, 80), .inl (0, 80), .inl (0, 8), .inl (0, 144), .inl (0, 60), .inl (0, 60), .inl (0, 60), .inl (0, 60), .inl (0, 12), .inl (0, 12), .inl (2, 4096), .inl (1, 500), .inl (0, 4096)]
def zq115 : List zN := [.inr (8, [3, 5, 7, 9, 11, 13, 18, 23, 29, 32, 35, 38, 0]), .inr (7, [0, 0, 0, 3]), .inl (0, 12), .inr (7, [0, 0, 0, 3]), .inl (0, 12), .inr (7, [0, 0, 0, 3]), .inl (0, 12), .inr (6, [3, 0]), .inl (0, 80), .inr (3, [3, 0]), .inl (1, 8), .inr (4, [3, 0, 4, 0, 5, 0, 0, 0, 6]), .inl (0, 40), .inl (0, 40), .inl (2, 5), .inl (0, 40), .inr (4, [3, 0, 4, 0, 5, 0, 0, 0, 6]), .inl (0, 40), .inl (0, 40), .inl (2, 5), .inl (0, 40), .inr (0, [3, 4, 5, 6, 7, 1]), .inl (0, 12), .inl (0, 12), .inl (1, 64), .inl (1, 64), .inl (0, 13), .inr (1, [3, 0, 4]), .inl (0, 6), .inl (1, 1024), .inr (5, [3, 4, 0]), .inl (0, 12), .inl (0, 12), .inr (2, [3, 4, 0]), .inl (1, 15), .inl (0, 15), .inr (2, [3, 4, 0]), .inl (1, 3), .inl (0, 3), .inr (9, [0, 0, 3, 4, 5, 0, 6, 0, 0, 0, 0, 7, 8, 9, 0, 0, 10, 11, 0, 12, 13, 14, 15, 16, 0, 17, 18, 19, 20, 21, 0, 2, 0, 2, 2, 2, 2, 0, 2, 2, 2]), .inl (1, 24), .inl (0, 9), .inl (0, 9), .inl (0, 80), .inl (0, 9), .inl (0, 80), .inl (0, 80), .inl (0, 80), .inl (0, 8), .inl (0, 144), .inl (0, 60), .inl (0, 60), .inl (0, 60), .inl (0, 60), .inl (0, 12), .inl (0, 12), .inl (2, 4096), .inl (1, 500), .inl (0, 4096), .inl (2, 4096)]
def zq116 : List zN := [.inr (8, [3, 5, 7, 9, 11, 13, 18, 23, 29, 32, 35, 38, 0]), .inr (7, [0, 0, 0, 3]), .inl (0, 12), .inr (7, [0, 0, 0, 3]), .inl (0, 12), .inr (7, [0, 0, 0, 3]), .inl (0, 12), .inr (6, [3, 0]), .inl (0, 80), .inr (3, [3, 0]), .inl (1, 8), .inr (4, [3, 0, 4, 0, 5, 0, 0, 0, 6]), .inl (0, 40), .inl (0, 40), .inl (2, 5), .inl (0, 40), .inr (4, [3, 0, 4, 0, 5, 0, 0, 0, 6]), .inl (0, 40), .inl (0, 40), .inl (2, 5), .inl (0, 40), .inr (0, [3, 4, 5, 6, 7, 1]), .inl (0, 12), .inl (0, 12), .inl (1, 64), .inl (1, 64), .inl (0, 13), .inr (1, [3, 0, 4]), .inl (0, 6), .inl (1, 1024), .inr (5, [3, 4, 0]), .inl (0, 12), .inl (0, 12), .inr (2, [3, 4, 0]), .inl (1, 15), .inl (0, 15), .inr (2, [3, 4, 0]), .inl (1, 3), .inl (0, 3), .inr (9, [0, 0, 3, 4, 5, 0, 6, 0, 0, 0, 0, 7, 8, 9, 0, 0, 10, 11, 0, 12, 13, 14, 15, 16, 0, 17, 18, 19, 20, 21, 0, 22, 0, 2, 2, 2, 2, 0, 2, 2, 2]), .inl (1, 24), .inl (0, 9), .inl (0, 9), .inl (0, 80), .inl (0, 9), .inl (0, 80), .inl (0, 80), .inl (0, 80), .inl (0, 8), .inl (0, 144), .inl (0, 60), .inl (0, 60), .inl (0, 60), .inl (0, 60), .inl (0, 12), .inl (0, 12), .inl (2, 4096), .inl (1, 500), .inl (0, 4096), .inl (2, 4096)]
def zq117 : List zN := [.inr (8, [3, 5, 7, 9, 11, 13, 18, 23, 29, 32, 35, 38, 0]), .inr (7, [0, 0, 0, 3]), .inl (0, 12), .inr (7, [0, 0, 0, 3]), .inl (0, 12), .inr (7, [0, 0, 0, 3]), .inl (0, 12), .inr (6, [3, 0]), .inl (0, 80), .inr (3, [3, 0]), .inl (1, 8), .inr (4, [3, 0, 4, 0, 5, 0, 0, 0, 6]), .inl (0, 40), .inl (0, 40), .inl (2, 5), .inl (0, 40), .inr (4, [3, 0, 4, 0, 5, 0, 0, 0, 6]), .inl (0, 40), .inl (0, 40), .inl (2, 5), .inl (0, 40), .inr (0, [3, 4, 5, 6, 7, 1]), .inl (0, 12), .inl (0, 12), .inl (1, 64), .inl (1, 64), .inl (0, 13), .inr (1, [3, 0, 4]), .inl (0, 6), .inl (1, 1024), .inr (5, [3, 4, 0]), .inl (0, 12), .inl (0, 12), .inr (2, [3, 4, 0]), .inl (1, 15), .inl (0, 15), .inr (2, [3, 4, 0]), .inl (1, 3), .inl (0, 3), .inr (9, [0, 0, 3, 4, 5, 0, 6, 0, 0, 0, 0, 7, 8, 9, 0, 0, 10, 11, 0, 12, 13, 14, 15, 16, 0, 17, 18, 19, 20, 21, 0, 22, 0, 2, 2, 2, 2, 0, 2, 2, 2]), .inl (1, 24), .inl (0, 9), .inl (0, 9), .inl (0, 80), .inl (0, 9), .inl (0, 80), .inl (0, 80), .inl (0, 80), .inl (0, 8), .inl (0, 144), .inl (0, 60), .inl (0, 60), .inl (0, 60), .inl (0, 60), .inl (0, 12), .inl (0, 12), .inl (2, 4096), .inl (1, 500), .inl (0, 4096), .inl (2, 4096), .inl (0, 12)]
def zq118 : List zN := [.inr (8, [3, 5, 7, 9, 11, 13, 18, 23, 29, 32, 35, 38, 0]), .inr (7, [0, 0, 0, 3]), .inl (0, 12), .inr (7, [0, 0, 0, 3]), .inl (0, 12), .inr (7, [0, 0, 0, 3]), .inl (0, 12), .inr (6, [3, 0]), .inl (0, 80), .inr (3, [3, 0]), .inl (1, 8), .inr (4, [3, 0, 4, 0, 5, 0, 0, 0, 6]), .inl (0, 40), .inl (0, 40), .inl (2, 5), .inl (0, 40), .inr (4, [3, 0, 4, 0, 5, 0, 0, 0, 6]), .inl (0, 40), .inl (0, 40), .inl (2, 5), .inl (0, 40), .inr (0, [3, 4, 5, 6, 7, 1]), .inl (0, 12), .inl (0, 12), .inl (1, 64), .inl (1, 64), .inl (0, 13), .inr (1, [3, 0, 4]), .inl (0, 6), .inl (1, 1024), .inr (5, [3, 4, 0]), .inl (0, 12), .inl (0, 12), .inr (2, [3, 4, 0]), .inl (1, 15), .inl (0, 15), .inr (2, [3, 4, 0]), .inl (1, 3), .inl (0, 3), .inr (9, [0, 0, 3, 4, 5, 0, 6, 0, 0, 0, 0, 7, 8, 9, 0, 0, 10, 11, 0, 12, 13, 14, 15, 16, 0, 17, 18, 19, 20, 21, 0, 22, 0, 23, 2, 2, 2, 0, 2, 2, 2]), .inl (1, 24), .inl (0, 9), .inl (0, 9), .inl (0, 80), .inl (0, 9), .inl (0, 80), .inl (0, 80), .inl (0, 80), .inl (0, 8), .inl (0, 144), .inl (0, 60), .inl (0, 60), .inl (0, 60), .inl (0, 60), .inl (0, 12), .inl (0, 12), .inl (2, 4096), .inl (1, 500), .inl (0, 4096), .inl (2, 4096), .inl (0, 12)]
def zq119 : List zN := [.inr (8, [3, 5, 7, 9, 11, 13, 18, 23, 29, 32, 35, 38, 0]), .inr (7, [0, 0, 0, 3]), .inl (0, 12), .inr (7, [0, 0, 0, 3]), .inl (0, 12), .inr (7, [0, 0, 0, 3]), .inl (0, 12), .inr (6, [3, 0]), .inl (0, 80), .inr (3, [3, 0]), .inl (1, 8), .inr (4, [3, 0, 4, 0, 5, 0, 0, 0, 6]), .inl (0, 40), .inl (0, 40), .inl (2, 5), .inl (0, 40), .inr (4, [3, 0, 4, 0, 5, 0, 0, 0, 6]), .inl (0, 40), .inl (0, 40), .inl (2, 5), .inl (0, 40), .inr (0, [3, 4, 5, 6, 7, 1]), .inl (0, 12), .inl (0, 12), .inl (1, 64), .inl (1, 64), .inl (0, 13), .inr (1, [3, 0, 4]), .inl (0, 6), .inl (1, 1024), .inr (5, [3, 4, 0]), .inl (0, 12), .inl (0, 12), .inr (2, [3, 4, 0]), .inl (1, 15), .inl (0, 15), .inr (2, [3, 4, 0]), .inl (1, 3), .inl (0, 3), .inr (9, [0, 0, 3, 4, 5, 0, 6, 0, 0, 0, 0, 7, 8, 9, 0, 0, 10, 11, 0, 12, 13, 14, 15, 16, 0, 17, 18, 19, 20, 21, 0, 22, 0, 23, 2, 2, 2, 0, 2, 2, 2]), .inl (1, 24), .inl (0, 9), .inl (0, 9), .inl (0, 80), .inl (0, 9), .inl (0, 80), .inl (0, 80), .inl (0, 80), .inl (0, 8), .inl (0, 144), .inl (0, 60), .inl (0, 60), .inl (0, 60), .inl (0, 60), .inl (0, 12), .inl (0, 12), .inl (2, 4096), .inl (1, 500), .inl (0, 4096), .inl (2, 4096), .inl (0, 12), .inl (0, 12)]
def zq120 : List zN := [.inr (8, [3, 5, 7, 9, 11, 13, 18, 23, 29, 32, 35, 38, 0]), .inr (7, [0, 0, 0, 3]), .inl (0, 12), .inr (7, [0, 0, 0, 3]), .inl (0, 12), .inr (7, [0, 0, 0, 3]), .inl (0, 12), .inr (6, [3, 0]), .inl (0, 80), .inr (3, [3, 0]), .inl (1, 8), .inr (4, [3, 0, 4, 0, 5, 0, 0, 0, 6]), .inl (0, 40), .inl (0, 40), .inl (2, 5), .inl (0, 40), .inr (4, [3, 0, 4, 0, 5, 0, 0, 0, 6]), .inl (0, 40), .inl (0, 40), .inl (2, 5), .inl (0, 40), .inr (0, [3, 4, 5, 6, 7, 1]), .inl (0, 12), .inl (0, 12), .inl (1, 64), .inl (1, 64), .inl (0, 13), .inr (1, [3, 0, 4]), .inl (0, 6), .inl (1, 1024), .inr (5, [3, 4, 0]), .inl (0, 12), .inl (0, 12), .inr (2, [3, 4, 0]), .inl (1, 15), .inl (0, 15), .inr (2, [3, 4, 0]), .inl (1, 3), .inl (0, 3), .inr (9, [0, 0, 3, 4, 5, 0, 6, 0, 0, 0, 0, 7, 8, 9, 0, 0, 10, 11, 0, 12, 13, 14, 15, 16, 0, 17, 18, 19, 20, 21, 0, 22, 0, 23, 24, 2, 2, 0, 2, 2, 2]), .inl (1, 24), .inl (0, 9), .inl (0, 9), .inl (0, 80), .inl (0, 9), .inl (0, 80), .inl (0, 80), .inl (0, 80), .inl (0, 8), .inl (0, 144), .inl (0, 60), .inl (0, 60), .inl (0, 60), .inl (0, 60), .inl (0, 12), .inl (0, 12), .inl (2, 4096), .inl (1, 500), .inl (0, 4096), .inl (2, 4096), .inl (0, 12), .inl (0, 12)]
def zq121 : List zN := [.inr (8, [3, 5, 7, 9, 11, 13, 18, 23, 29, 32, 35, 38, 0]), .inr (7, [0, 0, 0, 3]), .inl (0, 12), .inr (7, [0, 0, 0, 3]), .inl (0, 12), .inr (7, [0, 0, 0, 3]), .inl (0, 12), .inr (6, [3, 0]), .inl (0, 80), .inr (3, [3, 0]), .inl (1, 8), .inr (4, [3, 0, 4, 0, 5, 0, 0, 0, 6]), .inl (0, 40), .inl (0, 40), .inl (2, 5), .inl (0, 40), .inr (4, [3, 0, 4, 0, 5, 0, 0, 0, 6]), .inl (0, 40), .inl (0, 40), .inl (2, 5), .inl (0, 40), .inr (0, [3, 4, 5, 6, 7, 1]), .inl (0, 12), .inl (0, 12), .inl (1, 64), .inl (1, 64), .inl (0, 13), .inr (1, [3, 0, 4]), .inl (0, 6), .inl (1, 1024), .inr (5, [3, 4, 0]), .inl (0, 12), .inl (0, 12), .inr (2, [3, 4, 0]), .inl (1, 15), .inl (0, 15), .inr (2, [3, 4, 0]), .inl (1, 3), .inl (0, 3), .inr (9, [0, 0, 3, 4, 5, 0, 6, 0, 0, 0, 0, 7, 8, 9, 0, 0, 10, 11, 0, 12, 13, 14, 15, 16, 0, 17, 18, 19, 20, 21, 0, 22, 0, 23, 24, 2, 2, 0, 2, 2, 2]), .inl (1, 24), .inl (0, 9), .inl (0, 9), .inl (0, 80), .inl (0, 9), .inl (0, 80), .inl (0, 80), .inl (0, 80), .inl (0, 8), .inl (0, 144), .inl (0, 60), .inl (0, 60), .inl (0, 60), .inl (0, 60), .inl (0, 12), .inl (0, 12), .inl (2, 4096), .inl (1, 500), .inl (0, 4096), .inl (2, 4096), .inl (0, 12), .inl (0, 12), .inl (0, 80)]
def zq122 : List zN := [.inr (8, [3, 5, 7, 9, 11, 13, 18, 23, 29, 32, 35, 38, 0]), .inr (7, [0, 0, 0, 3]), .inl (0, 12), .inr (7, [0, 0, 0, 3]), .inl (0, 12), .inr (7, [0, 0, 0, 3]), .inl (0, 12), .inr (6, [3, 0]), .inl (0, 80), .inr (3, [3, 0]), .inl (1, 8), .inr (4, [3, 0, 4, 0, 5, 0, 0, 0, 6]), .inl (0, 40), .inl (0, 40), .inl (2, 5), .inl (0, 40), .inr (4, [3, 0, 4, 0, 5, 0, 0, 0, 6]), .inl (0, 40), .inl (0, 40), .inl (2, 5), .inl (0, 40), .inr (0, [3, 4, 5, 6, 7, 1]), .inl (0, 12), .inl (0, 12), .inl (1, 64), .inl (1, 64), .inl (0, 13), .inr (1, [3, 0, 4]), .inl (0, 6), .inl (1, 1024), .inr (5, [3, 4, 0]), .inl (0, 12), .inl (0, 12), .inr (2, [3, 4, 0]), .inl (1, 15), .inl (0, 15), .inr (2, [3, 4, 0]), .inl (1, 3), .inl (0, 3), .inr (9, [0, 0, 3, 4, 5, 0, 6, 0, 0, 0, 0, 7, 8, 9, 0, 0, 10, 11, 0, 12, 13, 14, 15, 16, 0, 17, 18, 19, 20, 21, 0, 22, 0, 23, 24, 25, 2, 0, 2, 2, 2]), .inl (1, 24), .inl (0, 9), .inl (0, 9), .inl (0, 80), .inl (0, 9), .inl (0, 80), .inl (0, 80), .inl (0, 80), .inl (0, 8), .inl (0, 144), .inl (0, 60), .inl (0, 60), .inl (0, 60), .inl (0, 60), .inl (0, 12), .inl (0, 12), .inl (2, 4096), .inl (1, 500), .inl (0, 4096), .inl (2, 4096), .inl (0, 12), .inl (0, 12), .inl (0, 80)]
def zq123 : List zN := [.inr (8, [3, 5, 7, 9, 11, 13, 18, 23, 29, 32, 35, 38, 0]), .inr (7, [0, 0, 0, 3]), .inl (0, 12), .inr (7, [0, 0, 0, 3]), .inl (0, 12), .inr (7, [0, 0, 0, 3]), .inl (0, 12), .inr (6, [3, 0]), .inl (0, 80), .inr (3, [3, 0]), .inl (1, 8), .inr (4, [3, 0, 4, 0, 5, 0, 0, 0, 6]), .inl (0, 40), .inl (0, 40), .inl (2, 5), .inl (0, 40), .inr (4, [3, 0, 4, 0, 5, 0, 0, 0, 6]), .inl (0, 40), .inl (0, 40), .inl (2, 5), .inl (0, 40), .inr (0, [3, 4, 5, 6, 7, 1]), .inl (0, 12), .inl (0, 12), .inl (1, 64), .inl (1, 64), .inl (0, 13), .inr (1, [3, 0, 4]), .inl (0, 6), .inl (1, 1024), .inr (5, [3, 4, 0]), .inl (0, 12), .inl (0, 12), .inr (2, [3, 4, 0]), .inl (1, 15), .inl (0, 15), .inr (2, [3, 4, 0]), .inl (1, 3), .inl (0, 3), .inr (9, [0, 0, 3, 4, 5, 0, 6, 0, 0, 0, 0, 7, 8, 9, 0, 0, 10, 11, 0, 12, 13, 14, 15, 16, 0, 17, 18, 19, 20, 21, 0, 22, 0, 23, 24, 25, 2, 0, 2, 2, 2]), .inl (1, 24), .inl (0, 9), .inl (0, 9), .inl (0, 80), .inl (0, 9), .inl (0, 80), .inl (0, 80), .inl (0, 80), .inl (0, 8), .inl (0, 144), .inl (0, 60), .inl (0, 60), .inl (0, 60), .inl (0, 60), .inl (0, 12), .inl (0, 12), .inl (2, 4096), .inl (1, 500), .inl (0, 4096), .inl (2, 4096), .inl (0, 12), .inl (0, 12), .inl (0, 80), .inl (0, 10)]
def zq124 : List zN := [.inr (8, [3, 5, 7, 9, 11, 13, 18, 23, 29, 32, 35, 38, 0]), .inr (7, [0, 0, 0, 3]), .inl (0, 12), .inr (7, [0, 0, 0, 3]), .inl (0, 12), .inr (7, [0, 0, 0, 3]), .inl (0, 12), .inr (6, [3, 0]), .inl (0, 80), .inr (3, [3, 0]), .inl (1, 8), .inr (4, [3, 0, 4, 0, 5, 0, 0, 0, 6]), .inl (0, 40), .inl (0, 40), .inl (2, 5), .inl (0, 40), .inr (4, [3, 0, 4, 0, 5, 0, 0, 0, 6]), .inl (0, 40), .inl (0, 40), .inl (2, 5), .inl (0, 40), .inr (0, [3, 4, 5, 6, 7, 1]), .inl (0, 12), .inl (0, 12), .inl (1, 64), .inl (1, 64), .inl (0, 13), .inr (1, [3, 0, 4]), .inl (0, 6), .inl (1, 1024), .inr (5, [3, 4, 0]), .inl (0, 12), .inl (0, 12), .inr (2, [3, 4, 0]), .inl (1, 15), .inl (0, 15), .inr (2, [3, 4, 0]), .inl (1, 3), .inl (0, 3), .inr (9, [0, 0, 3, 4, 5, 0, 6, 0, 0, 0, 0, 7, 8, 9, 0, 0, 10, 11, 0, 12, 13, 14, 15, 16, 0, 17, 18, 19, 20, 21, 0, 22, 0, 23, 24, 25, 26, 0, 2, 2, 2]), .inl (1, 24), .inl (0, 9), .inl (0, 9), .inl (0, 80), .inl (0, 9), .inl (0, 80), .inl (0, 80), .inl (0, 80), .inl (0, 8), .inl (0, 144), .inl (0, 60), .inl (0, 60), .inl (0, 60), .inl (0, 60), .inl (0, 12), .inl (0, 12), .inl (2, 4096), .inl (1, 500), .inl (0, 4096), .inl (2, 4096), .inl (0, 12), .inl (0, 12), .inl (0, 80), .inl (0, 10)]
def zq125 : List zN := [.inr (8, [3, 5, 7, 9, 11, 13, 18, 23, 29, 32, 35, 38, 0]), .inr (7, [0, 0, 0, 3]), .inl (0, 12), .inr (7, [0, 0, 0, 3]), .inl (0, 12), .inr (7, [0, 0, 0, 3]), .inl (0, 12), .inr (6, [3, 0]), .inl (0, 80), .inr (3, [3, 0]), .inl (1, 8), .inr (4, [3, 0, 4, 0, 5, 0, 0, 0, 6]), .inl (0, 40), .inl (0, 40), .inl (2, 5), .inl (0, 40), .inr (4, [3, 0, 4, 0, 5, 0, 0, 0, 6]), .inl (0, 40), .inl (0, 40), .inl (2, 5), .inl (0, 40), .inr (0, [3, 4, 5, 6, 7, 1]), .inl (0, 12), .inl (0, 12), .inl (1, 64), .inl (1, 64), .inl (0, 13), .inr (1, [3, 0, 4]), .inl (0, 6), .inl (1, 1024), .inr (5, [3, 4, 0]), .inl (0, 12), .inl (0, 12), .inr (2, [3, 4, 0]), .inl (1, 15), .inl (0, 15), .inr (2, [3, 4, 0]), .inl (1, 3), .inl (0, 3), .inr (9, [0, 0, 3, 4, 5, 0, 6, 0, 0, 0, 0, 7, 8, 9, 0, 0, 10, 11, 0, 12, 13, 14, 15, 16, 0, 17, 18, 19, 20, 21, 0, 22, 0, 23, 24, 25, 26, 0, 2, 2, 2]), .inl (1, 24), .inl (0, 9), .inl (0, 9), .inl (0, 80), .inl (0, 9), .inl (0, 80), .inl (0, 80), .inl (0, 80), .inl (0, 8), .inl (0, 144), .inl (0, 60), .inl (0, 60), .inl (0, 60), .inl (0, 60), .inl (0, 12), .inl (0, 12), .inl (2, 4096), .inl (1, 500), .inl (0, 4096), .inl (2, 4096), .inl (0, 12), .inl (0, 12), .inl (0, 80), .inl (0, 10), .inl (2, 3)]
def zq126 : List zN := [.inr (8, [3, 5, 7, 9, 11, 13, 18, 23, 29, 32, 35, 38, 0]), .inr (7, [0, 0, 0, 3]), .inl (0, 12), .inr (7, [0, 0, 0, 3]), .inl (0, 12), .inr (7, [0, 0, 0, 3]), .inl (0, 12), .inr (6, [3, 0]), .inl (0, 80), .inr (3, [3, 0]), .inl (1, 8), .inr (4, [3, 0, 4, 0, 5, 0, 0, 0, 6]), .inl (0, 40), .inl (0, 40), .inl (2, 5), .inl (0, 40), .inr (4, [3, 0, 4, 0, 5, 0, 0, 0, 6]), .inl (0, 40), .inl (0, 40), .inl (2, 5), .inl (0, 40), .inr (0, [3, 4, 5, 6, 7, 1]), .inl (0, 12), .inl (0, 12), .inl (1, 64), .inl (1, 64), .inl (0, 13), .inr (1, [3, 0, 4]), .inl (0, 6), .inl (1, 1024), .inr (5, [3, 4, 0]), .inl (0, 12), .inl (0, 12), .inr (2, [3, 4, 0]), .inl (1, 15), .inl (0, 15), .inr (2, [3, 4, 0]), .inl (1, 3), .inl (0, 3), .inr (9, [0, 0, 3, 4, 5, 0, 6, 0, 0, 0, 0, 7, 8, 9, 0, 0, 10, 11, 0, 12, 13, 14, 15, 16, 0, 17, 18, 19, 20, 21, 0, 22, 0, 23, 24, 25, 26, 0, 27, 2, 2]), .inl (1, 24), .inl (0, 9), .inl (0, 9), .inl (0, 80), .inl (0, 9), .inl (0, 80), .inl (0, 80), .inl (0, 80), .inl (0, 8), .inl (0, 144), .inl (0, 60), .inl (0, 60), .inl (0, 60), .inl (0, 60), .inl (0, 12), .inl (0, 12), .inl (2, 4096), .inl (1, 500), .inl (0, 4096), .inl (2, 4096), .inl (0, 12), .inl (0, 12), .inl (0, 80), .inl (0, 10), .inl (2, 3)]
def zq127 : List zN := [.inr (8, [3, 5, 7, 9, 11, 13, 18, 23, 29, 32, 35, 38, 0]), .inr (7, [0, 0, 0, 3]), .inl (0, 12), .inr (7, [0, 0, 0, 3]), .inl (0, 12), .inr (7, [0, 0, 0, 3]), .inl (0, 12), .inr (6, [3, 0]), .inl (0, 80), .inr (3, [3, 0]), .inl (1, 8), .inr (4, [3, 0, 4, 0, 5, 0, 0, 0, 6]), .inl (0, 40), .inl (0, 40), .inl (2, 5), .inl (0, 40), .inr (4, [3, 0, 4, 0, 5, 0, 0, 0, 6]), .inl (0, 40), .inl (0, 40), .inl (2, 5), .inl (0, 40), .inr (0, [3, 4, 5, 6, 7, 1]), .inl (0, 12), .inl (0, 12), .inl (1, 64), .inl (1, 64), .inl (0, 13), .inr (1, [3, 0, 4]), .inl (0, 6), .inl (1, 1024), .inr (5, [3, 4, 0]), .inl (0, 12), .inl (0, 12), .inr (2, [3, 4, 0]), .inl (1, 15), .inl (0, 15), .inr (2, [3, 4, 0]), .inl (1, 3), .inl (0, 3), .inr (9, [0, 0, 3, 4, 5, 0, 6, 0, 0, 0, 0, 7, 8, 9, 0, 0, 10, 11, 0, 12, 13, 14, 15, 16, 0, 17, 18, 19, 20, 21, 0, 22, 0, 23, 24, 25, 26, 0, 27, 2, 2]), .inl (1, 24), .inl (0, 9), .inl (0, 9), .inl (0, 80), .inl (0, 9), .inl (0, 80), .inl (0, 80), .inl (0, 80), .inl (0, 8), .inl (0, 144), .inl (0, 60), .inl (0, 60), .inl (0, 60), .inl (0, 60), .inl (0, 12), .inl (0, 12), .inl (2, 4096), .inl (1, 500), .inl (0, 4096), .inl (2, 4096), .inl (0, 12), .inl (0, 12), .inl (0, 80), .inl (0, 10), .inl (2, 3), .inl (0, 3)]
def zq128 : List zN := [.inr (8, [3, 5, 7, 9, 11, 13, 18, 23, 29, 32, 35, 38, 0]), .inr (7, [0, 0, 0, 3]), .inl (0, 12), .inr (7, [0, 0, 0, 3]), .inl (0, 12), .inr (7, [0, 0, 0, 3]), .inl (0, 12), .inr (6, [3, 0]), .inl (0, 80), .inr (3, [3, 0]), .inl (1, 8), .inr (4, [3, 0, 4, 0, 5, 0, 0, 0, 6]), .inl (0, 40), .inl (0, 40), .inl (2, 5), .inl (0, 40), .inr (4, [3, 0, 4, 0, 5, 0, 0, 0, 6]), .inl (0, 40), .inl (0, 40), .inl (2, 5), .inl (0, 40), .inr (0, [3, 4, 5, 6, 7, 1]), .inl (0, 12), .inl (0, 12), .inl (1, 64), .inl (1, 64), .inl (0, 13), .inr (1, [3, 0, 4]), .inl (0, 6), .inl (1, 1024), .inr (5, [3, 4, 0]), .inl (0, 12), .inl (0, 12), .inr (2, [3, 4, 0]), .inl (1, 15), .inl (0, 15), .inr (2, [3, 4, 0]), .inl (1, 3), .inl (0, 3), .inr (9, [0, 0, 3, 4, 5, 0, 6, 0, 0, 0, 0, 7, 8, 9, 0, 0, 10, 11, 0, 12, 13, 14, 15, 16, 0, 17, 18, 19, 20, 21, 0, 22, 0, 23, 24, 25, 26, 0, 27, 28, 2]), .inl (1, 24), .inl (0, 9), .inl (0, 9), .inl (0, 80), .inl (0, 9), .inl (0, 80), .inl (0, 80), .inl (0, 80), .inl (0, 8), .inl (0, 144), .inl (0, 60), .inl (0, 60), .inl (0, 60), .inl (0, 60), .inl (0, 12), .inl (0, 12), .inl (2, 4096), .inl (1, 500), .inl (0, 4096), .inl (2, 4096), .inl (0, 12), .inl (0, 12), .inl (0, 80), .inl (0, 10), .inl (2, 3), .inl (0, 3)]
def zq129 : List zN := [.inr (8, [3, 5, 7, 9, 11, 13, 18, 23, 29, 32, 35, 38, 0]), .inr (7, [0, 0, 0, 3]), .inl (0, 12), .inr (7, [0, 0, 0, 3]), .inl (0, 12), .inr (7, [0, 0, 0, 3]), .inl (0, 12), .inr (6, [3, 0]), .inl (0, 80), .inr (3, [3, 0]), .inl (1, 8), .inr (4, [3, 0, 4, 0, 5, 0, 0, 0, 6]), .inl (0, 40), .inl (0, 40), .inl (2, 5), .inl (0, 40), .inr (4, [3, 0, 4, 0, 5, 0, 0, 0, 6]), .inl (0, 40), .inl (0, 40), .inl (2, 5), .inl (0, 40), .inr (0, [3, 4, 5, 6, 7, 1]), .inl (0, 12), .inl (0, 12), .inl (1, 64), .inl (1, 64), .inl (0, 13), .inr (1, [3, 0, 4]), .inl (0, 6), .inl (1, 1024), .inr (5, [3, 4, 0]), .inl (0, 12), .inl (0, 12), .inr (2, [3, 4, 0]), .inl (1, 15), .inl (0, 15), .inr (2, [3, 4, 0]), .inl (1, 3), .inl (0, 3), .inr (9, [0, 0, 3, 4, 5, 0, 6, 0, 0, 0, 0, 7, 8, 9, 0, 0, 10, 11, 0, 12, 13, 14, 15, 16, 0, 17, 18, 19, 20, 21, 0, 22, 0, 23, 24, 25, 26, 0, 27, 28, 2]), .inl (1, 24), .inl (0, 9), .inl (0, 9), .inl (0, 80), .inl (0, 9), .inl (0, 80), .inl (0, 80), .inl (0, 80), .inl (0, 8), .inl (0, 144), .inl (0, 60), .inl (0, 60), .inl (0, 60), .inl (0, 60), .inl (0, 12), .inl (0, 12), .inl (2, 4096), .inl (1, 500), .inl (0, 4096), .inl (2, 4096), .inl (0, 12), .inl (0, 12), .inl (0, 80), .inl (0, 10), .inl (2, 3), .inl (0, 3), .inl (0, 27)]
def zq130 : List zN := [.inr (8, [3, 5, 7, 9, 11, 13, 18, 23, 29, 32, 35, 38, 0]), .inr (7, [0, 0, 0, 3]), .inl (0, 12), .inr (7, [0, 0, 0, 3]), .inl (0, 12), .inr (7, [0, 0, 0, 3]), .inl (0, 12), .inr (6, [3, 0]), .inl (0, 80), .inr (3, [3, 0]), .inl (1, 8), .inr (4, [3, 0, 4, 0, 5, 0, 0, 0, 6]), .inl (0, 40), .inl (0, 40), .inl (2, 5), .inl (0, 40), .inr (4, [3, 0, 4, 0, 5, 0, 0, 0, 6]), .inl (0, 40), .inl (0, 40), .inl (2, 5), .inl (0, 40), .inr (0, [3, 4, 5, 6, 7, 1]), .inl (0, 12), .inl (0, 12), .inl (1, 64), .inl (1, 64), .inl (0, 13), .inr (1, [3, 0, 4]), .inl (0, 6), .inl (1, 1024), .inr (5, [3, 4, 0]), .inl (0, 12), .inl (0, 12), .inr (2, [3, 4, 0]), .inl (1, 15), .inl (0, 15), .inr (2, [3, 4, 0]), .inl (1, 3), .inl (0, 3), .inr (9, [0, 0, 3, 4, 5, 0, 6, 0, 0, 0, 0, 7, 8, 9, 0, 0, 10, 11, 0, 12, 13, 14, 15, 16, 0, 17, 18, 19, 20, 21, 0, 22, 0, 23, 24, 25, 26, 0, 27, 28, 29]), .inl (1, 24), .inl (0, 9), .inl (0, 9), .inl (0, 80), .inl (0, 9), .inl (0, 80), .inl (0, 80), .inl (0, 80), .inl (0, 8), .inl (0, 144), .inl (0, 60), .inl (0, 60), .inl (0, 60), .inl (0, 60), .inl (0, 12), .inl (0, 12), .inl (2, 4096), .inl (1, 500), .inl (0, 4096), .inl (2, 4096), .inl (0, 12), .inl (0, 12), .inl (0, 80), .inl (0, 10), .inl (2, 3), .inl (0, 3), .inl (0, 27)]
def zq131 : List zN := [.inr (8, [3, 5, 7, 9, 11, 13, 18, 23, 29, 32, 35, 38, 0]), .inr (7, [0, 0, 0, 3]), .inl (0, 12), .inr (7, [0, 0, 0, 3]), .inl (0, 12), .inr (7, [0, 0, 0, 3]), .inl (0, 12), .inr (6, [3, 0]), .inl (0, 80), .inr (3, [3, 0]), .inl (1, 8), .inr (4, [3, 0, 4, 0, 5, 0, 0, 0, 6]), .inl (0, 40), .inl (0, 40), .inl (2, 5), .inl (0, 40), .inr (4, [3, 0, 4, 0, 5, 0, 0, 0, 6]), .inl (0, 40), .inl (0, 40), .inl (2, 5), .inl (0, 40), .inr (0, [3, 4, 5, 6, 7, 1]), .inl (0, 12), .inl (0, 12), .inl (1, 64), .inl (1, 64), .inl (0, 13), .inr (1, [3, 0, 4]), .inl (0, 6), .inl (1, 1024), .inr (5, [3, 4, 0]), .inl (0, 12), .inl (0, 12), .inr (2, [3, 4, 0]), .inl (1, 15), .inl (0, 15), .inr (2, [3, 4, 0]), .inl (1, 3), .inl (0, 3), .inr (9, [0, 0, 2, 2, 2, 0, 2, 0, 0, 0, 0, 2, 2, 2, 0, 0, 2, 2, 0, 2, 2, 2, 2, 2, 0, 2, 2, 2, 2, 2, 0, 2, 0, 2, 2, 2, 2, 0, 2, 2, 2])]
theorem df_X0 : ∀ (E : zE) (M : zM) (n j : Nat), j < 6 → defaultValue (tyX0 j) = vp_V (zfs E (zfr M n) n [2, 2, 2, 2, 2, 1]) j := by
  intro E M n j hj
  match j, hj with
  | 0, _ => simp [zfs, vp_V, zsl, zfr, tyX0, defaultValue, List.mapIdx, List.mapIdx.go]
  | 1, _ => simp [zfs, vp_V, zsl, zfr, tyX0, defaultValue, List.mapIdx, List.mapIdx.go]
  | 2, _ => simp [zfs, vp_V, zsl, zfr, tyX0, defaultValue, List.mapIdx, List.mapIdx.go]
  | 3, _ => simp [zfs, vp_V, zsl, zfr, tyX0, defaultValue, List.mapIdx, List.mapIdx.go]
  | 4, _ => simp [zfs, vp_V, zsl, zfr, tyX0, defaultValue, List.mapIdx, List.mapIdx.go]
  | 5, _ => simp [zfs, vp_V, zsl, zfr, tyX0, defaultValue, List.mapIdx, List.mapIdx.go]
  | j + 6, hj => exact absurd hj (by omega)
theorem df_X1 : ∀ (E : zE) (M : zM) (n j : Nat), j < 3 → defaultValue (tyX1 j) = vp_V (zfs E (zfr M n) n [2, 0, 2]) j := by
  intro E M n j hj
  match j, hj with
  | 0, _ => simp [zfs, vp_V, zsl, zfr, tyX1, defaultValue, List.mapIdx, List.mapIdx.go]
  | 1, _ => simp [zfs, vp_V, zsl, zfr, tyX1, defaultValue, List.mapIdx, List.mapIdx.go]
  | 2, _ => simp [zfs, vp_V, zsl, zfr, tyX1, defaultValue, List.mapIdx, List.mapIdx.go]
  | j + 3, hj => exact absurd hj (by omega)
theorem df_X2 : ∀ (E : zE) (M : zM) (n j : Nat), j < 3 → defaultValue (tyX2 j) = vp_V (zfs E (zfr M n) n [2, 2, 0]) j := by
  intro E M n j hj
  match j, hj with
  | 0, _ => simp [zfs, vp_V, zsl, zfr, tyX2, defaultValue, List.mapIdx, List.mapIdx.go]
  | 1, _ => simp [zfs, vp_V, zsl, zfr, tyX2, defaultValue, List.mapIdx, List.mapIdx.go]
  | 2, _ => simp [zfs, vp_V, zsl, zfr, tyX2, defaultValue, List.mapIdx, List.mapIdx.go]
  | j + 3, hj => exact absurd hj (by omega)
theorem df_X3 : ∀ (E : zE) (M : zM) (n j : Nat), j < 2 → defaultValue (tyX3 j) = vp_V (zfs E (zfr M n) n [2, 0]) j := by
  intro E M n j hj
  match j, hj with
  | 0, _ => simp [zfs, vp_V, zsl, zfr, tyX3, defaultValue, List.mapIdx, List.mapIdx.go]
  | 1, _ => simp [zfs, vp_V, zsl, zfr, tyX3, defaultValue, List.mapIdx, List.mapIdx.go]
  | j + 2, hj => exact absurd hj (by omega)
theorem df_X4 : ∀ (E : zE) (M : zM) (n j : Nat), j < 9 → defaultValue (tyX4 j) = vp_V (zfs E (zfr M n) n [2, 0, 2, 0, 2, 0, 0, 0, 2]) j := by
  intro E M n j hj
  match j, hj with
  | 0, _ => simp [zfs, vp_V, zsl, zfr, tyX4, defaultValue, List.mapIdx, List.mapIdx.go]
  | 1, _ => simp [zfs, vp_V, zsl, zfr, tyX4, defaultValue, List.mapIdx, List.mapIdx.go]
  | 2, _ => simp [zfs, vp_V, zsl, zfr, tyX4, defaultValue, List.mapIdx, List.mapIdx.go]
  | 3, _ => simp [zfs, vp_V, zsl, zfr, tyX4, defaultValue, List.mapIdx, List.mapIdx.go]
  | 4, _ => simp [zfs, vp_V, zsl, zfr, tyX4, defaultValue, List.mapIdx, List.mapIdx.go]
  | 5, _ => simp [zfs, vp_V, zsl, zfr, tyX4, defaultValue, List.mapIdx, List.mapIdx.go]
  | 6, _ => simp [zfs, vp_V, zsl, zfr, tyX4, defaultValue, List.mapIdx, List.mapIdx.go]
  | 7, _ => simp [zfs, vp_V, zsl, zfr, tyX4, defaultValue, List.mapIdx, List.mapIdx.go]
  | 8, _ => simp [zfs, vp_V, zsl, zfr, tyX4, defaultValue, List.mapIdx, List.mapIdx.go]
  | j + 9, hj => exact absurd hj (by omega)
theorem df_X5 : ∀ (E : zE) (M : zM) (n j : Nat), j < 3 → defaultValue (tyX5 j) = vp_V (zfs E (zfr M n) n [2, 2, 0]) j := by
  intro E M n j hj
  match j, hj with
  | 0, _ => simp [zfs, vp_V, zsl, zfr, tyX5, defaultValue, List.mapIdx, List.mapIdx.go]
  | 1, _ => simp [zfs, vp_V, zsl, zfr, tyX5, defaultValue, List.mapIdx, List.mapIdx.go]
  | 2, _ => simp [zfs, vp_V, zsl, zfr, tyX5, defaultValue, List.mapIdx, List.mapIdx.go]
  | j + 3, hj => exact absurd hj (by omega)
theorem df_X6 : ∀ (E : zE) (M : zM) (n j : Nat), j < 2 → defaultValue (tyX6 j) = vp_V (zfs E (zfr M n) n [2, 0]) j := by
  intro E M n j hj
  match j, hj with
  | 0, _ => simp [zfs, vp_V, zsl, zfr, tyX6, defaultValue, List.mapIdx, List.mapIdx.go]
  | 1, _ => simp [zfs, vp_V, zsl, zfr, tyX6, defaultValue, List.mapIdx, List.mapIdx.go]
  | j + 2, hj => exact absurd hj (by omega)
theorem df_X7 : ∀ (E : zE) (M : zM) (n j : Nat), j < 4 → defaultValue (tyX7 j) = vp_V (zfs E (zfr M n) n [0, 0, 0, 2]) j := by
  intro E M n j hj
  match j, hj with
  | 0, _ => simp [zfs, vp_V, zsl, zfr, tyX7, defaultValue, List.mapIdx, List.mapIdx.go]
  | 1, _ => simp [zfs, vp_V, zsl, zfr, tyX7, defaultValue, List.mapIdx, List.mapIdx.go]
  | 2, _ => simp [zfs, vp_V, zsl, zfr, tyX7, defaultValue, List.mapIdx, List.mapIdx.go]
  | 3, _ => simp [zfs, vp_V, zsl, zfr, tyX7, defaultValue, List.mapIdx, List.mapIdx.go]
  | j + 4, hj => exact absurd hj (by omega)
theorem df_X8 : ∀ (E : zE) (M : zM) (n j : Nat), j < 13 → defaultValue (tyX8 j) = vp_V (zfs E (zfr M n) n [2, 2, 2, 2, 2, 2, 2, 2, 2, 2, 2, 2, 0]) j := by
  intro E M n j hj
  match j, hj with
  | 0, _ => simp [zfs, vp_V, zsl, zfr, tyX8, defaultValue, List.mapIdx, List.mapIdx.go]
  | 1, _ => simp [zfs, vp_V, zsl, zfr, tyX8, defaultValue, List.mapIdx, List.mapIdx.go]
  | 2, _ => simp [zfs, vp_V, zsl, zfr, tyX8, defaultValue, List.mapIdx, List.mapIdx.go]
  | 3, _ => simp [zfs, vp_V, zsl, zfr, tyX8, defaultValue, List.mapIdx, List.mapIdx.go]
  | 4, _ => simp [zfs, vp_V, zsl, zfr, tyX8, defaultValue, List.mapIdx, List.mapIdx.go]
  | 5, _ => simp [zfs, vp_V, zsl, zfr, tyX8, defaultValue, List.mapIdx, List.mapIdx.go]
  | 6, _ => simp [zfs, vp_V, zsl, zfr, tyX8, defaultValue, List.mapIdx, List.mapIdx.go]
  | 7, _ => simp [zfs, vp_V, zsl, zfr, tyX8, defaultValue, List.mapIdx, List.mapIdx.go]
  | 8, _ => simp [zfs, vp_V, zsl, zfr, tyX8, defaultValue, List.mapIdx, List.mapIdx.go]
  | 9, _ => simp [zfs, vp_V, zsl, zfr, tyX8, defaultValue, List.mapIdx, List.mapIdx.go]
  | 10, _ => simp [zfs, vp_V, zsl, zfr, tyX8, defaultValue, List.mapIdx, List.mapIdx.go]
  | 11, _ => simp [zfs, vp_V, zsl, zfr, tyX8, defaultValue, List.mapIdx, List.mapIdx.go]
  | 12, _ => simp [zfs, vp_V, zsl, zfr, tyX8, defaultValue, List.mapIdx, List.mapIdx.go]
  | j + 13, hj => exact absurd hj (by omega)
theorem df_X9 : ∀ (E : zE) (M : zM) (n j : Nat), j < 41 → defaultValue (tyX9 j) = vp_V (zfs E (zfr M n) n [0, 0, 2, 2, 2, 0, 2, 0, 0, 0, 0, 2, 2, 2, 0, 0, 2, 2, 0, 2, 2, 2, 2, 2, 0, 2, 2, 2, 2, 2, 0, 2, 0, 2, 2, 2, 2, 0, 2, 2, 2]) j := by
  intro E M n j hj
  match j, hj with
  | 0, _ => simp [zfs, vp_V, zsl, zfr, tyX9, defaultValue, List.mapIdx, List.mapIdx.go]
  | 1, _ => simp [zfs, vp_V, zsl, zfr, tyX9, defaultValue, List.mapIdx, List.mapIdx.go]
  | 2, _ => simp [zfs, vp_V, zsl, zfr, tyX9, defaultValue, List.mapIdx, List.mapIdx.go]
  | 3, _ => simp [zfs, vp_V, zsl, zfr, tyX9, defaultValue, List.mapIdx, List.mapIdx.go]
  | 4, _ => simp [zfs, vp_V, zsl, zfr, tyX9, defaultValue, List.mapIdx, List.mapIdx.go]
  | 5, _ => simp [zfs, vp_V, zsl, zfr, tyX9, defaultValue, List.mapIdx, List.mapIdx.go]
  | 6, _ => simp [zfs, vp_V, zsl, zfr, tyX9, defaultValue, List.mapIdx, List.mapIdx.go]
  | 7, _ => simp [zfs, vp_V, zsl, zfr, tyX9, defaultValue, List.mapIdx, List.mapIdx.go]
  | 8, _ => simp [zfs, vp_V, zsl, zfr, tyX9, defaultValue, List.mapIdx, List.mapIdx.go]
  | 9, _ => simp [zfs, vp_V, zsl, zfr, tyX9, defaultValue, List.mapIdx, List.mapIdx.go]
  | 10, _ => simp [zfs, vp_V, zsl, zfr, tyX9, defaultValue, List.mapIdx, List.mapIdx.go]
  | 11, _ => simp [zfs, vp_V, zsl, zfr, tyX9, defaultValue, List.mapIdx, List.mapIdx.go]
  | 12, _ => simp [zfs, vp_V, zsl, zfr, tyX9, defaultValue, List.mapIdx, List.mapIdx.go]
  | 13, _ => simp [zfs, vp_V, zsl, zfr, tyX9, defaultValue, List.mapIdx, List.mapIdx.go]
  | 14, _ => simp [zfs, vp_V, zsl, zfr, tyX9, defaultValue, List.mapIdx, List.mapIdx.go]
  | 15, _ => simp [zfs, vp_V, zsl, zfr, tyX9, defaultValue, List.mapIdx, List.mapIdx.go]
  | 16, _ => simp [zfs, vp_V, zsl, zfr, tyX9, defaultValue, List.mapIdx, List.mapIdx.go]
  | 17, _ => simp [zfs, vp_V, zsl, zfr, tyX9, defaultValue, List.mapIdx, List.mapIdx.go]
  | 18, _ => simp [zfs, vp_V, zsl, zfr, tyX9, defaultValue, List.mapIdx, List.mapIdx.go]
  | 19, _ => simp [zfs, vp_V, zsl, zfr, tyX9, defaultValue, List.mapIdx, List.mapIdx.go]
  | 20, _ => simp [zfs, vp_V, zsl, zfr, tyX9, defaultValue, List.mapIdx, List.mapIdx.go]
  | 21, _ => simp [zfs, vp_V, zsl, zfr, tyX9, defaultValue, List.mapIdx, List.mapIdx.go]
  | 22, _ => simp [zfs, vp_V, zsl, zfr, tyX9, defaultValue, List.mapIdx, List.mapIdx.go]
  | 23, _ => simp [zfs, vp_V, zsl, zfr, tyX9, defaultValue, List.mapIdx, List.mapIdx.go]
  | 24, _ => simp [zfs, vp_V, zsl, zfr, tyX9, defaultValue, List.mapIdx, List.mapIdx.go]
  | 25, _ => simp [zfs, vp_V, zsl, zfr, tyX9, defaultValue, List.mapIdx, List.mapIdx.go]
  | 26, _ => simp [zfs, vp_V, zsl, zfr, tyX9, defaultValue, List.mapIdx, List.mapIdx.go]
  | 27, _ => simp [zfs, vp_V, zsl, zfr, tyX9, defaultValue, List.mapIdx, List.mapIdx.go]
  | 28, _ => simp [zfs, vp_V, zsl, zfr, tyX9, defaultValue, List.mapIdx, List.mapIdx.go]
  | 29, _ => simp [zfs, vp_V, zsl, zfr, tyX9, defaultValue, List.mapIdx, List.mapIdx.go]
  | 30, _ => simp [zfs, vp_V, zsl, zfr, tyX9, defaultValue, List.mapIdx, List.mapIdx.go]
  | 31, _ => simp [zfs, vp_V, zsl, zfr, tyX9, defaultValue, List.mapIdx, List.mapIdx.go]
  | 32, _ => simp [zfs, vp_V, zsl, zfr, tyX9, defaultValue, List.mapIdx, List.mapIdx.go]
  | 33, _ => simp [zfs, vp_V, zsl, zfr, tyX9, defaultValue, List.mapIdx, List.mapIdx.go]
  | 34, _ => simp [zfs, vp_V, zsl, zfr, tyX9, defaultValue, List.mapIdx, List.mapIdx.go]
  | 35, _ => simp [zfs, vp_V, zsl, zfr, tyX9, defaultValue, List.mapIdx, List.mapIdx.go]
  | 36, _ => simp [zfs, vp_V, zsl, zfr, tyX9, defaultValue, List.mapIdx, List.mapIdx.go]
  | 37, _ => simp [zfs, vp_V, zsl, zfr, tyX9, defaultValue, List.mapIdx, List.mapIdx.go]
  | 38, _ => simp [zfs, vp_V, zsl, zfr, tyX9, defaultValue, List.mapIdx, List.mapIdx.go]
  | 39, _ => simp [zfs, vp_V, zsl, zfr, tyX9, defaultValue, List.mapIdx, List.mapIdx.go]
  | 40, _ => simp [zfs, vp_V, zsl, zfr, tyX9, defaultValue, List.mapIdx, List.mapIdx.go]
  | j + 41, hj => exact absurd hj (by omega)
def zpp (r : Nat) (M : zM) : zM := zsi (zsi (zsi (zsi (zsi (zsi M (r + 1) 0 1099) r 1 1) (r + 1) 1 1105) r 1 2) (r + 1) 2 1045) r 1 3
theorem zsi_at {M : zM} {k j k' j' : Nat} {v : Int32} : (zsi M k j v).1 k' j' = if k' = k then (if j' = j then v else M.1 k j') else M.1 k' j' := by
  by_cases h : k' = k
  · subst h; simp [zsi, upd]
  · simp [zsi, h]
theorem emit_ok {r : Nat} {M : zM} {x v w : Int32} {j : Nat} (h : M.1 r 1 = v) (h40 : ¬ (40 : Int32) ≤ v) (hv : ¬ v < 0) (hj : v.toNatClampNeg = j) (hj40 : j < 40) (hw : v + 1 = w) : f4_emit r x M = some (zsi (zsi M (r + 1) j x) r 1 w) := by
  unfold f4_emit
  rw [h, if_neg h40, zpI, if_neg (by rintro (q | q); exact hv q; omega), hj]
  show some (zsi _ r 1 (_ + 1)) = _
  rw [zsi_ne (by omega), h, hw]
theorem pp_ok (r : Nat) (M : zM) (h : M.1 r 1 = 0) : f4_putPlainRule r M = some (zpp r M) := by
  unfold f4_putPlainRule
  rw [emit_ok (w := 1) h (by decide) (by decide) rfl (by decide) (by decide)]
  show ((f4_emit r 1105 _).bind _) = _
  rw [emit_ok (v := 1) (w := 2) (j := 1) (by simp [zsi_at]) (by decide) (by decide) (by decide) (by decide) (by decide)]
  show ((f4_emit r 1045 _).bind _) = _
  rw [emit_ok (v := 2) (w := 3) (j := 2) (by simp [zsi_at]) (by decide) (by decide) (by decide) (by decide) (by decide)]
  rfl
def mm_X7_init_1 (M : zM) : zM := (zsi (zsi (zsi (zsi (zsi (zsi (zsi (zsi (zsi (zsi (zsi (zsi (zfr (zsi (zsi (zsi M 1 0 (1 : Int32)) 1 1 (1 : Int32)) 1 2 (0 : Int32)) 2) 2 0 (1 : Int32)) 2 1 (0 : Int32)) 2 2 (0 : Int32)) 2 3 (0 : Int32)) 2 4 (0 : Int32)) 2 5 (0 : Int32)) 2 6 (0 : Int32)) 2 7 (0 : Int32)) 2 8 (0 : Int32)) 2 9 (0 : Int32)) 2 10 (0 : Int32)) 2 11 (0 : Int32))
set_option maxRecDepth 20000 in
set_option maxHeartbeats 4000000 in
theorem kc_X7_init_1 (M : zM) : zKc zq0 yX7_init cX7_init 1 1 1 12 [.ref 1] M zq2 (mm_X7_init_1 M) := by
  refine zKc_of pl_X7 rfl (Nat.le_of_ble_eq_true rfl) (fun E0 sz => ?_)
  show zJ zq0 RX7 cX7_init 1 _ 0 0 0 [(0, .ref 1)] [] M
  unfold mm_X7_init_1
  refine zg_aload_n 0 dX7_init_0 rfl rfl ?_
  refine zg_obj (st := []) ow_X7_3 ow_i ow_c ⟨Nat.le_of_ble_eq_true rfl, Nat.le_of_ble_eq_true rfl⟩ dX7_init_1 ?_
  refine zg_aload_n 0 dX7_init_4 rfl rfl ?_
  refine zg_iconst dX7_init_5 zki_1 ?_
  refine zg_puti fp_X7_9 (show zq0[1]? = some (.inr (7, [0, 0, 0, 2])) from rfl) rfl dX7_init_6 ?_
  refine zg_aload_n 0 dX7_init_9 rfl rfl ?_
  refine zg_iconst dX7_init_10 zki_1 ?_
  refine zg_puti fp_X7_15 (show zq0[1]? = some (.inr (7, [0, 0, 0, 2])) from rfl) rfl dX7_init_11 ?_
  refine zg_aload_n 0 dX7_init_14 rfl rfl ?_
  refine zg_iconst dX7_init_15 zki_0 ?_
  refine zg_puti fp_X7_18 (show zq0[1]? = some (.inr (7, [0, 0, 0, 2])) from rfl) rfl dX7_init_16 ?_
  refine zg_aload_n 0 dX7_init_19 rfl rfl ?_
  refine zg_bipush dX7_init_20 zkb_12 ?_
  refine zg_newa (n := 2) (N := 12) (T' := zq1) (st := [.ref 1]) 0 .int rfl (by decide) aw_0 (by decide) (Nat.le_of_ble_eq_true rfl) rfl rfl rfl rfl (zBc.grow _ _ _ _ _ _ _ _ rfl) rfl rfl (Nat.le_of_ble_eq_true rfl) (Nat.le_of_ble_eq_true rfl) dX7_init_22 ?_
  refine zg_dup dX7_init_24 rfl ?_
  refine zg_iconst dX7_init_25 zki_0 ?_
  refine zg_iconst dX7_init_26 zki_1 ?_
  refine zo_iastc 0 (show zq1[2]? = some (.inl (0, 12)) from rfl) (by decide) rfl dX7_init_27 ?_
  refine zg_dup dX7_init_28 rfl ?_
  refine zg_iconst dX7_init_29 zki_1 ?_
  refine zg_iconst dX7_init_30 zki_0 ?_
  refine zo_iastc 1 (show zq1[2]? = some (.inl (0, 12)) from rfl) (by decide) rfl dX7_init_31 ?_
  refine zg_dup dX7_init_32 rfl ?_
  refine zg_iconst dX7_init_33 zki_2 ?_
  refine zg_iconst dX7_init_34 zki_0 ?_
  refine zo_iastc 2 (show zq1[2]? = some (.inl (0, 12)) from rfl) (by decide) rfl dX7_init_35 ?_
  refine zg_dup dX7_init_36 rfl ?_
  refine zg_iconst dX7_init_37 zki_3 ?_
  refine zg_iconst dX7_init_38 zki_0 ?_
  refine zo_iastc 3 (show zq1[2]? = some (.inl (0, 12)) from rfl) (by decide) rfl dX7_init_39 ?_
  refine zg_dup dX7_init_40 rfl ?_
  refine zg_iconst dX7_init_41 zki_4 ?_
  refine zg_iconst dX7_init_42 zki_0 ?_
  refine zo_iastc 4 (show zq1[2]? = some (.inl (0, 12)) from rfl) (by decide) rfl dX7_init_43 ?_
  refine zg_dup dX7_init_44 rfl ?_
  refine zg_iconst dX7_init_45 zki_5 ?_
  refine zg_iconst dX7_init_46 zki_0 ?_
  refine zo_iastc 5 (show zq1[2]? = some (.inl (0, 12)) from rfl) (by decide) rfl dX7_init_47 ?_
  refine zg_dup dX7_init_48 rfl ?_
  refine zg_bipush dX7_init_49 zkb_6 ?_
  refine zg_iconst dX7_init_51 zki_0 ?_
  refine zo_iastc 6 (show zq1[2]? = some (.inl (0, 12)) from rfl) (by decide) rfl dX7_init_52 ?_
  refine zg_dup dX7_init_53 rfl ?_
  refine zg_bipush dX7_init_54 zkb_7 ?_
  refine zg_iconst dX7_init_56 zki_0 ?_
  refine zo_iastc 7 (show zq1[2]? = some (.inl (0, 12)) from rfl) (by decide) rfl dX7_init_57 ?_
  refine zg_dup dX7_init_58 rfl ?_
  refine zg_bipush dX7_init_59 zkb_8 ?_
  refine zg_iconst dX7_init_61 zki_0 ?_
  refine zo_iastc 8 (show zq1[2]? = some (.inl (0, 12)) from rfl) (by decide) rfl dX7_init_62 ?_
  refine zg_dup dX7_init_63 rfl ?_
  refine zg_bipush dX7_init_64 zkb_9 ?_
  refine zg_iconst dX7_init_66 zki_0 ?_
  refine zo_iastc 9 (show zq1[2]? = some (.inl (0, 12)) from rfl) (by decide) rfl dX7_init_67 ?_
  refine zg_dup dX7_init_68 rfl ?_
  refine zg_bipush dX7_init_69 zkb_10 ?_
  refine zg_iconst dX7_init_71 zki_0 ?_
  refine zo_iastc 10 (show zq1[2]? = some (.inl (0, 12)) from rfl) (by decide) rfl dX7_init_72 ?_
  refine zg_dup dX7_init_73 rfl ?_
  refine zg_bipush dX7_init_74 zkb_11 ?_
  refine zg_iconst dX7_init_76 zki_0 ?_
  refine zo_iastc 11 (show zq1[2]? = some (.inl (0, 12)) from rfl) (by decide) rfl dX7_init_77 ?_
  refine zg_putref (ls := [(0, .ref 1)]) (lay := [0, 0, 0, 2]) (lay' := [0, 0, 0, 3]) (T' := zq2) (o := 1) 0 tyX7_ok nmX7 inl_X7 rfl (by decide) fw_X7_21 rfl rfl (Or.inr trivial) (fun _ => rfl) (fun _ => rfl) (zBc.ini _ _ _ _ _ _ _ _) (show zq1[1]? = some (.inr (7, [0, 0, 0, 2])) from rfl) rfl rfl rfl dX7_init_78 ?_
  exact zg_cret dX7_init_81
def mm_X7_init_3 (M : zM) : zM := (zsi (zsi (zsi (zsi (zsi (zsi (zsi (zsi (zsi (zsi (zsi (zsi (zfr (zsi (zsi (zsi M 3 0 (1 : Int32)) 3 1 (1 : Int32)) 3 2 (0 : Int32)) 4) 4 0 (1 : Int32)) 4 1 (0 : Int32)) 4 2 (0 : Int32)) 4 3 (0 : Int32)) 4 4 (0 : Int32)) 4 5 (0 : Int32)) 4 6 (0 : Int32)) 4 7 (0 : Int32)) 4 8 (0 : Int32)) 4 9 (0 : Int32)) 4 10 (0 : Int32)) 4 11 (0 : Int32))
set_option maxRecDepth 20000 in
set_option maxHeartbeats 4000000 in
theorem kc_X7_init_3 (M : zM) : zKc zq4 yX7_init cX7_init 1 1 1 12 [.ref 3] M zq6 (mm_X7_init_3 M) := by
  refine zKc_of pl_X7 rfl (Nat.le_of_ble_eq_true rfl) (fun E0 sz => ?_)
  show zJ zq4 RX7 cX7_init 1 _ 0 0 0 [(0, .ref 3)] [] M
  unfold mm_X7_init_3
  refine zg_aload_n 0 dX7_init_0 rfl rfl ?_
  refine zg_obj (st := []) ow_X7_3 ow_i ow_c ⟨Nat.le_of_ble_eq_true rfl, Nat.le_of_ble_eq_true rfl⟩ dX7_init_1 ?_
  refine zg_aload_n 0 dX7_init_4 rfl rfl ?_
  refine zg_iconst dX7_init_5 zki_1 ?_
  refine zg_puti fp_X7_9 (show zq4[3]? = some (.inr (7, [0, 0, 0, 2])) from rfl) rfl dX7_init_6 ?_
  refine zg_aload_n 0 dX7_init_9 rfl rfl ?_
  refine zg_iconst dX7_init_10 zki_1 ?_
  refine zg_puti fp_X7_15 (show zq4[3]? = some (.inr (7, [0, 0, 0, 2])) from rfl) rfl dX7_init_11 ?_
  refine zg_aload_n 0 dX7_init_14 rfl rfl ?_
  refine zg_iconst dX7_init_15 zki_0 ?_
  refine zg_puti fp_X7_18 (show zq4[3]? = some (.inr (7, [0, 0, 0, 2])) from rfl) rfl dX7_init_16 ?_
  refine zg_aload_n 0 dX7_init_19 rfl rfl ?_
  refine zg_bipush dX7_init_20 zkb_12 ?_
  refine zg_newa (n := 4) (N := 12) (T' := zq5) (st := [.ref 3]) 0 .int rfl (by decide) aw_0 (by decide) (Nat.le_of_ble_eq_true rfl) rfl rfl rfl rfl (zBc.grow _ _ _ _ _ _ _ _ rfl) rfl rfl (Nat.le_of_ble_eq_true rfl) (Nat.le_of_ble_eq_true rfl) dX7_init_22 ?_
  refine zg_dup dX7_init_24 rfl ?_
  refine zg_iconst dX7_init_25 zki_0 ?_
  refine zg_iconst dX7_init_26 zki_1 ?_
  refine zo_iastc 0 (show zq5[4]? = some (.inl (0, 12)) from rfl) (by decide) rfl dX7_init_27 ?_
  refine zg_dup dX7_init_28 rfl ?_
  refine zg_iconst dX7_init_29 zki_1 ?_
  refine zg_iconst dX7_init_30 zki_0 ?_
  refine zo_iastc 1 (show zq5[4]? = some (.inl (0, 12)) from rfl) (by decide) rfl dX7_init_31 ?_
  refine zg_dup dX7_init_32 rfl ?_
  refine zg_iconst dX7_init_33 zki_2 ?_
  refine zg_iconst dX7_init_34 zki_0 ?_
  refine zo_iastc 2 (show zq5[4]? = some (.inl (0, 12)) from rfl) (by decide) rfl dX7_init_35 ?_
  refine zg_dup dX7_init_36 rfl ?_
  refine zg_iconst dX7_init_37 zki_3 ?_
  refine zg_iconst dX7_init_38 zki_0 ?_
  refine zo_iastc 3 (show zq5[4]? = some (.inl (0, 12)) from rfl) (by decide) rfl dX7_init_39 ?_
  refine zg_dup dX7_init_40 rfl ?_
  refine zg_iconst dX7_init_41 zki_4 ?_
  refine zg_iconst dX7_init_42 zki_0 ?_
  refine zo_iastc 4 (show zq5[4]? = some (.inl (0, 12)) from rfl) (by decide) rfl dX7_init_43 ?_
  refine zg_dup dX7_init_44 rfl ?_
  refine zg_iconst dX7_init_45 zki_5 ?_
  refine zg_iconst dX7_init_46 zki_0 ?_
  refine zo_iastc 5 (show zq5[4]? = some (.inl (0, 12)) from rfl) (by decide) rfl dX7_init_47 ?_
  refine zg_dup dX7_init_48 rfl ?_
  refine zg_bipush dX7_init_49 zkb_6 ?_
  refine zg_iconst dX7_init_51 zki_0 ?_
  refine zo_iastc 6 (show zq5[4]? = some (.inl (0, 12)) from rfl) (by decide) rfl dX7_init_52 ?_
  refine zg_dup dX7_init_53 rfl ?_
  refine zg_bipush dX7_init_54 zkb_7 ?_
  refine zg_iconst dX7_init_56 zki_0 ?_
  refine zo_iastc 7 (show zq5[4]? = some (.inl (0, 12)) from rfl) (by decide) rfl dX7_init_57 ?_
  refine zg_dup dX7_init_58 rfl ?_
  refine zg_bipush dX7_init_59 zkb_8 ?_
  refine zg_iconst dX7_init_61 zki_0 ?_
  refine zo_iastc 8 (show zq5[4]? = some (.inl (0, 12)) from rfl) (by decide) rfl dX7_init_62 ?_
  refine zg_dup dX7_init_63 rfl ?_
  refine zg_bipush dX7_init_64 zkb_9 ?_
  refine zg_iconst dX7_init_66 zki_0 ?_
  refine zo_iastc 9 (show zq5[4]? = some (.inl (0, 12)) from rfl) (by decide) rfl dX7_init_67 ?_
  refine zg_dup dX7_init_68 rfl ?_
  refine zg_bipush dX7_init_69 zkb_10 ?_
  refine zg_iconst dX7_init_71 zki_0 ?_
  refine zo_iastc 10 (show zq5[4]? = some (.inl (0, 12)) from rfl) (by decide) rfl dX7_init_72 ?_
  refine zg_dup dX7_init_73 rfl ?_
  refine zg_bipush dX7_init_74 zkb_11 ?_
  refine zg_iconst dX7_init_76 zki_0 ?_
  refine zo_iastc 11 (show zq5[4]? = some (.inl (0, 12)) from rfl) (by decide) rfl dX7_init_77 ?_
  refine zg_putref (ls := [(0, .ref 3)]) (lay := [0, 0, 0, 2]) (lay' := [0, 0, 0, 3]) (T' := zq6) (o := 3) 0 tyX7_ok nmX7 inl_X7 rfl (by decide) fw_X7_21 rfl rfl (Or.inr trivial) (fun _ => rfl) (fun _ => rfl) (zBc.ini _ _ _ _ _ _ _ _) (show zq5[3]? = some (.inr (7, [0, 0, 0, 2])) from rfl) rfl rfl rfl dX7_init_78 ?_
  exact zg_cret dX7_init_81
def mm_X7_init_5 (M : zM) : zM := (zsi (zsi (zsi (zsi (zsi (zsi (zsi (zsi (zsi (zsi (zsi (zsi (zfr (zsi (zsi (zsi M 5 0 (1 : Int32)) 5 1 (1 : Int32)) 5 2 (0 : Int32)) 6) 6 0 (1 : Int32)) 6 1 (0 : Int32)) 6 2 (0 : Int32)) 6 3 (0 : Int32)) 6 4 (0 : Int32)) 6 5 (0 : Int32)) 6 6 (0 : Int32)) 6 7 (0 : Int32)) 6 8 (0 : Int32)) 6 9 (0 : Int32)) 6 10 (0 : Int32)) 6 11 (0 : Int32))
set_option maxRecDepth 20000 in
set_option maxHeartbeats 4000000 in
theorem kc_X7_init_5 (M : zM) : zKc zq8 yX7_init cX7_init 1 1 1 12 [.ref 5] M zq10 (mm_X7_init_5 M) := by
  refine zKc_of pl_X7 rfl (Nat.le_of_ble_eq_true rfl) (fun E0 sz => ?_)
  show zJ zq8 RX7 cX7_init 1 _ 0 0 0 [(0, .ref 5)] [] M
  unfold mm_X7_init_5
  refine zg_aload_n 0 dX7_init_0 rfl rfl ?_
  refine zg_obj (st := []) ow_X7_3 ow_i ow_c ⟨Nat.le_of_ble_eq_true rfl, Nat.le_of_ble_eq_true rfl⟩ dX7_init_1 ?_
  refine zg_aload_n 0 dX7_init_4 rfl rfl ?_
  refine zg_iconst dX7_init_5 zki_1 ?_
  refine zg_puti fp_X7_9 (show zq8[5]? = some (.inr (7, [0, 0, 0, 2])) from rfl) rfl dX7_init_6 ?_
  refine zg_aload_n 0 dX7_init_9 rfl rfl ?_
  refine zg_iconst dX7_init_10 zki_1 ?_
  refine zg_puti fp_X7_15 (show zq8[5]? = some (.inr (7, [0, 0, 0, 2])) from rfl) rfl dX7_init_11 ?_
  refine zg_aload_n 0 dX7_init_14 rfl rfl ?_
  refine zg_iconst dX7_init_15 zki_0 ?_
  refine zg_puti fp_X7_18 (show zq8[5]? = some (.inr (7, [0, 0, 0, 2])) from rfl) rfl dX7_init_16 ?_
  refine zg_aload_n 0 dX7_init_19 rfl rfl ?_
  refine zg_bipush dX7_init_20 zkb_12 ?_
  refine zg_newa (n := 6) (N := 12) (T' := zq9) (st := [.ref 5]) 0 .int rfl (by decide) aw_0 (by decide) (Nat.le_of_ble_eq_true rfl) rfl rfl rfl rfl (zBc.grow _ _ _ _ _ _ _ _ rfl) rfl rfl (Nat.le_of_ble_eq_true rfl) (Nat.le_of_ble_eq_true rfl) dX7_init_22 ?_
  refine zg_dup dX7_init_24 rfl ?_
  refine zg_iconst dX7_init_25 zki_0 ?_
  refine zg_iconst dX7_init_26 zki_1 ?_
  refine zo_iastc 0 (show zq9[6]? = some (.inl (0, 12)) from rfl) (by decide) rfl dX7_init_27 ?_
  refine zg_dup dX7_init_28 rfl ?_
  refine zg_iconst dX7_init_29 zki_1 ?_
  refine zg_iconst dX7_init_30 zki_0 ?_
  refine zo_iastc 1 (show zq9[6]? = some (.inl (0, 12)) from rfl) (by decide) rfl dX7_init_31 ?_
  refine zg_dup dX7_init_32 rfl ?_
  refine zg_iconst dX7_init_33 zki_2 ?_
  refine zg_iconst dX7_init_34 zki_0 ?_
  refine zo_iastc 2 (show zq9[6]? = some (.inl (0, 12)) from rfl) (by decide) rfl dX7_init_35 ?_
  refine zg_dup dX7_init_36 rfl ?_
  refine zg_iconst dX7_init_37 zki_3 ?_
  refine zg_iconst dX7_init_38 zki_0 ?_
  refine zo_iastc 3 (show zq9[6]? = some (.inl (0, 12)) from rfl) (by decide) rfl dX7_init_39 ?_
  refine zg_dup dX7_init_40 rfl ?_
  refine zg_iconst dX7_init_41 zki_4 ?_
  refine zg_iconst dX7_init_42 zki_0 ?_
  refine zo_iastc 4 (show zq9[6]? = some (.inl (0, 12)) from rfl) (by decide) rfl dX7_init_43 ?_
  refine zg_dup dX7_init_44 rfl ?_
  refine zg_iconst dX7_init_45 zki_5 ?_
  refine zg_iconst dX7_init_46 zki_0 ?_
  refine zo_iastc 5 (show zq9[6]? = some (.inl (0, 12)) from rfl) (by decide) rfl dX7_init_47 ?_
  refine zg_dup dX7_init_48 rfl ?_
  refine zg_bipush dX7_init_49 zkb_6 ?_
  refine zg_iconst dX7_init_51 zki_0 ?_
  refine zo_iastc 6 (show zq9[6]? = some (.inl (0, 12)) from rfl) (by decide) rfl dX7_init_52 ?_
  refine zg_dup dX7_init_53 rfl ?_
  refine zg_bipush dX7_init_54 zkb_7 ?_
  refine zg_iconst dX7_init_56 zki_0 ?_
  refine zo_iastc 7 (show zq9[6]? = some (.inl (0, 12)) from rfl) (by decide) rfl dX7_init_57 ?_
  refine zg_dup dX7_init_58 rfl ?_
  refine zg_bipush dX7_init_59 zkb_8 ?_
  refine zg_iconst dX7_init_61 zki_0 ?_
  refine zo_iastc 8 (show zq9[6]? = some (.inl (0, 12)) from rfl) (by decide) rfl dX7_init_62 ?_
  refine zg_dup dX7_init_63 rfl ?_
  refine zg_bipush dX7_init_64 zkb_9 ?_
  refine zg_iconst dX7_init_66 zki_0 ?_
  refine zo_iastc 9 (show zq9[6]? = some (.inl (0, 12)) from rfl) (by decide) rfl dX7_init_67 ?_
  refine zg_dup dX7_init_68 rfl ?_
  refine zg_bipush dX7_init_69 zkb_10 ?_
  refine zg_iconst dX7_init_71 zki_0 ?_
  refine zo_iastc 10 (show zq9[6]? = some (.inl (0, 12)) from rfl) (by decide) rfl dX7_init_72 ?_
  refine zg_dup dX7_init_73 rfl ?_
  refine zg_bipush dX7_init_74 zkb_11 ?_
  refine zg_iconst dX7_init_76 zki_0 ?_
  refine zo_iastc 11 (show zq9[6]? = some (.inl (0, 12)) from rfl) (by decide) rfl dX7_init_77 ?_
  refine zg_putref (ls := [(0, .ref 5)]) (lay := [0, 0, 0, 2]) (lay' := [0, 0, 0, 3]) (T' := zq10) (o := 5) 0 tyX7_ok nmX7 inl_X7 rfl (by decide) fw_X7_21 rfl rfl (Or.inr trivial) (fun _ => rfl) (fun _ => rfl) (zBc.ini _ _ _ _ _ _ _ _) (show zq9[5]? = some (.inr (7, [0, 0, 0, 2])) from rfl) rfl rfl rfl dX7_init_78 ?_
  exact zg_cret dX7_init_81
def mm_X6_init_7 (M : zM) : zM := (zsi (zfr M 8) 7 1 (0 : Int32))
set_option maxRecDepth 20000 in
set_option maxHeartbeats 4000000 in
theorem kc_X6_init_7 (M : zM) : zKc zq12 yX6_init cX6_init 1 1 1 80 [.ref 7] M zq14 (mm_X6_init_7 M) := by
  refine zKc_of pl_X6 rfl (Nat.le_of_ble_eq_true rfl) (fun E0 sz => ?_)
  show zJ zq12 RX6 cX6_init 1 _ 0 0 0 [(0, .ref 7)] [] M
  unfold mm_X6_init_7
  refine zg_aload_n 0 dX6_init_0 rfl rfl ?_
  refine zg_obj (st := []) ow_X6_3 ow_i ow_c ⟨Nat.le_of_ble_eq_true rfl, Nat.le_of_ble_eq_true rfl⟩ dX6_init_1 ?_
  refine zg_aload_n 0 dX6_init_4 rfl rfl ?_
  refine zg_bipush dX6_init_5 zkb_80 ?_
  refine zg_newa (n := 8) (N := 80) (T' := zq13) (st := [.ref 7]) 0 .int rfl (by decide) aw_0 (by decide) (Nat.le_of_ble_eq_true rfl) rfl rfl rfl rfl (zBc.grow _ _ _ _ _ _ _ _ rfl) rfl rfl (Nat.le_of_ble_eq_true rfl) (Nat.le_of_ble_eq_true rfl) dX6_init_7 ?_
  refine zg_putref (ls := [(0, .ref 7)]) (lay := [2, 0]) (lay' := [3, 0]) (T' := zq14) (o := 7) 0 tyX6_ok nmX6 inl_X6 rfl (by decide) fw_X6_9 rfl rfl (Or.inr trivial) (fun _ => rfl) (fun _ => rfl) (zBc.ini _ _ _ _ _ _ _ _) (show zq13[7]? = some (.inr (6, [2, 0])) from rfl) rfl rfl rfl dX6_init_9 ?_
  refine zg_aload_n 0 dX6_init_12 rfl rfl ?_
  refine zg_iconst dX6_init_13 zki_0 ?_
  refine zg_puti fp_X6_15 (show zq14[7]? = some (.inr (6, [3, 0])) from rfl) rfl dX6_init_14 ?_
  exact zg_cret dX6_init_17
def mm_X3_init_9 (M : zM) : zM := (zsi (zfr M 10) 9 1 (0 : Int32))
set_option maxRecDepth 20000 in
set_option maxHeartbeats 4000000 in
theorem kc_X3_init_9 (M : zM) : zKc zq16 yX3_init cX3_init 1 1 1 8 [.ref 9] M zq18 (mm_X3_init_9 M) := by
  refine zKc_of pl_X3 rfl (Nat.le_of_ble_eq_true rfl) (fun E0 sz => ?_)
  show zJ zq16 RX3 cX3_init 1 _ 0 0 0 [(0, .ref 9)] [] M
  unfold mm_X3_init_9
  refine zg_aload_n 0 dX3_init_0 rfl rfl ?_
  refine zg_obj (st := []) ow_X3_3 ow_i ow_c ⟨Nat.le_of_ble_eq_true rfl, Nat.le_of_ble_eq_true rfl⟩ dX3_init_1 ?_
  refine zg_aload_n 0 dX3_init_4 rfl rfl ?_
  refine zg_bipush dX3_init_5 zkb_8 ?_
  refine zg_newa (n := 10) (N := 8) (T' := zq17) (st := [.ref 9]) 1 .long rfl (by decide) aw_1 (by decide) (Nat.le_of_ble_eq_true rfl) rfl rfl rfl rfl (zBc.grow _ _ _ _ _ _ _ _ rfl) rfl rfl (Nat.le_of_ble_eq_true rfl) (Nat.le_of_ble_eq_true rfl) dX3_init_7 ?_
  refine zg_putref (ls := [(0, .ref 9)]) (lay := [2, 0]) (lay' := [3, 0]) (T' := zq18) (o := 9) 0 tyX3_ok nmX3 inl_X3 rfl (by decide) fw_X3_9 rfl rfl (Or.inr trivial) (fun _ => rfl) (fun _ => rfl) (zBc.ini _ _ _ _ _ _ _ _) (show zq17[9]? = some (.inr (3, [2, 0])) from rfl) rfl rfl rfl dX3_init_9 ?_
  refine zg_aload_n 0 dX3_init_12 rfl rfl ?_
  refine zg_iconst dX3_init_13 zki_0 ?_
  refine zg_puti fp_X3_15 (show zq18[9]? = some (.inr (3, [3, 0])) from rfl) rfl dX3_init_14 ?_
  exact zg_cret dX3_init_17
def mm_X4_init_11 (M : zM) : zM := (zpp 11 (zfr (zfr (zfr (zsi (zfr M 12) 11 1 (0 : Int32)) 13) 14) 15))
set_option maxRecDepth 20000 in
set_option maxHeartbeats 4000000 in
theorem kc_X4_init_11 (M : zM) : zKc zq20 yX4_init cX4_init 1 3 4 125 [.ref 11] M zq28 (mm_X4_init_11 M) := by
  refine zKc_of pl_X4 rfl (Nat.le_of_ble_eq_true rfl) (fun E0 sz => ?_)
  show zJ zq20 RX4 cX4_init 1 _ 0 0 0 [(0, .ref 11)] [] M
  unfold mm_X4_init_11
  refine zg_aload_n 0 dX4_init_0 rfl rfl ?_
  refine zg_obj (st := []) ow_X4_5 ow_i ow_c ⟨Nat.le_of_ble_eq_true rfl, Nat.le_of_ble_eq_true rfl⟩ dX4_init_1 ?_
  refine zg_aload_n 0 dX4_init_4 rfl rfl ?_
  refine zg_bipush dX4_init_5 zkb_40 ?_
  refine zg_newa (n := 12) (N := 40) (T' := zq21) (st := [.ref 11]) 0 .int rfl (by decide) aw_0 (by decide) (Nat.le_of_ble_eq_true rfl) rfl rfl rfl rfl (zBc.grow _ _ _ _ _ _ _ _ rfl) rfl rfl (Nat.le_of_ble_eq_true rfl) (Nat.le_of_ble_eq_true rfl) dX4_init_7 ?_
  refine zg_putref (ls := [(0, .ref 11)]) (lay := [2, 0, 2, 0, 2, 0, 0, 0, 2]) (lay' := [3, 0, 2, 0, 2, 0, 0, 0, 2]) (T' := zq22) (o := 11) 0 tyX4_ok nmX4 inl_X4 rfl (by decide) fw_X4_11 rfl rfl (Or.inr trivial) (fun _ => rfl) (fun _ => rfl) (zBc.ini _ _ _ _ _ _ _ _) (show zq21[11]? = some (.inr (4, [2, 0, 2, 0, 2, 0, 0, 0, 2])) from rfl) rfl rfl rfl dX4_init_9 ?_
  refine zg_aload_n 0 dX4_init_12 rfl rfl ?_
  refine zg_iconst dX4_init_13 zki_0 ?_
  refine zg_puti fp_X4_15 (show zq22[11]? = some (.inr (4, [3, 0, 2, 0, 2, 0, 0, 0, 2])) from rfl) rfl dX4_init_14 ?_
  refine zg_aload_n 0 dX4_init_17 rfl rfl ?_
  refine zg_bipush dX4_init_18 zkb_40 ?_
  refine zg_newa (n := 13) (N := 40) (T' := zq23) (st := [.ref 11]) 0 .int rfl (by decide) aw_0 (by decide) (Nat.le_of_ble_eq_true rfl) rfl rfl rfl rfl (zBc.grow _ _ _ _ _ _ _ _ rfl) rfl rfl (Nat.le_of_ble_eq_true rfl) (Nat.le_of_ble_eq_true rfl) dX4_init_20 ?_
  refine zg_putref (ls := [(0, .ref 11)]) (lay := [3, 0, 2, 0, 2, 0, 0, 0, 2]) (lay' := [3, 0, 4, 0, 2, 0, 0, 0, 2]) (T' := zq24) (o := 11) 1 tyX4_ok nmX4 inl_X4 rfl (by decide) fw_X4_19 rfl rfl (Or.inr trivial) (fun _ => rfl) (fun _ => rfl) (zBc.ini _ _ _ _ _ _ _ _) (show zq23[11]? = some (.inr (4, [3, 0, 2, 0, 2, 0, 0, 0, 2])) from rfl) rfl rfl rfl dX4_init_22 ?_
  refine zg_aload_n 0 dX4_init_25 rfl rfl ?_
  refine zg_iconst dX4_init_26 zki_5 ?_
  refine zg_newa (n := 14) (N := 5) (T' := zq25) (st := [.ref 11]) 2 .boolean rfl (by decide) aw_2 (by decide) (Nat.le_of_ble_eq_true rfl) rfl rfl rfl rfl (zBc.grow _ _ _ _ _ _ _ _ rfl) rfl rfl (Nat.le_of_ble_eq_true rfl) (Nat.le_of_ble_eq_true rfl) dX4_init_27 ?_
  refine zg_putref (ls := [(0, .ref 11)]) (lay := [3, 0, 4, 0, 2, 0, 0, 0, 2]) (lay' := [3, 0, 4, 0, 5, 0, 0, 0, 2]) (T' := zq26) (o := 11) 2 tyX4_ok nmX4 inl_X4 rfl (by decide) fw_X4_22 rfl rfl (Or.inr trivial) (fun _ => rfl) (fun _ => rfl) (zBc.ini _ _ _ _ _ _ _ _) (show zq25[11]? = some (.inr (4, [3, 0, 4, 0, 2, 0, 0, 0, 2])) from rfl) rfl rfl rfl dX4_init_29 ?_
  refine zg_aload_n 0 dX4_init_32 rfl rfl ?_
  refine zg_bipush dX4_init_33 zkb_40 ?_
  refine zg_newa (n := 15) (N := 40) (T' := zq27) (st := [.ref 11]) 0 .int rfl (by decide) aw_0 (by decide) (Nat.le_of_ble_eq_true rfl) rfl rfl rfl rfl (zBc.grow _ _ _ _ _ _ _ _ rfl) rfl rfl (Nat.le_of_ble_eq_true rfl) (Nat.le_of_ble_eq_true rfl) dX4_init_35 ?_
  refine zg_putref (ls := [(0, .ref 11)]) (lay := [3, 0, 4, 0, 5, 0, 0, 0, 2]) (lay' := [3, 0, 4, 0, 5, 0, 0, 0, 6]) (T' := zq28) (o := 11) 3 tyX4_ok nmX4 inl_X4 rfl (by decide) fw_X4_26 rfl rfl (Or.inr trivial) (fun _ => rfl) (fun _ => rfl) (zBc.ini _ _ _ _ _ _ _ _) (show zq27[11]? = some (.inr (4, [3, 0, 4, 0, 5, 0, 0, 0, 2])) from rfl) rfl rfl rfl dX4_init_37 ?_
  refine zg_aload_n 0 dX4_init_40 rfl rfl ?_
  refine zg_callV (st := []) (k_X4_putPlainRule (T := zq28) (a0 := 11) ⟨rfl, rfl, rfl, rfl, rfl⟩ (pp_ok 11 (zfr (zfr (zfr (zsi (zfr M 12) 11 1 (0 : Int32)) 13) 14) 15) rfl)) zY_X4_putPlainRule lv_X4_29 rfl (show zq28[11]? = some (.inr (4, [3, 0, 4, 0, 5, 0, 0, 0, 6])) from rfl) rfl ⟨⟨Nat.le_of_ble_eq_true rfl, Nat.le_of_ble_eq_true rfl⟩, Nat.le_of_ble_eq_true rfl, Nat.le_of_ble_eq_true rfl⟩ (Nat.le_of_ble_eq_true rfl) dX4_init_41 rfl ?_
  exact zg_cret dX4_init_44
def mm_X4_init_16 (M : zM) : zM := (zpp 16 (zfr (zfr (zfr (zsi (zfr M 17) 16 1 (0 : Int32)) 18) 19) 20))
set_option maxRecDepth 20000 in
set_option maxHeartbeats 4000000 in
theorem kc_X4_init_16 (M : zM) : zKc zq30 yX4_init cX4_init 1 3 4 125 [.ref 16] M zq38 (mm_X4_init_16 M) := by
  refine zKc_of pl_X4 rfl (Nat.le_of_ble_eq_true rfl) (fun E0 sz => ?_)
  show zJ zq30 RX4 cX4_init 1 _ 0 0 0 [(0, .ref 16)] [] M
  unfold mm_X4_init_16
  refine zg_aload_n 0 dX4_init_0 rfl rfl ?_
  refine zg_obj (st := []) ow_X4_5 ow_i ow_c ⟨Nat.le_of_ble_eq_true rfl, Nat.le_of_ble_eq_true rfl⟩ dX4_init_1 ?_
  refine zg_aload_n 0 dX4_init_4 rfl rfl ?_
  refine zg_bipush dX4_init_5 zkb_40 ?_
  refine zg_newa (n := 17) (N := 40) (T' := zq31) (st := [.ref 16]) 0 .int rfl (by decide) aw_0 (by decide) (Nat.le_of_ble_eq_true rfl) rfl rfl rfl rfl (zBc.grow _ _ _ _ _ _ _ _ rfl) rfl rfl (Nat.le_of_ble_eq_true rfl) (Nat.le_of_ble_eq_true rfl) dX4_init_7 ?_
  refine zg_putref (ls := [(0, .ref 16)]) (lay := [2, 0, 2, 0, 2, 0, 0, 0, 2]) (lay' := [3, 0, 2, 0, 2, 0, 0, 0, 2]) (T' := zq32) (o := 16) 0 tyX4_ok nmX4 inl_X4 rfl (by decide) fw_X4_11 rfl rfl (Or.inr trivial) (fun _ => rfl) (fun _ => rfl) (zBc.ini _ _ _ _ _ _ _ _) (show zq31[16]? = some (.inr (4, [2, 0, 2, 0, 2, 0, 0, 0, 2])) from rfl) rfl rfl rfl dX4_init_9 ?_
  refine zg_aload_n 0 dX4_init_12 rfl rfl ?_
  refine zg_iconst dX4_init_13 zki_0 ?_
  refine zg_puti fp_X4_15 (show zq32[16]? = some (.inr (4, [3, 0, 2, 0, 2, 0, 0, 0, 2])) from rfl) rfl dX4_init_14 ?_
  refine zg_aload_n 0 dX4_init_17 rfl rfl ?_
  refine zg_bipush dX4_init_18 zkb_40 ?_
  refine zg_newa (n := 18) (N := 40) (T' := zq33) (st := [.ref 16]) 0 .int rfl (by decide) aw_0 (by decide) (Nat.le_of_ble_eq_true rfl) rfl rfl rfl rfl (zBc.grow _ _ _ _ _ _ _ _ rfl) rfl rfl (Nat.le_of_ble_eq_true rfl) (Nat.le_of_ble_eq_true rfl) dX4_init_20 ?_
  refine zg_putref (ls := [(0, .ref 16)]) (lay := [3, 0, 2, 0, 2, 0, 0, 0, 2]) (lay' := [3, 0, 4, 0, 2, 0, 0, 0, 2]) (T' := zq34) (o := 16) 1 tyX4_ok nmX4 inl_X4 rfl (by decide) fw_X4_19 rfl rfl (Or.inr trivial) (fun _ => rfl) (fun _ => rfl) (zBc.ini _ _ _ _ _ _ _ _) (show zq33[16]? = some (.inr (4, [3, 0, 2, 0, 2, 0, 0, 0, 2])) from rfl) rfl rfl rfl dX4_init_22 ?_
  refine zg_aload_n 0 dX4_init_25 rfl rfl ?_
  refine zg_iconst dX4_init_26 zki_5 ?_
  refine zg_newa (n := 19) (N := 5) (T' := zq35) (st := [.ref 16]) 2 .boolean rfl (by decide) aw_2 (by decide) (Nat.le_of_ble_eq_true rfl) rfl rfl rfl rfl (zBc.grow _ _ _ _ _ _ _ _ rfl) rfl rfl (Nat.le_of_ble_eq_true rfl) (Nat.le_of_ble_eq_true rfl) dX4_init_27 ?_
  refine zg_putref (ls := [(0, .ref 16)]) (lay := [3, 0, 4, 0, 2, 0, 0, 0, 2]) (lay' := [3, 0, 4, 0, 5, 0, 0, 0, 2]) (T' := zq36) (o := 16) 2 tyX4_ok nmX4 inl_X4 rfl (by decide) fw_X4_22 rfl rfl (Or.inr trivial) (fun _ => rfl) (fun _ => rfl) (zBc.ini _ _ _ _ _ _ _ _) (show zq35[16]? = some (.inr (4, [3, 0, 4, 0, 2, 0, 0, 0, 2])) from rfl) rfl rfl rfl dX4_init_29 ?_
  refine zg_aload_n 0 dX4_init_32 rfl rfl ?_
  refine zg_bipush dX4_init_33 zkb_40 ?_
  refine zg_newa (n := 20) (N := 40) (T' := zq37) (st := [.ref 16]) 0 .int rfl (by decide) aw_0 (by decide) (Nat.le_of_ble_eq_true rfl) rfl rfl rfl rfl (zBc.grow _ _ _ _ _ _ _ _ rfl) rfl rfl (Nat.le_of_ble_eq_true rfl) (Nat.le_of_ble_eq_true rfl) dX4_init_35 ?_
  refine zg_putref (ls := [(0, .ref 16)]) (lay := [3, 0, 4, 0, 5, 0, 0, 0, 2]) (lay' := [3, 0, 4, 0, 5, 0, 0, 0, 6]) (T' := zq38) (o := 16) 3 tyX4_ok nmX4 inl_X4 rfl (by decide) fw_X4_26 rfl rfl (Or.inr trivial) (fun _ => rfl) (fun _ => rfl) (zBc.ini _ _ _ _ _ _ _ _) (show zq37[16]? = some (.inr (4, [3, 0, 4, 0, 5, 0, 0, 0, 2])) from rfl) rfl rfl rfl dX4_init_37 ?_
  refine zg_aload_n 0 dX4_init_40 rfl rfl ?_
  refine zg_callV (st := []) (k_X4_putPlainRule (T := zq38) (a0 := 16) ⟨rfl, rfl, rfl, rfl, rfl⟩ (pp_ok 16 (zfr (zfr (zfr (zsi (zfr M 17) 16 1 (0 : Int32)) 18) 19) 20) rfl)) zY_X4_putPlainRule lv_X4_29 rfl (show zq38[16]? = some (.inr (4, [3, 0, 4, 0, 5, 0, 0, 0, 6])) from rfl) rfl ⟨⟨Nat.le_of_ble_eq_true rfl, Nat.le_of_ble_eq_true rfl⟩, Nat.le_of_ble_eq_true rfl, Nat.le_of_ble_eq_true rfl⟩ (Nat.le_of_ble_eq_true rfl) dX4_init_41 rfl ?_
  exact zg_cret dX4_init_44
def mm_X0_init_21 (M : zM) : zM := (zsj (zfr (zfr (zfr (zfr (zfr M 22) 23) 24) 25) 26) 21 5 (0 : Int64))
set_option maxRecDepth 20000 in
set_option maxHeartbeats 4000000 in
theorem kc_X0_init_21 (M : zM) : zKc zq40 yX0_init cX0_init 1 1 5 165 [.ref 21] M zq50 (mm_X0_init_21 M) := by
  refine zKc_of pl_X0 rfl (Nat.le_of_ble_eq_true rfl) (fun E0 sz => ?_)
  show zJ zq40 RX0 cX0_init 1 _ 0 0 0 [(0, .ref 21)] [] M
  unfold mm_X0_init_21
  refine zg_aload_n 0 dX0_init_0 rfl rfl ?_
  refine zg_obj (st := []) ow_X0_3 ow_i ow_c ⟨Nat.le_of_ble_eq_true rfl, Nat.le_of_ble_eq_true rfl⟩ dX0_init_1 ?_
  refine zg_aload_n 0 dX0_init_4 rfl rfl ?_
  refine zg_bipush dX0_init_5 zkb_12 ?_
  refine zg_newa (n := 22) (N := 12) (T' := zq41) (st := [.ref 21]) 0 .int rfl (by decide) aw_0 (by decide) (Nat.le_of_ble_eq_true rfl) rfl rfl rfl rfl (zBc.grow _ _ _ _ _ _ _ _ rfl) rfl rfl (Nat.le_of_ble_eq_true rfl) (Nat.le_of_ble_eq_true rfl) dX0_init_7 ?_
  refine zg_putref (ls := [(0, .ref 21)]) (lay := [2, 2, 2, 2, 2, 1]) (lay' := [3, 2, 2, 2, 2, 1]) (T' := zq42) (o := 21) 0 tyX0_ok nmX0 inl_X0 rfl (by decide) fw_X0_9 rfl rfl (Or.inr trivial) (fun _ => rfl) (fun _ => rfl) (zBc.ini _ _ _ _ _ _ _ _) (show zq41[21]? = some (.inr (0, [2, 2, 2, 2, 2, 1])) from rfl) rfl rfl rfl dX0_init_9 ?_
  refine zg_aload_n 0 dX0_init_12 rfl rfl ?_
  refine zg_bipush dX0_init_13 zkb_12 ?_
  refine zg_newa (n := 23) (N := 12) (T' := zq43) (st := [.ref 21]) 0 .int rfl (by decide) aw_0 (by decide) (Nat.le_of_ble_eq_true rfl) rfl rfl rfl rfl (zBc.grow _ _ _ _ _ _ _ _ rfl) rfl rfl (Nat.le_of_ble_eq_true rfl) (Nat.le_of_ble_eq_true rfl) dX0_init_15 ?_
  refine zg_putref (ls := [(0, .ref 21)]) (lay := [3, 2, 2, 2, 2, 1]) (lay' := [3, 4, 2, 2, 2, 1]) (T' := zq44) (o := 21) 1 tyX0_ok nmX0 inl_X0 rfl (by decide) fw_X0_15 rfl rfl (Or.inr trivial) (fun _ => rfl) (fun _ => rfl) (zBc.ini _ _ _ _ _ _ _ _) (show zq43[21]? = some (.inr (0, [3, 2, 2, 2, 2, 1])) from rfl) rfl rfl rfl dX0_init_17 ?_
  refine zg_aload_n 0 dX0_init_20 rfl rfl ?_
  refine zg_bipush dX0_init_21 zkb_64 ?_
  refine zg_newa (n := 24) (N := 64) (T' := zq45) (st := [.ref 21]) 1 .long rfl (by decide) aw_1 (by decide) (Nat.le_of_ble_eq_true rfl) rfl rfl rfl rfl (zBc.grow _ _ _ _ _ _ _ _ rfl) rfl rfl (Nat.le_of_ble_eq_true rfl) (Nat.le_of_ble_eq_true rfl) dX0_init_23 ?_
  refine zg_putref (ls := [(0, .ref 21)]) (lay := [3, 4, 2, 2, 2, 1]) (lay' := [3, 4, 5, 2, 2, 1]) (T' := zq46) (o := 21) 2 tyX0_ok nmX0 inl_X0 rfl (by decide) fw_X0_18 rfl rfl (Or.inr trivial) (fun _ => rfl) (fun _ => rfl) (zBc.ini _ _ _ _ _ _ _ _) (show zq45[21]? = some (.inr (0, [3, 4, 2, 2, 2, 1])) from rfl) rfl rfl rfl dX0_init_25 ?_
  refine zg_aload_n 0 dX0_init_28 rfl rfl ?_
  refine zg_bipush dX0_init_29 zkb_64 ?_
  refine zg_newa (n := 25) (N := 64) (T' := zq47) (st := [.ref 21]) 1 .long rfl (by decide) aw_1 (by decide) (Nat.le_of_ble_eq_true rfl) rfl rfl rfl rfl (zBc.grow _ _ _ _ _ _ _ _ rfl) rfl rfl (Nat.le_of_ble_eq_true rfl) (Nat.le_of_ble_eq_true rfl) dX0_init_31 ?_
  refine zg_putref (ls := [(0, .ref 21)]) (lay := [3, 4, 5, 2, 2, 1]) (lay' := [3, 4, 5, 6, 2, 1]) (T' := zq48) (o := 21) 3 tyX0_ok nmX0 inl_X0 rfl (by decide) fw_X0_22 rfl rfl (Or.inr trivial) (fun _ => rfl) (fun _ => rfl) (zBc.ini _ _ _ _ _ _ _ _) (show zq47[21]? = some (.inr (0, [3, 4, 5, 2, 2, 1])) from rfl) rfl rfl rfl dX0_init_33 ?_
  refine zg_aload_n 0 dX0_init_36 rfl rfl ?_
  refine zg_bipush dX0_init_37 zkb_13 ?_
  refine zg_newa (n := 26) (N := 13) (T' := zq49) (st := [.ref 21]) 0 .int rfl (by decide) aw_0 (by decide) (Nat.le_of_ble_eq_true rfl) rfl rfl rfl rfl (zBc.grow _ _ _ _ _ _ _ _ rfl) rfl rfl (Nat.le_of_ble_eq_true rfl) (Nat.le_of_ble_eq_true rfl) dX0_init_39 ?_
  refine zg_putref (ls := [(0, .ref 21)]) (lay := [3, 4, 5, 6, 2, 1]) (lay' := [3, 4, 5, 6, 7, 1]) (T' := zq50) (o := 21) 4 tyX0_ok nmX0 inl_X0 rfl (by decide) fw_X0_25 rfl rfl (Or.inr trivial) (fun _ => rfl) (fun _ => rfl) (zBc.ini _ _ _ _ _ _ _ _) (show zq49[21]? = some (.inr (0, [3, 4, 5, 6, 2, 1])) from rfl) rfl rfl rfl dX0_init_41 ?_
  refine zg_aload_n 0 dX0_init_44 rfl rfl ?_
  refine zg_lconst dX0_init_45 (v := 0) rfl ?_
  refine zg_putl fp_X0_28 (show zq50[21]? = some (.inr (0, [3, 4, 5, 6, 7, 1])) from rfl) rfl dX0_init_46 ?_
  exact zg_cret dX0_init_49
def mm_X1_init_27 (M : zM) : zM := (zfr (zfr M 28) 29)
set_option maxRecDepth 20000 in
set_option maxHeartbeats 4000000 in
theorem kc_X1_init_27 (M : zM) : zKc zq52 yX1_init cX1_init 1 1 2 1030 [.ref 27] M zq56 (mm_X1_init_27 M) := by
  refine zKc_of pl_X1 rfl (Nat.le_of_ble_eq_true rfl) (fun E0 sz => ?_)
  show zJ zq52 RX1 cX1_init 1 _ 0 0 0 [(0, .ref 27)] [] M
  unfold mm_X1_init_27
  refine zg_aload_n 0 dX1_init_0 rfl rfl ?_
  refine zg_obj (st := []) ow_X1_3 ow_i ow_c ⟨Nat.le_of_ble_eq_true rfl, Nat.le_of_ble_eq_true rfl⟩ dX1_init_1 ?_
  refine zg_aload_n 0 dX1_init_4 rfl rfl ?_
  refine zg_bipush dX1_init_5 zkb_6 ?_
  refine zg_newa (n := 28) (N := 6) (T' := zq53) (st := [.ref 27]) 0 .int rfl (by decide) aw_0 (by decide) (Nat.le_of_ble_eq_true rfl) rfl rfl rfl rfl (zBc.grow _ _ _ _ _ _ _ _ rfl) rfl rfl (Nat.le_of_ble_eq_true rfl) (Nat.le_of_ble_eq_true rfl) dX1_init_7 ?_
  refine zg_putref (ls := [(0, .ref 27)]) (lay := [2, 0, 2]) (lay' := [3, 0, 2]) (T' := zq54) (o := 27) 0 tyX1_ok nmX1 inl_X1 rfl (by decide) fw_X1_9 rfl rfl (Or.inr trivial) (fun _ => rfl) (fun _ => rfl) (zBc.ini _ _ _ _ _ _ _ _) (show zq53[27]? = some (.inr (1, [2, 0, 2])) from rfl) rfl rfl rfl dX1_init_9 ?_
  refine zg_aload_n 0 dX1_init_12 rfl rfl ?_
  refine zg_sipush dX1_init_13 zks_1024 ?_
  refine zg_newa (n := 29) (N := 1024) (T' := zq55) (st := [.ref 27]) 1 .long rfl (by decide) aw_1 (by decide) (Nat.le_of_ble_eq_true rfl) rfl rfl rfl rfl (zBc.grow _ _ _ _ _ _ _ _ rfl) rfl rfl (Nat.le_of_ble_eq_true rfl) (Nat.le_of_ble_eq_true rfl) dX1_init_16 ?_
  refine zg_putref (ls := [(0, .ref 27)]) (lay := [3, 0, 2]) (lay' := [3, 0, 4]) (T' := zq56) (o := 27) 1 tyX1_ok nmX1 inl_X1 rfl (by decide) fw_X1_15 rfl rfl (Or.inr trivial) (fun _ => rfl) (fun _ => rfl) (zBc.ini _ _ _ _ _ _ _ _) (show zq55[27]? = some (.inr (1, [3, 0, 2])) from rfl) rfl rfl rfl dX1_init_18 ?_
  exact zg_cret dX1_init_21
def mm_X5_init_30 (M : zM) : zM := (zsi (zfr (zfr M 31) 32) 30 2 (0 : Int32))
set_option maxRecDepth 20000 in
set_option maxHeartbeats 4000000 in
theorem kc_X5_init_30 (M : zM) : zKc zq58 yX5_init cX5_init 1 1 2 24 [.ref 30] M zq62 (mm_X5_init_30 M) := by
  refine zKc_of pl_X5 rfl (Nat.le_of_ble_eq_true rfl) (fun E0 sz => ?_)
  show zJ zq58 RX5 cX5_init 1 _ 0 0 0 [(0, .ref 30)] [] M
  unfold mm_X5_init_30
  refine zg_aload_n 0 dX5_init_0 rfl rfl ?_
  refine zg_obj (st := []) ow_X5_3 ow_i ow_c ⟨Nat.le_of_ble_eq_true rfl, Nat.le_of_ble_eq_true rfl⟩ dX5_init_1 ?_
  refine zg_aload_n 0 dX5_init_4 rfl rfl ?_
  refine zg_bipush dX5_init_5 zkb_12 ?_
  refine zg_newa (n := 31) (N := 12) (T' := zq59) (st := [.ref 30]) 0 .int rfl (by decide) aw_0 (by decide) (Nat.le_of_ble_eq_true rfl) rfl rfl rfl rfl (zBc.grow _ _ _ _ _ _ _ _ rfl) rfl rfl (Nat.le_of_ble_eq_true rfl) (Nat.le_of_ble_eq_true rfl) dX5_init_7 ?_
  refine zg_putref (ls := [(0, .ref 30)]) (lay := [2, 2, 0]) (lay' := [3, 2, 0]) (T' := zq60) (o := 30) 0 tyX5_ok nmX5 inl_X5 rfl (by decide) fw_X5_9 rfl rfl (Or.inr trivial) (fun _ => rfl) (fun _ => rfl) (zBc.ini _ _ _ _ _ _ _ _) (show zq59[30]? = some (.inr (5, [2, 2, 0])) from rfl) rfl rfl rfl dX5_init_9 ?_
  refine zg_aload_n 0 dX5_init_12 rfl rfl ?_
  refine zg_bipush dX5_init_13 zkb_12 ?_
  refine zg_newa (n := 32) (N := 12) (T' := zq61) (st := [.ref 30]) 0 .int rfl (by decide) aw_0 (by decide) (Nat.le_of_ble_eq_true rfl) rfl rfl rfl rfl (zBc.grow _ _ _ _ _ _ _ _ rfl) rfl rfl (Nat.le_of_ble_eq_true rfl) (Nat.le_of_ble_eq_true rfl) dX5_init_15 ?_
  refine zg_putref (ls := [(0, .ref 30)]) (lay := [3, 2, 0]) (lay' := [3, 4, 0]) (T' := zq62) (o := 30) 1 tyX5_ok nmX5 inl_X5 rfl (by decide) fw_X5_15 rfl rfl (Or.inr trivial) (fun _ => rfl) (fun _ => rfl) (zBc.ini _ _ _ _ _ _ _ _) (show zq61[30]? = some (.inr (5, [3, 2, 0])) from rfl) rfl rfl rfl dX5_init_17 ?_
  refine zg_aload_n 0 dX5_init_20 rfl rfl ?_
  refine zg_iconst dX5_init_21 zki_0 ?_
  refine zg_puti fp_X5_18 (show zq62[30]? = some (.inr (5, [3, 4, 0])) from rfl) rfl dX5_init_22 ?_
  exact zg_cret dX5_init_25
def mm_X2_init_33 (M : zM) : zM := (zfr (zfr (zsi M 33 2 (0 : Int32)) 34) 35)
set_option maxRecDepth 20000 in
set_option maxHeartbeats 4000000 in
theorem kc_X2_init_33 (M : zM) : zKc zq64 yX2_init cX2_init 2 1 2 30 [.ref 33, .int (15 : Int32)] M zq68 (mm_X2_init_33 M) := by
  refine zKc_of pl_X2 rfl (Nat.le_of_ble_eq_true rfl) (fun E0 sz => ?_)
  show zJ zq64 RX2 cX2_init 2 _ 0 0 0 [(0, .ref 33), (1, .int (15 : Int32))] [] M
  unfold mm_X2_init_33
  refine zg_aload_n 0 dX2_init_0 rfl rfl ?_
  refine zg_obj (st := []) ow_X2_1 ow_i ow_c ⟨Nat.le_of_ble_eq_true rfl, Nat.le_of_ble_eq_true rfl⟩ dX2_init_1 ?_
  refine zg_aload_n 0 dX2_init_4 rfl rfl ?_
  refine zg_iconst dX2_init_5 zki_0 ?_
  refine zg_puti fp_X2_7 (show zq64[33]? = some (.inr (2, [2, 2, 0])) from rfl) rfl dX2_init_6 ?_
  refine zg_aload_n 0 dX2_init_9 rfl rfl ?_
  refine zg_iload_n 1 dX2_init_10 rfl rfl ?_
  refine zg_newa (n := 34) (N := 15) (T' := zq65) (st := [.ref 33]) 1 .long rfl (by decide) aw_1 (by decide) (Nat.le_of_ble_eq_true rfl) rfl rfl rfl rfl (zBc.grow _ _ _ _ _ _ _ _ rfl) rfl rfl (Nat.le_of_ble_eq_true rfl) (Nat.le_of_ble_eq_true rfl) dX2_init_11 ?_
  refine zg_putref (ls := [(0, .ref 33), (1, .int (15 : Int32))]) (lay := [2, 2, 0]) (lay' := [3, 2, 0]) (T' := zq66) (o := 33) 0 tyX2_ok nmX2 inl_X2 rfl (by decide) fw_X2_13 rfl rfl (Or.inr trivial) (fun _ => rfl) (fun _ => rfl) (zBc.ini _ _ _ _ _ _ _ _) (show zq65[33]? = some (.inr (2, [2, 2, 0])) from rfl) rfl rfl rfl dX2_init_13 ?_
  refine zg_aload_n 0 dX2_init_16 rfl rfl ?_
  refine zg_iload_n 1 dX2_init_17 rfl rfl ?_
  refine zg_newa (n := 35) (N := 15) (T' := zq67) (st := [.ref 33]) 0 .int rfl (by decide) aw_0 (by decide) (Nat.le_of_ble_eq_true rfl) rfl rfl rfl rfl (zBc.grow _ _ _ _ _ _ _ _ rfl) rfl rfl (Nat.le_of_ble_eq_true rfl) (Nat.le_of_ble_eq_true rfl) dX2_init_18 ?_
  refine zg_putref (ls := [(0, .ref 33), (1, .int (15 : Int32))]) (lay := [3, 2, 0]) (lay' := [3, 4, 0]) (T' := zq68) (o := 33) 1 tyX2_ok nmX2 inl_X2 rfl (by decide) fw_X2_17 rfl rfl (Or.inr trivial) (fun _ => rfl) (fun _ => rfl) (zBc.ini _ _ _ _ _ _ _ _) (show zq67[33]? = some (.inr (2, [3, 2, 0])) from rfl) rfl rfl rfl dX2_init_20 ?_
  exact zg_cret dX2_init_23
def mm_X2_init_36 (M : zM) : zM := (zfr (zfr (zsi M 36 2 (0 : Int32)) 37) 38)
set_option maxRecDepth 20000 in
set_option maxHeartbeats 4000000 in
theorem kc_X2_init_36 (M : zM) : zKc zq70 yX2_init cX2_init 2 1 2 6 [.ref 36, .int (3 : Int32)] M zq74 (mm_X2_init_36 M) := by
  refine zKc_of pl_X2 rfl (Nat.le_of_ble_eq_true rfl) (fun E0 sz => ?_)
  show zJ zq70 RX2 cX2_init 2 _ 0 0 0 [(0, .ref 36), (1, .int (3 : Int32))] [] M
  unfold mm_X2_init_36
  refine zg_aload_n 0 dX2_init_0 rfl rfl ?_
  refine zg_obj (st := []) ow_X2_1 ow_i ow_c ⟨Nat.le_of_ble_eq_true rfl, Nat.le_of_ble_eq_true rfl⟩ dX2_init_1 ?_
  refine zg_aload_n 0 dX2_init_4 rfl rfl ?_
  refine zg_iconst dX2_init_5 zki_0 ?_
  refine zg_puti fp_X2_7 (show zq70[36]? = some (.inr (2, [2, 2, 0])) from rfl) rfl dX2_init_6 ?_
  refine zg_aload_n 0 dX2_init_9 rfl rfl ?_
  refine zg_iload_n 1 dX2_init_10 rfl rfl ?_
  refine zg_newa (n := 37) (N := 3) (T' := zq71) (st := [.ref 36]) 1 .long rfl (by decide) aw_1 (by decide) (Nat.le_of_ble_eq_true rfl) rfl rfl rfl rfl (zBc.grow _ _ _ _ _ _ _ _ rfl) rfl rfl (Nat.le_of_ble_eq_true rfl) (Nat.le_of_ble_eq_true rfl) dX2_init_11 ?_
  refine zg_putref (ls := [(0, .ref 36), (1, .int (3 : Int32))]) (lay := [2, 2, 0]) (lay' := [3, 2, 0]) (T' := zq72) (o := 36) 0 tyX2_ok nmX2 inl_X2 rfl (by decide) fw_X2_13 rfl rfl (Or.inr trivial) (fun _ => rfl) (fun _ => rfl) (zBc.ini _ _ _ _ _ _ _ _) (show zq71[36]? = some (.inr (2, [2, 2, 0])) from rfl) rfl rfl rfl dX2_init_13 ?_
  refine zg_aload_n 0 dX2_init_16 rfl rfl ?_
  refine zg_iload_n 1 dX2_init_17 rfl rfl ?_
  refine zg_newa (n := 38) (N := 3) (T' := zq73) (st := [.ref 36]) 0 .int rfl (by decide) aw_0 (by decide) (Nat.le_of_ble_eq_true rfl) rfl rfl rfl rfl (zBc.grow _ _ _ _ _ _ _ _ rfl) rfl rfl (Nat.le_of_ble_eq_true rfl) (Nat.le_of_ble_eq_true rfl) dX2_init_18 ?_
  refine zg_putref (ls := [(0, .ref 36), (1, .int (3 : Int32))]) (lay := [3, 2, 0]) (lay' := [3, 4, 0]) (T' := zq74) (o := 36) 1 tyX2_ok nmX2 inl_X2 rfl (by decide) fw_X2_17 rfl rfl (Or.inr trivial) (fun _ => rfl) (fun _ => rfl) (zBc.ini _ _ _ _ _ _ _ _) (show zq73[36]? = some (.inr (2, [3, 2, 0])) from rfl) rfl rfl rfl dX2_init_20 ?_
  exact zg_cret dX2_init_23
def mm_X8_init_0 (M : zM) : zM := (zsi (mm_X2_init_36 (zfr (mm_X2_init_33 (zfr (mm_X5_init_30 (zfr (mm_X1_init_27 (zfr (mm_X0_init_21 (zfr (mm_X4_init_16 (zfr (mm_X4_init_11 (zfr (mm_X3_init_9 (zfr (mm_X6_init_7 (zfr (mm_X7_init_5 (zfr (mm_X7_init_3 (zfr (mm_X7_init_1 (zfr M 1)) 3)) 5)) 7)) 9)) 11)) 16)) 21)) 27)) 30)) 33)) 36)) 0 12 (0 : Int32))
set_option maxRecDepth 20000 in
set_option maxHeartbeats 4000000 in
theorem kc_X8_init_0 (M : zM) : zKc zq76 yX8_init cX8_init 1 4 38 1681 [.ref 0] M zq75 (mm_X8_init_0 M) := by
  refine zKc_of pl_X8 rfl (Nat.le_of_ble_eq_true rfl) (fun E0 sz => ?_)
  show zJ zq76 RX8 cX8_init 1 _ 0 0 0 [(0, .ref 0)] [] M
  unfold mm_X8_init_0
  refine zg_aload_n 0 dX8_init_0 rfl rfl ?_
  refine zg_obj (st := []) ow_X8_1 ow_i ow_c ⟨Nat.le_of_ble_eq_true rfl, Nat.le_of_ble_eq_true rfl⟩ dX8_init_1 ?_
  refine zg_aload_n 0 dX8_init_4 rfl rfl ?_
  refine zg_new (n := 1) (T' := zq0) (lay := [0, 0, 0, 2]) (st := [.ref 0]) tyX7 tyX7_ok inl_X7 cl_X8_7 ins_X7 ini_X7 rfl rfl df_X7 rfl rfl rfl rfl (zBc.grow _ _ _ _ _ _ _ _ rfl) rfl rfl (Nat.le_of_ble_eq_true rfl) (Nat.le_of_ble_eq_true rfl) dX8_init_5 ?_
  refine zg_dup dX8_init_8 rfl ?_
  refine zg_callCN (st := [.ref 1, .ref 0]) (ls := [(0, .ref 0)]) (host := "SeaCloth") (kc_X7_init_1 _) zY_X7_init (List.mem_of_getElem? (i := 0) rfl) im_X7_init rfl rfl rfl (zBc.grow _ _ _ _ _ _ _ _ rfl) rfl rfl ⟨⟨Nat.le_of_ble_eq_true rfl, Nat.le_of_ble_eq_true rfl⟩, Nat.le_of_ble_eq_true rfl, Nat.le_of_ble_eq_true rfl⟩ (Nat.le_of_ble_eq_true rfl) dX8_init_9 rfl ?_
  refine zg_putref (ls := [(0, .ref 0)]) (lay := [2, 2, 2, 2, 2, 2, 2, 2, 2, 2, 2, 2, 0]) (lay' := [3, 2, 2, 2, 2, 2, 2, 2, 2, 2, 2, 2, 0]) (T' := zq3) (o := 0) 0 tyX8_ok nmX8 inl_X8 rfl (by decide) fw_X8_10 rfl rfl (Or.inr trivial) (fun _ => rfl) (fun _ => rfl) (zBc.ini _ _ _ _ _ _ _ _) (show zq2[0]? = some (.inr (8, [2, 2, 2, 2, 2, 2, 2, 2, 2, 2, 2, 2, 0])) from rfl) rfl rfl rfl dX8_init_12 ?_
  refine zg_aload_n 0 dX8_init_15 rfl rfl ?_
  refine zg_new (n := 3) (T' := zq4) (lay := [0, 0, 0, 2]) (st := [.ref 0]) tyX7 tyX7_ok inl_X7 cl_X8_7 ins_X7 ini_X7 rfl rfl df_X7 rfl rfl rfl rfl (zBc.grow _ _ _ _ _ _ _ _ rfl) rfl rfl (Nat.le_of_ble_eq_true rfl) (Nat.le_of_ble_eq_true rfl) dX8_init_16 ?_
  refine zg_dup dX8_init_19 rfl ?_
  refine zg_callCN (st := [.ref 3, .ref 0]) (ls := [(0, .ref 0)]) (host := "SeaCloth") (kc_X7_init_3 _) zY_X7_init (List.mem_of_getElem? (i := 0) rfl) im_X7_init rfl rfl rfl (zBc.grow _ _ _ _ _ _ _ _ rfl) rfl rfl ⟨⟨Nat.le_of_ble_eq_true rfl, Nat.le_of_ble_eq_true rfl⟩, Nat.le_of_ble_eq_true rfl, Nat.le_of_ble_eq_true rfl⟩ (Nat.le_of_ble_eq_true rfl) dX8_init_20 rfl ?_
  refine zg_putref (ls := [(0, .ref 0)]) (lay := [3, 2, 2, 2, 2, 2, 2, 2, 2, 2, 2, 2, 0]) (lay' := [3, 5, 2, 2, 2, 2, 2, 2, 2, 2, 2, 2, 0]) (T' := zq7) (o := 0) 2 tyX8_ok nmX8 inl_X8 rfl (by decide) fw_X8_16 rfl rfl (Or.inr trivial) (fun _ => rfl) (fun _ => rfl) (zBc.ini _ _ _ _ _ _ _ _) (show zq6[0]? = some (.inr (8, [3, 2, 2, 2, 2, 2, 2, 2, 2, 2, 2, 2, 0])) from rfl) rfl rfl rfl dX8_init_23 ?_
  refine zg_aload_n 0 dX8_init_26 rfl rfl ?_
  refine zg_new (n := 5) (T' := zq8) (lay := [0, 0, 0, 2]) (st := [.ref 0]) tyX7 tyX7_ok inl_X7 cl_X8_7 ins_X7 ini_X7 rfl rfl df_X7 rfl rfl rfl rfl (zBc.grow _ _ _ _ _ _ _ _ rfl) rfl rfl (Nat.le_of_ble_eq_true rfl) (Nat.le_of_ble_eq_true rfl) dX8_init_27 ?_
  refine zg_dup dX8_init_30 rfl ?_
  refine zg_callCN (st := [.ref 5, .ref 0]) (ls := [(0, .ref 0)]) (host := "SeaCloth") (kc_X7_init_5 _) zY_X7_init (List.mem_of_getElem? (i := 0) rfl) im_X7_init rfl rfl rfl (zBc.grow _ _ _ _ _ _ _ _ rfl) rfl rfl ⟨⟨Nat.le_of_ble_eq_true rfl, Nat.le_of_ble_eq_true rfl⟩, Nat.le_of_ble_eq_true rfl, Nat.le_of_ble_eq_true rfl⟩ (Nat.le_of_ble_eq_true rfl) dX8_init_31 rfl ?_
  refine zg_putref (ls := [(0, .ref 0)]) (lay := [3, 5, 2, 2, 2, 2, 2, 2, 2, 2, 2, 2, 0]) (lay' := [3, 5, 7, 2, 2, 2, 2, 2, 2, 2, 2, 2, 0]) (T' := zq11) (o := 0) 4 tyX8_ok nmX8 inl_X8 rfl (by decide) fw_X8_19 rfl rfl (Or.inr trivial) (fun _ => rfl) (fun _ => rfl) (zBc.ini _ _ _ _ _ _ _ _) (show zq10[0]? = some (.inr (8, [3, 5, 2, 2, 2, 2, 2, 2, 2, 2, 2, 2, 0])) from rfl) rfl rfl rfl dX8_init_34 ?_
  refine zg_aload_n 0 dX8_init_37 rfl rfl ?_
  refine zg_new (n := 7) (T' := zq12) (lay := [2, 0]) (st := [.ref 0]) tyX6 tyX6_ok inl_X6 cl_X8_22 ins_X6 ini_X6 rfl rfl df_X6 rfl rfl rfl rfl (zBc.grow _ _ _ _ _ _ _ _ rfl) rfl rfl (Nat.le_of_ble_eq_true rfl) (Nat.le_of_ble_eq_true rfl) dX8_init_38 ?_
  refine zg_dup dX8_init_41 rfl ?_
  refine zg_callCN (st := [.ref 7, .ref 0]) (ls := [(0, .ref 0)]) (host := "SeaCloth") (kc_X6_init_7 _) zY_X6_init (List.mem_of_getElem? (i := 1) rfl) im_X6_init rfl rfl rfl (zBc.grow _ _ _ _ _ _ _ _ rfl) rfl rfl ⟨⟨Nat.le_of_ble_eq_true rfl, Nat.le_of_ble_eq_true rfl⟩, Nat.le_of_ble_eq_true rfl, Nat.le_of_ble_eq_true rfl⟩ (Nat.le_of_ble_eq_true rfl) dX8_init_42 rfl ?_
  refine zg_putref (ls := [(0, .ref 0)]) (lay := [3, 5, 7, 2, 2, 2, 2, 2, 2, 2, 2, 2, 0]) (lay' := [3, 5, 7, 9, 2, 2, 2, 2, 2, 2, 2, 2, 0]) (T' := zq15) (o := 0) 6 tyX8_ok nmX8 inl_X8 rfl (by decide) fw_X8_25 rfl rfl (Or.inr trivial) (fun _ => rfl) (fun _ => rfl) (zBc.ini _ _ _ _ _ _ _ _) (show zq14[0]? = some (.inr (8, [3, 5, 7, 2, 2, 2, 2, 2, 2, 2, 2, 2, 0])) from rfl) rfl rfl rfl dX8_init_45 ?_
  refine zg_aload_n 0 dX8_init_48 rfl rfl ?_
  refine zg_new (n := 9) (T' := zq16) (lay := [2, 0]) (st := [.ref 0]) tyX3 tyX3_ok inl_X3 cl_X8_29 ins_X3 ini_X3 rfl rfl df_X3 rfl rfl rfl rfl (zBc.grow _ _ _ _ _ _ _ _ rfl) rfl rfl (Nat.le_of_ble_eq_true rfl) (Nat.le_of_ble_eq_true rfl) dX8_init_49 ?_
  refine zg_dup dX8_init_52 rfl ?_
  refine zg_callCN (st := [.ref 9, .ref 0]) (ls := [(0, .ref 0)]) (host := "SeaCloth") (kc_X3_init_9 _) zY_X3_init (List.mem_of_getElem? (i := 2) rfl) im_X3_init rfl rfl rfl (zBc.grow _ _ _ _ _ _ _ _ rfl) rfl rfl ⟨⟨Nat.le_of_ble_eq_true rfl, Nat.le_of_ble_eq_true rfl⟩, Nat.le_of_ble_eq_true rfl, Nat.le_of_ble_eq_true rfl⟩ (Nat.le_of_ble_eq_true rfl) dX8_init_53 rfl ?_
  refine zg_putref (ls := [(0, .ref 0)]) (lay := [3, 5, 7, 9, 2, 2, 2, 2, 2, 2, 2, 2, 0]) (lay' := [3, 5, 7, 9, 11, 2, 2, 2, 2, 2, 2, 2, 0]) (T' := zq19) (o := 0) 8 tyX8_ok nmX8 inl_X8 rfl (by decide) fw_X8_32 rfl rfl (Or.inr trivial) (fun _ => rfl) (fun _ => rfl) (zBc.ini _ _ _ _ _ _ _ _) (show zq18[0]? = some (.inr (8, [3, 5, 7, 9, 2, 2, 2, 2, 2, 2, 2, 2, 0])) from rfl) rfl rfl rfl dX8_init_56 ?_
  refine zg_aload_n 0 dX8_init_59 rfl rfl ?_
  refine zg_new (n := 11) (T' := zq20) (lay := [2, 0, 2, 0, 2, 0, 0, 0, 2]) (st := [.ref 0]) tyX4 tyX4_ok inl_X4 cl_X8_36 ins_X4 ini_X4 rfl rfl df_X4 rfl rfl rfl rfl (zBc.grow _ _ _ _ _ _ _ _ rfl) rfl rfl (Nat.le_of_ble_eq_true rfl) (Nat.le_of_ble_eq_true rfl) dX8_init_60 ?_
  refine zg_dup dX8_init_63 rfl ?_
  refine zg_callC (st := [.ref 11, .ref 0]) (ls := [(0, .ref 0)]) (kc_X4_init_11 _) zY_X4_init ml_X8_38 im_X4_init rfl rfl rfl (zBc.grow _ _ _ _ _ _ _ _ rfl) rfl rfl ⟨⟨Nat.le_of_ble_eq_true rfl, Nat.le_of_ble_eq_true rfl⟩, Nat.le_of_ble_eq_true rfl, Nat.le_of_ble_eq_true rfl⟩ (Nat.le_of_ble_eq_true rfl) dX8_init_64 rfl ?_
  refine zg_putref (ls := [(0, .ref 0)]) (lay := [3, 5, 7, 9, 11, 2, 2, 2, 2, 2, 2, 2, 0]) (lay' := [3, 5, 7, 9, 11, 13, 2, 2, 2, 2, 2, 2, 0]) (T' := zq29) (o := 0) 10 tyX8_ok nmX8 inl_X8 rfl (by decide) fw_X8_39 rfl rfl (Or.inr trivial) (fun _ => rfl) (fun _ => rfl) (zBc.ini _ _ _ _ _ _ _ _) (show zq28[0]? = some (.inr (8, [3, 5, 7, 9, 11, 2, 2, 2, 2, 2, 2, 2, 0])) from rfl) rfl rfl rfl dX8_init_67 ?_
  refine zg_aload_n 0 dX8_init_70 rfl rfl ?_
  refine zg_new (n := 16) (T' := zq30) (lay := [2, 0, 2, 0, 2, 0, 0, 0, 2]) (st := [.ref 0]) tyX4 tyX4_ok inl_X4 cl_X8_36 ins_X4 ini_X4 rfl rfl df_X4 rfl rfl rfl rfl (zBc.grow _ _ _ _ _ _ _ _ rfl) rfl rfl (Nat.le_of_ble_eq_true rfl) (Nat.le_of_ble_eq_true rfl) dX8_init_71 ?_
  refine zg_dup dX8_init_74 rfl ?_
  refine zg_callC (st := [.ref 16, .ref 0]) (ls := [(0, .ref 0)]) (kc_X4_init_16 _) zY_X4_init ml_X8_38 im_X4_init rfl rfl rfl (zBc.grow _ _ _ _ _ _ _ _ rfl) rfl rfl ⟨⟨Nat.le_of_ble_eq_true rfl, Nat.le_of_ble_eq_true rfl⟩, Nat.le_of_ble_eq_true rfl, Nat.le_of_ble_eq_true rfl⟩ (Nat.le_of_ble_eq_true rfl) dX8_init_75 rfl ?_
  refine zg_putref (ls := [(0, .ref 0)]) (lay := [3, 5, 7, 9, 11, 13, 2, 2, 2, 2, 2, 2, 0]) (lay' := [3, 5, 7, 9, 11, 13, 18, 2, 2, 2, 2, 2, 0]) (T' := zq39) (o := 0) 15 tyX8_ok nmX8 inl_X8 rfl (by decide) fw_X8_43 rfl rfl (Or.inr trivial) (fun _ => rfl) (fun _ => rfl) (zBc.ini _ _ _ _ _ _ _ _) (show zq38[0]? = some (.inr (8, [3, 5, 7, 9, 11, 13, 2, 2, 2, 2, 2, 2, 0])) from rfl) rfl rfl rfl dX8_init_78 ?_
  refine zg_aload_n 0 dX8_init_81 rfl rfl ?_
  refine zg_new (n := 21) (T' := zq40) (lay := [2, 2, 2, 2, 2, 1]) (st := [.ref 0]) tyX0 tyX0_ok inl_X0 cl_X8_46 ins_X0 ini_X0 rfl rfl df_X0 rfl rfl rfl rfl (zBc.grow _ _ _ _ _ _ _ _ rfl) rfl rfl (Nat.le_of_ble_eq_true rfl) (Nat.le_of_ble_eq_true rfl) dX8_init_82 ?_
  refine zg_dup dX8_init_85 rfl ?_
  refine zg_callCN (st := [.ref 21, .ref 0]) (ls := [(0, .ref 0)]) (host := "SeaCloth") (kc_X0_init_21 _) zY_X0_init (List.mem_of_getElem? (i := 3) rfl) im_X0_init rfl rfl rfl (zBc.grow _ _ _ _ _ _ _ _ rfl) rfl rfl ⟨⟨Nat.le_of_ble_eq_true rfl, Nat.le_of_ble_eq_true rfl⟩, Nat.le_of_ble_eq_true rfl, Nat.le_of_ble_eq_true rfl⟩ (Nat.le_of_ble_eq_true rfl) dX8_init_86 rfl ?_
  refine zg_putref (ls := [(0, .ref 0)]) (lay := [3, 5, 7, 9, 11, 13, 18, 2, 2, 2, 2, 2, 0]) (lay' := [3, 5, 7, 9, 11, 13, 18, 23, 2, 2, 2, 2, 0]) (T' := zq51) (o := 0) 20 tyX8_ok nmX8 inl_X8 rfl (by decide) fw_X8_49 rfl rfl (Or.inr trivial) (fun _ => rfl) (fun _ => rfl) (zBc.ini _ _ _ _ _ _ _ _) (show zq50[0]? = some (.inr (8, [3, 5, 7, 9, 11, 13, 18, 2, 2, 2, 2, 2, 0])) from rfl) rfl rfl rfl dX8_init_89 ?_
  refine zg_aload_n 0 dX8_init_92 rfl rfl ?_
  refine zg_new (n := 27) (T' := zq52) (lay := [2, 0, 2]) (st := [.ref 0]) tyX1 tyX1_ok inl_X1 cl_X8_53 ins_X1 ini_X1 rfl rfl df_X1 rfl rfl rfl rfl (zBc.grow _ _ _ _ _ _ _ _ rfl) rfl rfl (Nat.le_of_ble_eq_true rfl) (Nat.le_of_ble_eq_true rfl) dX8_init_93 ?_
  refine zg_dup dX8_init_96 rfl ?_
  refine zg_callCN (st := [.ref 27, .ref 0]) (ls := [(0, .ref 0)]) (host := "SeaCloth") (kc_X1_init_27 _) zY_X1_init (List.mem_of_getElem? (i := 4) rfl) im_X1_init rfl rfl rfl (zBc.grow _ _ _ _ _ _ _ _ rfl) rfl rfl ⟨⟨Nat.le_of_ble_eq_true rfl, Nat.le_of_ble_eq_true rfl⟩, Nat.le_of_ble_eq_true rfl, Nat.le_of_ble_eq_true rfl⟩ (Nat.le_of_ble_eq_true rfl) dX8_init_97 rfl ?_
  refine zg_putref (ls := [(0, .ref 0)]) (lay := [3, 5, 7, 9, 11, 13, 18, 23, 2, 2, 2, 2, 0]) (lay' := [3, 5, 7, 9, 11, 13, 18, 23, 29, 2, 2, 2, 0]) (T' := zq57) (o := 0) 26 tyX8_ok nmX8 inl_X8 rfl (by decide) fw_X8_56 rfl rfl (Or.inr trivial) (fun _ => rfl) (fun _ => rfl) (zBc.ini _ _ _ _ _ _ _ _) (show zq56[0]? = some (.inr (8, [3, 5, 7, 9, 11, 13, 18, 23, 2, 2, 2, 2, 0])) from rfl) rfl rfl rfl dX8_init_100 ?_
  refine zg_aload_n 0 dX8_init_103 rfl rfl ?_
  refine zg_new (n := 30) (T' := zq58) (lay := [2, 2, 0]) (st := [.ref 0]) tyX5 tyX5_ok inl_X5 cl_X8_60 ins_X5 ini_X5 rfl rfl df_X5 rfl rfl rfl rfl (zBc.grow _ _ _ _ _ _ _ _ rfl) rfl rfl (Nat.le_of_ble_eq_true rfl) (Nat.le_of_ble_eq_true rfl) dX8_init_104 ?_
  refine zg_dup dX8_init_107 rfl ?_
  refine zg_callCN (st := [.ref 30, .ref 0]) (ls := [(0, .ref 0)]) (host := "SeaCloth") (kc_X5_init_30 _) zY_X5_init (List.mem_of_getElem? (i := 5) rfl) im_X5_init rfl rfl rfl (zBc.grow _ _ _ _ _ _ _ _ rfl) rfl rfl ⟨⟨Nat.le_of_ble_eq_true rfl, Nat.le_of_ble_eq_true rfl⟩, Nat.le_of_ble_eq_true rfl, Nat.le_of_ble_eq_true rfl⟩ (Nat.le_of_ble_eq_true rfl) dX8_init_108 rfl ?_
  refine zg_putref (ls := [(0, .ref 0)]) (lay := [3, 5, 7, 9, 11, 13, 18, 23, 29, 2, 2, 2, 0]) (lay' := [3, 5, 7, 9, 11, 13, 18, 23, 29, 32, 2, 2, 0]) (T' := zq63) (o := 0) 29 tyX8_ok nmX8 inl_X8 rfl (by decide) fw_X8_63 rfl rfl (Or.inr trivial) (fun _ => rfl) (fun _ => rfl) (zBc.ini _ _ _ _ _ _ _ _) (show zq62[0]? = some (.inr (8, [3, 5, 7, 9, 11, 13, 18, 23, 29, 2, 2, 2, 0])) from rfl) rfl rfl rfl dX8_init_111 ?_
  refine zg_aload_n 0 dX8_init_114 rfl rfl ?_
  refine zg_new (n := 33) (T' := zq64) (lay := [2, 2, 0]) (st := [.ref 0]) tyX2 tyX2_ok inl_X2 cl_X8_67 ins_X2 ini_X2 rfl rfl df_X2 rfl rfl rfl rfl (zBc.grow _ _ _ _ _ _ _ _ rfl) rfl rfl (Nat.le_of_ble_eq_true rfl) (Nat.le_of_ble_eq_true rfl) dX8_init_115 ?_
  refine zg_dup dX8_init_118 rfl ?_
  refine zg_bipush dX8_init_119 zkb_15 ?_
  refine zg_callC (st := [.ref 33, .ref 0]) (ls := [(0, .ref 0)]) (kc_X2_init_33 _) zY_X2_init ml_X8_69 im_X2_init rfl rfl rfl (zBc.grow _ _ _ _ _ _ _ _ rfl) rfl rfl ⟨⟨Nat.le_of_ble_eq_true rfl, Nat.le_of_ble_eq_true rfl⟩, Nat.le_of_ble_eq_true rfl, Nat.le_of_ble_eq_true rfl⟩ (Nat.le_of_ble_eq_true rfl) dX8_init_121 rfl ?_
  refine zg_putref (ls := [(0, .ref 0)]) (lay := [3, 5, 7, 9, 11, 13, 18, 23, 29, 32, 2, 2, 0]) (lay' := [3, 5, 7, 9, 11, 13, 18, 23, 29, 32, 35, 2, 0]) (T' := zq69) (o := 0) 32 tyX8_ok nmX8 inl_X8 rfl (by decide) fw_X8_72 rfl rfl (Or.inr trivial) (fun _ => rfl) (fun _ => rfl) (zBc.ini _ _ _ _ _ _ _ _) (show zq68[0]? = some (.inr (8, [3, 5, 7, 9, 11, 13, 18, 23, 29, 32, 2, 2, 0])) from rfl) rfl rfl rfl dX8_init_124 ?_
  refine zg_aload_n 0 dX8_init_127 rfl rfl ?_
  refine zg_new (n := 36) (T' := zq70) (lay := [2, 2, 0]) (st := [.ref 0]) tyX2 tyX2_ok inl_X2 cl_X8_67 ins_X2 ini_X2 rfl rfl df_X2 rfl rfl rfl rfl (zBc.grow _ _ _ _ _ _ _ _ rfl) rfl rfl (Nat.le_of_ble_eq_true rfl) (Nat.le_of_ble_eq_true rfl) dX8_init_128 ?_
  refine zg_dup dX8_init_131 rfl ?_
  refine zg_iconst dX8_init_132 zki_3 ?_
  refine zg_callC (st := [.ref 36, .ref 0]) (ls := [(0, .ref 0)]) (kc_X2_init_36 _) zY_X2_init ml_X8_69 im_X2_init rfl rfl rfl (zBc.grow _ _ _ _ _ _ _ _ rfl) rfl rfl ⟨⟨Nat.le_of_ble_eq_true rfl, Nat.le_of_ble_eq_true rfl⟩, Nat.le_of_ble_eq_true rfl, Nat.le_of_ble_eq_true rfl⟩ (Nat.le_of_ble_eq_true rfl) dX8_init_133 rfl ?_
  refine zg_putref (ls := [(0, .ref 0)]) (lay := [3, 5, 7, 9, 11, 13, 18, 23, 29, 32, 35, 2, 0]) (lay' := [3, 5, 7, 9, 11, 13, 18, 23, 29, 32, 35, 38, 0]) (T' := zq75) (o := 0) 35 tyX8_ok nmX8 inl_X8 rfl (by decide) fw_X8_76 rfl rfl (Or.inr trivial) (fun _ => rfl) (fun _ => rfl) (zBc.ini _ _ _ _ _ _ _ _) (show zq74[0]? = some (.inr (8, [3, 5, 7, 9, 11, 13, 18, 23, 29, 32, 35, 2, 0])) from rfl) rfl rfl rfl dX8_init_136 ?_
  refine zg_aload_n 0 dX8_init_139 rfl rfl ?_
  refine zg_iconst dX8_init_140 zki_0 ?_
  refine zg_puti fp_X8_79 (show zq75[0]? = some (.inr (8, [3, 5, 7, 9, 11, 13, 18, 23, 29, 32, 35, 38, 0])) from rfl) rfl dX8_init_141 ?_
  exact zg_cret dX8_init_144
def mm_X9_init_39 (M : zM) : zM := (zsi (zsi (zsi (zfr (zfr (zfr (zfr (zfr (zfr (zfr (zfr (zfr (zfr (zfr (zfr (zfr (zfr (zfr (zfr (zfr (zfr (zfr (zfr (zfr (zfr (zfr (zfr (zfr (zfr (zfr M 40) 41) 42) 43) 44) 45) 46) 47) 48) 49) 50) 51) 52) 53) 54) 55) 56) 57) 58) 59) 60) 61) 62) 63) 64) 65) 66) 41 0 (1 : Int32)) 41 6 (1 : Int32)) 41 7 (1 : Int32))
set_option maxRecDepth 20000 in
set_option maxHeartbeats 4000000 in
theorem kc_X9_init_39 (M : zM) : zKc zq131 yX9_init cX9_init 1 1 27 13722 [.ref 39] M zq130 (mm_X9_init_39 M) := by
  refine zKc_of pl_X9 rfl (Nat.le_of_ble_eq_true rfl) (fun E0 sz => ?_)
  show zJ zq131 RX9 cX9_init 1 _ 0 0 0 [(0, .ref 39)] [] M
  unfold mm_X9_init_39
  refine zg_aload_n 0 dX9_init_0 rfl rfl ?_
  refine zg_obj (st := []) ow_X9_18 ow_i ow_c ⟨Nat.le_of_ble_eq_true rfl, Nat.le_of_ble_eq_true rfl⟩ dX9_init_1 ?_
  refine zg_aload_n 0 dX9_init_4 rfl rfl ?_
  refine zg_bipush dX9_init_5 zkb_24 ?_
  refine zg_newa (n := 40) (N := 24) (T' := zq77) (st := [.ref 39]) 1 .long rfl (by decide) aw_1 (by decide) (Nat.le_of_ble_eq_true rfl) rfl rfl rfl rfl (zBc.grow _ _ _ _ _ _ _ _ rfl) rfl rfl (Nat.le_of_ble_eq_true rfl) (Nat.le_of_ble_eq_true rfl) dX9_init_7 ?_
  refine zg_putref (ls := [(0, .ref 39)]) (lay := [0, 0, 2, 2, 2, 0, 2, 0, 0, 0, 0, 2, 2, 2, 0, 0, 2, 2, 0, 2, 2, 2, 2, 2, 0, 2, 2, 2, 2, 2, 0, 2, 0, 2, 2, 2, 2, 0, 2, 2, 2]) (lay' := [0, 0, 3, 2, 2, 0, 2, 0, 0, 0, 0, 2, 2, 2, 0, 0, 2, 2, 0, 2, 2, 2, 2, 2, 0, 2, 2, 2, 2, 2, 0, 2, 0, 2, 2, 2, 2, 0, 2, 2, 2]) (T' := zq78) (o := 39) 0 tyX9_ok nmX9 inl_X9 rfl (by decide) fw_X9_11 rfl rfl (Or.inr trivial) (fun _ => rfl) (fun _ => rfl) (zBc.ini _ _ _ _ _ _ _ _) (show zq77[39]? = some (.inr (9, [0, 0, 2, 2, 2, 0, 2, 0, 0, 0, 0, 2, 2, 2, 0, 0, 2, 2, 0, 2, 2, 2, 2, 2, 0, 2, 2, 2, 2, 2, 0, 2, 0, 2, 2, 2, 2, 0, 2, 2, 2])) from rfl) rfl rfl rfl dX9_init_9 ?_
  refine zg_aload_n 0 dX9_init_12 rfl rfl ?_
  refine zg_bipush dX9_init_13 zkb_9 ?_
  refine zg_newa (n := 41) (N := 9) (T' := zq79) (st := [.ref 39]) 0 .int rfl (by decide) aw_0 (by decide) (Nat.le_of_ble_eq_true rfl) rfl rfl rfl rfl (zBc.grow _ _ _ _ _ _ _ _ rfl) rfl rfl (Nat.le_of_ble_eq_true rfl) (Nat.le_of_ble_eq_true rfl) dX9_init_15 ?_
  refine zg_putref (ls := [(0, .ref 39)]) (lay := [0, 0, 3, 2, 2, 0, 2, 0, 0, 0, 0, 2, 2, 2, 0, 0, 2, 2, 0, 2, 2, 2, 2, 2, 0, 2, 2, 2, 2, 2, 0, 2, 0, 2, 2, 2, 2, 0, 2, 2, 2]) (lay' := [0, 0, 3, 4, 2, 0, 2, 0, 0, 0, 0, 2, 2, 2, 0, 0, 2, 2, 0, 2, 2, 2, 2, 2, 0, 2, 2, 2, 2, 2, 0, 2, 0, 2, 2, 2, 2, 0, 2, 2, 2]) (T' := zq80) (o := 39) 1 tyX9_ok nmX9 inl_X9 rfl (by decide) fw_X9_24 rfl rfl (Or.inr trivial) (fun _ => rfl) (fun _ => rfl) (zBc.ini _ _ _ _ _ _ _ _) (show zq79[39]? = some (.inr (9, [0, 0, 3, 2, 2, 0, 2, 0, 0, 0, 0, 2, 2, 2, 0, 0, 2, 2, 0, 2, 2, 2, 2, 2, 0, 2, 2, 2, 2, 2, 0, 2, 0, 2, 2, 2, 2, 0, 2, 2, 2])) from rfl) rfl rfl rfl dX9_init_17 ?_
  refine zg_aload_n 0 dX9_init_20 rfl rfl ?_
  refine zg_bipush dX9_init_21 zkb_9 ?_
  refine zg_newa (n := 42) (N := 9) (T' := zq81) (st := [.ref 39]) 0 .int rfl (by decide) aw_0 (by decide) (Nat.le_of_ble_eq_true rfl) rfl rfl rfl rfl (zBc.grow _ _ _ _ _ _ _ _ rfl) rfl rfl (Nat.le_of_ble_eq_true rfl) (Nat.le_of_ble_eq_true rfl) dX9_init_23 ?_
  refine zg_putref (ls := [(0, .ref 39)]) (lay := [0, 0, 3, 4, 2, 0, 2, 0, 0, 0, 0, 2, 2, 2, 0, 0, 2, 2, 0, 2, 2, 2, 2, 2, 0, 2, 2, 2, 2, 2, 0, 2, 0, 2, 2, 2, 2, 0, 2, 2, 2]) (lay' := [0, 0, 3, 4, 5, 0, 2, 0, 0, 0, 0, 2, 2, 2, 0, 0, 2, 2, 0, 2, 2, 2, 2, 2, 0, 2, 2, 2, 2, 2, 0, 2, 0, 2, 2, 2, 2, 0, 2, 2, 2]) (T' := zq82) (o := 39) 2 tyX9_ok nmX9 inl_X9 rfl (by decide) fw_X9_28 rfl rfl (Or.inr trivial) (fun _ => rfl) (fun _ => rfl) (zBc.ini _ _ _ _ _ _ _ _) (show zq81[39]? = some (.inr (9, [0, 0, 3, 4, 2, 0, 2, 0, 0, 0, 0, 2, 2, 2, 0, 0, 2, 2, 0, 2, 2, 2, 2, 2, 0, 2, 2, 2, 2, 2, 0, 2, 0, 2, 2, 2, 2, 0, 2, 2, 2])) from rfl) rfl rfl rfl dX9_init_25 ?_
  refine zg_aload_n 0 dX9_init_28 rfl rfl ?_
  refine zg_bipush dX9_init_29 zkb_80 ?_
  refine zg_newa (n := 43) (N := 80) (T' := zq83) (st := [.ref 39]) 0 .int rfl (by decide) aw_0 (by decide) (Nat.le_of_ble_eq_true rfl) rfl rfl rfl rfl (zBc.grow _ _ _ _ _ _ _ _ rfl) rfl rfl (Nat.le_of_ble_eq_true rfl) (Nat.le_of_ble_eq_true rfl) dX9_init_31 ?_
  refine zg_putref (ls := [(0, .ref 39)]) (lay := [0, 0, 3, 4, 5, 0, 2, 0, 0, 0, 0, 2, 2, 2, 0, 0, 2, 2, 0, 2, 2, 2, 2, 2, 0, 2, 2, 2, 2, 2, 0, 2, 0, 2, 2, 2, 2, 0, 2, 2, 2]) (lay' := [0, 0, 3, 4, 5, 0, 6, 0, 0, 0, 0, 2, 2, 2, 0, 0, 2, 2, 0, 2, 2, 2, 2, 2, 0, 2, 2, 2, 2, 2, 0, 2, 0, 2, 2, 2, 2, 0, 2, 2, 2]) (T' := zq84) (o := 39) 3 tyX9_ok nmX9 inl_X9 rfl (by decide) fw_X9_31 rfl rfl (Or.inr trivial) (fun _ => rfl) (fun _ => rfl) (zBc.ini _ _ _ _ _ _ _ _) (show zq83[39]? = some (.inr (9, [0, 0, 3, 4, 5, 0, 2, 0, 0, 0, 0, 2, 2, 2, 0, 0, 2, 2, 0, 2, 2, 2, 2, 2, 0, 2, 2, 2, 2, 2, 0, 2, 0, 2, 2, 2, 2, 0, 2, 2, 2])) from rfl) rfl rfl rfl dX9_init_33 ?_
  refine zg_aload_n 0 dX9_init_36 rfl rfl ?_
  refine zg_bipush dX9_init_37 zkb_9 ?_
  refine zg_newa (n := 44) (N := 9) (T' := zq85) (st := [.ref 39]) 0 .int rfl (by decide) aw_0 (by decide) (Nat.le_of_ble_eq_true rfl) rfl rfl rfl rfl (zBc.grow _ _ _ _ _ _ _ _ rfl) rfl rfl (Nat.le_of_ble_eq_true rfl) (Nat.le_of_ble_eq_true rfl) dX9_init_39 ?_
  refine zg_putref (ls := [(0, .ref 39)]) (lay := [0, 0, 3, 4, 5, 0, 6, 0, 0, 0, 0, 2, 2, 2, 0, 0, 2, 2, 0, 2, 2, 2, 2, 2, 0, 2, 2, 2, 2, 2, 0, 2, 0, 2, 2, 2, 2, 0, 2, 2, 2]) (lay' := [0, 0, 3, 4, 5, 0, 6, 0, 0, 0, 0, 7, 2, 2, 0, 0, 2, 2, 0, 2, 2, 2, 2, 2, 0, 2, 2, 2, 2, 2, 0, 2, 0, 2, 2, 2, 2, 0, 2, 2, 2]) (T' := zq86) (o := 39) 4 tyX9_ok nmX9 inl_X9 rfl (by decide) fw_X9_34 rfl rfl (Or.inr trivial) (fun _ => rfl) (fun _ => rfl) (zBc.ini _ _ _ _ _ _ _ _) (show zq85[39]? = some (.inr (9, [0, 0, 3, 4, 5, 0, 6, 0, 0, 0, 0, 2, 2, 2, 0, 0, 2, 2, 0, 2, 2, 2, 2, 2, 0, 2, 2, 2, 2, 2, 0, 2, 0, 2, 2, 2, 2, 0, 2, 2, 2])) from rfl) rfl rfl rfl dX9_init_41 ?_
  refine zg_aload_n 0 dX9_init_44 rfl rfl ?_
  refine zg_bipush dX9_init_45 zkb_80 ?_
  refine zg_newa (n := 45) (N := 80) (T' := zq87) (st := [.ref 39]) 0 .int rfl (by decide) aw_0 (by decide) (Nat.le_of_ble_eq_true rfl) rfl rfl rfl rfl (zBc.grow _ _ _ _ _ _ _ _ rfl) rfl rfl (Nat.le_of_ble_eq_true rfl) (Nat.le_of_ble_eq_true rfl) dX9_init_47 ?_
  refine zg_putref (ls := [(0, .ref 39)]) (lay := [0, 0, 3, 4, 5, 0, 6, 0, 0, 0, 0, 7, 2, 2, 0, 0, 2, 2, 0, 2, 2, 2, 2, 2, 0, 2, 2, 2, 2, 2, 0, 2, 0, 2, 2, 2, 2, 0, 2, 2, 2]) (lay' := [0, 0, 3, 4, 5, 0, 6, 0, 0, 0, 0, 7, 8, 2, 0, 0, 2, 2, 0, 2, 2, 2, 2, 2, 0, 2, 2, 2, 2, 2, 0, 2, 0, 2, 2, 2, 2, 0, 2, 2, 2]) (T' := zq88) (o := 39) 5 tyX9_ok nmX9 inl_X9 rfl (by decide) fw_X9_37 rfl rfl (Or.inr trivial) (fun _ => rfl) (fun _ => rfl) (zBc.ini _ _ _ _ _ _ _ _) (show zq87[39]? = some (.inr (9, [0, 0, 3, 4, 5, 0, 6, 0, 0, 0, 0, 7, 2, 2, 0, 0, 2, 2, 0, 2, 2, 2, 2, 2, 0, 2, 2, 2, 2, 2, 0, 2, 0, 2, 2, 2, 2, 0, 2, 2, 2])) from rfl) rfl rfl rfl dX9_init_49 ?_
  refine zg_aload_n 0 dX9_init_52 rfl rfl ?_
  refine zg_bipush dX9_init_53 zkb_80 ?_
  refine zg_newa (n := 46) (N := 80) (T' := zq89) (st := [.ref 39]) 0 .int rfl (by decide) aw_0 (by decide) (Nat.le_of_ble_eq_true rfl) rfl rfl rfl rfl (zBc.grow _ _ _ _ _ _ _ _ rfl) rfl rfl (Nat.le_of_ble_eq_true rfl) (Nat.le_of_ble_eq_true rfl) dX9_init_55 ?_
  refine zg_putref (ls := [(0, .ref 39)]) (lay := [0, 0, 3, 4, 5, 0, 6, 0, 0, 0, 0, 7, 8, 2, 0, 0, 2, 2, 0, 2, 2, 2, 2, 2, 0, 2, 2, 2, 2, 2, 0, 2, 0, 2, 2, 2, 2, 0, 2, 2, 2]) (lay' := [0, 0, 3, 4, 5, 0, 6, 0, 0, 0, 0, 7, 8, 9, 0, 0, 2, 2, 0, 2, 2, 2, 2, 2, 0, 2, 2, 2, 2, 2, 0, 2, 0, 2, 2, 2, 2, 0, 2, 2, 2]) (T' := zq90) (o := 39) 6 tyX9_ok nmX9 inl_X9 rfl (by decide) fw_X9_40 rfl rfl (Or.inr trivial) (fun _ => rfl) (fun _ => rfl) (zBc.ini _ _ _ _ _ _ _ _) (show zq89[39]? = some (.inr (9, [0, 0, 3, 4, 5, 0, 6, 0, 0, 0, 0, 7, 8, 2, 0, 0, 2, 2, 0, 2, 2, 2, 2, 2, 0, 2, 2, 2, 2, 2, 0, 2, 0, 2, 2, 2, 2, 0, 2, 2, 2])) from rfl) rfl rfl rfl dX9_init_57 ?_
  refine zg_aload_n 0 dX9_init_60 rfl rfl ?_
  refine zg_bipush dX9_init_61 zkb_80 ?_
  refine zg_newa (n := 47) (N := 80) (T' := zq91) (st := [.ref 39]) 0 .int rfl (by decide) aw_0 (by decide) (Nat.le_of_ble_eq_true rfl) rfl rfl rfl rfl (zBc.grow _ _ _ _ _ _ _ _ rfl) rfl rfl (Nat.le_of_ble_eq_true rfl) (Nat.le_of_ble_eq_true rfl) dX9_init_63 ?_
  refine zg_putref (ls := [(0, .ref 39)]) (lay := [0, 0, 3, 4, 5, 0, 6, 0, 0, 0, 0, 7, 8, 9, 0, 0, 2, 2, 0, 2, 2, 2, 2, 2, 0, 2, 2, 2, 2, 2, 0, 2, 0, 2, 2, 2, 2, 0, 2, 2, 2]) (lay' := [0, 0, 3, 4, 5, 0, 6, 0, 0, 0, 0, 7, 8, 9, 0, 0, 10, 2, 0, 2, 2, 2, 2, 2, 0, 2, 2, 2, 2, 2, 0, 2, 0, 2, 2, 2, 2, 0, 2, 2, 2]) (T' := zq92) (o := 39) 7 tyX9_ok nmX9 inl_X9 rfl (by decide) fw_X9_43 rfl rfl (Or.inr trivial) (fun _ => rfl) (fun _ => rfl) (zBc.ini _ _ _ _ _ _ _ _) (show zq91[39]? = some (.inr (9, [0, 0, 3, 4, 5, 0, 6, 0, 0, 0, 0, 7, 8, 9, 0, 0, 2, 2, 0, 2, 2, 2, 2, 2, 0, 2, 2, 2, 2, 2, 0, 2, 0, 2, 2, 2, 2, 0, 2, 2, 2])) from rfl) rfl rfl rfl dX9_init_65 ?_
  refine zg_aload_n 0 dX9_init_68 rfl rfl ?_
  refine zg_bipush dX9_init_69 zkb_8 ?_
  refine zg_newa (n := 48) (N := 8) (T' := zq93) (st := [.ref 39]) 0 .int rfl (by decide) aw_0 (by decide) (Nat.le_of_ble_eq_true rfl) rfl rfl rfl rfl (zBc.grow _ _ _ _ _ _ _ _ rfl) rfl rfl (Nat.le_of_ble_eq_true rfl) (Nat.le_of_ble_eq_true rfl) dX9_init_71 ?_
  refine zg_putref (ls := [(0, .ref 39)]) (lay := [0, 0, 3, 4, 5, 0, 6, 0, 0, 0, 0, 7, 8, 9, 0, 0, 10, 2, 0, 2, 2, 2, 2, 2, 0, 2, 2, 2, 2, 2, 0, 2, 0, 2, 2, 2, 2, 0, 2, 2, 2]) (lay' := [0, 0, 3, 4, 5, 0, 6, 0, 0, 0, 0, 7, 8, 9, 0, 0, 10, 11, 0, 2, 2, 2, 2, 2, 0, 2, 2, 2, 2, 2, 0, 2, 0, 2, 2, 2, 2, 0, 2, 2, 2]) (T' := zq94) (o := 39) 8 tyX9_ok nmX9 inl_X9 rfl (by decide) fw_X9_46 rfl rfl (Or.inr trivial) (fun _ => rfl) (fun _ => rfl) (zBc.ini _ _ _ _ _ _ _ _) (show zq93[39]? = some (.inr (9, [0, 0, 3, 4, 5, 0, 6, 0, 0, 0, 0, 7, 8, 9, 0, 0, 10, 2, 0, 2, 2, 2, 2, 2, 0, 2, 2, 2, 2, 2, 0, 2, 0, 2, 2, 2, 2, 0, 2, 2, 2])) from rfl) rfl rfl rfl dX9_init_73 ?_
  refine zg_aload_n 0 dX9_init_76 rfl rfl ?_
  refine zg_sipush dX9_init_77 zks_144 ?_
  refine zg_newa (n := 49) (N := 144) (T' := zq95) (st := [.ref 39]) 0 .int rfl (by decide) aw_0 (by decide) (Nat.le_of_ble_eq_true rfl) rfl rfl rfl rfl (zBc.grow _ _ _ _ _ _ _ _ rfl) rfl rfl (Nat.le_of_ble_eq_true rfl) (Nat.le_of_ble_eq_true rfl) dX9_init_80 ?_
  refine zg_putref (ls := [(0, .ref 39)]) (lay := [0, 0, 3, 4, 5, 0, 6, 0, 0, 0, 0, 7, 8, 9, 0, 0, 10, 11, 0, 2, 2, 2, 2, 2, 0, 2, 2, 2, 2, 2, 0, 2, 0, 2, 2, 2, 2, 0, 2, 2, 2]) (lay' := [0, 0, 3, 4, 5, 0, 6, 0, 0, 0, 0, 7, 8, 9, 0, 0, 10, 11, 0, 12, 2, 2, 2, 2, 0, 2, 2, 2, 2, 2, 0, 2, 0, 2, 2, 2, 2, 0, 2, 2, 2]) (T' := zq96) (o := 39) 9 tyX9_ok nmX9 inl_X9 rfl (by decide) fw_X9_49 rfl rfl (Or.inr trivial) (fun _ => rfl) (fun _ => rfl) (zBc.ini _ _ _ _ _ _ _ _) (show zq95[39]? = some (.inr (9, [0, 0, 3, 4, 5, 0, 6, 0, 0, 0, 0, 7, 8, 9, 0, 0, 10, 11, 0, 2, 2, 2, 2, 2, 0, 2, 2, 2, 2, 2, 0, 2, 0, 2, 2, 2, 2, 0, 2, 2, 2])) from rfl) rfl rfl rfl dX9_init_82 ?_
  refine zg_aload_n 0 dX9_init_85 rfl rfl ?_
  refine zg_bipush dX9_init_86 zkb_60 ?_
  refine zg_newa (n := 50) (N := 60) (T' := zq97) (st := [.ref 39]) 0 .int rfl (by decide) aw_0 (by decide) (Nat.le_of_ble_eq_true rfl) rfl rfl rfl rfl (zBc.grow _ _ _ _ _ _ _ _ rfl) rfl rfl (Nat.le_of_ble_eq_true rfl) (Nat.le_of_ble_eq_true rfl) dX9_init_88 ?_
  refine zg_putref (ls := [(0, .ref 39)]) (lay := [0, 0, 3, 4, 5, 0, 6, 0, 0, 0, 0, 7, 8, 9, 0, 0, 10, 11, 0, 12, 2, 2, 2, 2, 0, 2, 2, 2, 2, 2, 0, 2, 0, 2, 2, 2, 2, 0, 2, 2, 2]) (lay' := [0, 0, 3, 4, 5, 0, 6, 0, 0, 0, 0, 7, 8, 9, 0, 0, 10, 11, 0, 12, 13, 2, 2, 2, 0, 2, 2, 2, 2, 2, 0, 2, 0, 2, 2, 2, 2, 0, 2, 2, 2]) (T' := zq98) (o := 39) 10 tyX9_ok nmX9 inl_X9 rfl (by decide) fw_X9_52 rfl rfl (Or.inr trivial) (fun _ => rfl) (fun _ => rfl) (zBc.ini _ _ _ _ _ _ _ _) (show zq97[39]? = some (.inr (9, [0, 0, 3, 4, 5, 0, 6, 0, 0, 0, 0, 7, 8, 9, 0, 0, 10, 11, 0, 12, 2, 2, 2, 2, 0, 2, 2, 2, 2, 2, 0, 2, 0, 2, 2, 2, 2, 0, 2, 2, 2])) from rfl) rfl rfl rfl dX9_init_90 ?_
  refine zg_aload_n 0 dX9_init_93 rfl rfl ?_
  refine zg_bipush dX9_init_94 zkb_60 ?_
  refine zg_newa (n := 51) (N := 60) (T' := zq99) (st := [.ref 39]) 0 .int rfl (by decide) aw_0 (by decide) (Nat.le_of_ble_eq_true rfl) rfl rfl rfl rfl (zBc.grow _ _ _ _ _ _ _ _ rfl) rfl rfl (Nat.le_of_ble_eq_true rfl) (Nat.le_of_ble_eq_true rfl) dX9_init_96 ?_
  refine zg_putref (ls := [(0, .ref 39)]) (lay := [0, 0, 3, 4, 5, 0, 6, 0, 0, 0, 0, 7, 8, 9, 0, 0, 10, 11, 0, 12, 13, 2, 2, 2, 0, 2, 2, 2, 2, 2, 0, 2, 0, 2, 2, 2, 2, 0, 2, 2, 2]) (lay' := [0, 0, 3, 4, 5, 0, 6, 0, 0, 0, 0, 7, 8, 9, 0, 0, 10, 11, 0, 12, 13, 14, 2, 2, 0, 2, 2, 2, 2, 2, 0, 2, 0, 2, 2, 2, 2, 0, 2, 2, 2]) (T' := zq100) (o := 39) 11 tyX9_ok nmX9 inl_X9 rfl (by decide) fw_X9_55 rfl rfl (Or.inr trivial) (fun _ => rfl) (fun _ => rfl) (zBc.ini _ _ _ _ _ _ _ _) (show zq99[39]? = some (.inr (9, [0, 0, 3, 4, 5, 0, 6, 0, 0, 0, 0, 7, 8, 9, 0, 0, 10, 11, 0, 12, 13, 2, 2, 2, 0, 2, 2, 2, 2, 2, 0, 2, 0, 2, 2, 2, 2, 0, 2, 2, 2])) from rfl) rfl rfl rfl dX9_init_98 ?_
  refine zg_aload_n 0 dX9_init_101 rfl rfl ?_
  refine zg_bipush dX9_init_102 zkb_60 ?_
  refine zg_newa (n := 52) (N := 60) (T' := zq101) (st := [.ref 39]) 0 .int rfl (by decide) aw_0 (by decide) (Nat.le_of_ble_eq_true rfl) rfl rfl rfl rfl (zBc.grow _ _ _ _ _ _ _ _ rfl) rfl rfl (Nat.le_of_ble_eq_true rfl) (Nat.le_of_ble_eq_true rfl) dX9_init_104 ?_
  refine zg_putref (ls := [(0, .ref 39)]) (lay := [0, 0, 3, 4, 5, 0, 6, 0, 0, 0, 0, 7, 8, 9, 0, 0, 10, 11, 0, 12, 13, 14, 2, 2, 0, 2, 2, 2, 2, 2, 0, 2, 0, 2, 2, 2, 2, 0, 2, 2, 2]) (lay' := [0, 0, 3, 4, 5, 0, 6, 0, 0, 0, 0, 7, 8, 9, 0, 0, 10, 11, 0, 12, 13, 14, 15, 2, 0, 2, 2, 2, 2, 2, 0, 2, 0, 2, 2, 2, 2, 0, 2, 2, 2]) (T' := zq102) (o := 39) 12 tyX9_ok nmX9 inl_X9 rfl (by decide) fw_X9_58 rfl rfl (Or.inr trivial) (fun _ => rfl) (fun _ => rfl) (zBc.ini _ _ _ _ _ _ _ _) (show zq101[39]? = some (.inr (9, [0, 0, 3, 4, 5, 0, 6, 0, 0, 0, 0, 7, 8, 9, 0, 0, 10, 11, 0, 12, 13, 14, 2, 2, 0, 2, 2, 2, 2, 2, 0, 2, 0, 2, 2, 2, 2, 0, 2, 2, 2])) from rfl) rfl rfl rfl dX9_init_106 ?_
  refine zg_aload_n 0 dX9_init_109 rfl rfl ?_
  refine zg_bipush dX9_init_110 zkb_60 ?_
  refine zg_newa (n := 53) (N := 60) (T' := zq103) (st := [.ref 39]) 0 .int rfl (by decide) aw_0 (by decide) (Nat.le_of_ble_eq_true rfl) rfl rfl rfl rfl (zBc.grow _ _ _ _ _ _ _ _ rfl) rfl rfl (Nat.le_of_ble_eq_true rfl) (Nat.le_of_ble_eq_true rfl) dX9_init_112 ?_
  refine zg_putref (ls := [(0, .ref 39)]) (lay := [0, 0, 3, 4, 5, 0, 6, 0, 0, 0, 0, 7, 8, 9, 0, 0, 10, 11, 0, 12, 13, 14, 15, 2, 0, 2, 2, 2, 2, 2, 0, 2, 0, 2, 2, 2, 2, 0, 2, 2, 2]) (lay' := [0, 0, 3, 4, 5, 0, 6, 0, 0, 0, 0, 7, 8, 9, 0, 0, 10, 11, 0, 12, 13, 14, 15, 16, 0, 2, 2, 2, 2, 2, 0, 2, 0, 2, 2, 2, 2, 0, 2, 2, 2]) (T' := zq104) (o := 39) 13 tyX9_ok nmX9 inl_X9 rfl (by decide) fw_X9_61 rfl rfl (Or.inr trivial) (fun _ => rfl) (fun _ => rfl) (zBc.ini _ _ _ _ _ _ _ _) (show zq103[39]? = some (.inr (9, [0, 0, 3, 4, 5, 0, 6, 0, 0, 0, 0, 7, 8, 9, 0, 0, 10, 11, 0, 12, 13, 14, 15, 2, 0, 2, 2, 2, 2, 2, 0, 2, 0, 2, 2, 2, 2, 0, 2, 2, 2])) from rfl) rfl rfl rfl dX9_init_114 ?_
  refine zg_aload_n 0 dX9_init_117 rfl rfl ?_
  refine zg_bipush dX9_init_118 zkb_12 ?_
  refine zg_newa (n := 54) (N := 12) (T' := zq105) (st := [.ref 39]) 0 .int rfl (by decide) aw_0 (by decide) (Nat.le_of_ble_eq_true rfl) rfl rfl rfl rfl (zBc.grow _ _ _ _ _ _ _ _ rfl) rfl rfl (Nat.le_of_ble_eq_true rfl) (Nat.le_of_ble_eq_true rfl) dX9_init_120 ?_
  refine zg_putref (ls := [(0, .ref 39)]) (lay := [0, 0, 3, 4, 5, 0, 6, 0, 0, 0, 0, 7, 8, 9, 0, 0, 10, 11, 0, 12, 13, 14, 15, 16, 0, 2, 2, 2, 2, 2, 0, 2, 0, 2, 2, 2, 2, 0, 2, 2, 2]) (lay' := [0, 0, 3, 4, 5, 0, 6, 0, 0, 0, 0, 7, 8, 9, 0, 0, 10, 11, 0, 12, 13, 14, 15, 16, 0, 17, 2, 2, 2, 2, 0, 2, 0, 2, 2, 2, 2, 0, 2, 2, 2]) (T' := zq106) (o := 39) 14 tyX9_ok nmX9 inl_X9 rfl (by decide) fw_X9_64 rfl rfl (Or.inr trivial) (fun _ => rfl) (fun _ => rfl) (zBc.ini _ _ _ _ _ _ _ _) (show zq105[39]? = some (.inr (9, [0, 0, 3, 4, 5, 0, 6, 0, 0, 0, 0, 7, 8, 9, 0, 0, 10, 11, 0, 12, 13, 14, 15, 16, 0, 2, 2, 2, 2, 2, 0, 2, 0, 2, 2, 2, 2, 0, 2, 2, 2])) from rfl) rfl rfl rfl dX9_init_122 ?_
  refine zg_aload_n 0 dX9_init_125 rfl rfl ?_
  refine zg_bipush dX9_init_126 zkb_12 ?_
  refine zg_newa (n := 55) (N := 12) (T' := zq107) (st := [.ref 39]) 0 .int rfl (by decide) aw_0 (by decide) (Nat.le_of_ble_eq_true rfl) rfl rfl rfl rfl (zBc.grow _ _ _ _ _ _ _ _ rfl) rfl rfl (Nat.le_of_ble_eq_true rfl) (Nat.le_of_ble_eq_true rfl) dX9_init_128 ?_
  refine zg_putref (ls := [(0, .ref 39)]) (lay := [0, 0, 3, 4, 5, 0, 6, 0, 0, 0, 0, 7, 8, 9, 0, 0, 10, 11, 0, 12, 13, 14, 15, 16, 0, 17, 2, 2, 2, 2, 0, 2, 0, 2, 2, 2, 2, 0, 2, 2, 2]) (lay' := [0, 0, 3, 4, 5, 0, 6, 0, 0, 0, 0, 7, 8, 9, 0, 0, 10, 11, 0, 12, 13, 14, 15, 16, 0, 17, 18, 2, 2, 2, 0, 2, 0, 2, 2, 2, 2, 0, 2, 2, 2]) (T' := zq108) (o := 39) 15 tyX9_ok nmX9 inl_X9 rfl (by decide) fw_X9_67 rfl rfl (Or.inr trivial) (fun _ => rfl) (fun _ => rfl) (zBc.ini _ _ _ _ _ _ _ _) (show zq107[39]? = some (.inr (9, [0, 0, 3, 4, 5, 0, 6, 0, 0, 0, 0, 7, 8, 9, 0, 0, 10, 11, 0, 12, 13, 14, 15, 16, 0, 17, 2, 2, 2, 2, 0, 2, 0, 2, 2, 2, 2, 0, 2, 2, 2])) from rfl) rfl rfl rfl dX9_init_130 ?_
  refine zg_aload_n 0 dX9_init_133 rfl rfl ?_
  refine zg_sipush dX9_init_134 zks_4096 ?_
  refine zg_newa (n := 56) (N := 4096) (T' := zq109) (st := [.ref 39]) 2 .boolean rfl (by decide) aw_2 (by decide) (Nat.le_of_ble_eq_true rfl) rfl rfl rfl rfl (zBc.grow _ _ _ _ _ _ _ _ rfl) rfl rfl (Nat.le_of_ble_eq_true rfl) (Nat.le_of_ble_eq_true rfl) dX9_init_137 ?_
  refine zg_putref (ls := [(0, .ref 39)]) (lay := [0, 0, 3, 4, 5, 0, 6, 0, 0, 0, 0, 7, 8, 9, 0, 0, 10, 11, 0, 12, 13, 14, 15, 16, 0, 17, 18, 2, 2, 2, 0, 2, 0, 2, 2, 2, 2, 0, 2, 2, 2]) (lay' := [0, 0, 3, 4, 5, 0, 6, 0, 0, 0, 0, 7, 8, 9, 0, 0, 10, 11, 0, 12, 13, 14, 15, 16, 0, 17, 18, 19, 2, 2, 0, 2, 0, 2, 2, 2, 2, 0, 2, 2, 2]) (T' := zq110) (o := 39) 16 tyX9_ok nmX9 inl_X9 rfl (by decide) fw_X9_70 rfl rfl (Or.inr trivial) (fun _ => rfl) (fun _ => rfl) (zBc.ini _ _ _ _ _ _ _ _) (show zq109[39]? = some (.inr (9, [0, 0, 3, 4, 5, 0, 6, 0, 0, 0, 0, 7, 8, 9, 0, 0, 10, 11, 0, 12, 13, 14, 15, 16, 0, 17, 18, 2, 2, 2, 0, 2, 0, 2, 2, 2, 2, 0, 2, 2, 2])) from rfl) rfl rfl rfl dX9_init_139 ?_
  refine zg_aload_n 0 dX9_init_142 rfl rfl ?_
  refine zg_sipush dX9_init_143 zks_500 ?_
  refine zg_newa (n := 57) (N := 500) (T' := zq111) (st := [.ref 39]) 1 .long rfl (by decide) aw_1 (by decide) (Nat.le_of_ble_eq_true rfl) rfl rfl rfl rfl (zBc.grow _ _ _ _ _ _ _ _ rfl) rfl rfl (Nat.le_of_ble_eq_true rfl) (Nat.le_of_ble_eq_true rfl) dX9_init_146 ?_
  refine zg_putref (ls := [(0, .ref 39)]) (lay := [0, 0, 3, 4, 5, 0, 6, 0, 0, 0, 0, 7, 8, 9, 0, 0, 10, 11, 0, 12, 13, 14, 15, 16, 0, 17, 18, 19, 2, 2, 0, 2, 0, 2, 2, 2, 2, 0, 2, 2, 2]) (lay' := [0, 0, 3, 4, 5, 0, 6, 0, 0, 0, 0, 7, 8, 9, 0, 0, 10, 11, 0, 12, 13, 14, 15, 16, 0, 17, 18, 19, 20, 2, 0, 2, 0, 2, 2, 2, 2, 0, 2, 2, 2]) (T' := zq112) (o := 39) 17 tyX9_ok nmX9 inl_X9 rfl (by decide) fw_X9_74 rfl rfl (Or.inr trivial) (fun _ => rfl) (fun _ => rfl) (zBc.ini _ _ _ _ _ _ _ _) (show zq111[39]? = some (.inr (9, [0, 0, 3, 4, 5, 0, 6, 0, 0, 0, 0, 7, 8, 9, 0, 0, 10, 11, 0, 12, 13, 14, 15, 16, 0, 17, 18, 19, 2, 2, 0, 2, 0, 2, 2, 2, 2, 0, 2, 2, 2])) from rfl) rfl rfl rfl dX9_init_148 ?_
  refine zg_aload_n 0 dX9_init_151 rfl rfl ?_
  refine zg_sipush dX9_init_152 zks_4096 ?_
  refine zg_newa (n := 58) (N := 4096) (T' := zq113) (st := [.ref 39]) 0 .int rfl (by decide) aw_0 (by decide) (Nat.le_of_ble_eq_true rfl) rfl rfl rfl rfl (zBc.grow _ _ _ _ _ _ _ _ rfl) rfl rfl (Nat.le_of_ble_eq_true rfl) (Nat.le_of_ble_eq_true rfl) dX9_init_155 ?_
  refine zg_putref (ls := [(0, .ref 39)]) (lay := [0, 0, 3, 4, 5, 0, 6, 0, 0, 0, 0, 7, 8, 9, 0, 0, 10, 11, 0, 12, 13, 14, 15, 16, 0, 17, 18, 19, 20, 2, 0, 2, 0, 2, 2, 2, 2, 0, 2, 2, 2]) (lay' := [0, 0, 3, 4, 5, 0, 6, 0, 0, 0, 0, 7, 8, 9, 0, 0, 10, 11, 0, 12, 13, 14, 15, 16, 0, 17, 18, 19, 20, 21, 0, 2, 0, 2, 2, 2, 2, 0, 2, 2, 2]) (T' := zq114) (o := 39) 18 tyX9_ok nmX9 inl_X9 rfl (by decide) fw_X9_77 rfl rfl (Or.inr trivial) (fun _ => rfl) (fun _ => rfl) (zBc.ini _ _ _ _ _ _ _ _) (show zq113[39]? = some (.inr (9, [0, 0, 3, 4, 5, 0, 6, 0, 0, 0, 0, 7, 8, 9, 0, 0, 10, 11, 0, 12, 13, 14, 15, 16, 0, 17, 18, 19, 20, 2, 0, 2, 0, 2, 2, 2, 2, 0, 2, 2, 2])) from rfl) rfl rfl rfl dX9_init_157 ?_
  refine zg_aload_n 0 dX9_init_160 rfl rfl ?_
  refine zg_sipush dX9_init_161 zks_4096 ?_
  refine zg_newa (n := 59) (N := 4096) (T' := zq115) (st := [.ref 39]) 2 .boolean rfl (by decide) aw_2 (by decide) (Nat.le_of_ble_eq_true rfl) rfl rfl rfl rfl (zBc.grow _ _ _ _ _ _ _ _ rfl) rfl rfl (Nat.le_of_ble_eq_true rfl) (Nat.le_of_ble_eq_true rfl) dX9_init_164 ?_
  refine zg_putref (ls := [(0, .ref 39)]) (lay := [0, 0, 3, 4, 5, 0, 6, 0, 0, 0, 0, 7, 8, 9, 0, 0, 10, 11, 0, 12, 13, 14, 15, 16, 0, 17, 18, 19, 20, 21, 0, 2, 0, 2, 2, 2, 2, 0, 2, 2, 2]) (lay' := [0, 0, 3, 4, 5, 0, 6, 0, 0, 0, 0, 7, 8, 9, 0, 0, 10, 11, 0, 12, 13, 14, 15, 16, 0, 17, 18, 19, 20, 21, 0, 22, 0, 2, 2, 2, 2, 0, 2, 2, 2]) (T' := zq116) (o := 39) 19 tyX9_ok nmX9 inl_X9 rfl (by decide) fw_X9_80 rfl rfl (Or.inr trivial) (fun _ => rfl) (fun _ => rfl) (zBc.ini _ _ _ _ _ _ _ _) (show zq115[39]? = some (.inr (9, [0, 0, 3, 4, 5, 0, 6, 0, 0, 0, 0, 7, 8, 9, 0, 0, 10, 11, 0, 12, 13, 14, 15, 16, 0, 17, 18, 19, 20, 21, 0, 2, 0, 2, 2, 2, 2, 0, 2, 2, 2])) from rfl) rfl rfl rfl dX9_init_166 ?_
  refine zg_aload_n 0 dX9_init_169 rfl rfl ?_
  refine zg_bipush dX9_init_170 zkb_12 ?_
  refine zg_newa (n := 60) (N := 12) (T' := zq117) (st := [.ref 39]) 0 .int rfl (by decide) aw_0 (by decide) (Nat.le_of_ble_eq_true rfl) rfl rfl rfl rfl (zBc.grow _ _ _ _ _ _ _ _ rfl) rfl rfl (Nat.le_of_ble_eq_true rfl) (Nat.le_of_ble_eq_true rfl) dX9_init_172 ?_
  refine zg_putref (ls := [(0, .ref 39)]) (lay := [0, 0, 3, 4, 5, 0, 6, 0, 0, 0, 0, 7, 8, 9, 0, 0, 10, 11, 0, 12, 13, 14, 15, 16, 0, 17, 18, 19, 20, 21, 0, 22, 0, 2, 2, 2, 2, 0, 2, 2, 2]) (lay' := [0, 0, 3, 4, 5, 0, 6, 0, 0, 0, 0, 7, 8, 9, 0, 0, 10, 11, 0, 12, 13, 14, 15, 16, 0, 17, 18, 19, 20, 21, 0, 22, 0, 23, 2, 2, 2, 0, 2, 2, 2]) (T' := zq118) (o := 39) 20 tyX9_ok nmX9 inl_X9 rfl (by decide) fw_X9_83 rfl rfl (Or.inr trivial) (fun _ => rfl) (fun _ => rfl) (zBc.ini _ _ _ _ _ _ _ _) (show zq117[39]? = some (.inr (9, [0, 0, 3, 4, 5, 0, 6, 0, 0, 0, 0, 7, 8, 9, 0, 0, 10, 11, 0, 12, 13, 14, 15, 16, 0, 17, 18, 19, 20, 21, 0, 22, 0, 2, 2, 2, 2, 0, 2, 2, 2])) from rfl) rfl rfl rfl dX9_init_174 ?_
  refine zg_aload_n 0 dX9_init_177 rfl rfl ?_
  refine zg_bipush dX9_init_178 zkb_12 ?_
  refine zg_newa (n := 61) (N := 12) (T' := zq119) (st := [.ref 39]) 0 .int rfl (by decide) aw_0 (by decide) (Nat.le_of_ble_eq_true rfl) rfl rfl rfl rfl (zBc.grow _ _ _ _ _ _ _ _ rfl) rfl rfl (Nat.le_of_ble_eq_true rfl) (Nat.le_of_ble_eq_true rfl) dX9_init_180 ?_
  refine zg_putref (ls := [(0, .ref 39)]) (lay := [0, 0, 3, 4, 5, 0, 6, 0, 0, 0, 0, 7, 8, 9, 0, 0, 10, 11, 0, 12, 13, 14, 15, 16, 0, 17, 18, 19, 20, 21, 0, 22, 0, 23, 2, 2, 2, 0, 2, 2, 2]) (lay' := [0, 0, 3, 4, 5, 0, 6, 0, 0, 0, 0, 7, 8, 9, 0, 0, 10, 11, 0, 12, 13, 14, 15, 16, 0, 17, 18, 19, 20, 21, 0, 22, 0, 23, 24, 2, 2, 0, 2, 2, 2]) (T' := zq120) (o := 39) 21 tyX9_ok nmX9 inl_X9 rfl (by decide) fw_X9_86 rfl rfl (Or.inr trivial) (fun _ => rfl) (fun _ => rfl) (zBc.ini _ _ _ _ _ _ _ _) (show zq119[39]? = some (.inr (9, [0, 0, 3, 4, 5, 0, 6, 0, 0, 0, 0, 7, 8, 9, 0, 0, 10, 11, 0, 12, 13, 14, 15, 16, 0, 17, 18, 19, 20, 21, 0, 22, 0, 23, 2, 2, 2, 0, 2, 2, 2])) from rfl) rfl rfl rfl dX9_init_182 ?_
  refine zg_aload_n 0 dX9_init_185 rfl rfl ?_
  refine zg_bipush dX9_init_186 zkb_80 ?_
  refine zg_newa (n := 62) (N := 80) (T' := zq121) (st := [.ref 39]) 0 .int rfl (by decide) aw_0 (by decide) (Nat.le_of_ble_eq_true rfl) rfl rfl rfl rfl (zBc.grow _ _ _ _ _ _ _ _ rfl) rfl rfl (Nat.le_of_ble_eq_true rfl) (Nat.le_of_ble_eq_true rfl) dX9_init_188 ?_
  refine zg_putref (ls := [(0, .ref 39)]) (lay := [0, 0, 3, 4, 5, 0, 6, 0, 0, 0, 0, 7, 8, 9, 0, 0, 10, 11, 0, 12, 13, 14, 15, 16, 0, 17, 18, 19, 20, 21, 0, 22, 0, 23, 24, 2, 2, 0, 2, 2, 2]) (lay' := [0, 0, 3, 4, 5, 0, 6, 0, 0, 0, 0, 7, 8, 9, 0, 0, 10, 11, 0, 12, 13, 14, 15, 16, 0, 17, 18, 19, 20, 21, 0, 22, 0, 23, 24, 25, 2, 0, 2, 2, 2]) (T' := zq122) (o := 39) 22 tyX9_ok nmX9 inl_X9 rfl (by decide) fw_X9_89 rfl rfl (Or.inr trivial) (fun _ => rfl) (fun _ => rfl) (zBc.ini _ _ _ _ _ _ _ _) (show zq121[39]? = some (.inr (9, [0, 0, 3, 4, 5, 0, 6, 0, 0, 0, 0, 7, 8, 9, 0, 0, 10, 11, 0, 12, 13, 14, 15, 16, 0, 17, 18, 19, 20, 21, 0, 22, 0, 23, 24, 2, 2, 0, 2, 2, 2])) from rfl) rfl rfl rfl dX9_init_190 ?_
  refine zg_aload_n 0 dX9_init_193 rfl rfl ?_
  refine zg_bipush dX9_init_194 zkb_10 ?_
  refine zg_newa (n := 63) (N := 10) (T' := zq123) (st := [.ref 39]) 0 .int rfl (by decide) aw_0 (by decide) (Nat.le_of_ble_eq_true rfl) rfl rfl rfl rfl (zBc.grow _ _ _ _ _ _ _ _ rfl) rfl rfl (Nat.le_of_ble_eq_true rfl) (Nat.le_of_ble_eq_true rfl) dX9_init_196 ?_
  refine zg_putref (ls := [(0, .ref 39)]) (lay := [0, 0, 3, 4, 5, 0, 6, 0, 0, 0, 0, 7, 8, 9, 0, 0, 10, 11, 0, 12, 13, 14, 15, 16, 0, 17, 18, 19, 20, 21, 0, 22, 0, 23, 24, 25, 2, 0, 2, 2, 2]) (lay' := [0, 0, 3, 4, 5, 0, 6, 0, 0, 0, 0, 7, 8, 9, 0, 0, 10, 11, 0, 12, 13, 14, 15, 16, 0, 17, 18, 19, 20, 21, 0, 22, 0, 23, 24, 25, 26, 0, 2, 2, 2]) (T' := zq124) (o := 39) 23 tyX9_ok nmX9 inl_X9 rfl (by decide) fw_X9_92 rfl rfl (Or.inr trivial) (fun _ => rfl) (fun _ => rfl) (zBc.ini _ _ _ _ _ _ _ _) (show zq123[39]? = some (.inr (9, [0, 0, 3, 4, 5, 0, 6, 0, 0, 0, 0, 7, 8, 9, 0, 0, 10, 11, 0, 12, 13, 14, 15, 16, 0, 17, 18, 19, 20, 21, 0, 22, 0, 23, 24, 25, 2, 0, 2, 2, 2])) from rfl) rfl rfl rfl dX9_init_198 ?_
  refine zg_aload_n 0 dX9_init_201 rfl rfl ?_
  refine zg_iconst dX9_init_202 zki_3 ?_
  refine zg_newa (n := 64) (N := 3) (T' := zq125) (st := [.ref 39]) 2 .boolean rfl (by decide) aw_2 (by decide) (Nat.le_of_ble_eq_true rfl) rfl rfl rfl rfl (zBc.grow _ _ _ _ _ _ _ _ rfl) rfl rfl (Nat.le_of_ble_eq_true rfl) (Nat.le_of_ble_eq_true rfl) dX9_init_203 ?_
  refine zg_putref (ls := [(0, .ref 39)]) (lay := [0, 0, 3, 4, 5, 0, 6, 0, 0, 0, 0, 7, 8, 9, 0, 0, 10, 11, 0, 12, 13, 14, 15, 16, 0, 17, 18, 19, 20, 21, 0, 22, 0, 23, 24, 25, 26, 0, 2, 2, 2]) (lay' := [0, 0, 3, 4, 5, 0, 6, 0, 0, 0, 0, 7, 8, 9, 0, 0, 10, 11, 0, 12, 13, 14, 15, 16, 0, 17, 18, 19, 20, 21, 0, 22, 0, 23, 24, 25, 26, 0, 27, 2, 2]) (T' := zq126) (o := 39) 24 tyX9_ok nmX9 inl_X9 rfl (by decide) fw_X9_95 rfl rfl (Or.inr trivial) (fun _ => rfl) (fun _ => rfl) (zBc.ini _ _ _ _ _ _ _ _) (show zq125[39]? = some (.inr (9, [0, 0, 3, 4, 5, 0, 6, 0, 0, 0, 0, 7, 8, 9, 0, 0, 10, 11, 0, 12, 13, 14, 15, 16, 0, 17, 18, 19, 20, 21, 0, 22, 0, 23, 24, 25, 26, 0, 2, 2, 2])) from rfl) rfl rfl rfl dX9_init_205 ?_
  refine zg_aload_n 0 dX9_init_208 rfl rfl ?_
  refine zg_iconst dX9_init_209 zki_3 ?_
  refine zg_newa (n := 65) (N := 3) (T' := zq127) (st := [.ref 39]) 0 .int rfl (by decide) aw_0 (by decide) (Nat.le_of_ble_eq_true rfl) rfl rfl rfl rfl (zBc.grow _ _ _ _ _ _ _ _ rfl) rfl rfl (Nat.le_of_ble_eq_true rfl) (Nat.le_of_ble_eq_true rfl) dX9_init_210 ?_
  refine zg_putref (ls := [(0, .ref 39)]) (lay := [0, 0, 3, 4, 5, 0, 6, 0, 0, 0, 0, 7, 8, 9, 0, 0, 10, 11, 0, 12, 13, 14, 15, 16, 0, 17, 18, 19, 20, 21, 0, 22, 0, 23, 24, 25, 26, 0, 27, 2, 2]) (lay' := [0, 0, 3, 4, 5, 0, 6, 0, 0, 0, 0, 7, 8, 9, 0, 0, 10, 11, 0, 12, 13, 14, 15, 16, 0, 17, 18, 19, 20, 21, 0, 22, 0, 23, 24, 25, 26, 0, 27, 28, 2]) (T' := zq128) (o := 39) 25 tyX9_ok nmX9 inl_X9 rfl (by decide) fw_X9_98 rfl rfl (Or.inr trivial) (fun _ => rfl) (fun _ => rfl) (zBc.ini _ _ _ _ _ _ _ _) (show zq127[39]? = some (.inr (9, [0, 0, 3, 4, 5, 0, 6, 0, 0, 0, 0, 7, 8, 9, 0, 0, 10, 11, 0, 12, 13, 14, 15, 16, 0, 17, 18, 19, 20, 21, 0, 22, 0, 23, 24, 25, 26, 0, 27, 2, 2])) from rfl) rfl rfl rfl dX9_init_212 ?_
  refine zg_aload_n 0 dX9_init_215 rfl rfl ?_
  refine zg_bipush dX9_init_216 zkb_27 ?_
  refine zg_newa (n := 66) (N := 27) (T' := zq129) (st := [.ref 39]) 0 .int rfl (by decide) aw_0 (by decide) (Nat.le_of_ble_eq_true rfl) rfl rfl rfl rfl (zBc.grow _ _ _ _ _ _ _ _ rfl) rfl rfl (Nat.le_of_ble_eq_true rfl) (Nat.le_of_ble_eq_true rfl) dX9_init_218 ?_
  refine zg_putref (ls := [(0, .ref 39)]) (lay := [0, 0, 3, 4, 5, 0, 6, 0, 0, 0, 0, 7, 8, 9, 0, 0, 10, 11, 0, 12, 13, 14, 15, 16, 0, 17, 18, 19, 20, 21, 0, 22, 0, 23, 24, 25, 26, 0, 27, 28, 2]) (lay' := [0, 0, 3, 4, 5, 0, 6, 0, 0, 0, 0, 7, 8, 9, 0, 0, 10, 11, 0, 12, 13, 14, 15, 16, 0, 17, 18, 19, 20, 21, 0, 22, 0, 23, 24, 25, 26, 0, 27, 28, 29]) (T' := zq130) (o := 39) 26 tyX9_ok nmX9 inl_X9 rfl (by decide) fw_X9_101 rfl rfl (Or.inr trivial) (fun _ => rfl) (fun _ => rfl) (zBc.ini _ _ _ _ _ _ _ _) (show zq129[39]? = some (.inr (9, [0, 0, 3, 4, 5, 0, 6, 0, 0, 0, 0, 7, 8, 9, 0, 0, 10, 11, 0, 12, 13, 14, 15, 16, 0, 17, 18, 19, 20, 21, 0, 22, 0, 23, 24, 25, 26, 0, 27, 28, 2])) from rfl) rfl rfl rfl dX9_init_220 ?_
  refine zg_aload_n 0 dX9_init_223 rfl rfl ?_
  refine zo_getr 41 1 rfl fl_X9_24 (show zq130[39]? = some (.inr (9, [0, 0, 3, 4, 5, 0, 6, 0, 0, 0, 0, 7, 8, 9, 0, 0, 10, 11, 0, 12, 13, 14, 15, 16, 0, 17, 18, 19, 20, 21, 0, 22, 0, 23, 24, 25, 26, 0, 27, 28, 29])) from rfl) rfl dX9_init_224 ?_
  refine zg_iconst dX9_init_227 zki_0 ?_
  refine zg_iconst dX9_init_228 zki_1 ?_
  refine zo_iastc 0 (show zq130[41]? = some (.inl (0, 9)) from rfl) (by decide) rfl dX9_init_229 ?_
  refine zg_aload_n 0 dX9_init_230 rfl rfl ?_
  refine zo_getr 41 1 rfl fl_X9_24 (show zq130[39]? = some (.inr (9, [0, 0, 3, 4, 5, 0, 6, 0, 0, 0, 0, 7, 8, 9, 0, 0, 10, 11, 0, 12, 13, 14, 15, 16, 0, 17, 18, 19, 20, 21, 0, 22, 0, 23, 24, 25, 26, 0, 27, 28, 29])) from rfl) rfl dX9_init_231 ?_
  refine zg_bipush dX9_init_234 zkb_6 ?_
  refine zg_iconst dX9_init_236 zki_1 ?_
  refine zo_iastc 6 (show zq130[41]? = some (.inl (0, 9)) from rfl) (by decide) rfl dX9_init_237 ?_
  refine zg_aload_n 0 dX9_init_238 rfl rfl ?_
  refine zo_getr 41 1 rfl fl_X9_24 (show zq130[39]? = some (.inr (9, [0, 0, 3, 4, 5, 0, 6, 0, 0, 0, 0, 7, 8, 9, 0, 0, 10, 11, 0, 12, 13, 14, 15, 16, 0, 17, 18, 19, 20, 21, 0, 22, 0, 23, 24, 25, 26, 0, 27, 28, 29])) from rfl) rfl dX9_init_239 ?_
  refine zg_bipush dX9_init_242 zkb_7 ?_
  refine zg_iconst dX9_init_244 zki_1 ?_
  refine zo_iastc 7 (show zq130[41]? = some (.inl (0, 9)) from rfl) (by decide) rfl dX9_init_245 ?_
  exact zg_cret dX9_init_246
