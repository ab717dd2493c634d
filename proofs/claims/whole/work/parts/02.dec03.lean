theorem dX9_endures_80 : decode cX9_endures 80 = .ok (.aload_n 0, 1) := by decide +kernel
theorem dX9_endures_81 : decode cX9_endures 81 = .ok (.getfield 77, 3) := by decide +kernel
theorem dX9_endures_84 : decode cX9_endures 84 = .ok (.iload_n 3, 1) := by decide +kernel
theorem dX9_endures_85 : decode cX9_endures 85 = .ok (.iconst 0, 1) := by decide +kernel
theorem dX9_endures_86 : decode cX9_endures 86 = .ok (.iastore, 1) := by decide +kernel
theorem dX9_endures_87 : decode cX9_endures 87 = .ok (.iconst 0, 1) := by decide +kernel
theorem dX9_endures_88 : decode cX9_endures 88 = .ok (.istore 5, 2) := by decide +kernel
theorem dX9_endures_90 : decode cX9_endures 90 = .ok (.iload 5, 2) := by decide +kernel
theorem dX9_endures_92 : decode cX9_endures 92 = .ok (.bipush 12, 2) := by decide +kernel
theorem dX9_endures_94 : decode cX9_endures 94 = .ok (.if_icmp .ge 71, 3) := by decide +kernel
theorem dX9_endures_97 : decode cX9_endures 97 = .ok (.iload_n 3, 1) := by decide +kernel
theorem dX9_endures_98 : decode cX9_endures 98 = .ok (.iconst 1, 1) := by decide +kernel
theorem dX9_endures_99 : decode cX9_endures 99 = .ok (.iload 5, 2) := by decide +kernel
theorem dX9_endures_101 : decode cX9_endures 101 = .ok (.ishl, 1) := by decide +kernel
theorem dX9_endures_102 : decode cX9_endures 102 = .ok (.iconst (-1), 1) := by decide +kernel
theorem dX9_endures_103 : decode cX9_endures 103 = .ok (.ixor, 1) := by decide +kernel
theorem dX9_endures_104 : decode cX9_endures 104 = .ok (.iand, 1) := by decide +kernel
theorem dX9_endures_105 : decode cX9_endures 105 = .ok (.istore 6, 2) := by decide +kernel
theorem dX9_endures_107 : decode cX9_endures 107 = .ok (.aload_n 0, 1) := by decide +kernel
theorem dX9_endures_108 : decode cX9_endures 108 = .ok (.getfield 77, 3) := by decide +kernel
theorem dX9_endures_111 : decode cX9_endures 111 = .ok (.iload_n 3, 1) := by decide +kernel
theorem dX9_endures_112 : decode cX9_endures 112 = .ok (.iload_n 3, 1) := by decide +kernel
theorem dX9_endures_113 : decode cX9_endures 113 = .ok (.iload 5, 2) := by decide +kernel
theorem dX9_endures_115 : decode cX9_endures 115 = .ok (.invokestatic 112, 3) := by decide +kernel
theorem dX9_endures_118 : decode cX9_endures 118 = .ok (.ifCond .eq 34, 3) := by decide +kernel
theorem dX9_endures_121 : decode cX9_endures 121 = .ok (.aload_n 0, 1) := by decide +kernel
theorem dX9_endures_122 : decode cX9_endures 122 = .ok (.getfield 70, 3) := by decide +kernel
theorem dX9_endures_125 : decode cX9_endures 125 = .ok (.iload 6, 2) := by decide +kernel
theorem dX9_endures_127 : decode cX9_endures 127 = .ok (.baload, 1) := by decide +kernel
theorem dX9_endures_128 : decode cX9_endures 128 = .ok (.ifCond .eq 24, 3) := by decide +kernel
theorem dX9_endures_131 : decode cX9_endures 131 = .ok (.aload_n 0, 1) := by decide +kernel
theorem dX9_endures_132 : decode cX9_endures 132 = .ok (.getfield 77, 3) := by decide +kernel
theorem dX9_endures_135 : decode cX9_endures 135 = .ok (.iload_n 3, 1) := by decide +kernel
theorem dX9_endures_136 : decode cX9_endures 136 = .ok (.iaload, 1) := by decide +kernel
theorem dX9_endures_137 : decode cX9_endures 137 = .ok (.aload_n 0, 1) := by decide +kernel
theorem dX9_endures_138 : decode cX9_endures 138 = .ok (.getfield 77, 3) := by decide +kernel
theorem dX9_endures_141 : decode cX9_endures 141 = .ok (.iload 6, 2) := by decide +kernel
theorem dX9_endures_143 : decode cX9_endures 143 = .ok (.iaload, 1) := by decide +kernel
theorem dX9_endures_144 : decode cX9_endures 144 = .ok (.iconst 1, 1) := by decide +kernel
theorem dX9_endures_145 : decode cX9_endures 145 = .ok (.iadd, 1) := by decide +kernel
theorem dX9_endures_146 : decode cX9_endures 146 = .ok (.invokestatic 258, 3) := by decide +kernel
theorem dX9_endures_149 : decode cX9_endures 149 = .ok (.goto 9, 3) := by decide +kernel
theorem dX9_endures_152 : decode cX9_endures 152 = .ok (.aload_n 0, 1) := by decide +kernel
theorem dX9_endures_153 : decode cX9_endures 153 = .ok (.getfield 77, 3) := by decide +kernel
theorem dX9_endures_156 : decode cX9_endures 156 = .ok (.iload_n 3, 1) := by decide +kernel
theorem dX9_endures_157 : decode cX9_endures 157 = .ok (.iaload, 1) := by decide +kernel
theorem dX9_endures_158 : decode cX9_endures 158 = .ok (.iastore, 1) := by decide +kernel
theorem dX9_endures_159 : decode cX9_endures 159 = .ok (.iinc 5 1, 3) := by decide +kernel
theorem dX9_endures_162 : decode cX9_endures 162 = .ok (.goto (-72), 3) := by decide +kernel
theorem dX9_endures_165 : decode cX9_endures 165 = .ok (.iinc 3 1, 3) := by decide +kernel
theorem dX9_endures_168 : decode cX9_endures 168 = .ok (.goto (-147), 3) := by decide +kernel
theorem dX9_endures_171 : decode cX9_endures 171 = .ok (.aload_n 0, 1) := by decide +kernel
theorem dX9_endures_172 : decode cX9_endures 172 = .ok (.iconst 0, 1) := by decide +kernel
theorem dX9_endures_173 : decode cX9_endures 173 = .ok (.putfield 15, 3) := by decide +kernel
theorem dX9_endures_176 : decode cX9_endures 176 = .ok (.aload_n 0, 1) := by decide +kernel
theorem dX9_endures_177 : decode cX9_endures 177 = .ok (.iload_n 2, 1) := by decide +kernel
theorem dX9_endures_178 : decode cX9_endures 178 = .ok (.i2l, 1) := by decide +kernel
theorem dX9_endures_179 : decode cX9_endures 179 = .ok (.invokevirtual 311, 3) := by decide +kernel
theorem dX9_endures_182 : decode cX9_endures 182 = .ok (.aload_n 0, 1) := by decide +kernel
theorem dX9_endures_183 : decode cX9_endures 183 = .ok (.aload_n 0, 1) := by decide +kernel
theorem dX9_endures_184 : decode cX9_endures 184 = .ok (.getfield 70, 3) := by decide +kernel
theorem dX9_endures_187 : decode cX9_endures 187 = .ok (.iload_n 1, 1) := by decide +kernel
theorem dX9_endures_188 : decode cX9_endures 188 = .ok (.baload, 1) := by decide +kernel
theorem dX9_endures_189 : decode cX9_endures 189 = .ok (.ifCond .eq 13, 3) := by decide +kernel
theorem dX9_endures_192 : decode cX9_endures 192 = .ok (.aload_n 0, 1) := by decide +kernel
theorem dX9_endures_193 : decode cX9_endures 193 = .ok (.getfield 77, 3) := by decide +kernel
theorem dX9_endures_196 : decode cX9_endures 196 = .ok (.iload_n 1, 1) := by decide +kernel
theorem dX9_endures_197 : decode cX9_endures 197 = .ok (.iaload, 1) := by decide +kernel
theorem dX9_endures_198 : decode cX9_endures 198 = .ok (.i2l, 1) := by decide +kernel
theorem dX9_endures_199 : decode cX9_endures 199 = .ok (.goto 4, 3) := by decide +kernel
theorem dX9_endures_202 : decode cX9_endures 202 = .ok (.lconst 0, 1) := by decide +kernel
theorem dX9_endures_203 : decode cX9_endures 203 = .ok (.invokevirtual 311, 3) := by decide +kernel
theorem dX9_endures_206 : decode cX9_endures 206 = .ok (.iload_n 2, 1) := by decide +kernel
theorem dX9_endures_207 : decode cX9_endures 207 = .ok (.invokestatic 131, 3) := by decide +kernel
theorem dX9_endures_210 : decode cX9_endures 210 = .ok (.ireturn, 1) := by decide +kernel
theorem dX9_differs_0 : decode cX9_differs 0 = .ok (.aload_n 0, 1) := by decide +kernel
theorem dX9_differs_1 : decode cX9_differs 1 = .ok (.iconst 0, 1) := by decide +kernel
theorem dX9_differs_2 : decode cX9_differs 2 = .ok (.putfield 3, 3) := by decide +kernel
theorem dX9_differs_5 : decode cX9_differs 5 = .ok (.aload_n 0, 1) := by decide +kernel
theorem dX9_differs_6 : decode cX9_differs 6 = .ok (.invokevirtual 191, 3) := by decide +kernel
theorem dX9_differs_9 : decode cX9_differs 9 = .ok (.istore_n 1, 1) := by decide +kernel
theorem dX9_differs_10 : decode cX9_differs 10 = .ok (.iload_n 1, 1) := by decide +kernel
theorem dX9_differs_11 : decode cX9_differs 11 = .ok (.ifCond .ge 5, 3) := by decide +kernel
theorem dX9_differs_14 : decode cX9_differs 14 = .ok (.iload_n 1, 1) := by decide +kernel
theorem dX9_differs_15 : decode cX9_differs 15 = .ok (.ireturn, 1) := by decide +kernel
theorem dX9_differs_16 : decode cX9_differs 16 = .ok (.aload_n 0, 1) := by decide +kernel
theorem dX9_differs_17 : decode cX9_differs 17 = .ok (.getfield 34, 3) := by decide +kernel
theorem dX9_differs_20 : decode cX9_differs 20 = .ok (.bipush 6, 2) := by decide +kernel
theorem dX9_differs_22 : decode cX9_differs 22 = .ok (.iaload, 1) := by decide +kernel
theorem dX9_differs_23 : decode cX9_differs 23 = .ok (.aload_n 0, 1) := by decide +kernel
theorem dX9_differs_24 : decode cX9_differs 24 = .ok (.getfield 24, 3) := by decide +kernel
theorem dX9_differs_27 : decode cX9_differs 27 = .ok (.bipush 6, 2) := by decide +kernel
theorem dX9_differs_29 : decode cX9_differs 29 = .ok (.iaload, 1) := by decide +kernel
theorem dX9_differs_30 : decode cX9_differs 30 = .ok (.if_icmp .ne 20, 3) := by decide +kernel
theorem dX9_differs_33 : decode cX9_differs 33 = .ok (.aload_n 0, 1) := by decide +kernel
theorem dX9_differs_34 : decode cX9_differs 34 = .ok (.getfield 34, 3) := by decide +kernel
theorem dX9_differs_37 : decode cX9_differs 37 = .ok (.bipush 7, 2) := by decide +kernel
theorem dX9_differs_39 : decode cX9_differs 39 = .ok (.iaload, 1) := by decide +kernel
theorem dX9_differs_40 : decode cX9_differs 40 = .ok (.aload_n 0, 1) := by decide +kernel
theorem dX9_differs_41 : decode cX9_differs 41 = .ok (.getfield 24, 3) := by decide +kernel
theorem dX9_differs_44 : decode cX9_differs 44 = .ok (.bipush 7, 2) := by decide +kernel
theorem dX9_differs_46 : decode cX9_differs 46 = .ok (.iaload, 1) := by decide +kernel
theorem dX9_differs_47 : decode cX9_differs 47 = .ok (.if_icmp .eq 6, 3) := by decide +kernel
theorem dX9_differs_50 : decode cX9_differs 50 = .ok (.bipush (-100), 2) := by decide +kernel
theorem dX9_differs_52 : decode cX9_differs 52 = .ok (.ireturn, 1) := by decide +kernel
theorem dX9_differs_53 : decode cX9_differs 53 = .ok (.iconst 0, 1) := by decide +kernel
theorem dX9_differs_54 : decode cX9_differs 54 = .ok (.istore_n 2, 1) := by decide +kernel
theorem dX9_differs_55 : decode cX9_differs 55 = .ok (.ldc_w 397, 3) := by decide +kernel
theorem dX9_differs_58 : decode cX9_differs 58 = .ok (.istore_n 3, 1) := by decide +kernel
theorem dX9_differs_59 : decode cX9_differs 59 = .ok (.iconst 0, 1) := by decide +kernel
theorem dX9_differs_60 : decode cX9_differs 60 = .ok (.istore 4, 2) := by decide +kernel
theorem dX9_differs_62 : decode cX9_differs 62 = .ok (.iload 4, 2) := by decide +kernel
theorem dX9_differs_64 : decode cX9_differs 64 = .ok (.aload_n 0, 1) := by decide +kernel
theorem dX9_differs_65 : decode cX9_differs 65 = .ok (.getfield 24, 3) := by decide +kernel
theorem dX9_differs_68 : decode cX9_differs 68 = .ok (.bipush 6, 2) := by decide +kernel
theorem dX9_differs_70 : decode cX9_differs 70 = .ok (.iaload, 1) := by decide +kernel
theorem dX9_differs_71 : decode cX9_differs 71 = .ok (.if_icmp .ge 187, 3) := by decide +kernel
theorem dX9_differs_74 : decode cX9_differs 74 = .ok (.iconst 0, 1) := by decide +kernel
theorem dX9_differs_75 : decode cX9_differs 75 = .ok (.istore 5, 2) := by decide +kernel
theorem dX9_differs_77 : decode cX9_differs 77 = .ok (.iload 5, 2) := by decide +kernel
theorem dX9_differs_79 : decode cX9_differs 79 = .ok (.aload_n 0, 1) := by decide +kernel
theorem dX9_differs_80 : decode cX9_differs 80 = .ok (.getfield 24, 3) := by decide +kernel
theorem dX9_differs_83 : decode cX9_differs 83 = .ok (.bipush 7, 2) := by decide +kernel
theorem dX9_differs_85 : decode cX9_differs 85 = .ok (.iaload, 1) := by decide +kernel
theorem dX9_differs_86 : decode cX9_differs 86 = .ok (.if_icmp .ge 166, 3) := by decide +kernel
theorem dX9_differs_89 : decode cX9_differs 89 = .ok (.iconst 0, 1) := by decide +kernel
theorem dX9_differs_90 : decode cX9_differs 90 = .ok (.istore 6, 2) := by decide +kernel
theorem dX9_differs_92 : decode cX9_differs 92 = .ok (.iconst 0, 1) := by decide +kernel
theorem dX9_differs_93 : decode cX9_differs 93 = .ok (.istore 7, 2) := by decide +kernel
theorem dX9_differs_95 : decode cX9_differs 95 = .ok (.iload 7, 2) := by decide +kernel
theorem dX9_differs_97 : decode cX9_differs 97 = .ok (.aload_n 0, 1) := by decide +kernel
theorem dX9_differs_98 : decode cX9_differs 98 = .ok (.getfield 24, 3) := by decide +kernel
theorem dX9_differs_101 : decode cX9_differs 101 = .ok (.bipush 6, 2) := by decide +kernel
theorem dX9_differs_103 : decode cX9_differs 103 = .ok (.iaload, 1) := by decide +kernel
theorem dX9_differs_104 : decode cX9_differs 104 = .ok (.if_icmp .ge 92, 3) := by decide +kernel
theorem dX9_differs_107 : decode cX9_differs 107 = .ok (.iconst 0, 1) := by decide +kernel
theorem dX9_differs_108 : decode cX9_differs 108 = .ok (.istore 8, 2) := by decide +kernel
theorem dX9_differs_110 : decode cX9_differs 110 = .ok (.iload 8, 2) := by decide +kernel
theorem dX9_differs_112 : decode cX9_differs 112 = .ok (.aload_n 0, 1) := by decide +kernel
theorem dX9_differs_113 : decode cX9_differs 113 = .ok (.getfield 24, 3) := by decide +kernel
theorem dX9_differs_116 : decode cX9_differs 116 = .ok (.bipush 7, 2) := by decide +kernel
theorem dX9_differs_118 : decode cX9_differs 118 = .ok (.iaload, 1) := by decide +kernel
theorem dX9_differs_119 : decode cX9_differs 119 = .ok (.if_icmp .ge 71, 3) := by decide +kernel
theorem dX9_differs_122 : decode cX9_differs 122 = .ok (.iload 6, 2) := by decide +kernel
theorem dX9_differs_124 : decode cX9_differs 124 = .ok (.aload_n 0, 1) := by decide +kernel
theorem dX9_differs_125 : decode cX9_differs 125 = .ok (.getfield 34, 3) := by decide +kernel
theorem dX9_differs_128 : decode cX9_differs 128 = .ok (.iload 7, 2) := by decide +kernel
theorem dX9_differs_130 : decode cX9_differs 130 = .ok (.iaload, 1) := by decide +kernel
theorem dX9_differs_131 : decode cX9_differs 131 = .ok (.iload 8, 2) := by decide +kernel
theorem dX9_differs_133 : decode cX9_differs 133 = .ok (.invokestatic 112, 3) := by decide +kernel
theorem dX9_differs_136 : decode cX9_differs 136 = .ok (.aload_n 0, 1) := by decide +kernel
theorem dX9_differs_137 : decode cX9_differs 137 = .ok (.getfield 24, 3) := by decide +kernel
theorem dX9_differs_140 : decode cX9_differs 140 = .ok (.iload 7, 2) := by decide +kernel
theorem dX9_differs_142 : decode cX9_differs 142 = .ok (.iload 4, 2) := by decide +kernel
theorem dX9_differs_144 : decode cX9_differs 144 = .ok (.iadd, 1) := by decide +kernel
theorem dX9_differs_145 : decode cX9_differs 145 = .ok (.aload_n 0, 1) := by decide +kernel
theorem dX9_differs_146 : decode cX9_differs 146 = .ok (.getfield 24, 3) := by decide +kernel
theorem dX9_differs_149 : decode cX9_differs 149 = .ok (.bipush 6, 2) := by decide +kernel
theorem dX9_differs_151 : decode cX9_differs 151 = .ok (.iaload, 1) := by decide +kernel
theorem dX9_differs_152 : decode cX9_differs 152 = .ok (.irem, 1) := by decide +kernel
theorem dX9_differs_153 : decode cX9_differs 153 = .ok (.iaload, 1) := by decide +kernel
theorem dX9_differs_154 : decode cX9_differs 154 = .ok (.iload 8, 2) := by decide +kernel
theorem dX9_differs_156 : decode cX9_differs 156 = .ok (.iload 5, 2) := by decide +kernel
theorem dX9_differs_158 : decode cX9_differs 158 = .ok (.iadd, 1) := by decide +kernel
theorem dX9_differs_159 : decode cX9_differs 159 = .ok (.aload_n 0, 1) := by decide +kernel
theorem dX9_differs_160 : decode cX9_differs 160 = .ok (.getfield 24, 3) := by decide +kernel
theorem dX9_differs_163 : decode cX9_differs 163 = .ok (.bipush 7, 2) := by decide +kernel
theorem dX9_differs_165 : decode cX9_differs 165 = .ok (.iaload, 1) := by decide +kernel
theorem dX9_differs_166 : decode cX9_differs 166 = .ok (.irem, 1) := by decide +kernel
theorem dX9_differs_167 : decode cX9_differs 167 = .ok (.invokestatic 112, 3) := by decide +kernel
theorem dX9_differs_170 : decode cX9_differs 170 = .ok (.if_icmp .eq 7, 3) := by decide +kernel
theorem dX9_differs_173 : decode cX9_differs 173 = .ok (.iconst 1, 1) := by decide +kernel
theorem dX9_differs_174 : decode cX9_differs 174 = .ok (.goto 4, 3) := by decide +kernel
theorem dX9_differs_177 : decode cX9_differs 177 = .ok (.iconst 0, 1) := by decide +kernel
theorem dX9_differs_178 : decode cX9_differs 178 = .ok (.invokestatic 116, 3) := by decide +kernel
theorem dX9_differs_181 : decode cX9_differs 181 = .ok (.iadd, 1) := by decide +kernel
theorem dX9_differs_182 : decode cX9_differs 182 = .ok (.istore 6, 2) := by decide +kernel
theorem dX9_differs_184 : decode cX9_differs 184 = .ok (.iinc 8 1, 3) := by decide +kernel
theorem dX9_differs_187 : decode cX9_differs 187 = .ok (.goto (-77), 3) := by decide +kernel
theorem dX9_differs_190 : decode cX9_differs 190 = .ok (.iinc 7 1, 3) := by decide +kernel
theorem dX9_differs_193 : decode cX9_differs 193 = .ok (.goto (-98), 3) := by decide +kernel
theorem dX9_differs_196 : decode cX9_differs 196 = .ok (.iload 4, 2) := by decide +kernel
theorem dX9_differs_198 : decode cX9_differs 198 = .ok (.iload 5, 2) := by decide +kernel
theorem dX9_differs_200 : decode cX9_differs 200 = .ok (.iadd, 1) := by decide +kernel
theorem dX9_differs_201 : decode cX9_differs 201 = .ok (.ifCond .ne 8, 3) := by decide +kernel
theorem dX9_differs_204 : decode cX9_differs 204 = .ok (.iload 6, 2) := by decide +kernel
theorem dX9_differs_206 : decode cX9_differs 206 = .ok (.goto 4, 3) := by decide +kernel
theorem dX9_differs_209 : decode cX9_differs 209 = .ok (.iload_n 2, 1) := by decide +kernel
theorem dX9_differs_210 : decode cX9_differs 210 = .ok (.istore_n 2, 1) := by decide +kernel
theorem dX9_differs_211 : decode cX9_differs 211 = .ok (.iload 6, 2) := by decide +kernel
theorem dX9_differs_213 : decode cX9_differs 213 = .ok (.iload_n 3, 1) := by decide +kernel
theorem dX9_differs_214 : decode cX9_differs 214 = .ok (.if_icmp .ge 32, 3) := by decide +kernel
theorem dX9_differs_217 : decode cX9_differs 217 = .ok (.iload 6, 2) := by decide +kernel
theorem dX9_differs_219 : decode cX9_differs 219 = .ok (.istore_n 3, 1) := by decide +kernel
theorem dX9_differs_220 : decode cX9_differs 220 = .ok (.aload_n 0, 1) := by decide +kernel
theorem dX9_differs_221 : decode cX9_differs 221 = .ok (.iconst 0, 1) := by decide +kernel
theorem dX9_differs_222 : decode cX9_differs 222 = .ok (.putfield 15, 3) := by decide +kernel
theorem dX9_differs_225 : decode cX9_differs 225 = .ok (.aload_n 0, 1) := by decide +kernel
theorem dX9_differs_226 : decode cX9_differs 226 = .ok (.iload 6, 2) := by decide +kernel
theorem dX9_differs_228 : decode cX9_differs 228 = .ok (.i2l, 1) := by decide +kernel
theorem dX9_differs_229 : decode cX9_differs 229 = .ok (.invokevirtual 311, 3) := by decide +kernel
theorem dX9_differs_232 : decode cX9_differs 232 = .ok (.aload_n 0, 1) := by decide +kernel
theorem dX9_differs_233 : decode cX9_differs 233 = .ok (.iload 4, 2) := by decide +kernel
theorem dX9_differs_235 : decode cX9_differs 235 = .ok (.i2l, 1) := by decide +kernel
theorem dX9_differs_236 : decode cX9_differs 236 = .ok (.invokevirtual 311, 3) := by decide +kernel
theorem dX9_differs_239 : decode cX9_differs 239 = .ok (.aload_n 0, 1) := by decide +kernel
theorem dX9_differs_240 : decode cX9_differs 240 = .ok (.iload 5, 2) := by decide +kernel
theorem dX9_differs_242 : decode cX9_differs 242 = .ok (.i2l, 1) := by decide +kernel
theorem dX9_differs_243 : decode cX9_differs 243 = .ok (.invokevirtual 311, 3) := by decide +kernel
theorem dX9_differs_246 : decode cX9_differs 246 = .ok (.iinc 5 1, 3) := by decide +kernel
theorem dX9_differs_249 : decode cX9_differs 249 = .ok (.goto (-172), 3) := by decide +kernel
theorem dX9_differs_252 : decode cX9_differs 252 = .ok (.iinc 4 1, 3) := by decide +kernel
theorem dX9_differs_255 : decode cX9_differs 255 = .ok (.goto (-193), 3) := by decide +kernel
theorem dX9_differs_258 : decode cX9_differs 258 = .ok (.iload_n 2, 1) := by decide +kernel
theorem dX9_differs_259 : decode cX9_differs 259 = .ok (.ireturn, 1) := by decide +kernel
theorem dX9_turned_0 : decode cX9_turned 0 = .ok (.iconst 0, 1) := by decide +kernel
theorem dX9_turned_1 : decode cX9_turned 1 = .ok (.istore_n 2, 1) := by decide +kernel
theorem dX9_turned_2 : decode cX9_turned 2 = .ok (.iconst 0, 1) := by decide +kernel
theorem dX9_turned_3 : decode cX9_turned 3 = .ok (.istore_n 3, 1) := by decide +kernel
theorem dX9_turned_4 : decode cX9_turned 4 = .ok (.iload_n 3, 1) := by decide +kernel
theorem dX9_turned_5 : decode cX9_turned 5 = .ok (.aload_n 0, 1) := by decide +kernel
theorem dX9_turned_6 : decode cX9_turned 6 = .ok (.getfield 24, 3) := by decide +kernel
theorem dX9_turned_9 : decode cX9_turned 9 = .ok (.bipush 6, 2) := by decide +kernel
theorem dX9_turned_11 : decode cX9_turned 11 = .ok (.iaload, 1) := by decide +kernel
theorem dX9_turned_12 : decode cX9_turned 12 = .ok (.if_icmp .ge 141, 3) := by decide +kernel
theorem dX9_turned_15 : decode cX9_turned 15 = .ok (.iconst 0, 1) := by decide +kernel
theorem dX9_turned_16 : decode cX9_turned 16 = .ok (.istore 4, 2) := by decide +kernel
theorem dX9_turned_18 : decode cX9_turned 18 = .ok (.iload 4, 2) := by decide +kernel
theorem dX9_turned_20 : decode cX9_turned 20 = .ok (.aload_n 0, 1) := by decide +kernel
theorem dX9_turned_21 : decode cX9_turned 21 = .ok (.getfield 24, 3) := by decide +kernel
theorem dX9_turned_24 : decode cX9_turned 24 = .ok (.bipush 7, 2) := by decide +kernel
theorem dX9_turned_26 : decode cX9_turned 26 = .ok (.iaload, 1) := by decide +kernel
theorem dX9_turned_27 : decode cX9_turned 27 = .ok (.if_icmp .ge 120, 3) := by decide +kernel
theorem dX9_turned_30 : decode cX9_turned 30 = .ok (.iload_n 1, 1) := by decide +kernel
theorem dX9_turned_31 : decode cX9_turned 31 = .ok (.iconst 0, 1) := by decide +kernel
theorem dX9_turned_32 : decode cX9_turned 32 = .ok (.invokestatic 112, 3) := by decide +kernel
theorem dX9_turned_35 : decode cX9_turned 35 = .ok (.ifCond .eq 17, 3) := by decide +kernel
theorem dX9_turned_38 : decode cX9_turned 38 = .ok (.aload_n 0, 1) := by decide +kernel
theorem dX9_turned_39 : decode cX9_turned 39 = .ok (.getfield 24, 3) := by decide +kernel
theorem dX9_turned_42 : decode cX9_turned 42 = .ok (.bipush 6, 2) := by decide +kernel
theorem dX9_turned_44 : decode cX9_turned 44 = .ok (.iaload, 1) := by decide +kernel
theorem dX9_turned_45 : decode cX9_turned 45 = .ok (.iconst 1, 1) := by decide +kernel
theorem dX9_turned_46 : decode cX9_turned 46 = .ok (.isub, 1) := by decide +kernel
theorem dX9_turned_47 : decode cX9_turned 47 = .ok (.iload_n 3, 1) := by decide +kernel
theorem dX9_turned_48 : decode cX9_turned 48 = .ok (.isub, 1) := by decide +kernel
theorem dX9_turned_49 : decode cX9_turned 49 = .ok (.goto 4, 3) := by decide +kernel
theorem dX9_turned_52 : decode cX9_turned 52 = .ok (.iload_n 3, 1) := by decide +kernel
theorem dX9_turned_53 : decode cX9_turned 53 = .ok (.istore 5, 2) := by decide +kernel
theorem dX9_turned_55 : decode cX9_turned 55 = .ok (.iload_n 1, 1) := by decide +kernel
theorem dX9_turned_56 : decode cX9_turned 56 = .ok (.iconst 1, 1) := by decide +kernel
theorem dX9_turned_57 : decode cX9_turned 57 = .ok (.invokestatic 112, 3) := by decide +kernel
theorem dX9_turned_60 : decode cX9_turned 60 = .ok (.ifCond .eq 18, 3) := by decide +kernel
theorem dX9_turned_63 : decode cX9_turned 63 = .ok (.aload_n 0, 1) := by decide +kernel
theorem dX9_turned_64 : decode cX9_turned 64 = .ok (.getfield 24, 3) := by decide +kernel
theorem dX9_turned_67 : decode cX9_turned 67 = .ok (.bipush 7, 2) := by decide +kernel
theorem dX9_turned_69 : decode cX9_turned 69 = .ok (.iaload, 1) := by decide +kernel
theorem dX9_turned_70 : decode cX9_turned 70 = .ok (.iconst 1, 1) := by decide +kernel
theorem dX9_turned_71 : decode cX9_turned 71 = .ok (.isub, 1) := by decide +kernel
theorem dX9_turned_72 : decode cX9_turned 72 = .ok (.iload 4, 2) := by decide +kernel
theorem dX9_turned_74 : decode cX9_turned 74 = .ok (.isub, 1) := by decide +kernel
theorem dX9_turned_75 : decode cX9_turned 75 = .ok (.goto 5, 3) := by decide +kernel
theorem dX9_turned_78 : decode cX9_turned 78 = .ok (.iload 4, 2) := by decide +kernel
theorem dX9_turned_80 : decode cX9_turned 80 = .ok (.istore 6, 2) := by decide +kernel
theorem dX9_turned_82 : decode cX9_turned 82 = .ok (.iload_n 2, 1) := by decide +kernel
theorem dX9_turned_83 : decode cX9_turned 83 = .ok (.aload_n 0, 1) := by decide +kernel
theorem dX9_turned_84 : decode cX9_turned 84 = .ok (.getfield 24, 3) := by decide +kernel
theorem dX9_turned_87 : decode cX9_turned 87 = .ok (.iload_n 3, 1) := by decide +kernel
theorem dX9_turned_88 : decode cX9_turned 88 = .ok (.iaload, 1) := by decide +kernel
theorem dX9_turned_89 : decode cX9_turned 89 = .ok (.iload 4, 2) := by decide +kernel
theorem dX9_turned_91 : decode cX9_turned 91 = .ok (.invokestatic 112, 3) := by decide +kernel
theorem dX9_turned_94 : decode cX9_turned 94 = .ok (.iload_n 1, 1) := by decide +kernel
theorem dX9_turned_95 : decode cX9_turned 95 = .ok (.iconst 2, 1) := by decide +kernel
theorem dX9_turned_96 : decode cX9_turned 96 = .ok (.invokestatic 112, 3) := by decide +kernel
theorem dX9_turned_99 : decode cX9_turned 99 = .ok (.ifCond .eq 17, 3) := by decide +kernel
theorem dX9_turned_102 : decode cX9_turned 102 = .ok (.aload_n 0, 1) := by decide +kernel
theorem dX9_turned_103 : decode cX9_turned 103 = .ok (.getfield 24, 3) := by decide +kernel
theorem dX9_turned_106 : decode cX9_turned 106 = .ok (.iload 4, 2) := by decide +kernel
theorem dX9_turned_108 : decode cX9_turned 108 = .ok (.iaload, 1) := by decide +kernel
theorem dX9_turned_109 : decode cX9_turned 109 = .ok (.iload_n 3, 1) := by decide +kernel
theorem dX9_turned_110 : decode cX9_turned 110 = .ok (.invokestatic 112, 3) := by decide +kernel
theorem dX9_turned_113 : decode cX9_turned 113 = .ok (.goto 15, 3) := by decide +kernel
theorem dX9_turned_116 : decode cX9_turned 116 = .ok (.aload_n 0, 1) := by decide +kernel
theorem dX9_turned_117 : decode cX9_turned 117 = .ok (.getfield 24, 3) := by decide +kernel
theorem dX9_turned_120 : decode cX9_turned 120 = .ok (.iload 5, 2) := by decide +kernel
theorem dX9_turned_122 : decode cX9_turned 122 = .ok (.iaload, 1) := by decide +kernel
theorem dX9_turned_123 : decode cX9_turned 123 = .ok (.iload 6, 2) := by decide +kernel
theorem dX9_turned_125 : decode cX9_turned 125 = .ok (.invokestatic 112, 3) := by decide +kernel
theorem dX9_turned_128 : decode cX9_turned 128 = .ok (.if_icmp .eq 7, 3) := by decide +kernel
theorem dX9_turned_131 : decode cX9_turned 131 = .ok (.iconst 1, 1) := by decide +kernel
theorem dX9_turned_132 : decode cX9_turned 132 = .ok (.goto 4, 3) := by decide +kernel
theorem dX9_turned_135 : decode cX9_turned 135 = .ok (.iconst 0, 1) := by decide +kernel
theorem dX9_turned_136 : decode cX9_turned 136 = .ok (.invokestatic 116, 3) := by decide +kernel
theorem dX9_turned_139 : decode cX9_turned 139 = .ok (.iadd, 1) := by decide +kernel
theorem dX9_turned_140 : decode cX9_turned 140 = .ok (.istore_n 2, 1) := by decide +kernel
theorem dX9_turned_141 : decode cX9_turned 141 = .ok (.iinc 4 1, 3) := by decide +kernel
theorem dX9_turned_144 : decode cX9_turned 144 = .ok (.goto (-126), 3) := by decide +kernel
theorem dX9_turned_147 : decode cX9_turned 147 = .ok (.iinc 3 1, 3) := by decide +kernel
theorem dX9_turned_150 : decode cX9_turned 150 = .ok (.goto (-146), 3) := by decide +kernel
theorem dX9_turned_153 : decode cX9_turned 153 = .ok (.iload_n 2, 1) := by decide +kernel
theorem dX9_turned_154 : decode cX9_turned 154 = .ok (.ireturn, 1) := by decide +kernel
theorem dX9_looks_0 : decode cX9_looks 0 = .ok (.aload_n 0, 1) := by decide +kernel
theorem dX9_looks_1 : decode cX9_looks 1 = .ok (.iconst 0, 1) := by decide +kernel
theorem dX9_looks_2 : decode cX9_looks 2 = .ok (.putfield 3, 3) := by decide +kernel
theorem dX9_looks_5 : decode cX9_looks 5 = .ok (.iconst 0, 1) := by decide +kernel
theorem dX9_looks_6 : decode cX9_looks 6 = .ok (.istore_n 1, 1) := by decide +kernel
theorem dX9_looks_7 : decode cX9_looks 7 = .ok (.aload_n 0, 1) := by decide +kernel
theorem dX9_looks_8 : decode cX9_looks 8 = .ok (.iconst 0, 1) := by decide +kernel
theorem dX9_looks_9 : decode cX9_looks 9 = .ok (.putfield 15, 3) := by decide +kernel
theorem dX9_looks_12 : decode cX9_looks 12 = .ok (.iconst 1, 1) := by decide +kernel
theorem dX9_looks_13 : decode cX9_looks 13 = .ok (.istore_n 2, 1) := by decide +kernel
theorem dX9_looks_14 : decode cX9_looks 14 = .ok (.iload_n 2, 1) := by decide +kernel
theorem dX9_looks_15 : decode cX9_looks 15 = .ok (.iconst 5, 1) := by decide +kernel
theorem dX9_looks_16 : decode cX9_looks 16 = .ok (.if_icmp .ge 63, 3) := by decide +kernel
theorem dX9_looks_19 : decode cX9_looks 19 = .ok (.iload_n 2, 1) := by decide +kernel
theorem dX9_looks_20 : decode cX9_looks 20 = .ok (.iconst 4, 1) := by decide +kernel
theorem dX9_looks_21 : decode cX9_looks 21 = .ok (.if_icmp .lt 20, 3) := by decide +kernel
theorem dX9_looks_24 : decode cX9_looks 24 = .ok (.aload_n 0, 1) := by decide +kernel
theorem dX9_looks_25 : decode cX9_looks 25 = .ok (.getfield 24, 3) := by decide +kernel
theorem dX9_looks_28 : decode cX9_looks 28 = .ok (.bipush 6, 2) := by decide +kernel
theorem dX9_looks_30 : decode cX9_looks 30 = .ok (.iaload, 1) := by decide +kernel
theorem dX9_looks_31 : decode cX9_looks 31 = .ok (.aload_n 0, 1) := by decide +kernel
theorem dX9_looks_32 : decode cX9_looks 32 = .ok (.getfield 24, 3) := by decide +kernel
theorem dX9_looks_35 : decode cX9_looks 35 = .ok (.bipush 7, 2) := by decide +kernel
theorem dX9_looks_37 : decode cX9_looks 37 = .ok (.iaload, 1) := by decide +kernel
theorem dX9_looks_38 : decode cX9_looks 38 = .ok (.if_icmp .ne 11, 3) := by decide +kernel
theorem dX9_looks_41 : decode cX9_looks 41 = .ok (.aload_n 0, 1) := by decide +kernel
theorem dX9_looks_42 : decode cX9_looks 42 = .ok (.iload_n 2, 1) := by decide +kernel
theorem dX9_looks_43 : decode cX9_looks 43 = .ok (.invokevirtual 398, 3) := by decide +kernel
theorem dX9_looks_46 : decode cX9_looks 46 = .ok (.goto 4, 3) := by decide +kernel
theorem dX9_looks_49 : decode cX9_looks 49 = .ok (.iconst (-1), 1) := by decide +kernel
theorem dX9_looks_50 : decode cX9_looks 50 = .ok (.istore_n 3, 1) := by decide +kernel
theorem dX9_looks_51 : decode cX9_looks 51 = .ok (.iload_n 1, 1) := by decide +kernel
theorem dX9_looks_52 : decode cX9_looks 52 = .ok (.iload_n 3, 1) := by decide +kernel
theorem dX9_looks_53 : decode cX9_looks 53 = .ok (.ifCond .ne 11, 3) := by decide +kernel
theorem dX9_looks_56 : decode cX9_looks 56 = .ok (.iconst 1, 1) := by decide +kernel
theorem dX9_looks_57 : decode cX9_looks 57 = .ok (.iload_n 2, 1) := by decide +kernel
theorem dX9_looks_58 : decode cX9_looks 58 = .ok (.iconst 1, 1) := by decide +kernel
theorem dX9_looks_59 : decode cX9_looks 59 = .ok (.isub, 1) := by decide +kernel
theorem dX9_looks_60 : decode cX9_looks 60 = .ok (.ishl, 1) := by decide +kernel
theorem dX9_looks_61 : decode cX9_looks 61 = .ok (.goto 4, 3) := by decide +kernel
theorem dX9_looks_64 : decode cX9_looks 64 = .ok (.iconst 0, 1) := by decide +kernel
theorem dX9_looks_65 : decode cX9_looks 65 = .ok (.ior, 1) := by decide +kernel
theorem dX9_looks_66 : decode cX9_looks 66 = .ok (.istore_n 1, 1) := by decide +kernel
theorem dX9_looks_67 : decode cX9_looks 67 = .ok (.aload_n 0, 1) := by decide +kernel
theorem dX9_looks_68 : decode cX9_looks 68 = .ok (.iload_n 3, 1) := by decide +kernel
theorem dX9_looks_69 : decode cX9_looks 69 = .ok (.i2l, 1) := by decide +kernel
theorem dX9_looks_70 : decode cX9_looks 70 = .ok (.invokevirtual 311, 3) := by decide +kernel
theorem dX9_looks_73 : decode cX9_looks 73 = .ok (.iinc 2 1, 3) := by decide +kernel
theorem dX9_looks_76 : decode cX9_looks 76 = .ok (.goto (-62), 3) := by decide +kernel
theorem dX9_looks_79 : decode cX9_looks 79 = .ok (.iload_n 1, 1) := by decide +kernel
theorem dX9_looks_80 : decode cX9_looks 80 = .ok (.ireturn, 1) := by decide +kernel
theorem dX9_repeatsOf_0 : decode cX9_repeatsOf 0 = .ok (.iconst 1, 1) := by decide +kernel
theorem dX9_repeatsOf_1 : decode cX9_repeatsOf 1 = .ok (.istore_n 2, 1) := by decide +kernel
theorem dX9_repeatsOf_2 : decode cX9_repeatsOf 2 = .ok (.iconst 0, 1) := by decide +kernel
theorem dX9_repeatsOf_3 : decode cX9_repeatsOf 3 = .ok (.istore_n 3, 1) := by decide +kernel
theorem dX9_repeatsOf_4 : decode cX9_repeatsOf 4 = .ok (.iload_n 3, 1) := by decide +kernel
theorem dX9_repeatsOf_5 : decode cX9_repeatsOf 5 = .ok (.ifCond .ne 71, 3) := by decide +kernel
theorem dX9_repeatsOf_8 : decode cX9_repeatsOf 8 = .ok (.iconst 1, 1) := by decide +kernel
theorem dX9_repeatsOf_9 : decode cX9_repeatsOf 9 = .ok (.istore_n 3, 1) := by decide +kernel
theorem dX9_repeatsOf_10 : decode cX9_repeatsOf 10 = .ok (.iload_n 2, 1) := by decide +kernel
theorem dX9_repeatsOf_11 : decode cX9_repeatsOf 11 = .ok (.istore 4, 2) := by decide +kernel
theorem dX9_repeatsOf_13 : decode cX9_repeatsOf 13 = .ok (.iload 4, 2) := by decide +kernel
theorem dX9_repeatsOf_15 : decode cX9_repeatsOf 15 = .ok (.aload_n 0, 1) := by decide +kernel
theorem dX9_repeatsOf_16 : decode cX9_repeatsOf 16 = .ok (.iload_n 1, 1) := by decide +kernel
theorem dX9_repeatsOf_17 : decode cX9_repeatsOf 17 = .ok (.invokestatic 108, 3) := by decide +kernel
theorem dX9_repeatsOf_20 : decode cX9_repeatsOf 20 = .ok (.if_icmp .ge 38, 3) := by decide +kernel
theorem dX9_repeatsOf_23 : decode cX9_repeatsOf 23 = .ok (.iload_n 3, 1) := by decide +kernel
theorem dX9_repeatsOf_24 : decode cX9_repeatsOf 24 = .ok (.ifCond .eq 26, 3) := by decide +kernel
theorem dX9_repeatsOf_27 : decode cX9_repeatsOf 27 = .ok (.aload_n 0, 1) := by decide +kernel
theorem dX9_repeatsOf_28 : decode cX9_repeatsOf 28 = .ok (.iload_n 1, 1) := by decide +kernel
theorem dX9_repeatsOf_29 : decode cX9_repeatsOf 29 = .ok (.iload 4, 2) := by decide +kernel
theorem dX9_repeatsOf_31 : decode cX9_repeatsOf 31 = .ok (.invokestatic 120, 3) := by decide +kernel
theorem dX9_repeatsOf_34 : decode cX9_repeatsOf 34 = .ok (.aload_n 0, 1) := by decide +kernel
theorem dX9_repeatsOf_35 : decode cX9_repeatsOf 35 = .ok (.iload_n 1, 1) := by decide +kernel
theorem dX9_repeatsOf_36 : decode cX9_repeatsOf 36 = .ok (.iload 4, 2) := by decide +kernel
theorem dX9_repeatsOf_38 : decode cX9_repeatsOf 38 = .ok (.iload_n 2, 1) := by decide +kernel
theorem dX9_repeatsOf_39 : decode cX9_repeatsOf 39 = .ok (.isub, 1) := by decide +kernel
theorem dX9_repeatsOf_40 : decode cX9_repeatsOf 40 = .ok (.invokestatic 120, 3) := by decide +kernel
theorem dX9_repeatsOf_43 : decode cX9_repeatsOf 43 = .ok (.if_icmp .ne 7, 3) := by decide +kernel
theorem dX9_repeatsOf_46 : decode cX9_repeatsOf 46 = .ok (.iconst 1, 1) := by decide +kernel
theorem dX9_repeatsOf_47 : decode cX9_repeatsOf 47 = .ok (.goto 4, 3) := by decide +kernel
theorem dX9_repeatsOf_50 : decode cX9_repeatsOf 50 = .ok (.iconst 0, 1) := by decide +kernel
theorem dX9_repeatsOf_51 : decode cX9_repeatsOf 51 = .ok (.istore_n 3, 1) := by decide +kernel
theorem dX9_repeatsOf_52 : decode cX9_repeatsOf 52 = .ok (.iinc 4 1, 3) := by decide +kernel
theorem dX9_repeatsOf_55 : decode cX9_repeatsOf 55 = .ok (.goto (-42), 3) := by decide +kernel
theorem dX9_repeatsOf_58 : decode cX9_repeatsOf 58 = .ok (.iload_n 2, 1) := by decide +kernel
theorem dX9_repeatsOf_59 : decode cX9_repeatsOf 59 = .ok (.iload_n 3, 1) := by decide +kernel
theorem dX9_repeatsOf_60 : decode cX9_repeatsOf 60 = .ok (.ifCond .ne 7, 3) := by decide +kernel
theorem dX9_repeatsOf_63 : decode cX9_repeatsOf 63 = .ok (.iconst 1, 1) := by decide +kernel
theorem dX9_repeatsOf_64 : decode cX9_repeatsOf 64 = .ok (.goto 4, 3) := by decide +kernel
theorem dX9_repeatsOf_67 : decode cX9_repeatsOf 67 = .ok (.iconst 0, 1) := by decide +kernel
theorem dX9_repeatsOf_68 : decode cX9_repeatsOf 68 = .ok (.invokestatic 116, 3) := by decide +kernel
theorem dX9_repeatsOf_71 : decode cX9_repeatsOf 71 = .ok (.iadd, 1) := by decide +kernel
theorem dX9_repeatsOf_72 : decode cX9_repeatsOf 72 = .ok (.istore_n 2, 1) := by decide +kernel
theorem dX9_repeatsOf_73 : decode cX9_repeatsOf 73 = .ok (.goto (-69), 3) := by decide +kernel
theorem dX9_repeatsOf_76 : decode cX9_repeatsOf 76 = .ok (.iload_n 2, 1) := by decide +kernel
theorem dX9_repeatsOf_77 : decode cX9_repeatsOf 77 = .ok (.ireturn, 1) := by decide +kernel
theorem dX9_repeats_0 : decode cX9_repeats 0 = .ok (.aload_n 0, 1) := by decide +kernel
theorem dX9_repeats_1 : decode cX9_repeats 1 = .ok (.iconst 0, 1) := by decide +kernel
theorem dX9_repeats_2 : decode cX9_repeats 2 = .ok (.putfield 3, 3) := by decide +kernel
theorem dX9_repeats_5 : decode cX9_repeats 5 = .ok (.aload_n 0, 1) := by decide +kernel
theorem dX9_repeats_6 : decode cX9_repeats 6 = .ok (.iconst 0, 1) := by decide +kernel
theorem dX9_repeats_7 : decode cX9_repeats 7 = .ok (.putfield 15, 3) := by decide +kernel
theorem dX9_repeats_10 : decode cX9_repeats 10 = .ok (.aload_n 0, 1) := by decide +kernel
theorem dX9_repeats_11 : decode cX9_repeats 11 = .ok (.aload_n 0, 1) := by decide +kernel
theorem dX9_repeats_12 : decode cX9_repeats 12 = .ok (.getfield 24, 3) := by decide +kernel
theorem dX9_repeats_15 : decode cX9_repeats 15 = .ok (.iconst 1, 1) := by decide +kernel
theorem dX9_repeats_16 : decode cX9_repeats 16 = .ok (.invokestatic 401, 3) := by decide +kernel
theorem dX9_repeats_19 : decode cX9_repeats 19 = .ok (.i2l, 1) := by decide +kernel
theorem dX9_repeats_20 : decode cX9_repeats 20 = .ok (.invokevirtual 311, 3) := by decide +kernel
theorem dX9_repeats_23 : decode cX9_repeats 23 = .ok (.aload_n 0, 1) := by decide +kernel
theorem dX9_repeats_24 : decode cX9_repeats 24 = .ok (.getfield 24, 3) := by decide +kernel
theorem dX9_repeats_27 : decode cX9_repeats 27 = .ok (.iconst 0, 1) := by decide +kernel
theorem dX9_repeats_28 : decode cX9_repeats 28 = .ok (.invokestatic 401, 3) := by decide +kernel
theorem dX9_repeats_31 : decode cX9_repeats 31 = .ok (.ireturn, 1) := by decide +kernel
theorem dX9_runsOf_0 : decode cX9_runsOf 0 = .ok (.iconst 0, 1) := by decide +kernel
theorem dX9_runsOf_1 : decode cX9_runsOf 1 = .ok (.istore_n 2, 1) := by decide +kernel
theorem dX9_runsOf_2 : decode cX9_runsOf 2 = .ok (.aload_n 0, 1) := by decide +kernel
theorem dX9_runsOf_3 : decode cX9_runsOf 3 = .ok (.iconst 0, 1) := by decide +kernel
theorem dX9_runsOf_4 : decode cX9_runsOf 4 = .ok (.putfield 404, 3) := by decide +kernel
theorem dX9_runsOf_7 : decode cX9_runsOf 7 = .ok (.iconst 0, 1) := by decide +kernel
theorem dX9_runsOf_8 : decode cX9_runsOf 8 = .ok (.istore_n 3, 1) := by decide +kernel
theorem dX9_runsOf_9 : decode cX9_runsOf 9 = .ok (.iload_n 3, 1) := by decide +kernel
theorem dX9_runsOf_10 : decode cX9_runsOf 10 = .ok (.aload_n 0, 1) := by decide +kernel
theorem dX9_runsOf_11 : decode cX9_runsOf 11 = .ok (.getfield 24, 3) := by decide +kernel
theorem dX9_runsOf_14 : decode cX9_runsOf 14 = .ok (.iload_n 1, 1) := by decide +kernel
theorem dX9_runsOf_15 : decode cX9_runsOf 15 = .ok (.invokestatic 108, 3) := by decide +kernel
theorem dX9_runsOf_18 : decode cX9_runsOf 18 = .ok (.if_icmp .ge 120, 3) := by decide +kernel
theorem dX9_runsOf_21 : decode cX9_runsOf 21 = .ok (.aload_n 0, 1) := by decide +kernel
theorem dX9_runsOf_22 : decode cX9_runsOf 22 = .ok (.getfield 24, 3) := by decide +kernel
theorem dX9_runsOf_25 : decode cX9_runsOf 25 = .ok (.iload_n 1, 1) := by decide +kernel
theorem dX9_runsOf_26 : decode cX9_runsOf 26 = .ok (.iload_n 3, 1) := by decide +kernel
theorem dX9_runsOf_27 : decode cX9_runsOf 27 = .ok (.invokestatic 120, 3) := by decide +kernel
theorem dX9_runsOf_30 : decode cX9_runsOf 30 = .ok (.istore 4, 2) := by decide +kernel
theorem dX9_runsOf_32 : decode cX9_runsOf 32 = .ok (.iconst 0, 1) := by decide +kernel
theorem dX9_runsOf_33 : decode cX9_runsOf 33 = .ok (.istore 5, 2) := by decide +kernel
theorem dX9_runsOf_35 : decode cX9_runsOf 35 = .ok (.iconst 0, 1) := by decide +kernel
theorem dX9_runsOf_36 : decode cX9_runsOf 36 = .ok (.istore 6, 2) := by decide +kernel
theorem dX9_runsOf_38 : decode cX9_runsOf 38 = .ok (.iload 6, 2) := by decide +kernel
theorem dX9_runsOf_40 : decode cX9_runsOf 40 = .ok (.aload_n 0, 1) := by decide +kernel
theorem dX9_runsOf_41 : decode cX9_runsOf 41 = .ok (.getfield 24, 3) := by decide +kernel
theorem dX9_runsOf_44 : decode cX9_runsOf 44 = .ok (.iload_n 1, 1) := by decide +kernel
theorem dX9_runsOf_45 : decode cX9_runsOf 45 = .ok (.invokestatic 124, 3) := by decide +kernel
theorem dX9_runsOf_48 : decode cX9_runsOf 48 = .ok (.if_icmp .ge 84, 3) := by decide +kernel
theorem dX9_runsOf_51 : decode cX9_runsOf 51 = .ok (.iload 6, 2) := by decide +kernel
theorem dX9_runsOf_53 : decode cX9_runsOf 53 = .ok (.ifCond .le 26, 3) := by decide +kernel
theorem dX9_runsOf_56 : decode cX9_runsOf 56 = .ok (.iload 4, 2) := by decide +kernel
theorem dX9_runsOf_58 : decode cX9_runsOf 58 = .ok (.iload 6, 2) := by decide +kernel
theorem dX9_runsOf_60 : decode cX9_runsOf 60 = .ok (.invokestatic 112, 3) := by decide +kernel
theorem dX9_runsOf_63 : decode cX9_runsOf 63 = .ok (.iload 4, 2) := by decide +kernel
theorem dX9_runsOf_65 : decode cX9_runsOf 65 = .ok (.iload 6, 2) := by decide +kernel
theorem dX9_runsOf_67 : decode cX9_runsOf 67 = .ok (.iconst 1, 1) := by decide +kernel
theorem dX9_runsOf_68 : decode cX9_runsOf 68 = .ok (.isub, 1) := by decide +kernel
theorem dX9_runsOf_69 : decode cX9_runsOf 69 = .ok (.invokestatic 112, 3) := by decide +kernel
theorem dX9_runsOf_72 : decode cX9_runsOf 72 = .ok (.if_icmp .ne 7, 3) := by decide +kernel
theorem dX9_runsOf_75 : decode cX9_runsOf 75 = .ok (.iconst 1, 1) := by decide +kernel
theorem dX9_runsOf_76 : decode cX9_runsOf 76 = .ok (.goto 4, 3) := by decide +kernel
theorem dX9_runsOf_79 : decode cX9_runsOf 79 = .ok (.iconst 0, 1) := by decide +kernel
theorem dX9_runsOf_80 : decode cX9_runsOf 80 = .ok (.istore 7, 2) := by decide +kernel
theorem dX9_runsOf_82 : decode cX9_runsOf 82 = .ok (.iload 7, 2) := by decide +kernel
theorem dX9_runsOf_84 : decode cX9_runsOf 84 = .ok (.ifCond .eq 10, 3) := by decide +kernel
theorem dX9_runsOf_87 : decode cX9_runsOf 87 = .ok (.iload 5, 2) := by decide +kernel
theorem dX9_runsOf_89 : decode cX9_runsOf 89 = .ok (.iconst 1, 1) := by decide +kernel
theorem dX9_runsOf_90 : decode cX9_runsOf 90 = .ok (.iadd, 1) := by decide +kernel
theorem dX9_runsOf_91 : decode cX9_runsOf 91 = .ok (.goto 4, 3) := by decide +kernel
theorem dX9_runsOf_94 : decode cX9_runsOf 94 = .ok (.iconst 1, 1) := by decide +kernel
theorem dX9_runsOf_95 : decode cX9_runsOf 95 = .ok (.istore 5, 2) := by decide +kernel
theorem dX9_runsOf_97 : decode cX9_runsOf 97 = .ok (.iload_n 2, 1) := by decide +kernel
theorem dX9_runsOf_98 : decode cX9_runsOf 98 = .ok (.iload 7, 2) := by decide +kernel
theorem dX9_runsOf_100 : decode cX9_runsOf 100 = .ok (.ifCond .ne 7, 3) := by decide +kernel
theorem dX9_runsOf_103 : decode cX9_runsOf 103 = .ok (.iconst 1, 1) := by decide +kernel
theorem dX9_runsOf_104 : decode cX9_runsOf 104 = .ok (.goto 4, 3) := by decide +kernel
theorem dX9_runsOf_107 : decode cX9_runsOf 107 = .ok (.iconst 0, 1) := by decide +kernel
theorem dX9_runsOf_108 : decode cX9_runsOf 108 = .ok (.invokestatic 116, 3) := by decide +kernel
theorem dX9_runsOf_111 : decode cX9_runsOf 111 = .ok (.iadd, 1) := by decide +kernel
theorem dX9_runsOf_112 : decode cX9_runsOf 112 = .ok (.istore_n 2, 1) := by decide +kernel
theorem dX9_runsOf_113 : decode cX9_runsOf 113 = .ok (.aload_n 0, 1) := by decide +kernel
theorem dX9_runsOf_114 : decode cX9_runsOf 114 = .ok (.aload_n 0, 1) := by decide +kernel
theorem dX9_runsOf_115 : decode cX9_runsOf 115 = .ok (.getfield 404, 3) := by decide +kernel
theorem dX9_runsOf_118 : decode cX9_runsOf 118 = .ok (.iload 5, 2) := by decide +kernel
theorem dX9_runsOf_120 : decode cX9_runsOf 120 = .ok (.invokestatic 258, 3) := by decide +kernel
theorem dX9_runsOf_123 : decode cX9_runsOf 123 = .ok (.putfield 404, 3) := by decide +kernel
theorem dX9_runsOf_126 : decode cX9_runsOf 126 = .ok (.iinc 6 1, 3) := by decide +kernel
theorem dX9_runsOf_129 : decode cX9_runsOf 129 = .ok (.goto (-91), 3) := by decide +kernel
theorem dX9_runsOf_132 : decode cX9_runsOf 132 = .ok (.iinc 3 1, 3) := by decide +kernel
theorem dX9_runsOf_135 : decode cX9_runsOf 135 = .ok (.goto (-126), 3) := by decide +kernel
theorem dX9_runsOf_138 : decode cX9_runsOf 138 = .ok (.iload_n 2, 1) := by decide +kernel
theorem dX9_runsOf_139 : decode cX9_runsOf 139 = .ok (.ireturn, 1) := by decide +kernel
theorem dX9_runs_0 : decode cX9_runs 0 = .ok (.aload_n 0, 1) := by decide +kernel
theorem dX9_runs_1 : decode cX9_runs 1 = .ok (.iconst 0, 1) := by decide +kernel
theorem dX9_runs_2 : decode cX9_runs 2 = .ok (.putfield 3, 3) := by decide +kernel
theorem dX9_runs_5 : decode cX9_runs 5 = .ok (.aload_n 0, 1) := by decide +kernel
theorem dX9_runs_6 : decode cX9_runs 6 = .ok (.iconst 0, 1) := by decide +kernel
theorem dX9_runs_7 : decode cX9_runs 7 = .ok (.invokevirtual 407, 3) := by decide +kernel
theorem dX9_runs_10 : decode cX9_runs 10 = .ok (.istore_n 1, 1) := by decide +kernel
theorem dX9_runs_11 : decode cX9_runs 11 = .ok (.aload_n 0, 1) := by decide +kernel
theorem dX9_runs_12 : decode cX9_runs 12 = .ok (.iconst 0, 1) := by decide +kernel
theorem dX9_runs_13 : decode cX9_runs 13 = .ok (.putfield 15, 3) := by decide +kernel
theorem dX9_runs_16 : decode cX9_runs 16 = .ok (.aload_n 0, 1) := by decide +kernel
theorem dX9_runs_17 : decode cX9_runs 17 = .ok (.aload_n 0, 1) := by decide +kernel
theorem dX9_runs_18 : decode cX9_runs 18 = .ok (.getfield 404, 3) := by decide +kernel
theorem dX9_runs_21 : decode cX9_runs 21 = .ok (.i2l, 1) := by decide +kernel
theorem dX9_runs_22 : decode cX9_runs 22 = .ok (.invokevirtual 311, 3) := by decide +kernel
theorem dX9_runs_25 : decode cX9_runs 25 = .ok (.aload_n 0, 1) := by decide +kernel
theorem dX9_runs_26 : decode cX9_runs 26 = .ok (.aload_n 0, 1) := by decide +kernel
theorem dX9_runs_27 : decode cX9_runs 27 = .ok (.iconst 1, 1) := by decide +kernel
theorem dX9_runs_28 : decode cX9_runs 28 = .ok (.invokevirtual 407, 3) := by decide +kernel
theorem dX9_runs_31 : decode cX9_runs 31 = .ok (.i2l, 1) := by decide +kernel
theorem dX9_runs_32 : decode cX9_runs 32 = .ok (.invokevirtual 311, 3) := by decide +kernel
theorem dX9_runs_35 : decode cX9_runs 35 = .ok (.aload_n 0, 1) := by decide +kernel
theorem dX9_runs_36 : decode cX9_runs 36 = .ok (.aload_n 0, 1) := by decide +kernel
theorem dX9_runs_37 : decode cX9_runs 37 = .ok (.getfield 404, 3) := by decide +kernel
theorem dX9_runs_40 : decode cX9_runs 40 = .ok (.i2l, 1) := by decide +kernel
theorem dX9_runs_41 : decode cX9_runs 41 = .ok (.invokevirtual 311, 3) := by decide +kernel
theorem dX9_runs_44 : decode cX9_runs 44 = .ok (.iload_n 1, 1) := by decide +kernel
theorem dX9_runs_45 : decode cX9_runs 45 = .ok (.ireturn, 1) := by decide +kernel
theorem dX9_twins_0 : decode cX9_twins 0 = .ok (.aload_n 0, 1) := by decide +kernel
theorem dX9_twins_1 : decode cX9_twins 1 = .ok (.iconst 0, 1) := by decide +kernel
theorem dX9_twins_2 : decode cX9_twins 2 = .ok (.putfield 3, 3) := by decide +kernel
theorem dX9_twins_5 : decode cX9_twins 5 = .ok (.iconst 0, 1) := by decide +kernel
theorem dX9_twins_6 : decode cX9_twins 6 = .ok (.istore_n 1, 1) := by decide +kernel
theorem dX9_twins_7 : decode cX9_twins 7 = .ok (.aload_n 0, 1) := by decide +kernel
theorem dX9_twins_8 : decode cX9_twins 8 = .ok (.iconst 0, 1) := by decide +kernel
theorem dX9_twins_9 : decode cX9_twins 9 = .ok (.putfield 15, 3) := by decide +kernel
theorem dX9_twins_12 : decode cX9_twins 12 = .ok (.iconst 0, 1) := by decide +kernel
theorem dX9_twins_13 : decode cX9_twins 13 = .ok (.istore_n 2, 1) := by decide +kernel
theorem dX9_twins_14 : decode cX9_twins 14 = .ok (.iload_n 2, 1) := by decide +kernel
theorem dX9_twins_15 : decode cX9_twins 15 = .ok (.bipush 12, 2) := by decide +kernel
theorem dX9_twins_17 : decode cX9_twins 17 = .ok (.if_icmp .ge 123, 3) := by decide +kernel
theorem dX9_twins_20 : decode cX9_twins 20 = .ok (.iload_n 2, 1) := by decide +kernel
theorem dX9_twins_21 : decode cX9_twins 21 = .ok (.iconst 1, 1) := by decide +kernel
theorem dX9_twins_22 : decode cX9_twins 22 = .ok (.iadd, 1) := by decide +kernel
theorem dX9_twins_23 : decode cX9_twins 23 = .ok (.istore_n 3, 1) := by decide +kernel
theorem dX9_twins_24 : decode cX9_twins 24 = .ok (.iload_n 3, 1) := by decide +kernel
theorem dX9_twins_25 : decode cX9_twins 25 = .ok (.bipush 12, 2) := by decide +kernel
theorem dX9_twins_27 : decode cX9_twins 27 = .ok (.if_icmp .ge 107, 3) := by decide +kernel
theorem dX9_twins_30 : decode cX9_twins 30 = .ok (.iload_n 2, 1) := by decide +kernel
theorem dX9_twins_31 : decode cX9_twins 31 = .ok (.bipush 6, 2) := by decide +kernel
theorem dX9_twins_33 : decode cX9_twins 33 = .ok (.idiv, 1) := by decide +kernel
theorem dX9_twins_34 : decode cX9_twins 34 = .ok (.iload_n 3, 1) := by decide +kernel
theorem dX9_twins_35 : decode cX9_twins 35 = .ok (.bipush 6, 2) := by decide +kernel
theorem dX9_twins_37 : decode cX9_twins 37 = .ok (.idiv, 1) := by decide +kernel
theorem dX9_twins_38 : decode cX9_twins 38 = .ok (.if_icmp .ne 58, 3) := by decide +kernel
theorem dX9_twins_41 : decode cX9_twins 41 = .ok (.aload_n 0, 1) := by decide +kernel
theorem dX9_twins_42 : decode cX9_twins 42 = .ok (.getfield 24, 3) := by decide +kernel
theorem dX9_twins_45 : decode cX9_twins 45 = .ok (.iload_n 3, 1) := by decide +kernel
theorem dX9_twins_46 : decode cX9_twins 46 = .ok (.bipush 6, 2) := by decide +kernel
theorem dX9_twins_48 : decode cX9_twins 48 = .ok (.idiv, 1) := by decide +kernel
theorem dX9_twins_49 : decode cX9_twins 49 = .ok (.iload_n 3, 1) := by decide +kernel
theorem dX9_twins_50 : decode cX9_twins 50 = .ok (.bipush 6, 2) := by decide +kernel
theorem dX9_twins_52 : decode cX9_twins 52 = .ok (.irem, 1) := by decide +kernel
theorem dX9_twins_53 : decode cX9_twins 53 = .ok (.invokestatic 262, 3) := by decide +kernel
theorem dX9_twins_56 : decode cX9_twins 56 = .ok (.ifCond .eq 40, 3) := by decide +kernel
theorem dX9_twins_59 : decode cX9_twins 59 = .ok (.aload_n 0, 1) := by decide +kernel
theorem dX9_twins_60 : decode cX9_twins 60 = .ok (.getfield 24, 3) := by decide +kernel
theorem dX9_twins_63 : decode cX9_twins 63 = .ok (.iload_n 2, 1) := by decide +kernel
theorem dX9_twins_64 : decode cX9_twins 64 = .ok (.bipush 6, 2) := by decide +kernel
theorem dX9_twins_66 : decode cX9_twins 66 = .ok (.idiv, 1) := by decide +kernel
theorem dX9_twins_67 : decode cX9_twins 67 = .ok (.iload_n 2, 1) := by decide +kernel
theorem dX9_twins_68 : decode cX9_twins 68 = .ok (.bipush 6, 2) := by decide +kernel
theorem dX9_twins_70 : decode cX9_twins 70 = .ok (.irem, 1) := by decide +kernel
theorem dX9_twins_71 : decode cX9_twins 71 = .ok (.invokestatic 120, 3) := by decide +kernel
theorem dX9_twins_74 : decode cX9_twins 74 = .ok (.aload_n 0, 1) := by decide +kernel
theorem dX9_twins_75 : decode cX9_twins 75 = .ok (.getfield 24, 3) := by decide +kernel
theorem dX9_twins_78 : decode cX9_twins 78 = .ok (.iload_n 3, 1) := by decide +kernel
theorem dX9_twins_79 : decode cX9_twins 79 = .ok (.bipush 6, 2) := by decide +kernel
theorem dX9_twins_81 : decode cX9_twins 81 = .ok (.idiv, 1) := by decide +kernel
theorem dX9_twins_82 : decode cX9_twins 82 = .ok (.iload_n 3, 1) := by decide +kernel
theorem dX9_twins_83 : decode cX9_twins 83 = .ok (.bipush 6, 2) := by decide +kernel
theorem dX9_twins_85 : decode cX9_twins 85 = .ok (.irem, 1) := by decide +kernel
theorem dX9_twins_86 : decode cX9_twins 86 = .ok (.invokestatic 120, 3) := by decide +kernel
theorem dX9_twins_89 : decode cX9_twins 89 = .ok (.if_icmp .ne 7, 3) := by decide +kernel
theorem dX9_twins_92 : decode cX9_twins 92 = .ok (.iconst 1, 1) := by decide +kernel
theorem dX9_twins_93 : decode cX9_twins 93 = .ok (.goto 4, 3) := by decide +kernel
theorem dX9_twins_96 : decode cX9_twins 96 = .ok (.iconst 0, 1) := by decide +kernel
theorem dX9_twins_97 : decode cX9_twins 97 = .ok (.istore 4, 2) := by decide +kernel
theorem dX9_twins_99 : decode cX9_twins 99 = .ok (.iload 4, 2) := by decide +kernel
theorem dX9_twins_101 : decode cX9_twins 101 = .ok (.ifCond .eq 19, 3) := by decide +kernel
theorem dX9_twins_104 : decode cX9_twins 104 = .ok (.iload_n 1, 1) := by decide +kernel
theorem dX9_twins_105 : decode cX9_twins 105 = .ok (.ifCond .ne 15, 3) := by decide +kernel
theorem dX9_twins_108 : decode cX9_twins 108 = .ok (.aload_n 0, 1) := by decide +kernel
theorem dX9_twins_109 : decode cX9_twins 109 = .ok (.iload_n 2, 1) := by decide +kernel
theorem dX9_twins_110 : decode cX9_twins 110 = .ok (.i2l, 1) := by decide +kernel
theorem dX9_twins_111 : decode cX9_twins 111 = .ok (.invokevirtual 311, 3) := by decide +kernel
theorem dX9_twins_114 : decode cX9_twins 114 = .ok (.aload_n 0, 1) := by decide +kernel
theorem dX9_twins_115 : decode cX9_twins 115 = .ok (.iload_n 3, 1) := by decide +kernel
theorem dX9_twins_116 : decode cX9_twins 116 = .ok (.i2l, 1) := by decide +kernel
theorem dX9_twins_117 : decode cX9_twins 117 = .ok (.invokevirtual 311, 3) := by decide +kernel
theorem dX9_twins_120 : decode cX9_twins 120 = .ok (.iload_n 1, 1) := by decide +kernel
theorem dX9_twins_121 : decode cX9_twins 121 = .ok (.iload 4, 2) := by decide +kernel
theorem dX9_twins_123 : decode cX9_twins 123 = .ok (.invokestatic 116, 3) := by decide +kernel
theorem dX9_twins_126 : decode cX9_twins 126 = .ok (.iadd, 1) := by decide +kernel
theorem dX9_twins_127 : decode cX9_twins 127 = .ok (.istore_n 1, 1) := by decide +kernel
theorem dX9_twins_128 : decode cX9_twins 128 = .ok (.iinc 3 1, 3) := by decide +kernel
theorem dX9_twins_131 : decode cX9_twins 131 = .ok (.goto (-107), 3) := by decide +kernel
theorem dX9_twins_134 : decode cX9_twins 134 = .ok (.iinc 2 1, 3) := by decide +kernel
theorem dX9_twins_137 : decode cX9_twins 137 = .ok (.goto (-123), 3) := by decide +kernel
theorem dX9_twins_140 : decode cX9_twins 140 = .ok (.iload_n 1, 1) := by decide +kernel
theorem dX9_twins_141 : decode cX9_twins 141 = .ok (.ireturn, 1) := by decide +kernel
theorem dX9_game_0 : decode cX9_game 0 = .ok (.aload_n 0, 1) := by decide +kernel
theorem dX9_game_1 : decode cX9_game 1 = .ok (.iconst 0, 1) := by decide +kernel
theorem dX9_game_2 : decode cX9_game 2 = .ok (.putfield 3, 3) := by decide +kernel
theorem dX9_game_5 : decode cX9_game 5 = .ok (.aload_n 0, 1) := by decide +kernel
theorem dX9_game_6 : decode cX9_game 6 = .ok (.invokevirtual 394, 3) := by decide +kernel
theorem dX9_game_9 : decode cX9_game 9 = .ok (.aload_n 0, 1) := by decide +kernel
theorem dX9_game_10 : decode cX9_game 10 = .ok (.getfield 24, 3) := by decide +kernel
theorem dX9_game_13 : decode cX9_game 13 = .ok (.invokestatic 356, 3) := by decide +kernel
theorem dX9_game_16 : decode cX9_game 16 = .ok (.istore_n 1, 1) := by decide +kernel
theorem dX9_game_17 : decode cX9_game 17 = .ok (.iconst 0, 1) := by decide +kernel
theorem dX9_game_18 : decode cX9_game 18 = .ok (.istore_n 2, 1) := by decide +kernel
theorem dX9_game_19 : decode cX9_game 19 = .ok (.iload_n 2, 1) := by decide +kernel
theorem dX9_game_20 : decode cX9_game 20 = .ok (.iload_n 1, 1) := by decide +kernel
theorem dX9_game_21 : decode cX9_game 21 = .ok (.if_icmp .gt 87, 3) := by decide +kernel
theorem dX9_game_24 : decode cX9_game 24 = .ok (.aload_n 0, 1) := by decide +kernel
theorem dX9_game_25 : decode cX9_game 25 = .ok (.getfield 80, 3) := by decide +kernel
theorem dX9_game_28 : decode cX9_game 28 = .ok (.iload_n 2, 1) := by decide +kernel
theorem dX9_game_29 : decode cX9_game 29 = .ok (.iconst 0, 1) := by decide +kernel
theorem dX9_game_30 : decode cX9_game 30 = .ok (.bastore, 1) := by decide +kernel
theorem dX9_game_31 : decode cX9_game 31 = .ok (.iconst 0, 1) := by decide +kernel
theorem dX9_game_32 : decode cX9_game 32 = .ok (.istore_n 3, 1) := by decide +kernel
theorem dX9_game_33 : decode cX9_game 33 = .ok (.iload_n 3, 1) := by decide +kernel
theorem dX9_game_34 : decode cX9_game 34 = .ok (.bipush 12, 2) := by decide +kernel
theorem dX9_game_36 : decode cX9_game 36 = .ok (.if_icmp .ge 66, 3) := by decide +kernel
theorem dX9_game_39 : decode cX9_game 39 = .ok (.iload_n 2, 1) := by decide +kernel
theorem dX9_game_40 : decode cX9_game 40 = .ok (.iconst 1, 1) := by decide +kernel
theorem dX9_game_41 : decode cX9_game 41 = .ok (.iload_n 3, 1) := by decide +kernel
theorem dX9_game_42 : decode cX9_game 42 = .ok (.ishl, 1) := by decide +kernel
theorem dX9_game_43 : decode cX9_game 43 = .ok (.iconst (-1), 1) := by decide +kernel
theorem dX9_game_44 : decode cX9_game 44 = .ok (.ixor, 1) := by decide +kernel
theorem dX9_game_45 : decode cX9_game 45 = .ok (.iand, 1) := by decide +kernel
theorem dX9_game_46 : decode cX9_game 46 = .ok (.istore 4, 2) := by decide +kernel
theorem dX9_game_48 : decode cX9_game 48 = .ok (.aload_n 0, 1) := by decide +kernel
theorem dX9_game_49 : decode cX9_game 49 = .ok (.getfield 80, 3) := by decide +kernel
theorem dX9_game_52 : decode cX9_game 52 = .ok (.iload_n 2, 1) := by decide +kernel
theorem dX9_game_53 : decode cX9_game 53 = .ok (.aload_n 0, 1) := by decide +kernel
theorem dX9_game_54 : decode cX9_game 54 = .ok (.getfield 80, 3) := by decide +kernel
theorem dX9_game_57 : decode cX9_game 57 = .ok (.iload_n 2, 1) := by decide +kernel
theorem dX9_game_58 : decode cX9_game 58 = .ok (.baload, 1) := by decide +kernel
theorem dX9_game_59 : decode cX9_game 59 = .ok (.ifCond .ne 31, 3) := by decide +kernel
theorem dX9_game_62 : decode cX9_game 62 = .ok (.iload_n 2, 1) := by decide +kernel
theorem dX9_game_63 : decode cX9_game 63 = .ok (.iload_n 3, 1) := by decide +kernel
theorem dX9_game_64 : decode cX9_game 64 = .ok (.invokestatic 112, 3) := by decide +kernel
theorem dX9_game_67 : decode cX9_game 67 = .ok (.ifCond .eq 27, 3) := by decide +kernel
theorem dX9_game_70 : decode cX9_game 70 = .ok (.aload_n 0, 1) := by decide +kernel
theorem dX9_game_71 : decode cX9_game 71 = .ok (.getfield 70, 3) := by decide +kernel
theorem dX9_game_74 : decode cX9_game 74 = .ok (.iload 4, 2) := by decide +kernel
theorem dX9_game_76 : decode cX9_game 76 = .ok (.baload, 1) := by decide +kernel
theorem dX9_game_77 : decode cX9_game 77 = .ok (.ifCond .eq 17, 3) := by decide +kernel
theorem dX9_game_80 : decode cX9_game 80 = .ok (.aload_n 0, 1) := by decide +kernel
theorem dX9_game_81 : decode cX9_game 81 = .ok (.getfield 80, 3) := by decide +kernel
theorem dX9_game_84 : decode cX9_game 84 = .ok (.iload 4, 2) := by decide +kernel
theorem dX9_game_86 : decode cX9_game 86 = .ok (.baload, 1) := by decide +kernel
theorem dX9_game_87 : decode cX9_game 87 = .ok (.ifCond .ne 7, 3) := by decide +kernel
theorem dX9_game_90 : decode cX9_game 90 = .ok (.iconst 1, 1) := by decide +kernel
theorem dX9_game_91 : decode cX9_game 91 = .ok (.goto 4, 3) := by decide +kernel
theorem dX9_game_94 : decode cX9_game 94 = .ok (.iconst 0, 1) := by decide +kernel
theorem dX9_game_95 : decode cX9_game 95 = .ok (.bastore, 1) := by decide +kernel
theorem dX9_game_96 : decode cX9_game 96 = .ok (.iinc 3 1, 3) := by decide +kernel
theorem dX9_game_99 : decode cX9_game 99 = .ok (.goto (-66), 3) := by decide +kernel
theorem dX9_game_102 : decode cX9_game 102 = .ok (.iinc 2 1, 3) := by decide +kernel
theorem dX9_game_105 : decode cX9_game 105 = .ok (.goto (-86), 3) := by decide +kernel
theorem dX9_game_108 : decode cX9_game 108 = .ok (.aload_n 0, 1) := by decide +kernel
theorem dX9_game_109 : decode cX9_game 109 = .ok (.iconst 0, 1) := by decide +kernel
theorem dX9_game_110 : decode cX9_game 110 = .ok (.putfield 15, 3) := by decide +kernel
theorem dX9_game_113 : decode cX9_game 113 = .ok (.iconst 0, 1) := by decide +kernel
theorem dX9_game_114 : decode cX9_game 114 = .ok (.istore_n 2, 1) := by decide +kernel
theorem dX9_game_115 : decode cX9_game 115 = .ok (.iload_n 2, 1) := by decide +kernel
theorem dX9_game_116 : decode cX9_game 116 = .ok (.bipush 12, 2) := by decide +kernel
theorem dX9_game_118 : decode cX9_game 118 = .ok (.if_icmp .ge 65, 3) := by decide +kernel
theorem dX9_game_121 : decode cX9_game 121 = .ok (.aload_n 0, 1) := by decide +kernel
theorem dX9_game_122 : decode cX9_game 122 = .ok (.getfield 70, 3) := by decide +kernel
theorem dX9_game_125 : decode cX9_game 125 = .ok (.iload_n 1, 1) := by decide +kernel
theorem dX9_game_126 : decode cX9_game 126 = .ok (.baload, 1) := by decide +kernel
theorem dX9_game_127 : decode cX9_game 127 = .ok (.ifCond .eq 56, 3) := by decide +kernel
theorem dX9_game_130 : decode cX9_game 130 = .ok (.aload_n 0, 1) := by decide +kernel
theorem dX9_game_131 : decode cX9_game 131 = .ok (.getfield 15, 3) := by decide +kernel
theorem dX9_game_134 : decode cX9_game 134 = .ok (.ifCond .ne 49, 3) := by decide +kernel
theorem dX9_game_137 : decode cX9_game 137 = .ok (.iload_n 1, 1) := by decide +kernel
theorem dX9_game_138 : decode cX9_game 138 = .ok (.iconst 1, 1) := by decide +kernel
theorem dX9_game_139 : decode cX9_game 139 = .ok (.iload_n 2, 1) := by decide +kernel
theorem dX9_game_140 : decode cX9_game 140 = .ok (.ishl, 1) := by decide +kernel
theorem dX9_game_141 : decode cX9_game 141 = .ok (.iconst (-1), 1) := by decide +kernel
theorem dX9_game_142 : decode cX9_game 142 = .ok (.ixor, 1) := by decide +kernel
theorem dX9_game_143 : decode cX9_game 143 = .ok (.iand, 1) := by decide +kernel
theorem dX9_game_144 : decode cX9_game 144 = .ok (.istore_n 3, 1) := by decide +kernel
theorem dX9_game_145 : decode cX9_game 145 = .ok (.iload_n 1, 1) := by decide +kernel
theorem dX9_game_146 : decode cX9_game 146 = .ok (.iload_n 2, 1) := by decide +kernel
theorem dX9_game_147 : decode cX9_game 147 = .ok (.invokestatic 112, 3) := by decide +kernel
theorem dX9_game_150 : decode cX9_game 150 = .ok (.ifCond .eq 27, 3) := by decide +kernel
theorem dX9_game_153 : decode cX9_game 153 = .ok (.aload_n 0, 1) := by decide +kernel
theorem dX9_game_154 : decode cX9_game 154 = .ok (.getfield 70, 3) := by decide +kernel
theorem dX9_game_157 : decode cX9_game 157 = .ok (.iload_n 3, 1) := by decide +kernel
theorem dX9_game_158 : decode cX9_game 158 = .ok (.baload, 1) := by decide +kernel
theorem dX9_game_159 : decode cX9_game 159 = .ok (.ifCond .eq 18, 3) := by decide +kernel
theorem dX9_game_162 : decode cX9_game 162 = .ok (.aload_n 0, 1) := by decide +kernel
theorem dX9_game_163 : decode cX9_game 163 = .ok (.getfield 80, 3) := by decide +kernel
theorem dX9_game_166 : decode cX9_game 166 = .ok (.iload_n 3, 1) := by decide +kernel
theorem dX9_game_167 : decode cX9_game 167 = .ok (.baload, 1) := by decide +kernel
theorem dX9_game_168 : decode cX9_game 168 = .ok (.ifCond .ne 9, 3) := by decide +kernel
theorem dX9_game_171 : decode cX9_game 171 = .ok (.aload_n 0, 1) := by decide +kernel
theorem dX9_game_172 : decode cX9_game 172 = .ok (.iload_n 2, 1) := by decide +kernel
theorem dX9_game_173 : decode cX9_game 173 = .ok (.i2l, 1) := by decide +kernel
theorem dX9_game_174 : decode cX9_game 174 = .ok (.invokevirtual 311, 3) := by decide +kernel
theorem dX9_game_177 : decode cX9_game 177 = .ok (.iinc 2 1, 3) := by decide +kernel
theorem dX9_game_180 : decode cX9_game 180 = .ok (.goto (-65), 3) := by decide +kernel
theorem dX9_game_183 : decode cX9_game 183 = .ok (.aload_n 0, 1) := by decide +kernel
theorem dX9_game_184 : decode cX9_game 184 = .ok (.getfield 15, 3) := by decide +kernel
theorem dX9_game_187 : decode cX9_game 187 = .ok (.ifCond .le 7, 3) := by decide +kernel
theorem dX9_game_190 : decode cX9_game 190 = .ok (.iconst 1, 1) := by decide +kernel
theorem dX9_game_191 : decode cX9_game 191 = .ok (.goto 4, 3) := by decide +kernel
theorem dX9_game_194 : decode cX9_game 194 = .ok (.iconst 0, 1) := by decide +kernel
theorem dX9_game_195 : decode cX9_game 195 = .ok (.invokestatic 116, 3) := by decide +kernel
theorem dX9_game_198 : decode cX9_game 198 = .ok (.ireturn, 1) := by decide +kernel
theorem dX9_highest_0 : decode cX9_highest 0 = .ok (.iload_n 0, 1) := by decide +kernel
theorem dX9_highest_1 : decode cX9_highest 1 = .ok (.ifCond .eq 8, 3) := by decide +kernel
theorem dX9_highest_4 : decode cX9_highest 4 = .ok (.iload_n 0, 1) := by decide +kernel
theorem dX9_highest_5 : decode cX9_highest 5 = .ok (.iconst 3, 1) := by decide +kernel
theorem dX9_highest_6 : decode cX9_highest 6 = .ok (.if_icmp .ne 7, 3) := by decide +kernel
theorem dX9_highest_9 : decode cX9_highest 9 = .ok (.iconst 1, 1) := by decide +kernel
theorem dX9_highest_10 : decode cX9_highest 10 = .ok (.goto 14, 3) := by decide +kernel
theorem dX9_highest_13 : decode cX9_highest 13 = .ok (.iload_n 0, 1) := by decide +kernel
theorem dX9_highest_14 : decode cX9_highest 14 = .ok (.iconst 1, 1) := by decide +kernel
theorem dX9_highest_15 : decode cX9_highest 15 = .ok (.if_icmp .ne 8, 3) := by decide +kernel
theorem dX9_highest_18 : decode cX9_highest 18 = .ok (.bipush 6, 2) := by decide +kernel
theorem dX9_highest_20 : decode cX9_highest 20 = .ok (.goto 4, 3) := by decide +kernel
theorem dX9_highest_23 : decode cX9_highest 23 = .ok (.iconst 5, 1) := by decide +kernel
theorem dX9_highest_24 : decode cX9_highest 24 = .ok (.ireturn, 1) := by decide +kernel
theorem dX9_told_0 : decode cX9_told 0 = .ok (.aload_n 0, 1) := by decide +kernel
theorem dX9_told_1 : decode cX9_told 1 = .ok (.iconst 0, 1) := by decide +kernel
theorem dX9_told_2 : decode cX9_told 2 = .ok (.putfield 3, 3) := by decide +kernel
theorem dX9_told_5 : decode cX9_told 5 = .ok (.iload_n 1, 1) := by decide +kernel
theorem dX9_told_6 : decode cX9_told 6 = .ok (.i2l, 1) := by decide +kernel
theorem dX9_told_7 : decode cX9_told 7 = .ok (.lconst 0, 1) := by decide +kernel
theorem dX9_told_8 : decode cX9_told 8 = .ok (.ldc2_w 276, 3) := by decide +kernel
theorem dX9_told_11 : decode cX9_told 11 = .ok (.invokestatic 104, 3) := by decide +kernel
theorem dX9_told_14 : decode cX9_told 14 = .ok (.ifCond .eq 26, 3) := by decide +kernel
theorem dX9_told_17 : decode cX9_told 17 = .ok (.iload_n 2, 1) := by decide +kernel
theorem dX9_told_18 : decode cX9_told 18 = .ok (.i2l, 1) := by decide +kernel
theorem dX9_told_19 : decode cX9_told 19 = .ok (.lconst 0, 1) := by decide +kernel
theorem dX9_told_20 : decode cX9_told 20 = .ok (.iload_n 1, 1) := by decide +kernel
theorem dX9_told_21 : decode cX9_told 21 = .ok (.invokestatic 410, 3) := by decide +kernel
theorem dX9_told_24 : decode cX9_told 24 = .ok (.i2l, 1) := by decide +kernel
theorem dX9_told_25 : decode cX9_told 25 = .ok (.invokestatic 104, 3) := by decide +kernel
theorem dX9_told_28 : decode cX9_told 28 = .ok (.ifCond .eq 12, 3) := by decide +kernel
theorem dX9_told_31 : decode cX9_told 31 = .ok (.aload_n 0, 1) := by decide +kernel
theorem dX9_told_32 : decode cX9_told 32 = .ok (.getfield 413, 3) := by decide +kernel
theorem dX9_told_35 : decode cX9_told 35 = .ok (.bipush 12, 2) := by decide +kernel
theorem dX9_told_37 : decode cX9_told 37 = .ok (.if_icmp .ne 5, 3) := by decide +kernel
theorem dX9_told_40 : decode cX9_told 40 = .ok (.iconst (-1), 1) := by decide +kernel
theorem dX9_told_41 : decode cX9_told 41 = .ok (.ireturn, 1) := by decide +kernel
theorem dX9_told_42 : decode cX9_told 42 = .ok (.aload_n 0, 1) := by decide +kernel
theorem dX9_told_43 : decode cX9_told 43 = .ok (.getfield 83, 3) := by decide +kernel
theorem dX9_told_46 : decode cX9_told 46 = .ok (.aload_n 0, 1) := by decide +kernel
theorem dX9_told_47 : decode cX9_told 47 = .ok (.getfield 413, 3) := by decide +kernel
theorem dX9_told_50 : decode cX9_told 50 = .ok (.iload_n 1, 1) := by decide +kernel
theorem dX9_told_51 : decode cX9_told 51 = .ok (.iastore, 1) := by decide +kernel
theorem dX9_told_52 : decode cX9_told 52 = .ok (.aload_n 0, 1) := by decide +kernel
theorem dX9_told_53 : decode cX9_told 53 = .ok (.getfield 86, 3) := by decide +kernel
theorem dX9_told_56 : decode cX9_told 56 = .ok (.aload_n 0, 1) := by decide +kernel
theorem dX9_told_57 : decode cX9_told 57 = .ok (.getfield 413, 3) := by decide +kernel
theorem dX9_told_60 : decode cX9_told 60 = .ok (.iload_n 2, 1) := by decide +kernel
theorem dX9_told_61 : decode cX9_told 61 = .ok (.iastore, 1) := by decide +kernel
theorem dX9_told_62 : decode cX9_told 62 = .ok (.aload_n 0, 1) := by decide +kernel
theorem dX9_told_63 : decode cX9_told 63 = .ok (.dup, 1) := by decide +kernel
theorem dX9_told_64 : decode cX9_told 64 = .ok (.getfield 413, 3) := by decide +kernel
theorem dX9_told_67 : decode cX9_told 67 = .ok (.iconst 1, 1) := by decide +kernel
theorem dX9_told_68 : decode cX9_told 68 = .ok (.iadd, 1) := by decide +kernel
theorem dX9_told_69 : decode cX9_told 69 = .ok (.putfield 413, 3) := by decide +kernel
theorem dX9_told_72 : decode cX9_told 72 = .ok (.aload_n 0, 1) := by decide +kernel
theorem dX9_told_73 : decode cX9_told 73 = .ok (.getfield 413, 3) := by decide +kernel
theorem dX9_told_76 : decode cX9_told 76 = .ok (.ireturn, 1) := by decide +kernel
theorem dX9_forget_0 : decode cX9_forget 0 = .ok (.aload_n 0, 1) := by decide +kernel
theorem dX9_forget_1 : decode cX9_forget 1 = .ok (.iconst 0, 1) := by decide +kernel
theorem dX9_forget_2 : decode cX9_forget 2 = .ok (.putfield 3, 3) := by decide +kernel
theorem dX9_forget_5 : decode cX9_forget 5 = .ok (.aload_n 0, 1) := by decide +kernel
theorem dX9_forget_6 : decode cX9_forget 6 = .ok (.getfield 413, 3) := by decide +kernel
theorem dX9_forget_9 : decode cX9_forget 9 = .ok (.istore_n 1, 1) := by decide +kernel
theorem dX9_forget_10 : decode cX9_forget 10 = .ok (.aload_n 0, 1) := by decide +kernel
theorem dX9_forget_11 : decode cX9_forget 11 = .ok (.iconst 0, 1) := by decide +kernel
theorem dX9_forget_12 : decode cX9_forget 12 = .ok (.putfield 413, 3) := by decide +kernel
theorem dX9_forget_15 : decode cX9_forget 15 = .ok (.iload_n 1, 1) := by decide +kernel
theorem dX9_forget_16 : decode cX9_forget 16 = .ok (.ireturn, 1) := by decide +kernel
theorem dX9_isSo_0 : decode cX9_isSo 0 = .ok (.iload_n 1, 1) := by decide +kernel
theorem dX9_isSo_1 : decode cX9_isSo 1 = .ok (.bipush 6, 2) := by decide +kernel
theorem dX9_isSo_3 : decode cX9_isSo 3 = .ok (.idiv, 1) := by decide +kernel
theorem dX9_isSo_4 : decode cX9_isSo 4 = .ok (.istore 4, 2) := by decide +kernel
theorem dX9_isSo_6 : decode cX9_isSo 6 = .ok (.aload_n 0, 1) := by decide +kernel
theorem dX9_isSo_7 : decode cX9_isSo 7 = .ok (.getfield 24, 3) := by decide +kernel
theorem dX9_isSo_10 : decode cX9_isSo 10 = .ok (.iload 4, 2) := by decide +kernel
theorem dX9_isSo_12 : decode cX9_isSo 12 = .ok (.iload_n 1, 1) := by decide +kernel
theorem dX9_isSo_13 : decode cX9_isSo 13 = .ok (.bipush 6, 2) := by decide +kernel
theorem dX9_isSo_15 : decode cX9_isSo 15 = .ok (.irem, 1) := by decide +kernel
theorem dX9_isSo_16 : decode cX9_isSo 16 = .ok (.invokestatic 120, 3) := by decide +kernel
theorem dX9_isSo_19 : decode cX9_isSo 19 = .ok (.istore 5, 2) := by decide +kernel
theorem dX9_isSo_21 : decode cX9_isSo 21 = .ok (.iload_n 2, 1) := by decide +kernel
theorem dX9_isSo_22 : decode cX9_isSo 22 = .ok (.tableswitch 107 0 3 #[30, 42, 57, 81], 30) := by decide +kernel
theorem dX9_isSo_52 : decode cX9_isSo 52 = .ok (.iload 4, 2) := by decide +kernel
theorem dX9_isSo_54 : decode cX9_isSo 54 = .ok (.iload_n 3, 1) := by decide +kernel
theorem dX9_isSo_55 : decode cX9_isSo 55 = .ok (.if_icmp .ne 7, 3) := by decide +kernel
theorem dX9_isSo_58 : decode cX9_isSo 58 = .ok (.iconst 1, 1) := by decide +kernel
theorem dX9_isSo_59 : decode cX9_isSo 59 = .ok (.goto 4, 3) := by decide +kernel
theorem dX9_isSo_62 : decode cX9_isSo 62 = .ok (.iconst 0, 1) := by decide +kernel
theorem dX9_isSo_63 : decode cX9_isSo 63 = .ok (.ireturn, 1) := by decide +kernel
theorem dX9_isSo_64 : decode cX9_isSo 64 = .ok (.iload 5, 2) := by decide +kernel
theorem dX9_isSo_66 : decode cX9_isSo 66 = .ok (.invokestatic 131, 3) := by decide +kernel
theorem dX9_isSo_69 : decode cX9_isSo 69 = .ok (.iload_n 3, 1) := by decide +kernel
theorem dX9_isSo_70 : decode cX9_isSo 70 = .ok (.if_icmp .lt 7, 3) := by decide +kernel
theorem dX9_isSo_73 : decode cX9_isSo 73 = .ok (.iconst 1, 1) := by decide +kernel
theorem dX9_isSo_74 : decode cX9_isSo 74 = .ok (.goto 4, 3) := by decide +kernel
theorem dX9_isSo_77 : decode cX9_isSo 77 = .ok (.iconst 0, 1) := by decide +kernel
theorem dX9_isSo_78 : decode cX9_isSo 78 = .ok (.ireturn, 1) := by decide +kernel
theorem dX9_isSo_79 : decode cX9_isSo 79 = .ok (.iload 5, 2) := by decide +kernel
theorem dX9_isSo_81 : decode cX9_isSo 81 = .ok (.aload_n 0, 1) := by decide +kernel
theorem dX9_isSo_82 : decode cX9_isSo 82 = .ok (.getfield 24, 3) := by decide +kernel
theorem dX9_isSo_85 : decode cX9_isSo 85 = .ok (.iload 4, 2) := by decide +kernel
theorem dX9_isSo_87 : decode cX9_isSo 87 = .ok (.invokestatic 124, 3) := by decide +kernel
theorem dX9_isSo_90 : decode cX9_isSo 90 = .ok (.invokestatic 249, 3) := by decide +kernel
theorem dX9_isSo_93 : decode cX9_isSo 93 = .ok (.iload_n 3, 1) := by decide +kernel
theorem dX9_isSo_94 : decode cX9_isSo 94 = .ok (.if_icmp .lt 7, 3) := by decide +kernel
theorem dX9_isSo_97 : decode cX9_isSo 97 = .ok (.iconst 1, 1) := by decide +kernel
theorem dX9_isSo_98 : decode cX9_isSo 98 = .ok (.goto 4, 3) := by decide +kernel
theorem dX9_isSo_101 : decode cX9_isSo 101 = .ok (.iconst 0, 1) := by decide +kernel
theorem dX9_isSo_102 : decode cX9_isSo 102 = .ok (.ireturn, 1) := by decide +kernel
theorem dX9_isSo_103 : decode cX9_isSo 103 = .ok (.aload_n 0, 1) := by decide +kernel
theorem dX9_isSo_104 : decode cX9_isSo 104 = .ok (.getfield 24, 3) := by decide +kernel
theorem dX9_isSo_107 : decode cX9_isSo 107 = .ok (.iload 4, 2) := by decide +kernel
theorem dX9_isSo_109 : decode cX9_isSo 109 = .ok (.iload_n 1, 1) := by decide +kernel
theorem dX9_isSo_110 : decode cX9_isSo 110 = .ok (.bipush 6, 2) := by decide +kernel
theorem dX9_isSo_112 : decode cX9_isSo 112 = .ok (.irem, 1) := by decide +kernel
theorem dX9_isSo_113 : decode cX9_isSo 113 = .ok (.invokestatic 278, 3) := by decide +kernel
theorem dX9_isSo_116 : decode cX9_isSo 116 = .ok (.invokestatic 116, 3) := by decide +kernel
theorem dX9_isSo_119 : decode cX9_isSo 119 = .ok (.iload_n 3, 1) := by decide +kernel
theorem dX9_isSo_120 : decode cX9_isSo 120 = .ok (.if_icmp .ne 7, 3) := by decide +kernel
theorem dX9_isSo_123 : decode cX9_isSo 123 = .ok (.iconst 1, 1) := by decide +kernel
theorem dX9_isSo_124 : decode cX9_isSo 124 = .ok (.goto 4, 3) := by decide +kernel
theorem dX9_isSo_127 : decode cX9_isSo 127 = .ok (.iconst 0, 1) := by decide +kernel
theorem dX9_isSo_128 : decode cX9_isSo 128 = .ok (.ireturn, 1) := by decide +kernel
theorem dX9_isSo_129 : decode cX9_isSo 129 = .ok (.iload_n 1, 1) := by decide +kernel
theorem dX9_isSo_130 : decode cX9_isSo 130 = .ok (.bipush 6, 2) := by decide +kernel
theorem dX9_isSo_132 : decode cX9_isSo 132 = .ok (.irem, 1) := by decide +kernel
theorem dX9_isSo_133 : decode cX9_isSo 133 = .ok (.iload_n 3, 1) := by decide +kernel
theorem dX9_isSo_134 : decode cX9_isSo 134 = .ok (.if_icmp .gt 7, 3) := by decide +kernel
theorem dX9_isSo_137 : decode cX9_isSo 137 = .ok (.iconst 1, 1) := by decide +kernel
theorem dX9_isSo_138 : decode cX9_isSo 138 = .ok (.goto 4, 3) := by decide +kernel
theorem dX9_isSo_141 : decode cX9_isSo 141 = .ok (.iconst 0, 1) := by decide +kernel
theorem dX9_isSo_142 : decode cX9_isSo 142 = .ok (.ireturn, 1) := by decide +kernel
theorem dX9_fitting_0 : decode cX9_fitting 0 = .ok (.aload_n 0, 1) := by decide +kernel
theorem dX9_fitting_1 : decode cX9_fitting 1 = .ok (.getfield 24, 3) := by decide +kernel
theorem dX9_fitting_4 : decode cX9_fitting 4 = .ok (.invokestatic 356, 3) := by decide +kernel
theorem dX9_fitting_7 : decode cX9_fitting 7 = .ok (.istore_n 1, 1) := by decide +kernel
theorem dX9_fitting_8 : decode cX9_fitting 8 = .ok (.iconst 0, 1) := by decide +kernel
theorem dX9_fitting_9 : decode cX9_fitting 9 = .ok (.istore_n 2, 1) := by decide +kernel
theorem dX9_fitting_10 : decode cX9_fitting 10 = .ok (.iload_n 2, 1) := by decide +kernel
theorem dX9_fitting_11 : decode cX9_fitting 11 = .ok (.bipush 12, 2) := by decide +kernel
theorem dX9_fitting_13 : decode cX9_fitting 13 = .ok (.if_icmp .ge 65, 3) := by decide +kernel
theorem dX9_fitting_16 : decode cX9_fitting 16 = .ok (.iconst 0, 1) := by decide +kernel
theorem dX9_fitting_17 : decode cX9_fitting 17 = .ok (.istore_n 3, 1) := by decide +kernel
theorem dX9_fitting_18 : decode cX9_fitting 18 = .ok (.iload_n 3, 1) := by decide +kernel
theorem dX9_fitting_19 : decode cX9_fitting 19 = .ok (.aload_n 0, 1) := by decide +kernel
theorem dX9_fitting_20 : decode cX9_fitting 20 = .ok (.getfield 413, 3) := by decide +kernel
theorem dX9_fitting_23 : decode cX9_fitting 23 = .ok (.if_icmp .ge 49, 3) := by decide +kernel
theorem dX9_fitting_26 : decode cX9_fitting 26 = .ok (.iload_n 1, 1) := by decide +kernel
theorem dX9_fitting_27 : decode cX9_fitting 27 = .ok (.iload_n 2, 1) := by decide +kernel
theorem dX9_fitting_28 : decode cX9_fitting 28 = .ok (.invokestatic 112, 3) := by decide +kernel
theorem dX9_fitting_31 : decode cX9_fitting 31 = .ok (.ifCond .eq 41, 3) := by decide +kernel
theorem dX9_fitting_34 : decode cX9_fitting 34 = .ok (.iload_n 1, 1) := by decide +kernel
theorem dX9_fitting_35 : decode cX9_fitting 35 = .ok (.aload_n 0, 1) := by decide +kernel
theorem dX9_fitting_36 : decode cX9_fitting 36 = .ok (.iload_n 2, 1) := by decide +kernel
theorem dX9_fitting_37 : decode cX9_fitting 37 = .ok (.aload_n 0, 1) := by decide +kernel
theorem dX9_fitting_38 : decode cX9_fitting 38 = .ok (.getfield 83, 3) := by decide +kernel
theorem dX9_fitting_41 : decode cX9_fitting 41 = .ok (.iload_n 3, 1) := by decide +kernel
theorem dX9_fitting_42 : decode cX9_fitting 42 = .ok (.iaload, 1) := by decide +kernel
theorem dX9_fitting_43 : decode cX9_fitting 43 = .ok (.aload_n 0, 1) := by decide +kernel
theorem dX9_fitting_44 : decode cX9_fitting 44 = .ok (.getfield 86, 3) := by decide +kernel
theorem dX9_fitting_47 : decode cX9_fitting 47 = .ok (.iload_n 3, 1) := by decide +kernel
theorem dX9_fitting_48 : decode cX9_fitting 48 = .ok (.iaload, 1) := by decide +kernel
theorem dX9_fitting_49 : decode cX9_fitting 49 = .ok (.invokevirtual 416, 3) := by decide +kernel
theorem dX9_fitting_52 : decode cX9_fitting 52 = .ok (.ifCond .eq 7, 3) := by decide +kernel
theorem dX9_fitting_55 : decode cX9_fitting 55 = .ok (.iconst (-1), 1) := by decide +kernel
theorem dX9_fitting_56 : decode cX9_fitting 56 = .ok (.goto 8, 3) := by decide +kernel
theorem dX9_fitting_59 : decode cX9_fitting 59 = .ok (.iconst 1, 1) := by decide +kernel
theorem dX9_fitting_60 : decode cX9_fitting 60 = .ok (.iload_n 2, 1) := by decide +kernel
theorem dX9_fitting_61 : decode cX9_fitting 61 = .ok (.ishl, 1) := by decide +kernel
theorem dX9_fitting_62 : decode cX9_fitting 62 = .ok (.iconst (-1), 1) := by decide +kernel
theorem dX9_fitting_63 : decode cX9_fitting 63 = .ok (.ixor, 1) := by decide +kernel
theorem dX9_fitting_64 : decode cX9_fitting 64 = .ok (.iand, 1) := by decide +kernel
theorem dX9_fitting_65 : decode cX9_fitting 65 = .ok (.istore_n 1, 1) := by decide +kernel
theorem dX9_fitting_66 : decode cX9_fitting 66 = .ok (.iinc 3 1, 3) := by decide +kernel
theorem dX9_fitting_69 : decode cX9_fitting 69 = .ok (.goto (-51), 3) := by decide +kernel
theorem dX9_fitting_72 : decode cX9_fitting 72 = .ok (.iinc 2 1, 3) := by decide +kernel
theorem dX9_fitting_75 : decode cX9_fitting 75 = .ok (.goto (-65), 3) := by decide +kernel
theorem dX9_fitting_78 : decode cX9_fitting 78 = .ok (.iload_n 1, 1) := by decide +kernel
theorem dX9_fitting_79 : decode cX9_fitting 79 = .ok (.ireturn, 1) := by decide +kernel
theorem dX9_fits_0 : decode cX9_fits 0 = .ok (.aload_n 0, 1) := by decide +kernel
theorem dX9_fits_1 : decode cX9_fits 1 = .ok (.iconst 0, 1) := by decide +kernel
theorem dX9_fits_2 : decode cX9_fits 2 = .ok (.putfield 3, 3) := by decide +kernel
theorem dX9_fits_5 : decode cX9_fits 5 = .ok (.aload_n 0, 1) := by decide +kernel
theorem dX9_fits_6 : decode cX9_fits 6 = .ok (.invokevirtual 419, 3) := by decide +kernel
theorem dX9_fits_9 : decode cX9_fits 9 = .ok (.istore_n 1, 1) := by decide +kernel
theorem dX9_fits_10 : decode cX9_fits 10 = .ok (.aload_n 0, 1) := by decide +kernel
theorem dX9_fits_11 : decode cX9_fits 11 = .ok (.iconst 0, 1) := by decide +kernel
theorem dX9_fits_12 : decode cX9_fits 12 = .ok (.putfield 15, 3) := by decide +kernel
theorem dX9_fits_15 : decode cX9_fits 15 = .ok (.aload_n 0, 1) := by decide +kernel
theorem dX9_fits_16 : decode cX9_fits 16 = .ok (.iload_n 1, 1) := by decide +kernel
theorem dX9_fits_17 : decode cX9_fits 17 = .ok (.invokestatic 131, 3) := by decide +kernel
theorem dX9_fits_20 : decode cX9_fits 20 = .ok (.i2l, 1) := by decide +kernel
theorem dX9_fits_21 : decode cX9_fits 21 = .ok (.invokevirtual 311, 3) := by decide +kernel
theorem dX9_fits_24 : decode cX9_fits 24 = .ok (.iload_n 1, 1) := by decide +kernel
theorem dX9_fits_25 : decode cX9_fits 25 = .ok (.ireturn, 1) := by decide +kernel
theorem dX9_asks_0 : decode cX9_asks 0 = .ok (.aload_n 0, 1) := by decide +kernel
theorem dX9_asks_1 : decode cX9_asks 1 = .ok (.iconst 0, 1) := by decide +kernel
theorem dX9_asks_2 : decode cX9_asks 2 = .ok (.putfield 3, 3) := by decide +kernel
theorem dX9_asks_5 : decode cX9_asks 5 = .ok (.aload_n 0, 1) := by decide +kernel
theorem dX9_asks_6 : decode cX9_asks 6 = .ok (.invokevirtual 419, 3) := by decide +kernel
theorem dX9_asks_9 : decode cX9_asks 9 = .ok (.istore_n 1, 1) := by decide +kernel
theorem dX9_asks_10 : decode cX9_asks 10 = .ok (.iload_n 1, 1) := by decide +kernel
theorem dX9_asks_11 : decode cX9_asks 11 = .ok (.ifCond .ne 6, 3) := by decide +kernel
theorem dX9_asks_14 : decode cX9_asks 14 = .ok (.bipush (-2), 2) := by decide +kernel
theorem dX9_asks_16 : decode cX9_asks 16 = .ok (.ireturn, 1) := by decide +kernel
theorem dX9_asks_17 : decode cX9_asks 17 = .ok (.iconst (-1), 1) := by decide +kernel
theorem dX9_asks_18 : decode cX9_asks 18 = .ok (.istore_n 2, 1) := by decide +kernel
theorem dX9_asks_19 : decode cX9_asks 19 = .ok (.ldc_w 397, 3) := by decide +kernel
theorem dX9_asks_22 : decode cX9_asks 22 = .ok (.istore_n 3, 1) := by decide +kernel
theorem dX9_asks_23 : decode cX9_asks 23 = .ok (.iconst 0, 1) := by decide +kernel
theorem dX9_asks_24 : decode cX9_asks 24 = .ok (.istore 4, 2) := by decide +kernel
theorem dX9_asks_26 : decode cX9_asks 26 = .ok (.iload 4, 2) := by decide +kernel
theorem dX9_asks_28 : decode cX9_asks 28 = .ok (.iconst 5, 1) := by decide +kernel
theorem dX9_asks_29 : decode cX9_asks 29 = .ok (.if_icmp .ge 122, 3) := by decide +kernel
theorem dX9_asks_32 : decode cX9_asks 32 = .ok (.iconst 0, 1) := by decide +kernel
theorem dX9_asks_33 : decode cX9_asks 33 = .ok (.istore 5, 2) := by decide +kernel
theorem dX9_asks_35 : decode cX9_asks 35 = .ok (.iload 5, 2) := by decide +kernel
theorem dX9_asks_37 : decode cX9_asks 37 = .ok (.iload 4, 2) := by decide +kernel
theorem dX9_asks_39 : decode cX9_asks 39 = .ok (.invokestatic 410, 3) := by decide +kernel
theorem dX9_asks_42 : decode cX9_asks 42 = .ok (.if_icmp .gt 103, 3) := by decide +kernel
theorem dX9_asks_45 : decode cX9_asks 45 = .ok (.iconst 0, 1) := by decide +kernel
theorem dX9_asks_46 : decode cX9_asks 46 = .ok (.istore 6, 2) := by decide +kernel
theorem dX9_asks_48 : decode cX9_asks 48 = .ok (.iconst 0, 1) := by decide +kernel
theorem dX9_asks_49 : decode cX9_asks 49 = .ok (.istore 7, 2) := by decide +kernel
theorem dX9_asks_51 : decode cX9_asks 51 = .ok (.iload 7, 2) := by decide +kernel
theorem dX9_asks_53 : decode cX9_asks 53 = .ok (.bipush 12, 2) := by decide +kernel
theorem dX9_asks_55 : decode cX9_asks 55 = .ok (.if_icmp .ge 44, 3) := by decide +kernel
theorem dX9_asks_58 : decode cX9_asks 58 = .ok (.iload 6, 2) := by decide +kernel
theorem dX9_asks_60 : decode cX9_asks 60 = .ok (.iload_n 1, 1) := by decide +kernel
theorem dX9_asks_61 : decode cX9_asks 61 = .ok (.iload 7, 2) := by decide +kernel
theorem dX9_asks_63 : decode cX9_asks 63 = .ok (.invokestatic 112, 3) := by decide +kernel
theorem dX9_asks_66 : decode cX9_asks 66 = .ok (.ifCond .eq 20, 3) := by decide +kernel
theorem dX9_asks_69 : decode cX9_asks 69 = .ok (.aload_n 0, 1) := by decide +kernel
theorem dX9_asks_70 : decode cX9_asks 70 = .ok (.iload 7, 2) := by decide +kernel
theorem dX9_asks_72 : decode cX9_asks 72 = .ok (.iload 4, 2) := by decide +kernel
theorem dX9_asks_74 : decode cX9_asks 74 = .ok (.iload 5, 2) := by decide +kernel
theorem dX9_asks_76 : decode cX9_asks 76 = .ok (.invokevirtual 416, 3) := by decide +kernel
theorem dX9_asks_79 : decode cX9_asks 79 = .ok (.ifCond .eq 7, 3) := by decide +kernel
theorem dX9_asks_82 : decode cX9_asks 82 = .ok (.iconst 1, 1) := by decide +kernel
theorem dX9_asks_83 : decode cX9_asks 83 = .ok (.goto 4, 3) := by decide +kernel
theorem dX9_asks_86 : decode cX9_asks 86 = .ok (.iconst 0, 1) := by decide +kernel
theorem dX9_asks_87 : decode cX9_asks 87 = .ok (.invokestatic 116, 3) := by decide +kernel
theorem dX9_asks_90 : decode cX9_asks 90 = .ok (.iadd, 1) := by decide +kernel
theorem dX9_asks_91 : decode cX9_asks 91 = .ok (.istore 6, 2) := by decide +kernel
theorem dX9_asks_93 : decode cX9_asks 93 = .ok (.iinc 7 1, 3) := by decide +kernel
theorem dX9_asks_96 : decode cX9_asks 96 = .ok (.goto (-45), 3) := by decide +kernel
theorem dX9_asks_99 : decode cX9_asks 99 = .ok (.iload 6, 2) := by decide +kernel
theorem dX9_asks_101 : decode cX9_asks 101 = .ok (.iload_n 1, 1) := by decide +kernel
theorem dX9_asks_102 : decode cX9_asks 102 = .ok (.invokestatic 131, 3) := by decide +kernel
theorem dX9_asks_105 : decode cX9_asks 105 = .ok (.iload 6, 2) := by decide +kernel
theorem dX9_asks_107 : decode cX9_asks 107 = .ok (.isub, 1) := by decide +kernel
theorem dX9_asks_108 : decode cX9_asks 108 = .ok (.invokestatic 258, 3) := by decide +kernel
theorem dX9_asks_111 : decode cX9_asks 111 = .ok (.istore 7, 2) := by decide +kernel
theorem dX9_asks_113 : decode cX9_asks 113 = .ok (.iload 7, 2) := by decide +kernel
theorem dX9_asks_115 : decode cX9_asks 115 = .ok (.iload_n 3, 1) := by decide +kernel
theorem dX9_asks_116 : decode cX9_asks 116 = .ok (.if_icmp .ge 14, 3) := by decide +kernel
theorem dX9_asks_119 : decode cX9_asks 119 = .ok (.bipush 10, 2) := by decide +kernel
theorem dX9_asks_121 : decode cX9_asks 121 = .ok (.iload 4, 2) := by decide +kernel
theorem dX9_asks_123 : decode cX9_asks 123 = .ok (.imul, 1) := by decide +kernel
theorem dX9_asks_124 : decode cX9_asks 124 = .ok (.iload 5, 2) := by decide +kernel
theorem dX9_asks_126 : decode cX9_asks 126 = .ok (.iadd, 1) := by decide +kernel
theorem dX9_asks_127 : decode cX9_asks 127 = .ok (.goto 4, 3) := by decide +kernel
theorem dX9_asks_130 : decode cX9_asks 130 = .ok (.iload_n 2, 1) := by decide +kernel
theorem dX9_asks_131 : decode cX9_asks 131 = .ok (.istore_n 2, 1) := by decide +kernel
theorem dX9_asks_132 : decode cX9_asks 132 = .ok (.iload_n 3, 1) := by decide +kernel
theorem dX9_asks_133 : decode cX9_asks 133 = .ok (.iload 7, 2) := by decide +kernel
theorem dX9_asks_135 : decode cX9_asks 135 = .ok (.invokestatic 153, 3) := by decide +kernel
theorem dX9_asks_138 : decode cX9_asks 138 = .ok (.istore_n 3, 1) := by decide +kernel
theorem dX9_asks_139 : decode cX9_asks 139 = .ok (.iinc 5 1, 3) := by decide +kernel
theorem dX9_asks_142 : decode cX9_asks 142 = .ok (.goto (-107), 3) := by decide +kernel
theorem dX9_asks_145 : decode cX9_asks 145 = .ok (.iinc 4 1, 3) := by decide +kernel
theorem dX9_asks_148 : decode cX9_asks 148 = .ok (.goto (-122), 3) := by decide +kernel
theorem dX9_asks_151 : decode cX9_asks 151 = .ok (.aload_n 0, 1) := by decide +kernel
theorem dX9_asks_152 : decode cX9_asks 152 = .ok (.iconst 0, 1) := by decide +kernel
theorem dX9_asks_153 : decode cX9_asks 153 = .ok (.putfield 15, 3) := by decide +kernel
theorem dX9_asks_156 : decode cX9_asks 156 = .ok (.aload_n 0, 1) := by decide +kernel
theorem dX9_asks_157 : decode cX9_asks 157 = .ok (.iload_n 3, 1) := by decide +kernel
theorem dX9_asks_158 : decode cX9_asks 158 = .ok (.i2l, 1) := by decide +kernel
theorem dX9_asks_159 : decode cX9_asks 159 = .ok (.invokevirtual 311, 3) := by decide +kernel
theorem dX9_asks_162 : decode cX9_asks 162 = .ok (.iload_n 2, 1) := by decide +kernel
theorem dX9_asks_163 : decode cX9_asks 163 = .ok (.ireturn, 1) := by decide +kernel
theorem dX9_odds_0 : decode cX9_odds 0 = .ok (.aload_n 0, 1) := by decide +kernel
theorem dX9_odds_1 : decode cX9_odds 1 = .ok (.iconst 0, 1) := by decide +kernel
theorem dX9_odds_2 : decode cX9_odds 2 = .ok (.putfield 3, 3) := by decide +kernel
theorem dX9_odds_5 : decode cX9_odds 5 = .ok (.iload_n 1, 1) := by decide +kernel
theorem dX9_odds_6 : decode cX9_odds 6 = .ok (.i2l, 1) := by decide +kernel
theorem dX9_odds_7 : decode cX9_odds 7 = .ok (.lconst 0, 1) := by decide +kernel
theorem dX9_odds_8 : decode cX9_odds 8 = .ok (.ldc2_w 374, 3) := by decide +kernel
theorem dX9_odds_11 : decode cX9_odds 11 = .ok (.invokestatic 104, 3) := by decide +kernel
theorem dX9_odds_14 : decode cX9_odds 14 = .ok (.ifCond .ne 5, 3) := by decide +kernel
theorem dX9_odds_17 : decode cX9_odds 17 = .ok (.iconst (-1), 1) := by decide +kernel
theorem dX9_odds_18 : decode cX9_odds 18 = .ok (.ireturn, 1) := by decide +kernel
theorem dX9_odds_19 : decode cX9_odds 19 = .ok (.aload_n 0, 1) := by decide +kernel
theorem dX9_odds_20 : decode cX9_odds 20 = .ok (.invokevirtual 394, 3) := by decide +kernel
theorem dX9_odds_23 : decode cX9_odds 23 = .ok (.aload_n 0, 1) := by decide +kernel
theorem dX9_odds_24 : decode cX9_odds 24 = .ok (.getfield 24, 3) := by decide +kernel
theorem dX9_odds_27 : decode cX9_odds 27 = .ok (.invokestatic 356, 3) := by decide +kernel
theorem dX9_odds_30 : decode cX9_odds 30 = .ok (.istore_n 2, 1) := by decide +kernel
theorem dX9_odds_31 : decode cX9_odds 31 = .ok (.lconst 0, 1) := by decide +kernel
theorem dX9_odds_32 : decode cX9_odds 32 = .ok (.lstore_n 3, 1) := by decide +kernel
theorem dX9_odds_33 : decode cX9_odds 33 = .ok (.lconst 1, 1) := by decide +kernel
theorem dX9_odds_34 : decode cX9_odds 34 = .ok (.lstore 5, 2) := by decide +kernel
theorem dX9_odds_36 : decode cX9_odds 36 = .ok (.iconst 0, 1) := by decide +kernel
theorem dX9_odds_37 : decode cX9_odds 37 = .ok (.istore 7, 2) := by decide +kernel
theorem dX9_odds_39 : decode cX9_odds 39 = .ok (.iload 7, 2) := by decide +kernel
theorem dX9_odds_41 : decode cX9_odds 41 = .ok (.aload_n 0, 1) := by decide +kernel
theorem dX9_odds_42 : decode cX9_odds 42 = .ok (.getfield 24, 3) := by decide +kernel
theorem dX9_odds_45 : decode cX9_odds 45 = .ok (.invokestatic 315, 3) := by decide +kernel
theorem dX9_odds_48 : decode cX9_odds 48 = .ok (.if_icmp .ge 17, 3) := by decide +kernel
theorem dX9_odds_51 : decode cX9_odds 51 = .ok (.lload 5, 2) := by decide +kernel
theorem dX9_odds_53 : decode cX9_odds 53 = .ok (.ldc2_w 374, 3) := by decide +kernel
theorem dX9_odds_56 : decode cX9_odds 56 = .ok (.lmul, 1) := by decide +kernel
theorem dX9_odds_57 : decode cX9_odds 57 = .ok (.lstore 5, 2) := by decide +kernel
theorem dX9_odds_59 : decode cX9_odds 59 = .ok (.iinc 7 1, 3) := by decide +kernel
theorem dX9_odds_62 : decode cX9_odds 62 = .ok (.goto (-23), 3) := by decide +kernel
theorem dX9_odds_65 : decode cX9_odds 65 = .ok (.iconst 1, 1) := by decide +kernel
theorem dX9_odds_66 : decode cX9_odds 66 = .ok (.istore 7, 2) := by decide +kernel
theorem dX9_odds_68 : decode cX9_odds 68 = .ok (.iload 7, 2) := by decide +kernel
theorem dX9_odds_70 : decode cX9_odds 70 = .ok (.iload_n 2, 1) := by decide +kernel
theorem dX9_odds_71 : decode cX9_odds 71 = .ok (.if_icmp .gt 88, 3) := by decide +kernel
theorem dX9_odds_74 : decode cX9_odds 74 = .ok (.aload_n 0, 1) := by decide +kernel
theorem dX9_odds_75 : decode cX9_odds 75 = .ok (.getfield 70, 3) := by decide +kernel
theorem dX9_odds_78 : decode cX9_odds 78 = .ok (.iload 7, 2) := by decide +kernel
theorem dX9_odds_80 : decode cX9_odds 80 = .ok (.baload, 1) := by decide +kernel
theorem dX9_odds_81 : decode cX9_odds 81 = .ok (.invokestatic 116, 3) := by decide +kernel
theorem dX9_odds_84 : decode cX9_odds 84 = .ok (.i2l, 1) := by decide +kernel
theorem dX9_odds_85 : decode cX9_odds 85 = .ok (.lstore 8, 2) := by decide +kernel
theorem dX9_odds_87 : decode cX9_odds 87 = .ok (.iconst 0, 1) := by decide +kernel
theorem dX9_odds_88 : decode cX9_odds 88 = .ok (.istore 10, 2) := by decide +kernel
theorem dX9_odds_90 : decode cX9_odds 90 = .ok (.iload 10, 2) := by decide +kernel
theorem dX9_odds_92 : decode cX9_odds 92 = .ok (.bipush 12, 2) := by decide +kernel
theorem dX9_odds_94 : decode cX9_odds 94 = .ok (.if_icmp .ge 54, 3) := by decide +kernel
theorem dX9_odds_97 : decode cX9_odds 97 = .ok (.lload 8, 2) := by decide +kernel
theorem dX9_odds_99 : decode cX9_odds 99 = .ok (.lconst 0, 1) := by decide +kernel
theorem dX9_odds_100 : decode cX9_odds 100 = .ok (.lcmp, 1) := by decide +kernel
theorem dX9_odds_101 : decode cX9_odds 101 = .ok (.ifCond .le 47, 3) := by decide +kernel
theorem dX9_odds_104 : decode cX9_odds 104 = .ok (.lload 8, 2) := by decide +kernel
theorem dX9_odds_106 : decode cX9_odds 106 = .ok (.iload_n 2, 1) := by decide +kernel
theorem dX9_odds_107 : decode cX9_odds 107 = .ok (.iload 10, 2) := by decide +kernel
theorem dX9_odds_109 : decode cX9_odds 109 = .ok (.invokestatic 112, 3) := by decide +kernel
theorem dX9_odds_112 : decode cX9_odds 112 = .ok (.ifCond .ne 7, 3) := by decide +kernel
theorem dX9_odds_115 : decode cX9_odds 115 = .ok (.lconst 1, 1) := by decide +kernel
theorem dX9_odds_116 : decode cX9_odds 116 = .ok (.goto 23, 3) := by decide +kernel
theorem dX9_odds_119 : decode cX9_odds 119 = .ok (.iload 7, 2) := by decide +kernel
theorem dX9_odds_121 : decode cX9_odds 121 = .ok (.iload 10, 2) := by decide +kernel
theorem dX9_odds_123 : decode cX9_odds 123 = .ok (.invokestatic 112, 3) := by decide +kernel
theorem dX9_odds_126 : decode cX9_odds 126 = .ok (.ifCond .eq 11, 3) := by decide +kernel
theorem dX9_odds_129 : decode cX9_odds 129 = .ok (.bipush 10, 2) := by decide +kernel
theorem dX9_odds_131 : decode cX9_odds 131 = .ok (.iload_n 1, 1) := by decide +kernel
theorem dX9_odds_132 : decode cX9_odds 132 = .ok (.isub, 1) := by decide +kernel
theorem dX9_odds_133 : decode cX9_odds 133 = .ok (.i2l, 1) := by decide +kernel
theorem dX9_odds_134 : decode cX9_odds 134 = .ok (.goto 5, 3) := by decide +kernel
theorem dX9_odds_137 : decode cX9_odds 137 = .ok (.iload_n 1, 1) := by decide +kernel
theorem dX9_odds_138 : decode cX9_odds 138 = .ok (.i2l, 1) := by decide +kernel
theorem dX9_odds_139 : decode cX9_odds 139 = .ok (.lmul, 1) := by decide +kernel
theorem dX9_odds_140 : decode cX9_odds 140 = .ok (.lstore 8, 2) := by decide +kernel
theorem dX9_odds_142 : decode cX9_odds 142 = .ok (.iinc 10 1, 3) := by decide +kernel
theorem dX9_odds_145 : decode cX9_odds 145 = .ok (.goto (-55), 3) := by decide +kernel
theorem dX9_odds_148 : decode cX9_odds 148 = .ok (.lload_n 3, 1) := by decide +kernel
theorem dX9_odds_149 : decode cX9_odds 149 = .ok (.lload 8, 2) := by decide +kernel
theorem dX9_odds_151 : decode cX9_odds 151 = .ok (.ladd, 1) := by decide +kernel
theorem dX9_odds_152 : decode cX9_odds 152 = .ok (.lstore_n 3, 1) := by decide +kernel
theorem dX9_odds_153 : decode cX9_odds 153 = .ok (.iinc 7 1, 3) := by decide +kernel
theorem dX9_odds_156 : decode cX9_odds 156 = .ok (.goto (-88), 3) := by decide +kernel
theorem dX9_odds_159 : decode cX9_odds 159 = .ok (.lload_n 3, 1) := by decide +kernel
theorem dX9_odds_160 : decode cX9_odds 160 = .ok (.lload 5, 2) := by decide +kernel
theorem dX9_odds_162 : decode cX9_odds 162 = .ok (.invokestatic 7, 3) := by decide +kernel
theorem dX9_odds_165 : decode cX9_odds 165 = .ok (.lstore 7, 2) := by decide +kernel
theorem dX9_odds_167 : decode cX9_odds 167 = .ok (.aload_n 0, 1) := by decide +kernel
theorem dX9_odds_168 : decode cX9_odds 168 = .ok (.iconst 0, 1) := by decide +kernel
theorem dX9_odds_169 : decode cX9_odds 169 = .ok (.putfield 15, 3) := by decide +kernel
theorem dX9_odds_172 : decode cX9_odds 172 = .ok (.aload_n 0, 1) := by decide +kernel
theorem dX9_odds_173 : decode cX9_odds 173 = .ok (.lload_n 3, 1) := by decide +kernel
theorem dX9_odds_174 : decode cX9_odds 174 = .ok (.lload 7, 2) := by decide +kernel
theorem dX9_odds_176 : decode cX9_odds 176 = .ok (.ldiv, 1) := by decide +kernel
theorem dX9_odds_177 : decode cX9_odds 177 = .ok (.invokevirtual 311, 3) := by decide +kernel
theorem dX9_odds_180 : decode cX9_odds 180 = .ok (.aload_n 0, 1) := by decide +kernel
theorem dX9_odds_181 : decode cX9_odds 181 = .ok (.lload 5, 2) := by decide +kernel
theorem dX9_odds_183 : decode cX9_odds 183 = .ok (.lload 7, 2) := by decide +kernel
theorem dX9_odds_185 : decode cX9_odds 185 = .ok (.ldiv, 1) := by decide +kernel
theorem dX9_odds_186 : decode cX9_odds 186 = .ok (.invokevirtual 311, 3) := by decide +kernel
theorem dX9_odds_189 : decode cX9_odds 189 = .ok (.iconst 0, 1) := by decide +kernel
theorem dX9_odds_190 : decode cX9_odds 190 = .ok (.ireturn, 1) := by decide +kernel
theorem dX9_law_0 : decode cX9_law 0 = .ok (.aload_n 0, 1) := by decide +kernel
theorem dX9_law_1 : decode cX9_law 1 = .ok (.iconst 0, 1) := by decide +kernel
theorem dX9_law_2 : decode cX9_law 2 = .ok (.putfield 3, 3) := by decide +kernel
theorem dX9_law_5 : decode cX9_law 5 = .ok (.aload_n 0, 1) := by decide +kernel
theorem dX9_law_6 : decode cX9_law 6 = .ok (.invokevirtual 239, 3) := by decide +kernel
theorem dX9_law_9 : decode cX9_law 9 = .ok (.istore_n 1, 1) := by decide +kernel
theorem dX9_law_10 : decode cX9_law 10 = .ok (.iload_n 1, 1) := by decide +kernel
theorem dX9_law_11 : decode cX9_law 11 = .ok (.ifCond .ge 11, 3) := by decide +kernel
theorem dX9_law_14 : decode cX9_law 14 = .ok (.iload_n 1, 1) := by decide +kernel
theorem dX9_law_15 : decode cX9_law 15 = .ok (.iconst 1, 1) := by decide +kernel
theorem dX9_law_16 : decode cX9_law 16 = .ok (.iadd, 1) := by decide +kernel
theorem dX9_law_17 : decode cX9_law 17 = .ok (.sipush 10000, 3) := by decide +kernel
theorem dX9_law_20 : decode cX9_law 20 = .ok (.isub, 1) := by decide +kernel
theorem dX9_law_21 : decode cX9_law 21 = .ok (.ireturn, 1) := by decide +kernel
theorem dX9_law_22 : decode cX9_law 22 = .ok (.aload_n 0, 1) := by decide +kernel
theorem dX9_law_23 : decode cX9_law 23 = .ok (.getfield 28, 3) := by decide +kernel
theorem dX9_law_26 : decode cX9_law 26 = .ok (.aload_n 0, 1) := by decide +kernel
theorem dX9_law_27 : decode cX9_law 27 = .ok (.getfield 24, 3) := by decide +kernel
theorem dX9_law_30 : decode cX9_law 30 = .ok (.invokestatic 194, 3) := by decide +kernel
theorem dX9_law_33 : decode cX9_law 33 = .ok (.iconst 0, 1) := by decide +kernel
theorem dX9_law_34 : decode cX9_law 34 = .ok (.istore_n 2, 1) := by decide +kernel
theorem dX9_law_35 : decode cX9_law 35 = .ok (.iload_n 2, 1) := by decide +kernel
theorem dX9_law_36 : decode cX9_law 36 = .ok (.bipush 10, 2) := by decide +kernel
theorem dX9_law_38 : decode cX9_law 38 = .ok (.if_icmp .ge 23, 3) := by decide +kernel
theorem dX9_law_41 : decode cX9_law 41 = .ok (.aload_n 0, 1) := by decide +kernel
theorem dX9_law_42 : decode cX9_law 42 = .ok (.getfield 92, 3) := by decide +kernel
theorem dX9_law_45 : decode cX9_law 45 = .ok (.iload_n 2, 1) := by decide +kernel
theorem dX9_law_46 : decode cX9_law 46 = .ok (.aload_n 0, 1) := by decide +kernel
theorem dX9_law_47 : decode cX9_law 47 = .ok (.aload_n 0, 1) := by decide +kernel
theorem dX9_law_48 : decode cX9_law 48 = .ok (.getfield 28, 3) := by decide +kernel
theorem dX9_law_51 : decode cX9_law 51 = .ok (.invokevirtual 293, 3) := by decide +kernel
theorem dX9_law_54 : decode cX9_law 54 = .ok (.iastore, 1) := by decide +kernel
theorem dX9_law_55 : decode cX9_law 55 = .ok (.iinc 2 1, 3) := by decide +kernel
theorem dX9_law_58 : decode cX9_law 58 = .ok (.goto (-23), 3) := by decide +kernel
theorem dX9_law_61 : decode cX9_law 61 = .ok (.aload_n 0, 1) := by decide +kernel
theorem dX9_law_62 : decode cX9_law 62 = .ok (.getfield 28, 3) := by decide +kernel
theorem dX9_law_65 : decode cX9_law 65 = .ok (.invokestatic 315, 3) := by decide +kernel
theorem dX9_law_68 : decode cX9_law 68 = .ok (.istore_n 2, 1) := by decide +kernel
theorem dX9_law_69 : decode cX9_law 69 = .ok (.aload_n 0, 1) := by decide +kernel
theorem dX9_law_70 : decode cX9_law 70 = .ok (.getfield 236, 3) := by decide +kernel
theorem dX9_law_73 : decode cX9_law 73 = .ok (.istore_n 3, 1) := by decide +kernel
theorem dX9_law_74 : decode cX9_law 74 = .ok (.iconst 0, 1) := by decide +kernel
theorem dX9_law_75 : decode cX9_law 75 = .ok (.istore 4, 2) := by decide +kernel
theorem dX9_law_77 : decode cX9_law 77 = .ok (.iload 4, 2) := by decide +kernel
theorem dX9_law_79 : decode cX9_law 79 = .ok (.aload_n 0, 1) := by decide +kernel
theorem dX9_law_80 : decode cX9_law 80 = .ok (.getfield 236, 3) := by decide +kernel
theorem dX9_law_83 : decode cX9_law 83 = .ok (.if_icmp .ge 23, 3) := by decide +kernel
theorem dX9_law_86 : decode cX9_law 86 = .ok (.aload_n 0, 1) := by decide +kernel
theorem dX9_law_87 : decode cX9_law 87 = .ok (.getfield 89, 3) := by decide +kernel
theorem dX9_law_90 : decode cX9_law 90 = .ok (.iload 4, 2) := by decide +kernel
theorem dX9_law_92 : decode cX9_law 92 = .ok (.aload_n 0, 1) := by decide +kernel
theorem dX9_law_93 : decode cX9_law 93 = .ok (.getfield 37, 3) := by decide +kernel
theorem dX9_law_96 : decode cX9_law 96 = .ok (.iload 4, 2) := by decide +kernel
theorem dX9_law_98 : decode cX9_law 98 = .ok (.iaload, 1) := by decide +kernel
theorem dX9_law_99 : decode cX9_law 99 = .ok (.iastore, 1) := by decide +kernel
theorem dX9_law_100 : decode cX9_law 100 = .ok (.iinc 4 1, 3) := by decide +kernel
theorem dX9_law_103 : decode cX9_law 103 = .ok (.goto (-26), 3) := by decide +kernel
theorem dX9_law_106 : decode cX9_law 106 = .ok (.aload_n 0, 1) := by decide +kernel
theorem dX9_law_107 : decode cX9_law 107 = .ok (.aload_n 0, 1) := by decide +kernel
theorem dX9_law_108 : decode cX9_law 108 = .ok (.getfield 40, 3) := by decide +kernel
theorem dX9_law_111 : decode cX9_law 111 = .ok (.aload_n 0, 1) := by decide +kernel
theorem dX9_law_112 : decode cX9_law 112 = .ok (.getfield 204, 3) := by decide +kernel
theorem dX9_law_115 : decode cX9_law 115 = .ok (.invokevirtual 242, 3) := by decide +kernel
theorem dX9_law_118 : decode cX9_law 118 = .ok (.aload_n 0, 1) := by decide +kernel
theorem dX9_law_119 : decode cX9_law 119 = .ok (.getfield 28, 3) := by decide +kernel
theorem dX9_law_122 : decode cX9_law 122 = .ok (.aload_n 0, 1) := by decide +kernel
theorem dX9_law_123 : decode cX9_law 123 = .ok (.getfield 24, 3) := by decide +kernel
theorem dX9_law_126 : decode cX9_law 126 = .ok (.invokestatic 194, 3) := by decide +kernel
theorem dX9_law_129 : decode cX9_law 129 = .ok (.iconst 0, 1) := by decide +kernel
theorem dX9_law_130 : decode cX9_law 130 = .ok (.istore 4, 2) := by decide +kernel
theorem dX9_law_132 : decode cX9_law 132 = .ok (.iconst 0, 1) := by decide +kernel
theorem dX9_law_133 : decode cX9_law 133 = .ok (.istore 5, 2) := by decide +kernel
theorem dX9_law_135 : decode cX9_law 135 = .ok (.iload 5, 2) := by decide +kernel
theorem dX9_law_137 : decode cX9_law 137 = .ok (.bipush 10, 2) := by decide +kernel
theorem dX9_law_139 : decode cX9_law 139 = .ok (.if_icmp .ge 40, 3) := by decide +kernel
theorem dX9_law_142 : decode cX9_law 142 = .ok (.iload 4, 2) := by decide +kernel
theorem dX9_law_144 : decode cX9_law 144 = .ok (.aload_n 0, 1) := by decide +kernel
theorem dX9_law_145 : decode cX9_law 145 = .ok (.aload_n 0, 1) := by decide +kernel
theorem dX9_law_146 : decode cX9_law 146 = .ok (.getfield 28, 3) := by decide +kernel
theorem dX9_law_149 : decode cX9_law 149 = .ok (.invokevirtual 293, 3) := by decide +kernel
theorem dX9_law_152 : decode cX9_law 152 = .ok (.aload_n 0, 1) := by decide +kernel
theorem dX9_law_153 : decode cX9_law 153 = .ok (.getfield 92, 3) := by decide +kernel
theorem dX9_law_156 : decode cX9_law 156 = .ok (.iload 5, 2) := by decide +kernel
theorem dX9_law_158 : decode cX9_law 158 = .ok (.iaload, 1) := by decide +kernel
theorem dX9_law_159 : decode cX9_law 159 = .ok (.if_icmp .eq 7, 3) := by decide +kernel
theorem dX9_law_162 : decode cX9_law 162 = .ok (.iconst 1, 1) := by decide +kernel
theorem dX9_law_163 : decode cX9_law 163 = .ok (.goto 4, 3) := by decide +kernel
theorem dX9_law_166 : decode cX9_law 166 = .ok (.iconst 0, 1) := by decide +kernel
theorem dX9_law_167 : decode cX9_law 167 = .ok (.invokestatic 116, 3) := by decide +kernel
theorem dX9_law_170 : decode cX9_law 170 = .ok (.iadd, 1) := by decide +kernel
theorem dX9_law_171 : decode cX9_law 171 = .ok (.istore 4, 2) := by decide +kernel
theorem dX9_law_173 : decode cX9_law 173 = .ok (.iinc 5 1, 3) := by decide +kernel
theorem dX9_law_176 : decode cX9_law 176 = .ok (.goto (-41), 3) := by decide +kernel
theorem dX9_law_179 : decode cX9_law 179 = .ok (.aload_n 0, 1) := by decide +kernel
theorem dX9_law_180 : decode cX9_law 180 = .ok (.aload_n 0, 1) := by decide +kernel
theorem dX9_law_181 : decode cX9_law 181 = .ok (.getfield 89, 3) := by decide +kernel
theorem dX9_law_184 : decode cX9_law 184 = .ok (.iload_n 3, 1) := by decide +kernel
theorem dX9_law_185 : decode cX9_law 185 = .ok (.invokevirtual 242, 3) := by decide +kernel
theorem dX9_law_188 : decode cX9_law 188 = .ok (.aload_n 0, 1) := by decide +kernel
theorem dX9_law_189 : decode cX9_law 189 = .ok (.iconst 0, 1) := by decide +kernel
theorem dX9_law_190 : decode cX9_law 190 = .ok (.putfield 15, 3) := by decide +kernel
theorem dX9_law_193 : decode cX9_law 193 = .ok (.aload_n 0, 1) := by decide +kernel
theorem dX9_law_194 : decode cX9_law 194 = .ok (.aload_n 0, 1) := by decide +kernel
theorem dX9_law_195 : decode cX9_law 195 = .ok (.getfield 28, 3) := by decide +kernel
theorem dX9_law_198 : decode cX9_law 198 = .ok (.invokestatic 315, 3) := by decide +kernel
theorem dX9_law_201 : decode cX9_law 201 = .ok (.i2l, 1) := by decide +kernel
theorem dX9_law_202 : decode cX9_law 202 = .ok (.invokevirtual 311, 3) := by decide +kernel
theorem dX9_law_205 : decode cX9_law 205 = .ok (.aload_n 0, 1) := by decide +kernel
theorem dX9_law_206 : decode cX9_law 206 = .ok (.iload_n 2, 1) := by decide +kernel
theorem dX9_law_207 : decode cX9_law 207 = .ok (.i2l, 1) := by decide +kernel
theorem dX9_law_208 : decode cX9_law 208 = .ok (.invokevirtual 311, 3) := by decide +kernel
theorem dX9_law_211 : decode cX9_law 211 = .ok (.iload 4, 2) := by decide +kernel
theorem dX9_law_213 : decode cX9_law 213 = .ok (.ireturn, 1) := by decide +kernel
theorem dX9_gets_0 : decode cX9_gets 0 = .ok (.iload_n 0, 1) := by decide +kernel
theorem dX9_gets_1 : decode cX9_gets 1 = .ok (.iload_n 1, 1) := by decide +kernel
theorem dX9_gets_2 : decode cX9_gets 2 = .ok (.iadd, 1) := by decide +kernel
theorem dX9_gets_3 : decode cX9_gets 3 = .ok (.iload_n 2, 1) := by decide +kernel
theorem dX9_gets_4 : decode cX9_gets 4 = .ok (.if_icmp .gt 5, 3) := by decide +kernel
theorem dX9_gets_7 : decode cX9_gets 7 = .ok (.iload_n 0, 1) := by decide +kernel
theorem dX9_gets_8 : decode cX9_gets 8 = .ok (.ireturn, 1) := by decide +kernel
theorem dX9_gets_9 : decode cX9_gets 9 = .ok (.iload_n 0, 1) := by decide +kernel
theorem dX9_gets_10 : decode cX9_gets 10 = .ok (.iload_n 1, 1) := by decide +kernel
theorem dX9_gets_11 : decode cX9_gets 11 = .ok (.if_icmp .ge 11, 3) := by decide +kernel
theorem dX9_gets_14 : decode cX9_gets 14 = .ok (.iload_n 0, 1) := by decide +kernel
theorem dX9_gets_15 : decode cX9_gets 15 = .ok (.iload_n 2, 1) := by decide +kernel
theorem dX9_gets_16 : decode cX9_gets 16 = .ok (.invokestatic 153, 3) := by decide +kernel
theorem dX9_gets_19 : decode cX9_gets 19 = .ok (.goto 21, 3) := by decide +kernel
theorem dX9_gets_22 : decode cX9_gets 22 = .ok (.iload_n 0, 1) := by decide +kernel
theorem dX9_gets_23 : decode cX9_gets 23 = .ok (.iload_n 1, 1) := by decide +kernel
theorem dX9_gets_24 : decode cX9_gets 24 = .ok (.if_icmp .le 13, 3) := by decide +kernel
theorem dX9_gets_27 : decode cX9_gets 27 = .ok (.iload_n 2, 1) := by decide +kernel
theorem dX9_gets_28 : decode cX9_gets 28 = .ok (.iload_n 1, 1) := by decide +kernel
theorem dX9_gets_29 : decode cX9_gets 29 = .ok (.iload_n 2, 1) := by decide +kernel
theorem dX9_gets_30 : decode cX9_gets 30 = .ok (.invokestatic 153, 3) := by decide +kernel
theorem dX9_gets_33 : decode cX9_gets 33 = .ok (.isub, 1) := by decide +kernel
theorem dX9_gets_34 : decode cX9_gets 34 = .ok (.goto 6, 3) := by decide +kernel
theorem dX9_gets_37 : decode cX9_gets 37 = .ok (.iload_n 2, 1) := by decide +kernel
theorem dX9_gets_38 : decode cX9_gets 38 = .ok (.iconst 2, 1) := by decide +kernel
theorem dX9_gets_39 : decode cX9_gets 39 = .ok (.idiv, 1) := by decide +kernel
theorem dX9_gets_40 : decode cX9_gets 40 = .ok (.iconst 1, 1) := by decide +kernel
theorem dX9_gets_41 : decode cX9_gets 41 = .ok (.isub, 1) := by decide +kernel
theorem dX9_gets_42 : decode cX9_gets 42 = .ok (.ireturn, 1) := by decide +kernel
theorem dX9_isRest_0 : decode cX9_isRest 0 = .ok (.iconst 1, 1) := by decide +kernel
theorem dX9_isRest_1 : decode cX9_isRest 1 = .ok (.istore_n 3, 1) := by decide +kernel
theorem dX9_isRest_2 : decode cX9_isRest 2 = .ok (.iconst 0, 1) := by decide +kernel
theorem dX9_isRest_3 : decode cX9_isRest 3 = .ok (.istore 4, 2) := by decide +kernel
theorem dX9_isRest_5 : decode cX9_isRest 5 = .ok (.iload 4, 2) := by decide +kernel
theorem dX9_isRest_7 : decode cX9_isRest 7 = .ok (.bipush 9, 2) := by decide +kernel
theorem dX9_isRest_9 : decode cX9_isRest 9 = .ok (.if_icmp .gt 35, 3) := by decide +kernel
theorem dX9_isRest_12 : decode cX9_isRest 12 = .ok (.iload_n 3, 1) := by decide +kernel
theorem dX9_isRest_13 : decode cX9_isRest 13 = .ok (.ifCond .eq 23, 3) := by decide +kernel
theorem dX9_isRest_16 : decode cX9_isRest 16 = .ok (.iload 4, 2) := by decide +kernel
theorem dX9_isRest_18 : decode cX9_isRest 18 = .ok (.iload_n 1, 1) := by decide +kernel
theorem dX9_isRest_19 : decode cX9_isRest 19 = .ok (.iload_n 2, 1) := by decide +kernel
theorem dX9_isRest_20 : decode cX9_isRest 20 = .ok (.invokestatic 422, 3) := by decide +kernel
theorem dX9_isRest_23 : decode cX9_isRest 23 = .ok (.iload_n 0, 1) := by decide +kernel
theorem dX9_isRest_24 : decode cX9_isRest 24 = .ok (.iload_n 1, 1) := by decide +kernel
theorem dX9_isRest_25 : decode cX9_isRest 25 = .ok (.iload_n 2, 1) := by decide +kernel
theorem dX9_isRest_26 : decode cX9_isRest 26 = .ok (.invokestatic 422, 3) := by decide +kernel
theorem dX9_isRest_29 : decode cX9_isRest 29 = .ok (.if_icmp .gt 7, 3) := by decide +kernel
theorem dX9_isRest_32 : decode cX9_isRest 32 = .ok (.iconst 1, 1) := by decide +kernel
theorem dX9_isRest_33 : decode cX9_isRest 33 = .ok (.goto 4, 3) := by decide +kernel
theorem dX9_isRest_36 : decode cX9_isRest 36 = .ok (.iconst 0, 1) := by decide +kernel
theorem dX9_isRest_37 : decode cX9_isRest 37 = .ok (.istore_n 3, 1) := by decide +kernel
theorem dX9_isRest_38 : decode cX9_isRest 38 = .ok (.iinc 4 1, 3) := by decide +kernel
theorem dX9_isRest_41 : decode cX9_isRest 41 = .ok (.goto (-36), 3) := by decide +kernel
theorem dX9_isRest_44 : decode cX9_isRest 44 = .ok (.iload_n 3, 1) := by decide +kernel
theorem dX9_isRest_45 : decode cX9_isRest 45 = .ok (.ireturn, 1) := by decide +kernel
theorem dX9_rests_0 : decode cX9_rests 0 = .ok (.aload_n 0, 1) := by decide +kernel
theorem dX9_rests_1 : decode cX9_rests 1 = .ok (.iconst 0, 1) := by decide +kernel
theorem dX9_rests_2 : decode cX9_rests 2 = .ok (.putfield 3, 3) := by decide +kernel
theorem dX9_rests_5 : decode cX9_rests 5 = .ok (.iload_n 1, 1) := by decide +kernel
theorem dX9_rests_6 : decode cX9_rests 6 = .ok (.i2l, 1) := by decide +kernel
theorem dX9_rests_7 : decode cX9_rests 7 = .ok (.lconst 0, 1) := by decide +kernel
theorem dX9_rests_8 : decode cX9_rests 8 = .ok (.ldc2_w 425, 3) := by decide +kernel
theorem dX9_rests_11 : decode cX9_rests 11 = .ok (.invokestatic 104, 3) := by decide +kernel
theorem dX9_rests_14 : decode cX9_rests 14 = .ok (.ifCond .ne 5, 3) := by decide +kernel
theorem dX9_rests_17 : decode cX9_rests 17 = .ok (.iconst (-1), 1) := by decide +kernel
theorem dX9_rests_18 : decode cX9_rests 18 = .ok (.ireturn, 1) := by decide +kernel
theorem dX9_rests_19 : decode cX9_rests 19 = .ok (.iconst 0, 1) := by decide +kernel
theorem dX9_rests_20 : decode cX9_rests 20 = .ok (.istore_n 2, 1) := by decide +kernel
theorem dX9_rests_21 : decode cX9_rests 21 = .ok (.aload_n 0, 1) := by decide +kernel
theorem dX9_rests_22 : decode cX9_rests 22 = .ok (.iconst 0, 1) := by decide +kernel
theorem dX9_rests_23 : decode cX9_rests 23 = .ok (.putfield 15, 3) := by decide +kernel
theorem dX9_rests_26 : decode cX9_rests 26 = .ok (.iconst 0, 1) := by decide +kernel
theorem dX9_rests_27 : decode cX9_rests 27 = .ok (.istore_n 3, 1) := by decide +kernel
theorem dX9_rests_28 : decode cX9_rests 28 = .ok (.iload_n 3, 1) := by decide +kernel
theorem dX9_rests_29 : decode cX9_rests 29 = .ok (.bipush 9, 2) := by decide +kernel
theorem dX9_rests_31 : decode cX9_rests 31 = .ok (.if_icmp .gt 65, 3) := by decide +kernel
theorem dX9_rests_34 : decode cX9_rests 34 = .ok (.iconst 0, 1) := by decide +kernel
theorem dX9_rests_35 : decode cX9_rests 35 = .ok (.istore 4, 2) := by decide +kernel
theorem dX9_rests_37 : decode cX9_rests 37 = .ok (.iload 4, 2) := by decide +kernel
theorem dX9_rests_39 : decode cX9_rests 39 = .ok (.bipush 9, 2) := by decide +kernel
theorem dX9_rests_41 : decode cX9_rests 41 = .ok (.if_icmp .gt 49, 3) := by decide +kernel
theorem dX9_rests_44 : decode cX9_rests 44 = .ok (.iload_n 3, 1) := by decide +kernel
theorem dX9_rests_45 : decode cX9_rests 45 = .ok (.iload 4, 2) := by decide +kernel
theorem dX9_rests_47 : decode cX9_rests 47 = .ok (.iload_n 1, 1) := by decide +kernel
theorem dX9_rests_48 : decode cX9_rests 48 = .ok (.invokestatic 427, 3) := by decide +kernel
theorem dX9_rests_51 : decode cX9_rests 51 = .ok (.ifCond .eq 33, 3) := by decide +kernel
theorem dX9_rests_54 : decode cX9_rests 54 = .ok (.iload 4, 2) := by decide +kernel
theorem dX9_rests_56 : decode cX9_rests 56 = .ok (.iload_n 3, 1) := by decide +kernel
theorem dX9_rests_57 : decode cX9_rests 57 = .ok (.iload_n 1, 1) := by decide +kernel
theorem dX9_rests_58 : decode cX9_rests 58 = .ok (.invokestatic 427, 3) := by decide +kernel
theorem dX9_rests_61 : decode cX9_rests 61 = .ok (.ifCond .eq 23, 3) := by decide +kernel
theorem dX9_rests_64 : decode cX9_rests 64 = .ok (.iload_n 2, 1) := by decide +kernel
theorem dX9_rests_65 : decode cX9_rests 65 = .ok (.ifCond .ne 16, 3) := by decide +kernel
theorem dX9_rests_68 : decode cX9_rests 68 = .ok (.aload_n 0, 1) := by decide +kernel
theorem dX9_rests_69 : decode cX9_rests 69 = .ok (.iload_n 3, 1) := by decide +kernel
theorem dX9_rests_70 : decode cX9_rests 70 = .ok (.i2l, 1) := by decide +kernel
theorem dX9_rests_71 : decode cX9_rests 71 = .ok (.invokevirtual 311, 3) := by decide +kernel
theorem dX9_rests_74 : decode cX9_rests 74 = .ok (.aload_n 0, 1) := by decide +kernel
theorem dX9_rests_75 : decode cX9_rests 75 = .ok (.iload 4, 2) := by decide +kernel
theorem dX9_rests_77 : decode cX9_rests 77 = .ok (.i2l, 1) := by decide +kernel
theorem dX9_rests_78 : decode cX9_rests 78 = .ok (.invokevirtual 311, 3) := by decide +kernel
theorem dX9_rests_81 : decode cX9_rests 81 = .ok (.iinc 2 1, 3) := by decide +kernel
theorem dX9_rests_84 : decode cX9_rests 84 = .ok (.iinc 4 1, 3) := by decide +kernel
theorem dX9_rests_87 : decode cX9_rests 87 = .ok (.goto (-50), 3) := by decide +kernel
theorem dX9_rests_90 : decode cX9_rests 90 = .ok (.iinc 3 1, 3) := by decide +kernel
theorem dX9_rests_93 : decode cX9_rests 93 = .ok (.goto (-65), 3) := by decide +kernel
theorem dX9_rests_96 : decode cX9_rests 96 = .ok (.iload_n 2, 1) := by decide +kernel
theorem dX9_rests_97 : decode cX9_rests 97 = .ok (.ireturn, 1) := by decide +kernel
theorem dX9_drawn_0 : decode cX9_drawn 0 = .ok (.aload_n 0, 1) := by decide +kernel
theorem dX9_drawn_1 : decode cX9_drawn 1 = .ok (.aload_n 0, 1) := by decide +kernel
theorem dX9_drawn_2 : decode cX9_drawn 2 = .ok (.getfield 430, 3) := by decide +kernel
theorem dX9_drawn_5 : decode cX9_drawn 5 = .ok (.ldc_w 433, 3) := by decide +kernel
theorem dX9_drawn_8 : decode cX9_drawn 8 = .ok (.imul, 1) := by decide +kernel
theorem dX9_drawn_9 : decode cX9_drawn 9 = .ok (.sipush 12345, 3) := by decide +kernel
theorem dX9_drawn_12 : decode cX9_drawn 12 = .ok (.iadd, 1) := by decide +kernel
theorem dX9_drawn_13 : decode cX9_drawn 13 = .ok (.putfield 430, 3) := by decide +kernel
theorem dX9_drawn_16 : decode cX9_drawn 16 = .ok (.aload_n 0, 1) := by decide +kernel
theorem dX9_drawn_17 : decode cX9_drawn 17 = .ok (.getfield 430, 3) := by decide +kernel
theorem dX9_drawn_20 : decode cX9_drawn 20 = .ok (.bipush 16, 2) := by decide +kernel
theorem dX9_drawn_22 : decode cX9_drawn 22 = .ok (.iushr, 1) := by decide +kernel
theorem dX9_drawn_23 : decode cX9_drawn 23 = .ok (.iload_n 1, 1) := by decide +kernel
theorem dX9_drawn_24 : decode cX9_drawn 24 = .ok (.irem, 1) := by decide +kernel
theorem dX9_drawn_25 : decode cX9_drawn 25 = .ok (.ireturn, 1) := by decide +kernel
theorem dX9_years_0 : decode cX9_years 0 = .ok (.aload_n 0, 1) := by decide +kernel
theorem dX9_years_1 : decode cX9_years 1 = .ok (.iconst 0, 1) := by decide +kernel
theorem dX9_years_2 : decode cX9_years 2 = .ok (.putfield 3, 3) := by decide +kernel
theorem dX9_years_5 : decode cX9_years 5 = .ok (.iload_n 2, 1) := by decide +kernel
theorem dX9_years_6 : decode cX9_years 6 = .ok (.i2l, 1) := by decide +kernel
theorem dX9_years_7 : decode cX9_years 7 = .ok (.lconst 1, 1) := by decide +kernel
theorem dX9_years_8 : decode cX9_years 8 = .ok (.ldc2_w 303, 3) := by decide +kernel
theorem dX9_years_11 : decode cX9_years 11 = .ok (.invokestatic 104, 3) := by decide +kernel
theorem dX9_years_14 : decode cX9_years 14 = .ok (.ifCond .ne 5, 3) := by decide +kernel
theorem dX9_years_17 : decode cX9_years 17 = .ok (.iconst (-1), 1) := by decide +kernel
theorem dX9_years_18 : decode cX9_years 18 = .ok (.ireturn, 1) := by decide +kernel
theorem dX9_years_19 : decode cX9_years 19 = .ok (.aload_n 0, 1) := by decide +kernel
theorem dX9_years_20 : decode cX9_years 20 = .ok (.iload_n 1, 1) := by decide +kernel
theorem dX9_years_21 : decode cX9_years 21 = .ok (.putfield 430, 3) := by decide +kernel
theorem dX9_years_24 : decode cX9_years 24 = .ok (.aload_n 0, 1) := by decide +kernel
theorem dX9_years_25 : decode cX9_years 25 = .ok (.getfield 28, 3) := by decide +kernel
theorem dX9_years_28 : decode cX9_years 28 = .ok (.aload_n 0, 1) := by decide +kernel
theorem dX9_years_29 : decode cX9_years 29 = .ok (.getfield 24, 3) := by decide +kernel
theorem dX9_years_32 : decode cX9_years 32 = .ok (.invokestatic 194, 3) := by decide +kernel
theorem dX9_years_35 : decode cX9_years 35 = .ok (.iconst 0, 1) := by decide +kernel
theorem dX9_years_36 : decode cX9_years 36 = .ok (.istore_n 3, 1) := by decide +kernel
theorem dX9_years_37 : decode cX9_years 37 = .ok (.iload_n 3, 1) := by decide +kernel
theorem dX9_years_38 : decode cX9_years 38 = .ok (.iload_n 2, 1) := by decide +kernel
theorem dX9_years_39 : decode cX9_years 39 = .ok (.if_icmp .ge 132, 3) := by decide +kernel
theorem dX9_years_42 : decode cX9_years 42 = .ok (.aload_n 0, 1) := by decide +kernel
theorem dX9_years_43 : decode cX9_years 43 = .ok (.iconst 4, 1) := by decide +kernel
theorem dX9_years_44 : decode cX9_years 44 = .ok (.invokevirtual 434, 3) := by decide +kernel
theorem dX9_years_47 : decode cX9_years 47 = .ok (.istore 4, 2) := by decide +kernel
theorem dX9_years_49 : decode cX9_years 49 = .ok (.iload 4, 2) := by decide +kernel
theorem dX9_years_51 : decode cX9_years 51 = .ok (.iconst 2, 1) := by decide +kernel
theorem dX9_years_52 : decode cX9_years 52 = .ok (.if_icmp .ge 15, 3) := by decide +kernel
theorem dX9_years_55 : decode cX9_years 55 = .ok (.aload_n 0, 1) := by decide +kernel
theorem dX9_years_56 : decode cX9_years 56 = .ok (.aload_n 0, 1) := by decide +kernel
theorem dX9_years_57 : decode cX9_years 57 = .ok (.getfield 28, 3) := by decide +kernel
theorem dX9_years_60 : decode cX9_years 60 = .ok (.invokevirtual 293, 3) := by decide +kernel
theorem dX9_years_63 : decode cX9_years 63 = .ok (.pop, 1) := by decide +kernel
theorem dX9_years_64 : decode cX9_years 64 = .ok (.goto 101, 3) := by decide +kernel
theorem dX9_years_67 : decode cX9_years 67 = .ok (.iload 4, 2) := by decide +kernel
theorem dX9_years_69 : decode cX9_years 69 = .ok (.iconst 2, 1) := by decide +kernel
theorem dX9_years_70 : decode cX9_years 70 = .ok (.if_icmp .ne 40, 3) := by decide +kernel
theorem dX9_years_73 : decode cX9_years 73 = .ok (.aload_n 0, 1) := by decide +kernel
theorem dX9_years_74 : decode cX9_years 74 = .ok (.aload_n 0, 1) := by decide +kernel
theorem dX9_years_75 : decode cX9_years 75 = .ok (.getfield 28, 3) := by decide +kernel
theorem dX9_years_78 : decode cX9_years 78 = .ok (.bipush 6, 2) := by decide +kernel
theorem dX9_years_80 : decode cX9_years 80 = .ok (.iaload, 1) := by decide +kernel
theorem dX9_years_81 : decode cX9_years 81 = .ok (.invokevirtual 434, 3) := by decide +kernel
theorem dX9_years_84 : decode cX9_years 84 = .ok (.istore 5, 2) := by decide +kernel
theorem dX9_years_86 : decode cX9_years 86 = .ok (.aload_n 0, 1) := by decide +kernel
theorem dX9_years_87 : decode cX9_years 87 = .ok (.getfield 28, 3) := by decide +kernel
theorem dX9_years_90 : decode cX9_years 90 = .ok (.iload 5, 2) := by decide +kernel
theorem dX9_years_92 : decode cX9_years 92 = .ok (.aload_n 0, 1) := by decide +kernel
theorem dX9_years_93 : decode cX9_years 93 = .ok (.aload_n 0, 1) := by decide +kernel
theorem dX9_years_94 : decode cX9_years 94 = .ok (.getfield 28, 3) := by decide +kernel
theorem dX9_years_97 : decode cX9_years 97 = .ok (.bipush 7, 2) := by decide +kernel
theorem dX9_years_99 : decode cX9_years 99 = .ok (.iaload, 1) := by decide +kernel
theorem dX9_years_100 : decode cX9_years 100 = .ok (.invokevirtual 434, 3) := by decide +kernel
theorem dX9_years_103 : decode cX9_years 103 = .ok (.invokestatic 328, 3) := by decide +kernel
theorem dX9_years_106 : decode cX9_years 106 = .ok (.pop, 1) := by decide +kernel
theorem dX9_years_107 : decode cX9_years 107 = .ok (.goto 58, 3) := by decide +kernel
theorem dX9_years_110 : decode cX9_years 110 = .ok (.aload_n 0, 1) := by decide +kernel
theorem dX9_years_111 : decode cX9_years 111 = .ok (.iconst 2, 1) := by decide +kernel
theorem dX9_years_112 : decode cX9_years 112 = .ok (.invokevirtual 434, 3) := by decide +kernel
theorem dX9_years_115 : decode cX9_years 115 = .ok (.istore 5, 2) := by decide +kernel
theorem dX9_years_117 : decode cX9_years 117 = .ok (.aload_n 0, 1) := by decide +kernel
theorem dX9_years_118 : decode cX9_years 118 = .ok (.aload_n 0, 1) := by decide +kernel
theorem dX9_years_119 : decode cX9_years 119 = .ok (.getfield 28, 3) := by decide +kernel
theorem dX9_years_122 : decode cX9_years 122 = .ok (.iload 5, 2) := by decide +kernel
theorem dX9_years_124 : decode cX9_years 124 = .ok (.invokestatic 108, 3) := by decide +kernel
theorem dX9_years_127 : decode cX9_years 127 = .ok (.iconst 1, 1) := by decide +kernel
theorem dX9_years_128 : decode cX9_years 128 = .ok (.iadd, 1) := by decide +kernel
theorem dX9_years_129 : decode cX9_years 129 = .ok (.invokevirtual 434, 3) := by decide +kernel
theorem dX9_years_132 : decode cX9_years 132 = .ok (.istore 6, 2) := by decide +kernel
theorem dX9_years_134 : decode cX9_years 134 = .ok (.aload_n 0, 1) := by decide +kernel
theorem dX9_years_135 : decode cX9_years 135 = .ok (.getfield 28, 3) := by decide +kernel
theorem dX9_years_138 : decode cX9_years 138 = .ok (.iload 5, 2) := by decide +kernel
theorem dX9_years_140 : decode cX9_years 140 = .ok (.iload 6, 2) := by decide +kernel
theorem dX9_years_142 : decode cX9_years 142 = .ok (.aload_n 0, 1) := by decide +kernel
theorem dX9_years_143 : decode cX9_years 143 = .ok (.bipush 64, 2) := by decide +kernel
theorem dX9_years_145 : decode cX9_years 145 = .ok (.invokevirtual 434, 3) := by decide +kernel
theorem dX9_years_148 : decode cX9_years 148 = .ok (.aload_n 0, 1) := by decide +kernel
theorem dX9_years_149 : decode cX9_years 149 = .ok (.getfield 28, 3) := by decide +kernel
theorem dX9_years_152 : decode cX9_years 152 = .ok (.iload 5, 2) := by decide +kernel
theorem dX9_years_154 : decode cX9_years 154 = .ok (.invokestatic 124, 3) := by decide +kernel
theorem dX9_years_157 : decode cX9_years 157 = .ok (.invokestatic 127, 3) := by decide +kernel
theorem dX9_years_160 : decode cX9_years 160 = .ok (.iand, 1) := by decide +kernel
theorem dX9_years_161 : decode cX9_years 161 = .ok (.invokestatic 318, 3) := by decide +kernel
theorem dX9_years_164 : decode cX9_years 164 = .ok (.pop, 1) := by decide +kernel
theorem dX9_years_165 : decode cX9_years 165 = .ok (.iinc 3 1, 3) := by decide +kernel
theorem dX9_years_168 : decode cX9_years 168 = .ok (.goto (-131), 3) := by decide +kernel
theorem dX9_years_171 : decode cX9_years 171 = .ok (.aload_n 0, 1) := by decide +kernel
theorem dX9_years_172 : decode cX9_years 172 = .ok (.iconst 0, 1) := by decide +kernel
theorem dX9_years_173 : decode cX9_years 173 = .ok (.putfield 15, 3) := by decide +kernel
theorem dX9_years_176 : decode cX9_years 176 = .ok (.aload_n 0, 1) := by decide +kernel
theorem dX9_years_177 : decode cX9_years 177 = .ok (.aload_n 0, 1) := by decide +kernel
theorem dX9_years_178 : decode cX9_years 178 = .ok (.getfield 28, 3) := by decide +kernel
theorem dX9_years_181 : decode cX9_years 181 = .ok (.invokestatic 300, 3) := by decide +kernel
theorem dX9_years_184 : decode cX9_years 184 = .ok (.i2l, 1) := by decide +kernel
theorem dX9_years_185 : decode cX9_years 185 = .ok (.invokevirtual 311, 3) := by decide +kernel
theorem dX9_years_188 : decode cX9_years 188 = .ok (.aload_n 0, 1) := by decide +kernel
theorem dX9_years_189 : decode cX9_years 189 = .ok (.aload_n 0, 1) := by decide +kernel
theorem dX9_years_190 : decode cX9_years 190 = .ok (.aload_n 0, 1) := by decide +kernel
theorem dX9_years_191 : decode cX9_years 191 = .ok (.getfield 28, 3) := by decide +kernel
theorem dX9_years_194 : decode cX9_years 194 = .ok (.invokevirtual 362, 3) := by decide +kernel
theorem dX9_years_197 : decode cX9_years 197 = .ok (.invokestatic 116, 3) := by decide +kernel
theorem dX9_years_200 : decode cX9_years 200 = .ok (.i2l, 1) := by decide +kernel
theorem dX9_years_201 : decode cX9_years 201 = .ok (.invokevirtual 311, 3) := by decide +kernel
theorem dX9_years_204 : decode cX9_years 204 = .ok (.aload_n 0, 1) := by decide +kernel
theorem dX9_years_205 : decode cX9_years 205 = .ok (.getfield 28, 3) := by decide +kernel
theorem dX9_years_208 : decode cX9_years 208 = .ok (.invokestatic 315, 3) := by decide +kernel
theorem dX9_years_211 : decode cX9_years 211 = .ok (.ireturn, 1) := by decide +kernel
theorem dX9_keep_0 : decode cX9_keep 0 = .ok (.aload_n 0, 1) := by decide +kernel
theorem dX9_keep_1 : decode cX9_keep 1 = .ok (.iconst 0, 1) := by decide +kernel
theorem dX9_keep_2 : decode cX9_keep 2 = .ok (.putfield 3, 3) := by decide +kernel
theorem dX9_keep_5 : decode cX9_keep 5 = .ok (.iload_n 1, 1) := by decide +kernel
theorem dX9_keep_6 : decode cX9_keep 6 = .ok (.i2l, 1) := by decide +kernel
theorem dX9_keep_7 : decode cX9_keep 7 = .ok (.lconst 0, 1) := by decide +kernel
theorem dX9_keep_8 : decode cX9_keep 8 = .ok (.ldc2_w 437, 3) := by decide +kernel
theorem dX9_keep_11 : decode cX9_keep 11 = .ok (.invokestatic 104, 3) := by decide +kernel
theorem dX9_keep_14 : decode cX9_keep 14 = .ok (.ifCond .ne 5, 3) := by decide +kernel
theorem dX9_keep_17 : decode cX9_keep 17 = .ok (.iconst 0, 1) := by decide +kernel
theorem dX9_keep_18 : decode cX9_keep 18 = .ok (.ireturn, 1) := by decide +kernel
theorem dX9_keep_19 : decode cX9_keep 19 = .ok (.aload_n 0, 1) := by decide +kernel
theorem dX9_keep_20 : decode cX9_keep 20 = .ok (.getfield 95, 3) := by decide +kernel
theorem dX9_keep_23 : decode cX9_keep 23 = .ok (.iload_n 1, 1) := by decide +kernel
theorem dX9_keep_24 : decode cX9_keep 24 = .ok (.iconst 1, 1) := by decide +kernel
theorem dX9_keep_25 : decode cX9_keep 25 = .ok (.bastore, 1) := by decide +kernel
theorem dX9_keep_26 : decode cX9_keep 26 = .ok (.aload_n 0, 1) := by decide +kernel
theorem dX9_keep_27 : decode cX9_keep 27 = .ok (.getfield 98, 3) := by decide +kernel
theorem dX9_keep_30 : decode cX9_keep 30 = .ok (.iload_n 1, 1) := by decide +kernel
theorem dX9_keep_31 : decode cX9_keep 31 = .ok (.aload_n 0, 1) := by decide +kernel
theorem dX9_keep_32 : decode cX9_keep 32 = .ok (.getfield 201, 3) := by decide +kernel
theorem dX9_keep_35 : decode cX9_keep 35 = .ok (.iastore, 1) := by decide +kernel
theorem dX9_keep_36 : decode cX9_keep 36 = .ok (.iconst 0, 1) := by decide +kernel
theorem dX9_keep_37 : decode cX9_keep 37 = .ok (.istore_n 2, 1) := by decide +kernel
theorem dX9_keep_38 : decode cX9_keep 38 = .ok (.iload_n 2, 1) := by decide +kernel
theorem dX9_keep_39 : decode cX9_keep 39 = .ok (.bipush 9, 2) := by decide +kernel
theorem dX9_keep_41 : decode cX9_keep 41 = .ok (.if_icmp .ge 26, 3) := by decide +kernel
theorem dX9_keep_44 : decode cX9_keep 44 = .ok (.aload_n 0, 1) := by decide +kernel
theorem dX9_keep_45 : decode cX9_keep 45 = .ok (.getfield 101, 3) := by decide +kernel
theorem dX9_keep_48 : decode cX9_keep 48 = .ok (.bipush 9, 2) := by decide +kernel
theorem dX9_keep_50 : decode cX9_keep 50 = .ok (.iload_n 1, 1) := by decide +kernel
theorem dX9_keep_51 : decode cX9_keep 51 = .ok (.imul, 1) := by decide +kernel
theorem dX9_keep_52 : decode cX9_keep 52 = .ok (.iload_n 2, 1) := by decide +kernel
theorem dX9_keep_53 : decode cX9_keep 53 = .ok (.iadd, 1) := by decide +kernel
theorem dX9_keep_54 : decode cX9_keep 54 = .ok (.aload_n 0, 1) := by decide +kernel
theorem dX9_keep_55 : decode cX9_keep 55 = .ok (.getfield 24, 3) := by decide +kernel
theorem dX9_keep_58 : decode cX9_keep 58 = .ok (.iload_n 2, 1) := by decide +kernel
theorem dX9_keep_59 : decode cX9_keep 59 = .ok (.iaload, 1) := by decide +kernel
theorem dX9_keep_60 : decode cX9_keep 60 = .ok (.iastore, 1) := by decide +kernel
theorem dX9_keep_61 : decode cX9_keep 61 = .ok (.iinc 2 1, 3) := by decide +kernel
theorem dX9_keep_64 : decode cX9_keep 64 = .ok (.goto (-26), 3) := by decide +kernel
theorem dX9_keep_67 : decode cX9_keep 67 = .ok (.iconst 1, 1) := by decide +kernel
theorem dX9_keep_68 : decode cX9_keep 68 = .ok (.ireturn, 1) := by decide +kernel
theorem dX9_again_0 : decode cX9_again 0 = .ok (.aload_n 0, 1) := by decide +kernel
theorem dX9_again_1 : decode cX9_again 1 = .ok (.iconst 0, 1) := by decide +kernel
theorem dX9_again_2 : decode cX9_again 2 = .ok (.putfield 3, 3) := by decide +kernel
theorem dX9_again_5 : decode cX9_again 5 = .ok (.iload_n 1, 1) := by decide +kernel
theorem dX9_again_6 : decode cX9_again 6 = .ok (.i2l, 1) := by decide +kernel
theorem dX9_again_7 : decode cX9_again 7 = .ok (.lconst 0, 1) := by decide +kernel
theorem dX9_again_8 : decode cX9_again 8 = .ok (.ldc2_w 437, 3) := by decide +kernel
theorem dX9_again_11 : decode cX9_again 11 = .ok (.invokestatic 104, 3) := by decide +kernel
theorem dX9_again_14 : decode cX9_again 14 = .ok (.ifCond .eq 25, 3) := by decide +kernel
theorem dX9_again_17 : decode cX9_again 17 = .ok (.aload_n 0, 1) := by decide +kernel
theorem dX9_again_18 : decode cX9_again 18 = .ok (.getfield 95, 3) := by decide +kernel
theorem dX9_again_21 : decode cX9_again 21 = .ok (.iload_n 1, 1) := by decide +kernel
theorem dX9_again_22 : decode cX9_again 22 = .ok (.baload, 1) := by decide +kernel
theorem dX9_again_23 : decode cX9_again 23 = .ok (.ifCond .eq 16, 3) := by decide +kernel
theorem dX9_again_26 : decode cX9_again 26 = .ok (.aload_n 0, 1) := by decide +kernel
theorem dX9_again_27 : decode cX9_again 27 = .ok (.getfield 98, 3) := by decide +kernel
theorem dX9_again_30 : decode cX9_again 30 = .ok (.iload_n 1, 1) := by decide +kernel
theorem dX9_again_31 : decode cX9_again 31 = .ok (.iaload, 1) := by decide +kernel
theorem dX9_again_32 : decode cX9_again 32 = .ok (.aload_n 0, 1) := by decide +kernel
theorem dX9_again_33 : decode cX9_again 33 = .ok (.getfield 201, 3) := by decide +kernel
theorem dX9_again_36 : decode cX9_again 36 = .ok (.if_icmp .eq 5, 3) := by decide +kernel
theorem dX9_again_39 : decode cX9_again 39 = .ok (.iconst 0, 1) := by decide +kernel
theorem dX9_again_40 : decode cX9_again 40 = .ok (.ireturn, 1) := by decide +kernel
theorem dX9_again_41 : decode cX9_again 41 = .ok (.iconst 0, 1) := by decide +kernel
theorem dX9_again_42 : decode cX9_again 42 = .ok (.istore_n 2, 1) := by decide +kernel
theorem dX9_again_43 : decode cX9_again 43 = .ok (.iload_n 2, 1) := by decide +kernel
theorem dX9_again_44 : decode cX9_again 44 = .ok (.bipush 9, 2) := by decide +kernel
theorem dX9_again_46 : decode cX9_again 46 = .ok (.if_icmp .ge 26, 3) := by decide +kernel
theorem dX9_again_49 : decode cX9_again 49 = .ok (.aload_n 0, 1) := by decide +kernel
theorem dX9_again_50 : decode cX9_again 50 = .ok (.getfield 24, 3) := by decide +kernel
theorem dX9_again_53 : decode cX9_again 53 = .ok (.iload_n 2, 1) := by decide +kernel
theorem dX9_again_54 : decode cX9_again 54 = .ok (.aload_n 0, 1) := by decide +kernel
theorem dX9_again_55 : decode cX9_again 55 = .ok (.getfield 101, 3) := by decide +kernel
theorem dX9_again_58 : decode cX9_again 58 = .ok (.bipush 9, 2) := by decide +kernel
theorem dX9_again_60 : decode cX9_again 60 = .ok (.iload_n 1, 1) := by decide +kernel
theorem dX9_again_61 : decode cX9_again 61 = .ok (.imul, 1) := by decide +kernel
theorem dX9_again_62 : decode cX9_again 62 = .ok (.iload_n 2, 1) := by decide +kernel
theorem dX9_again_63 : decode cX9_again 63 = .ok (.iadd, 1) := by decide +kernel
theorem dX9_again_64 : decode cX9_again 64 = .ok (.iaload, 1) := by decide +kernel
theorem dX9_again_65 : decode cX9_again 65 = .ok (.iastore, 1) := by decide +kernel
theorem dX9_again_66 : decode cX9_again 66 = .ok (.iinc 2 1, 3) := by decide +kernel
theorem dX9_again_69 : decode cX9_again 69 = .ok (.goto (-26), 3) := by decide +kernel
theorem dX9_again_72 : decode cX9_again 72 = .ok (.aload_n 0, 1) := by decide +kernel
theorem dX9_again_73 : decode cX9_again 73 = .ok (.iconst 0, 1) := by decide +kernel
theorem dX9_again_74 : decode cX9_again 74 = .ok (.putfield 198, 3) := by decide +kernel
theorem dX9_again_77 : decode cX9_again 77 = .ok (.iconst 1, 1) := by decide +kernel
theorem dX9_again_78 : decode cX9_again 78 = .ok (.ireturn, 1) := by decide +kernel
theorem dX9_count_0 : decode cX9_count 0 = .ok (.aload_n 0, 1) := by decide +kernel
theorem dX9_count_1 : decode cX9_count 1 = .ok (.iconst 0, 1) := by decide +kernel
theorem dX9_count_2 : decode cX9_count 2 = .ok (.putfield 3, 3) := by decide +kernel
theorem dX9_count_5 : decode cX9_count 5 = .ok (.iload_n 1, 1) := by decide +kernel
theorem dX9_count_6 : decode cX9_count 6 = .ok (.tableswitch 98 0 7 #[46, 54, 62, 70, 78, 83, 88, 93], 46) := by decide +kernel
theorem dX9_count_52 : decode cX9_count 52 = .ok (.aload_n 0, 1) := by decide +kernel
theorem dX9_count_53 : decode cX9_count 53 = .ok (.getfield 24, 3) := by decide +kernel
theorem dX9_count_56 : decode cX9_count 56 = .ok (.bipush 6, 2) := by decide +kernel
theorem dX9_count_58 : decode cX9_count 58 = .ok (.iaload, 1) := by decide +kernel
theorem dX9_count_59 : decode cX9_count 59 = .ok (.ireturn, 1) := by decide +kernel
theorem dX9_count_60 : decode cX9_count 60 = .ok (.aload_n 0, 1) := by decide +kernel
theorem dX9_count_61 : decode cX9_count 61 = .ok (.getfield 24, 3) := by decide +kernel
theorem dX9_count_64 : decode cX9_count 64 = .ok (.bipush 7, 2) := by decide +kernel
theorem dX9_count_66 : decode cX9_count 66 = .ok (.iaload, 1) := by decide +kernel
theorem dX9_count_67 : decode cX9_count 67 = .ok (.ireturn, 1) := by decide +kernel
theorem dX9_count_68 : decode cX9_count 68 = .ok (.aload_n 0, 1) := by decide +kernel
theorem dX9_count_69 : decode cX9_count 69 = .ok (.getfield 24, 3) := by decide +kernel
theorem dX9_count_72 : decode cX9_count 72 = .ok (.bipush 8, 2) := by decide +kernel
theorem dX9_count_74 : decode cX9_count 74 = .ok (.iaload, 1) := by decide +kernel
theorem dX9_count_75 : decode cX9_count 75 = .ok (.ireturn, 1) := by decide +kernel
theorem dX9_count_76 : decode cX9_count 76 = .ok (.aload_n 0, 1) := by decide +kernel
theorem dX9_count_77 : decode cX9_count 77 = .ok (.getfield 24, 3) := by decide +kernel
theorem dX9_count_80 : decode cX9_count 80 = .ok (.invokestatic 300, 3) := by decide +kernel
theorem dX9_count_83 : decode cX9_count 83 = .ok (.ireturn, 1) := by decide +kernel
theorem dX9_count_84 : decode cX9_count 84 = .ok (.aload_n 0, 1) := by decide +kernel
theorem dX9_count_85 : decode cX9_count 85 = .ok (.getfield 413, 3) := by decide +kernel
theorem dX9_count_88 : decode cX9_count 88 = .ok (.ireturn, 1) := by decide +kernel
theorem dX9_count_89 : decode cX9_count 89 = .ok (.aload_n 0, 1) := by decide +kernel
theorem dX9_count_90 : decode cX9_count 90 = .ok (.getfield 198, 3) := by decide +kernel
theorem dX9_count_93 : decode cX9_count 93 = .ok (.ireturn, 1) := by decide +kernel
theorem dX9_count_94 : decode cX9_count 94 = .ok (.aload_n 0, 1) := by decide +kernel
theorem dX9_count_95 : decode cX9_count 95 = .ok (.getfield 15, 3) := by decide +kernel
theorem dX9_count_98 : decode cX9_count 98 = .ok (.ireturn, 1) := by decide +kernel
theorem dX9_count_99 : decode cX9_count 99 = .ok (.aload_n 0, 1) := by decide +kernel
theorem dX9_count_100 : decode cX9_count 100 = .ok (.getfield 144, 3) := by decide +kernel
theorem dX9_count_103 : decode cX9_count 103 = .ok (.ireturn, 1) := by decide +kernel
theorem dX9_count_104 : decode cX9_count 104 = .ok (.bipush (-100), 2) := by decide +kernel
theorem dX9_count_106 : decode cX9_count 106 = .ok (.ireturn, 1) := by decide +kernel
theorem dX9_row_0 : decode cX9_row 0 = .ok (.aload_n 0, 1) := by decide +kernel
theorem dX9_row_1 : decode cX9_row 1 = .ok (.iconst 0, 1) := by decide +kernel
theorem dX9_row_2 : decode cX9_row 2 = .ok (.putfield 3, 3) := by decide +kernel
theorem dX9_row_5 : decode cX9_row 5 = .ok (.iload_n 1, 1) := by decide +kernel
theorem dX9_row_6 : decode cX9_row 6 = .ok (.i2l, 1) := by decide +kernel
theorem dX9_row_7 : decode cX9_row 7 = .ok (.lconst 0, 1) := by decide +kernel
theorem dX9_row_8 : decode cX9_row 8 = .ok (.aload_n 0, 1) := by decide +kernel
theorem dX9_row_9 : decode cX9_row 9 = .ok (.getfield 15, 3) := by decide +kernel
theorem dX9_row_12 : decode cX9_row 12 = .ok (.iconst 1, 1) := by decide +kernel
theorem dX9_row_13 : decode cX9_row 13 = .ok (.isub, 1) := by decide +kernel
theorem dX9_row_14 : decode cX9_row 14 = .ok (.i2l, 1) := by decide +kernel
theorem dX9_row_15 : decode cX9_row 15 = .ok (.invokestatic 104, 3) := by decide +kernel
theorem dX9_row_18 : decode cX9_row 18 = .ok (.ifCond .ne 10, 3) := by decide +kernel
theorem dX9_row_21 : decode cX9_row 21 = .ok (.aload_n 0, 1) := by decide +kernel
theorem dX9_row_22 : decode cX9_row 22 = .ok (.iconst 1, 1) := by decide +kernel
theorem dX9_row_23 : decode cX9_row 23 = .ok (.putfield 3, 3) := by decide +kernel
theorem dX9_row_26 : decode cX9_row 26 = .ok (.lconst 0, 1) := by decide +kernel
theorem dX9_row_27 : decode cX9_row 27 = .ok (.lreturn, 1) := by decide +kernel
theorem dX9_row_28 : decode cX9_row 28 = .ok (.aload_n 0, 1) := by decide +kernel
theorem dX9_row_29 : decode cX9_row 29 = .ok (.getfield 11, 3) := by decide +kernel
theorem dX9_row_32 : decode cX9_row 32 = .ok (.iload_n 1, 1) := by decide +kernel
theorem dX9_row_33 : decode cX9_row 33 = .ok (.laload, 1) := by decide +kernel
theorem dX9_row_34 : decode cX9_row 34 = .ok (.lreturn, 1) := by decide +kernel
theorem dJ6_numberOfTrailingZeros_0f7a4_0 : decode cJ6_numberOfTrailingZeros_0f7a4 0 = .ok (.iload_n 0, 1) := by decide +kernel
theorem dJ6_numberOfTrailingZeros_0f7a4_1 : decode cJ6_numberOfTrailingZeros_0f7a4 1 = .ok (.iconst (-1), 1) := by decide +kernel
theorem dJ6_numberOfTrailingZeros_0f7a4_2 : decode cJ6_numberOfTrailingZeros_0f7a4 2 = .ok (.ixor, 1) := by decide +kernel
theorem dJ6_numberOfTrailingZeros_0f7a4_3 : decode cJ6_numberOfTrailingZeros_0f7a4 3 = .ok (.iload_n 0, 1) := by decide +kernel
theorem dJ6_numberOfTrailingZeros_0f7a4_4 : decode cJ6_numberOfTrailingZeros_0f7a4 4 = .ok (.iconst 1, 1) := by decide +kernel
theorem dJ6_numberOfTrailingZeros_0f7a4_5 : decode cJ6_numberOfTrailingZeros_0f7a4 5 = .ok (.isub, 1) := by decide +kernel
theorem dJ6_numberOfTrailingZeros_0f7a4_6 : decode cJ6_numberOfTrailingZeros_0f7a4 6 = .ok (.iand, 1) := by decide +kernel
theorem dJ6_numberOfTrailingZeros_0f7a4_7 : decode cJ6_numberOfTrailingZeros_0f7a4 7 = .ok (.istore_n 0, 1) := by decide +kernel
theorem dJ6_numberOfTrailingZeros_0f7a4_8 : decode cJ6_numberOfTrailingZeros_0f7a4 8 = .ok (.iload_n 0, 1) := by decide +kernel
theorem dJ6_numberOfTrailingZeros_0f7a4_9 : decode cJ6_numberOfTrailingZeros_0f7a4 9 = .ok (.ifCond .gt 8, 3) := by decide +kernel
theorem dJ6_numberOfTrailingZeros_0f7a4_12 : decode cJ6_numberOfTrailingZeros_0f7a4 12 = .ok (.iload_n 0, 1) := by decide +kernel
theorem dJ6_numberOfTrailingZeros_0f7a4_13 : decode cJ6_numberOfTrailingZeros_0f7a4 13 = .ok (.bipush 32, 2) := by decide +kernel
theorem dJ6_numberOfTrailingZeros_0f7a4_15 : decode cJ6_numberOfTrailingZeros_0f7a4 15 = .ok (.iand, 1) := by decide +kernel
theorem dJ6_numberOfTrailingZeros_0f7a4_16 : decode cJ6_numberOfTrailingZeros_0f7a4 16 = .ok (.ireturn, 1) := by decide +kernel
theorem dJ6_numberOfTrailingZeros_0f7a4_17 : decode cJ6_numberOfTrailingZeros_0f7a4 17 = .ok (.iconst 1, 1) := by decide +kernel
theorem dJ6_numberOfTrailingZeros_0f7a4_18 : decode cJ6_numberOfTrailingZeros_0f7a4 18 = .ok (.istore_n 1, 1) := by decide +kernel
theorem dJ6_numberOfTrailingZeros_0f7a4_19 : decode cJ6_numberOfTrailingZeros_0f7a4 19 = .ok (.iload_n 0, 1) := by decide +kernel
theorem dJ6_numberOfTrailingZeros_0f7a4_20 : decode cJ6_numberOfTrailingZeros_0f7a4 20 = .ok (.ldc_w 264, 3) := by decide +kernel
theorem dJ6_numberOfTrailingZeros_0f7a4_23 : decode cJ6_numberOfTrailingZeros_0f7a4 23 = .ok (.if_icmp .le 11, 3) := by decide +kernel
theorem dJ6_numberOfTrailingZeros_0f7a4_26 : decode cJ6_numberOfTrailingZeros_0f7a4 26 = .ok (.iinc 1 16, 3) := by decide +kernel
theorem dJ6_numberOfTrailingZeros_0f7a4_29 : decode cJ6_numberOfTrailingZeros_0f7a4 29 = .ok (.iload_n 0, 1) := by decide +kernel
theorem dJ6_numberOfTrailingZeros_0f7a4_30 : decode cJ6_numberOfTrailingZeros_0f7a4 30 = .ok (.bipush 16, 2) := by decide +kernel
theorem dJ6_numberOfTrailingZeros_0f7a4_32 : decode cJ6_numberOfTrailingZeros_0f7a4 32 = .ok (.iushr, 1) := by decide +kernel
theorem dJ6_numberOfTrailingZeros_0f7a4_33 : decode cJ6_numberOfTrailingZeros_0f7a4 33 = .ok (.istore_n 0, 1) := by decide +kernel
theorem dJ6_numberOfTrailingZeros_0f7a4_34 : decode cJ6_numberOfTrailingZeros_0f7a4 34 = .ok (.iload_n 0, 1) := by decide +kernel
theorem dJ6_numberOfTrailingZeros_0f7a4_35 : decode cJ6_numberOfTrailingZeros_0f7a4 35 = .ok (.sipush 256, 3) := by decide +kernel
theorem dJ6_numberOfTrailingZeros_0f7a4_38 : decode cJ6_numberOfTrailingZeros_0f7a4 38 = .ok (.if_icmp .le 11, 3) := by decide +kernel
theorem dJ6_numberOfTrailingZeros_0f7a4_41 : decode cJ6_numberOfTrailingZeros_0f7a4 41 = .ok (.iinc 1 8, 3) := by decide +kernel
theorem dJ6_numberOfTrailingZeros_0f7a4_44 : decode cJ6_numberOfTrailingZeros_0f7a4 44 = .ok (.iload_n 0, 1) := by decide +kernel
theorem dJ6_numberOfTrailingZeros_0f7a4_45 : decode cJ6_numberOfTrailingZeros_0f7a4 45 = .ok (.bipush 8, 2) := by decide +kernel
theorem dJ6_numberOfTrailingZeros_0f7a4_47 : decode cJ6_numberOfTrailingZeros_0f7a4 47 = .ok (.iushr, 1) := by decide +kernel
theorem dJ6_numberOfTrailingZeros_0f7a4_48 : decode cJ6_numberOfTrailingZeros_0f7a4 48 = .ok (.istore_n 0, 1) := by decide +kernel
theorem dJ6_numberOfTrailingZeros_0f7a4_49 : decode cJ6_numberOfTrailingZeros_0f7a4 49 = .ok (.iload_n 0, 1) := by decide +kernel
theorem dJ6_numberOfTrailingZeros_0f7a4_50 : decode cJ6_numberOfTrailingZeros_0f7a4 50 = .ok (.bipush 16, 2) := by decide +kernel
theorem dJ6_numberOfTrailingZeros_0f7a4_52 : decode cJ6_numberOfTrailingZeros_0f7a4 52 = .ok (.if_icmp .le 10, 3) := by decide +kernel
theorem dJ6_numberOfTrailingZeros_0f7a4_55 : decode cJ6_numberOfTrailingZeros_0f7a4 55 = .ok (.iinc 1 4, 3) := by decide +kernel
theorem dJ6_numberOfTrailingZeros_0f7a4_58 : decode cJ6_numberOfTrailingZeros_0f7a4 58 = .ok (.iload_n 0, 1) := by decide +kernel
theorem dJ6_numberOfTrailingZeros_0f7a4_59 : decode cJ6_numberOfTrailingZeros_0f7a4 59 = .ok (.iconst 4, 1) := by decide +kernel
theorem dJ6_numberOfTrailingZeros_0f7a4_60 : decode cJ6_numberOfTrailingZeros_0f7a4 60 = .ok (.iushr, 1) := by decide +kernel
theorem dJ6_numberOfTrailingZeros_0f7a4_61 : decode cJ6_numberOfTrailingZeros_0f7a4 61 = .ok (.istore_n 0, 1) := by decide +kernel
theorem dJ6_numberOfTrailingZeros_0f7a4_62 : decode cJ6_numberOfTrailingZeros_0f7a4 62 = .ok (.iload_n 0, 1) := by decide +kernel
theorem dJ6_numberOfTrailingZeros_0f7a4_63 : decode cJ6_numberOfTrailingZeros_0f7a4 63 = .ok (.iconst 4, 1) := by decide +kernel
theorem dJ6_numberOfTrailingZeros_0f7a4_64 : decode cJ6_numberOfTrailingZeros_0f7a4 64 = .ok (.if_icmp .le 10, 3) := by decide +kernel
theorem dJ6_numberOfTrailingZeros_0f7a4_67 : decode cJ6_numberOfTrailingZeros_0f7a4 67 = .ok (.iinc 1 2, 3) := by decide +kernel
theorem dJ6_numberOfTrailingZeros_0f7a4_70 : decode cJ6_numberOfTrailingZeros_0f7a4 70 = .ok (.iload_n 0, 1) := by decide +kernel
theorem dJ6_numberOfTrailingZeros_0f7a4_71 : decode cJ6_numberOfTrailingZeros_0f7a4 71 = .ok (.iconst 2, 1) := by decide +kernel
theorem dJ6_numberOfTrailingZeros_0f7a4_72 : decode cJ6_numberOfTrailingZeros_0f7a4 72 = .ok (.iushr, 1) := by decide +kernel
theorem dJ6_numberOfTrailingZeros_0f7a4_73 : decode cJ6_numberOfTrailingZeros_0f7a4 73 = .ok (.istore_n 0, 1) := by decide +kernel
theorem dJ6_numberOfTrailingZeros_0f7a4_74 : decode cJ6_numberOfTrailingZeros_0f7a4 74 = .ok (.iload_n 1, 1) := by decide +kernel
theorem dJ6_numberOfTrailingZeros_0f7a4_75 : decode cJ6_numberOfTrailingZeros_0f7a4 75 = .ok (.iload_n 0, 1) := by decide +kernel
theorem dJ6_numberOfTrailingZeros_0f7a4_76 : decode cJ6_numberOfTrailingZeros_0f7a4 76 = .ok (.iconst 1, 1) := by decide +kernel
theorem dJ6_numberOfTrailingZeros_0f7a4_77 : decode cJ6_numberOfTrailingZeros_0f7a4 77 = .ok (.iushr, 1) := by decide +kernel
theorem dJ6_numberOfTrailingZeros_0f7a4_78 : decode cJ6_numberOfTrailingZeros_0f7a4 78 = .ok (.iadd, 1) := by decide +kernel
theorem dJ6_numberOfTrailingZeros_0f7a4_79 : decode cJ6_numberOfTrailingZeros_0f7a4 79 = .ok (.ireturn, 1) := by decide +kernel
theorem dJ6_bitCount_0f7a4_0 : decode cJ6_bitCount_0f7a4 0 = .ok (.iload_n 0, 1) := by decide +kernel
theorem dJ6_bitCount_0f7a4_1 : decode cJ6_bitCount_0f7a4 1 = .ok (.iload_n 0, 1) := by decide +kernel
theorem dJ6_bitCount_0f7a4_2 : decode cJ6_bitCount_0f7a4 2 = .ok (.iconst 1, 1) := by decide +kernel
theorem dJ6_bitCount_0f7a4_3 : decode cJ6_bitCount_0f7a4 3 = .ok (.iushr, 1) := by decide +kernel
theorem dJ6_bitCount_0f7a4_4 : decode cJ6_bitCount_0f7a4 4 = .ok (.ldc_w 265, 3) := by decide +kernel
theorem dJ6_bitCount_0f7a4_7 : decode cJ6_bitCount_0f7a4 7 = .ok (.iand, 1) := by decide +kernel
theorem dJ6_bitCount_0f7a4_8 : decode cJ6_bitCount_0f7a4 8 = .ok (.isub, 1) := by decide +kernel
theorem dJ6_bitCount_0f7a4_9 : decode cJ6_bitCount_0f7a4 9 = .ok (.istore_n 0, 1) := by decide +kernel
theorem dJ6_bitCount_0f7a4_10 : decode cJ6_bitCount_0f7a4 10 = .ok (.iload_n 0, 1) := by decide +kernel
theorem dJ6_bitCount_0f7a4_11 : decode cJ6_bitCount_0f7a4 11 = .ok (.ldc_w 266, 3) := by decide +kernel
theorem dJ6_bitCount_0f7a4_14 : decode cJ6_bitCount_0f7a4 14 = .ok (.iand, 1) := by decide +kernel
theorem dJ6_bitCount_0f7a4_15 : decode cJ6_bitCount_0f7a4 15 = .ok (.iload_n 0, 1) := by decide +kernel
theorem dJ6_bitCount_0f7a4_16 : decode cJ6_bitCount_0f7a4 16 = .ok (.iconst 2, 1) := by decide +kernel
theorem dJ6_bitCount_0f7a4_17 : decode cJ6_bitCount_0f7a4 17 = .ok (.iushr, 1) := by decide +kernel
theorem dJ6_bitCount_0f7a4_18 : decode cJ6_bitCount_0f7a4 18 = .ok (.ldc_w 266, 3) := by decide +kernel
theorem dJ6_bitCount_0f7a4_21 : decode cJ6_bitCount_0f7a4 21 = .ok (.iand, 1) := by decide +kernel
theorem dJ6_bitCount_0f7a4_22 : decode cJ6_bitCount_0f7a4 22 = .ok (.iadd, 1) := by decide +kernel
theorem dJ6_bitCount_0f7a4_23 : decode cJ6_bitCount_0f7a4 23 = .ok (.istore_n 0, 1) := by decide +kernel
theorem dJ6_bitCount_0f7a4_24 : decode cJ6_bitCount_0f7a4 24 = .ok (.iload_n 0, 1) := by decide +kernel
theorem dJ6_bitCount_0f7a4_25 : decode cJ6_bitCount_0f7a4 25 = .ok (.iload_n 0, 1) := by decide +kernel
theorem dJ6_bitCount_0f7a4_26 : decode cJ6_bitCount_0f7a4 26 = .ok (.iconst 4, 1) := by decide +kernel
theorem dJ6_bitCount_0f7a4_27 : decode cJ6_bitCount_0f7a4 27 = .ok (.iushr, 1) := by decide +kernel
theorem dJ6_bitCount_0f7a4_28 : decode cJ6_bitCount_0f7a4 28 = .ok (.iadd, 1) := by decide +kernel
theorem dJ6_bitCount_0f7a4_29 : decode cJ6_bitCount_0f7a4 29 = .ok (.ldc_w 267, 3) := by decide +kernel
theorem dJ6_bitCount_0f7a4_32 : decode cJ6_bitCount_0f7a4 32 = .ok (.iand, 1) := by decide +kernel
theorem dJ6_bitCount_0f7a4_33 : decode cJ6_bitCount_0f7a4 33 = .ok (.istore_n 0, 1) := by decide +kernel
theorem dJ6_bitCount_0f7a4_34 : decode cJ6_bitCount_0f7a4 34 = .ok (.iload_n 0, 1) := by decide +kernel
theorem dJ6_bitCount_0f7a4_35 : decode cJ6_bitCount_0f7a4 35 = .ok (.iload_n 0, 1) := by decide +kernel
theorem dJ6_bitCount_0f7a4_36 : decode cJ6_bitCount_0f7a4 36 = .ok (.bipush 8, 2) := by decide +kernel
theorem dJ6_bitCount_0f7a4_38 : decode cJ6_bitCount_0f7a4 38 = .ok (.iushr, 1) := by decide +kernel
theorem dJ6_bitCount_0f7a4_39 : decode cJ6_bitCount_0f7a4 39 = .ok (.iadd, 1) := by decide +kernel
theorem dJ6_bitCount_0f7a4_40 : decode cJ6_bitCount_0f7a4 40 = .ok (.istore_n 0, 1) := by decide +kernel
theorem dJ6_bitCount_0f7a4_41 : decode cJ6_bitCount_0f7a4 41 = .ok (.iload_n 0, 1) := by decide +kernel
theorem dJ6_bitCount_0f7a4_42 : decode cJ6_bitCount_0f7a4 42 = .ok (.iload_n 0, 1) := by decide +kernel
theorem dJ6_bitCount_0f7a4_43 : decode cJ6_bitCount_0f7a4 43 = .ok (.bipush 16, 2) := by decide +kernel
theorem dJ6_bitCount_0f7a4_45 : decode cJ6_bitCount_0f7a4 45 = .ok (.iushr, 1) := by decide +kernel
theorem dJ6_bitCount_0f7a4_46 : decode cJ6_bitCount_0f7a4 46 = .ok (.iadd, 1) := by decide +kernel
theorem dJ6_bitCount_0f7a4_47 : decode cJ6_bitCount_0f7a4 47 = .ok (.istore_n 0, 1) := by decide +kernel
theorem dJ6_bitCount_0f7a4_48 : decode cJ6_bitCount_0f7a4 48 = .ok (.iload_n 0, 1) := by decide +kernel
theorem dJ6_bitCount_0f7a4_49 : decode cJ6_bitCount_0f7a4 49 = .ok (.bipush 63, 2) := by decide +kernel
theorem dJ6_bitCount_0f7a4_51 : decode cJ6_bitCount_0f7a4 51 = .ok (.iand, 1) := by decide +kernel
theorem dJ6_bitCount_0f7a4_52 : decode cJ6_bitCount_0f7a4 52 = .ok (.ireturn, 1) := by decide +kernel
theorem dJ9_max_7cf53_0 : decode cJ9_max_7cf53 0 = .ok (.iload_n 0, 1) := by decide +kernel
theorem dJ9_max_7cf53_1 : decode cJ9_max_7cf53 1 = .ok (.iload_n 1, 1) := by decide +kernel
theorem dJ9_max_7cf53_2 : decode cJ9_max_7cf53 2 = .ok (.if_icmp .lt 7, 3) := by decide +kernel
theorem dJ9_max_7cf53_5 : decode cJ9_max_7cf53 5 = .ok (.iload_n 0, 1) := by decide +kernel
theorem dJ9_max_7cf53_6 : decode cJ9_max_7cf53 6 = .ok (.goto 4, 3) := by decide +kernel
theorem dJ9_max_7cf53_9 : decode cJ9_max_7cf53 9 = .ok (.iload_n 1, 1) := by decide +kernel
theorem dJ9_max_7cf53_10 : decode cJ9_max_7cf53 10 = .ok (.ireturn, 1) := by decide +kernel
theorem dJ9_min_7cf53_0 : decode cJ9_min_7cf53 0 = .ok (.iload_n 0, 1) := by decide +kernel
theorem dJ9_min_7cf53_1 : decode cJ9_min_7cf53 1 = .ok (.iload_n 1, 1) := by decide +kernel
theorem dJ9_min_7cf53_2 : decode cJ9_min_7cf53 2 = .ok (.if_icmp .gt 7, 3) := by decide +kernel
theorem dJ9_min_7cf53_5 : decode cJ9_min_7cf53 5 = .ok (.iload_n 0, 1) := by decide +kernel
theorem dJ9_min_7cf53_6 : decode cJ9_min_7cf53 6 = .ok (.goto 4, 3) := by decide +kernel
theorem dJ9_min_7cf53_9 : decode cJ9_min_7cf53 9 = .ok (.iload_n 1, 1) := by decide +kernel
theorem dJ9_min_7cf53_10 : decode cJ9_min_7cf53 10 = .ok (.ireturn, 1) := by decide +kernel
theorem dJ0_length_8abf5_0 : decode cJ0_length_8abf5 0 = .ok (.aload_n 0, 1) := by decide +kernel
theorem dJ0_length_8abf5_1 : decode cJ0_length_8abf5 1 = .ok (.getfield 9, 3) := by decide +kernel
theorem dJ0_length_8abf5_4 : decode cJ0_length_8abf5 4 = .ok (.arraylength, 1) := by decide +kernel
theorem dJ0_length_8abf5_5 : decode cJ0_length_8abf5 5 = .ok (.aload_n 0, 1) := by decide +kernel
theorem dJ0_length_8abf5_6 : decode cJ0_length_8abf5 6 = .ok (.invokevirtual 335, 3) := by decide +kernel
theorem dJ0_length_8abf5_9 : decode cJ0_length_8abf5 9 = .ok (.ishr, 1) := by decide +kernel
theorem dJ0_length_8abf5_10 : decode cJ0_length_8abf5 10 = .ok (.ireturn, 1) := by decide +kernel
theorem dJ0_isEmpty_aae02_0 : decode cJ0_isEmpty_aae02 0 = .ok (.aload_n 0, 1) := by decide +kernel
theorem dJ0_isEmpty_aae02_1 : decode cJ0_isEmpty_aae02 1 = .ok (.getfield 9, 3) := by decide +kernel
theorem dJ0_isEmpty_aae02_4 : decode cJ0_isEmpty_aae02 4 = .ok (.arraylength, 1) := by decide +kernel
theorem dJ0_isEmpty_aae02_5 : decode cJ0_isEmpty_aae02 5 = .ok (.ifCond .ne 7, 3) := by decide +kernel
theorem dJ0_isEmpty_aae02_8 : decode cJ0_isEmpty_aae02 8 = .ok (.iconst 1, 1) := by decide +kernel
theorem dJ0_isEmpty_aae02_9 : decode cJ0_isEmpty_aae02 9 = .ok (.goto 4, 3) := by decide +kernel
theorem dJ0_isEmpty_aae02_12 : decode cJ0_isEmpty_aae02 12 = .ok (.iconst 0, 1) := by decide +kernel
theorem dJ0_isEmpty_aae02_13 : decode cJ0_isEmpty_aae02 13 = .ok (.ireturn, 1) := by decide +kernel
theorem dJ0_charAt_5068e_0 : decode cJ0_charAt_5068e 0 = .ok (.aload_n 0, 1) := by decide +kernel
theorem dJ0_charAt_5068e_1 : decode cJ0_charAt_5068e 1 = .ok (.invokevirtual 492, 3) := by decide +kernel
theorem dJ0_charAt_5068e_4 : decode cJ0_charAt_5068e 4 = .ok (.ifCond .eq 12, 3) := by decide +kernel
theorem dJ0_charAt_5068e_7 : decode cJ0_charAt_5068e 7 = .ok (.aload_n 0, 1) := by decide +kernel
theorem dJ0_charAt_5068e_8 : decode cJ0_charAt_5068e 8 = .ok (.getfield 9, 3) := by decide +kernel
theorem dJ0_charAt_5068e_11 : decode cJ0_charAt_5068e 11 = .ok (.iload_n 1, 1) := by decide +kernel
theorem dJ0_charAt_5068e_12 : decode cJ0_charAt_5068e 12 = .ok (.invokestatic 495, 3) := by decide +kernel
theorem dJ0_charAt_5068e_15 : decode cJ0_charAt_5068e 15 = .ok (.ireturn, 1) := by decide +kernel
theorem dJ0_charAt_5068e_16 : decode cJ0_charAt_5068e 16 = .ok (.aload_n 0, 1) := by decide +kernel
theorem dJ0_charAt_5068e_17 : decode cJ0_charAt_5068e 17 = .ok (.getfield 9, 3) := by decide +kernel
theorem dJ0_charAt_5068e_20 : decode cJ0_charAt_5068e 20 = .ok (.iload_n 1, 1) := by decide +kernel
theorem dJ0_charAt_5068e_21 : decode cJ0_charAt_5068e 21 = .ok (.invokestatic 498, 3) := by decide +kernel
theorem dJ0_charAt_5068e_24 : decode cJ0_charAt_5068e 24 = .ok (.ireturn, 1) := by decide +kernel
theorem dJ0_coder_7d493_0 : decode cJ0_coder_7d493 0 = .ok (.getstatic 38, 3) := by decide +kernel
theorem dJ0_coder_7d493_3 : decode cJ0_coder_7d493 3 = .ok (.ifCond .eq 10, 3) := by decide +kernel
theorem dJ0_coder_7d493_6 : decode cJ0_coder_7d493 6 = .ok (.aload_n 0, 1) := by decide +kernel
theorem dJ0_coder_7d493_7 : decode cJ0_coder_7d493 7 = .ok (.getfield 15, 3) := by decide +kernel
theorem dJ0_coder_7d493_10 : decode cJ0_coder_7d493 10 = .ok (.goto 4, 3) := by decide +kernel
theorem dJ0_coder_7d493_13 : decode cJ0_coder_7d493 13 = .ok (.iconst 1, 1) := by decide +kernel
theorem dJ0_coder_7d493_14 : decode cJ0_coder_7d493 14 = .ok (.ireturn, 1) := by decide +kernel
theorem dJ0_isLatin1_aae02_0 : decode cJ0_isLatin1_aae02 0 = .ok (.getstatic 38, 3) := by decide +kernel
theorem dJ0_isLatin1_aae02_3 : decode cJ0_isLatin1_aae02 3 = .ok (.ifCond .eq 14, 3) := by decide +kernel
theorem dJ0_isLatin1_aae02_6 : decode cJ0_isLatin1_aae02 6 = .ok (.aload_n 0, 1) := by decide +kernel
theorem dJ0_isLatin1_aae02_7 : decode cJ0_isLatin1_aae02 7 = .ok (.getfield 15, 3) := by decide +kernel
theorem dJ0_isLatin1_aae02_10 : decode cJ0_isLatin1_aae02 10 = .ok (.ifCond .ne 7, 3) := by decide +kernel
theorem dJ0_isLatin1_aae02_13 : decode cJ0_isLatin1_aae02 13 = .ok (.iconst 1, 1) := by decide +kernel
theorem dJ0_isLatin1_aae02_14 : decode cJ0_isLatin1_aae02 14 = .ok (.goto 4, 3) := by decide +kernel
theorem dJ0_isLatin1_aae02_17 : decode cJ0_isLatin1_aae02 17 = .ok (.iconst 0, 1) := by decide +kernel
theorem dJ0_isLatin1_aae02_18 : decode cJ0_isLatin1_aae02 18 = .ok (.ireturn, 1) := by decide +kernel
theorem dJ0_checkIndex_df160_0 : decode cJ0_checkIndex_df160 0 = .ok (.iload_n 0, 1) := by decide +kernel
theorem dJ0_checkIndex_df160_1 : decode cJ0_checkIndex_df160 1 = .ok (.iload_n 1, 1) := by decide +kernel
theorem dJ0_checkIndex_df160_2 : decode cJ0_checkIndex_df160 2 = .ok (.getstatic 1053, 3) := by decide +kernel
theorem dJ0_checkIndex_df160_5 : decode cJ0_checkIndex_df160 5 = .ok (.invokestatic 1059, 3) := by decide +kernel
theorem dJ0_checkIndex_df160_8 : decode cJ0_checkIndex_df160 8 = .ok (.pop, 1) := by decide +kernel
theorem dJ0_checkIndex_df160_9 : decode cJ0_checkIndex_df160 9 = .ok (.return_, 1) := by decide +kernel
theorem dJ1_charAt_3b067_0 : decode cJ1_charAt_3b067 0 = .ok (.iload_n 1, 1) := by decide +kernel
theorem dJ1_charAt_3b067_1 : decode cJ1_charAt_3b067 1 = .ok (.aload_n 0, 1) := by decide +kernel
theorem dJ1_charAt_3b067_2 : decode cJ1_charAt_3b067 2 = .ok (.arraylength, 1) := by decide +kernel
theorem dJ1_charAt_3b067_3 : decode cJ1_charAt_3b067 3 = .ok (.invokestatic 9, 3) := by decide +kernel
theorem dJ1_charAt_3b067_6 : decode cJ1_charAt_3b067 6 = .ok (.aload_n 0, 1) := by decide +kernel
theorem dJ1_charAt_3b067_7 : decode cJ1_charAt_3b067 7 = .ok (.iload_n 1, 1) := by decide +kernel
theorem dJ1_charAt_3b067_8 : decode cJ1_charAt_3b067 8 = .ok (.baload, 1) := by decide +kernel
theorem dJ1_charAt_3b067_9 : decode cJ1_charAt_3b067 9 = .ok (.sipush 255, 3) := by decide +kernel
theorem dJ1_charAt_3b067_12 : decode cJ1_charAt_3b067 12 = .ok (.iand, 1) := by decide +kernel
theorem dJ1_charAt_3b067_13 : decode cJ1_charAt_3b067 13 = .ok (.i2c, 1) := by decide +kernel
theorem dJ1_charAt_3b067_14 : decode cJ1_charAt_3b067 14 = .ok (.ireturn, 1) := by decide +kernel
theorem dJ2_getChar_3b067_0 : decode cJ2_getChar_3b067 0 = .ok (.getstatic 44, 3) := by decide +kernel
theorem dJ2_getChar_3b067_3 : decode cJ2_getChar_3b067 3 = .ok (.ifCond .ne 25, 3) := by decide +kernel
theorem dJ2_getChar_3b067_6 : decode cJ2_getChar_3b067 6 = .ok (.iload_n 1, 1) := by decide +kernel
theorem dJ2_getChar_3b067_7 : decode cJ2_getChar_3b067 7 = .ok (.ifCond .lt 11, 3) := by decide +kernel
theorem dJ2_getChar_3b067_10 : decode cJ2_getChar_3b067 10 = .ok (.iload_n 1, 1) := by decide +kernel
theorem dJ2_getChar_3b067_11 : decode cJ2_getChar_3b067 11 = .ok (.aload_n 0, 1) := by decide +kernel
theorem dJ2_getChar_3b067_12 : decode cJ2_getChar_3b067 12 = .ok (.invokestatic 48, 3) := by decide +kernel
theorem dJ2_getChar_3b067_15 : decode cJ2_getChar_3b067 15 = .ok (.if_icmp .lt 13, 3) := by decide +kernel
theorem dJ2_getChar_3b067_18 : decode cJ2_getChar_3b067 18 = .ok (.new 52, 3) := by decide +kernel
theorem dJ2_getChar_3b067_21 : decode cJ2_getChar_3b067 21 = .ok (.dup, 1) := by decide +kernel
theorem dJ2_getChar_3b067_22 : decode cJ2_getChar_3b067 22 = .ok (.ldc 54, 2) := by decide +kernel
theorem dJ2_getChar_3b067_24 : decode cJ2_getChar_3b067 24 = .ok (.invokespecial 56, 3) := by decide +kernel
theorem dJ2_getChar_3b067_27 : decode cJ2_getChar_3b067 27 = .ok (.athrow, 1) := by decide +kernel
theorem dJ2_getChar_3b067_28 : decode cJ2_getChar_3b067 28 = .ok (.iload_n 1, 1) := by decide +kernel
theorem dJ2_getChar_3b067_29 : decode cJ2_getChar_3b067 29 = .ok (.iconst 1, 1) := by decide +kernel
theorem dJ2_getChar_3b067_30 : decode cJ2_getChar_3b067 30 = .ok (.ishl, 1) := by decide +kernel
theorem dJ2_getChar_3b067_31 : decode cJ2_getChar_3b067 31 = .ok (.istore_n 1, 1) := by decide +kernel
theorem dJ2_getChar_3b067_32 : decode cJ2_getChar_3b067 32 = .ok (.aload_n 0, 1) := by decide +kernel
theorem dJ2_getChar_3b067_33 : decode cJ2_getChar_3b067 33 = .ok (.iload_n 1, 1) := by decide +kernel
theorem dJ2_getChar_3b067_34 : decode cJ2_getChar_3b067 34 = .ok (.iinc 1 1, 3) := by decide +kernel
theorem dJ2_getChar_3b067_37 : decode cJ2_getChar_3b067 37 = .ok (.baload, 1) := by decide +kernel
theorem dJ2_getChar_3b067_38 : decode cJ2_getChar_3b067 38 = .ok (.sipush 255, 3) := by decide +kernel
theorem dJ2_getChar_3b067_41 : decode cJ2_getChar_3b067 41 = .ok (.iand, 1) := by decide +kernel
theorem dJ2_getChar_3b067_42 : decode cJ2_getChar_3b067 42 = .ok (.getstatic 59, 3) := by decide +kernel
theorem dJ2_getChar_3b067_45 : decode cJ2_getChar_3b067 45 = .ok (.ishl, 1) := by decide +kernel
theorem dJ2_getChar_3b067_46 : decode cJ2_getChar_3b067 46 = .ok (.aload_n 0, 1) := by decide +kernel
theorem dJ2_getChar_3b067_47 : decode cJ2_getChar_3b067 47 = .ok (.iload_n 1, 1) := by decide +kernel
theorem dJ2_getChar_3b067_48 : decode cJ2_getChar_3b067 48 = .ok (.baload, 1) := by decide +kernel
theorem dJ2_getChar_3b067_49 : decode cJ2_getChar_3b067 49 = .ok (.sipush 255, 3) := by decide +kernel
theorem dJ2_getChar_3b067_52 : decode cJ2_getChar_3b067 52 = .ok (.iand, 1) := by decide +kernel
theorem dJ2_getChar_3b067_53 : decode cJ2_getChar_3b067 53 = .ok (.getstatic 63, 3) := by decide +kernel
theorem dJ2_getChar_3b067_56 : decode cJ2_getChar_3b067 56 = .ok (.ishl, 1) := by decide +kernel
theorem dJ2_getChar_3b067_57 : decode cJ2_getChar_3b067 57 = .ok (.ior, 1) := by decide +kernel
theorem dJ2_getChar_3b067_58 : decode cJ2_getChar_3b067 58 = .ok (.i2c, 1) := by decide +kernel
theorem dJ2_getChar_3b067_59 : decode cJ2_getChar_3b067 59 = .ok (.ireturn, 1) := by decide +kernel
theorem dJ2_length_9d52b_0 : decode cJ2_length_9d52b 0 = .ok (.aload_n 0, 1) := by decide +kernel
theorem dJ2_length_9d52b_1 : decode cJ2_length_9d52b 1 = .ok (.arraylength, 1) := by decide +kernel
theorem dJ2_length_9d52b_2 : decode cJ2_length_9d52b 2 = .ok (.iconst 1, 1) := by decide +kernel
theorem dJ2_length_9d52b_3 : decode cJ2_length_9d52b 3 = .ok (.ishr, 1) := by decide +kernel
theorem dJ2_length_9d52b_4 : decode cJ2_length_9d52b 4 = .ok (.ireturn, 1) := by decide +kernel
theorem dJ2_charAt_3b067_0 : decode cJ2_charAt_3b067 0 = .ok (.iload_n 1, 1) := by decide +kernel
theorem dJ2_charAt_3b067_1 : decode cJ2_charAt_3b067 1 = .ok (.aload_n 0, 1) := by decide +kernel
theorem dJ2_charAt_3b067_2 : decode cJ2_charAt_3b067 2 = .ok (.invokestatic 67, 3) := by decide +kernel
theorem dJ2_charAt_3b067_5 : decode cJ2_charAt_3b067 5 = .ok (.aload_n 0, 1) := by decide +kernel
theorem dJ2_charAt_3b067_6 : decode cJ2_charAt_3b067 6 = .ok (.iload_n 1, 1) := by decide +kernel
theorem dJ2_charAt_3b067_7 : decode cJ2_charAt_3b067 7 = .ok (.invokestatic 71, 3) := by decide +kernel
theorem dJ2_charAt_3b067_10 : decode cJ2_charAt_3b067 10 = .ok (.ireturn, 1) := by decide +kernel
theorem dJ2_checkIndex_2214a_0 : decode cJ2_checkIndex_2214a 0 = .ok (.iload_n 0, 1) := by decide +kernel
theorem dJ2_checkIndex_2214a_1 : decode cJ2_checkIndex_2214a 1 = .ok (.aload_n 1, 1) := by decide +kernel
theorem dJ2_checkIndex_2214a_2 : decode cJ2_checkIndex_2214a 2 = .ok (.invokestatic 48, 3) := by decide +kernel
theorem dJ2_checkIndex_2214a_5 : decode cJ2_checkIndex_2214a 5 = .ok (.invokestatic 414, 3) := by decide +kernel
theorem dJ2_checkIndex_2214a_8 : decode cJ2_checkIndex_2214a 8 = .ok (.return_, 1) := by decide +kernel
theorem dJ7_fill_d0a16_0 : decode cJ7_fill_d0a16 0 = .ok (.iconst 0, 1) := by decide +kernel
theorem dJ7_fill_d0a16_1 : decode cJ7_fill_d0a16 1 = .ok (.istore_n 3, 1) := by decide +kernel
theorem dJ7_fill_d0a16_2 : decode cJ7_fill_d0a16 2 = .ok (.aload_n 0, 1) := by decide +kernel
theorem dJ7_fill_d0a16_3 : decode cJ7_fill_d0a16 3 = .ok (.arraylength, 1) := by decide +kernel
theorem dJ7_fill_d0a16_4 : decode cJ7_fill_d0a16 4 = .ok (.istore 4, 2) := by decide +kernel
theorem dJ7_fill_d0a16_6 : decode cJ7_fill_d0a16 6 = .ok (.iload_n 3, 1) := by decide +kernel
theorem dJ7_fill_d0a16_7 : decode cJ7_fill_d0a16 7 = .ok (.iload 4, 2) := by decide +kernel
theorem dJ7_fill_d0a16_9 : decode cJ7_fill_d0a16 9 = .ok (.if_icmp .ge 13, 3) := by decide +kernel
theorem dJ7_fill_d0a16_12 : decode cJ7_fill_d0a16 12 = .ok (.aload_n 0, 1) := by decide +kernel
theorem dJ7_fill_d0a16_13 : decode cJ7_fill_d0a16 13 = .ok (.iload_n 3, 1) := by decide +kernel
theorem dJ7_fill_d0a16_14 : decode cJ7_fill_d0a16 14 = .ok (.lload_n 1, 1) := by decide +kernel
theorem dJ7_fill_d0a16_15 : decode cJ7_fill_d0a16 15 = .ok (.lastore, 1) := by decide +kernel
theorem dJ7_fill_d0a16_16 : decode cJ7_fill_d0a16 16 = .ok (.iinc 3 1, 3) := by decide +kernel
theorem dJ7_fill_d0a16_19 : decode cJ7_fill_d0a16 19 = .ok (.goto (-13), 3) := by decide +kernel
theorem dJ7_fill_d0a16_22 : decode cJ7_fill_d0a16 22 = .ok (.return_, 1) := by decide +kernel
theorem dJ7_fill_53178_0 : decode cJ7_fill_53178 0 = .ok (.iconst 0, 1) := by decide +kernel
theorem dJ7_fill_53178_1 : decode cJ7_fill_53178 1 = .ok (.istore_n 2, 1) := by decide +kernel
theorem dJ7_fill_53178_2 : decode cJ7_fill_53178 2 = .ok (.aload_n 0, 1) := by decide +kernel
theorem dJ7_fill_53178_3 : decode cJ7_fill_53178 3 = .ok (.arraylength, 1) := by decide +kernel
theorem dJ7_fill_53178_4 : decode cJ7_fill_53178 4 = .ok (.istore_n 3, 1) := by decide +kernel
theorem dJ7_fill_53178_5 : decode cJ7_fill_53178 5 = .ok (.iload_n 2, 1) := by decide +kernel
theorem dJ7_fill_53178_6 : decode cJ7_fill_53178 6 = .ok (.iload_n 3, 1) := by decide +kernel
theorem dJ7_fill_53178_7 : decode cJ7_fill_53178 7 = .ok (.if_icmp .ge 13, 3) := by decide +kernel
theorem dJ7_fill_53178_10 : decode cJ7_fill_53178 10 = .ok (.aload_n 0, 1) := by decide +kernel
theorem dJ7_fill_53178_11 : decode cJ7_fill_53178 11 = .ok (.iload_n 2, 1) := by decide +kernel
theorem dJ7_fill_53178_12 : decode cJ7_fill_53178 12 = .ok (.iload_n 1, 1) := by decide +kernel
theorem dJ7_fill_53178_13 : decode cJ7_fill_53178 13 = .ok (.iastore, 1) := by decide +kernel
theorem dJ7_fill_53178_14 : decode cJ7_fill_53178 14 = .ok (.iinc 2 1, 3) := by decide +kernel
theorem dJ7_fill_53178_17 : decode cJ7_fill_53178 17 = .ok (.goto (-12), 3) := by decide +kernel
theorem dJ7_fill_53178_20 : decode cJ7_fill_53178 20 = .ok (.return_, 1) := by decide +kernel
theorem dJ3_checkIndex_8e157_0 : decode cJ3_checkIndex_8e157 0 = .ok (.iload_n 0, 1) := by decide +kernel
theorem dJ3_checkIndex_8e157_1 : decode cJ3_checkIndex_8e157 1 = .ok (.ifCond .lt 8, 3) := by decide +kernel
theorem dJ3_checkIndex_8e157_4 : decode cJ3_checkIndex_8e157 4 = .ok (.iload_n 0, 1) := by decide +kernel
theorem dJ3_checkIndex_8e157_5 : decode cJ3_checkIndex_8e157 5 = .ok (.iload_n 1, 1) := by decide +kernel
theorem dJ3_checkIndex_8e157_6 : decode cJ3_checkIndex_8e157 6 = .ok (.if_icmp .lt 10, 3) := by decide +kernel
theorem dJ3_checkIndex_8e157_9 : decode cJ3_checkIndex_8e157 9 = .ok (.aload_n 2, 1) := by decide +kernel
theorem dJ3_checkIndex_8e157_10 : decode cJ3_checkIndex_8e157 10 = .ok (.iload_n 0, 1) := by decide +kernel
theorem dJ3_checkIndex_8e157_11 : decode cJ3_checkIndex_8e157 11 = .ok (.iload_n 1, 1) := by decide +kernel
theorem dJ3_checkIndex_8e157_12 : decode cJ3_checkIndex_8e157 12 = .ok (.invokestatic 95, 3) := by decide +kernel
theorem dJ3_checkIndex_8e157_15 : decode cJ3_checkIndex_8e157 15 = .ok (.athrow, 1) := by decide +kernel
theorem dJ3_checkIndex_8e157_16 : decode cJ3_checkIndex_8e157 16 = .ok (.iload_n 0, 1) := by decide +kernel
theorem dJ3_checkIndex_8e157_17 : decode cJ3_checkIndex_8e157 17 = .ok (.ireturn, 1) := by decide +kernel
theorem dL_cell_0 : decode cL_cell 0 = .ok (.aload_n 3, 1) := by decide +kernel
theorem dL_cell_1 : decode cL_cell 1 = .ok (.iconst 0, 1) := by decide +kernel
theorem dL_cell_2 : decode cL_cell 2 = .ok (.aload_n 0, 1) := by decide +kernel
theorem dL_cell_3 : decode cL_cell 3 = .ok (.iload_n 1, 1) := by decide +kernel
theorem dL_cell_4 : decode cL_cell 4 = .ok (.iload_n 2, 1) := by decide +kernel
theorem dL_cell_5 : decode cL_cell 5 = .ok (.invokevirtual 7, 3) := by decide +kernel
theorem dL_cell_8 : decode cL_cell 8 = .ok (.i2l, 1) := by decide +kernel
theorem dL_cell_9 : decode cL_cell 9 = .ok (.lastore, 1) := by decide +kernel
theorem dL_cell_10 : decode cL_cell 10 = .ok (.goto 7, 3) := by decide +kernel
theorem dL_cell_13 : decode cL_cell 13 = .ok (.astore 4, 2) := by decide +kernel
theorem dL_cell_15 : decode cL_cell 15 = .ok (.iconst 1, 1) := by decide +kernel
theorem dL_cell_16 : decode cL_cell 16 = .ok (.ireturn, 1) := by decide +kernel
theorem dL_cell_17 : decode cL_cell 17 = .ok (.iconst 0, 1) := by decide +kernel
theorem dL_cell_18 : decode cL_cell 18 = .ok (.ireturn, 1) := by decide +kernel
theorem dL_thread_0 : decode cL_thread 0 = .ok (.aload 4, 2) := by decide +kernel
theorem dL_thread_2 : decode cL_thread 2 = .ok (.iconst 0, 1) := by decide +kernel
theorem dL_thread_3 : decode cL_thread 3 = .ok (.aload_n 0, 1) := by decide +kernel
theorem dL_thread_4 : decode cL_thread 4 = .ok (.iload_n 1, 1) := by decide +kernel
theorem dL_thread_5 : decode cL_thread 5 = .ok (.iload_n 2, 1) := by decide +kernel
theorem dL_thread_6 : decode cL_thread 6 = .ok (.iload_n 3, 1) := by decide +kernel
theorem dL_thread_7 : decode cL_thread 7 = .ok (.invokevirtual 15, 3) := by decide +kernel
theorem dL_thread_10 : decode cL_thread 10 = .ok (.i2l, 1) := by decide +kernel
theorem dL_thread_11 : decode cL_thread 11 = .ok (.lastore, 1) := by decide +kernel
theorem dL_thread_12 : decode cL_thread 12 = .ok (.goto 7, 3) := by decide +kernel
theorem dL_thread_15 : decode cL_thread 15 = .ok (.astore 5, 2) := by decide +kernel
theorem dL_thread_17 : decode cL_thread 17 = .ok (.iconst 1, 1) := by decide +kernel
theorem dL_thread_18 : decode cL_thread 18 = .ok (.ireturn, 1) := by decide +kernel
theorem dL_thread_19 : decode cL_thread 19 = .ok (.iconst 0, 1) := by decide +kernel
theorem dL_thread_20 : decode cL_thread 20 = .ok (.ireturn, 1) := by decide +kernel
theorem dL_row_0 : decode cL_row 0 = .ok (.aload_n 2, 1) := by decide +kernel
theorem dL_row_1 : decode cL_row 1 = .ok (.iconst 0, 1) := by decide +kernel
theorem dL_row_2 : decode cL_row 2 = .ok (.aload_n 0, 1) := by decide +kernel
theorem dL_row_3 : decode cL_row 3 = .ok (.iload_n 1, 1) := by decide +kernel
theorem dL_row_4 : decode cL_row 4 = .ok (.invokevirtual 19, 3) := by decide +kernel
theorem dL_row_7 : decode cL_row 7 = .ok (.lastore, 1) := by decide +kernel
theorem dL_row_8 : decode cL_row 8 = .ok (.goto 6, 3) := by decide +kernel
theorem dL_row_11 : decode cL_row 11 = .ok (.astore_n 3, 1) := by decide +kernel
theorem dL_row_12 : decode cL_row 12 = .ok (.iconst 1, 1) := by decide +kernel
theorem dL_row_13 : decode cL_row 13 = .ok (.ireturn, 1) := by decide +kernel
theorem dL_row_14 : decode cL_row 14 = .ok (.iconst 0, 1) := by decide +kernel
theorem dL_row_15 : decode cL_row 15 = .ok (.ireturn, 1) := by decide +kernel
theorem dL_law_0 : decode cL_law 0 = .ok (.new 8, 3) := by decide +kernel
theorem dL_law_3 : decode cL_law 3 = .ok (.dup, 1) := by decide +kernel
theorem dL_law_4 : decode cL_law 4 = .ok (.invokespecial 23, 3) := by decide +kernel
theorem dL_law_7 : decode cL_law 7 = .ok (.astore_n 1, 1) := by decide +kernel
theorem dL_law_8 : decode cL_law 8 = .ok (.new 24, 3) := by decide +kernel
theorem dL_law_11 : decode cL_law 11 = .ok (.dup, 1) := by decide +kernel
theorem dL_law_12 : decode cL_law 12 = .ok (.invokespecial 26, 3) := by decide +kernel
theorem dL_law_15 : decode cL_law 15 = .ok (.astore_n 2, 1) := by decide +kernel
theorem dL_law_16 : decode cL_law 16 = .ok (.iconst 1, 1) := by decide +kernel
theorem dL_law_17 : decode cL_law 17 = .ok (.newarray .long, 2) := by decide +kernel
theorem dL_law_19 : decode cL_law 19 = .ok (.astore_n 3, 1) := by decide +kernel
theorem dL_law_20 : decode cL_law 20 = .ok (.iconst 0, 1) := by decide +kernel
theorem dL_law_21 : decode cL_law 21 = .ok (.istore 4, 2) := by decide +kernel
theorem dL_law_23 : decode cL_law 23 = .ok (.iload 4, 2) := by decide +kernel
theorem dL_law_25 : decode cL_law 25 = .ok (.aload_n 0, 1) := by decide +kernel
theorem dL_law_26 : decode cL_law 26 = .ok (.arraylength, 1) := by decide +kernel
theorem dL_law_27 : decode cL_law 27 = .ok (.iconst 5, 1) := by decide +kernel
theorem dL_law_28 : decode cL_law 28 = .ok (.isub, 1) := by decide +kernel
theorem dL_law_29 : decode cL_law 29 = .ok (.if_icmp .gt 1294, 3) := by decide +kernel
theorem dL_law_32 : decode cL_law 32 = .ok (.aload_n 0, 1) := by decide +kernel
theorem dL_law_33 : decode cL_law 33 = .ok (.iload 4, 2) := by decide +kernel
theorem dL_law_35 : decode cL_law 35 = .ok (.iaload, 1) := by decide +kernel
theorem dL_law_36 : decode cL_law 36 = .ok (.bipush 63, 2) := by decide +kernel
theorem dL_law_38 : decode cL_law 38 = .ok (.iand, 1) := by decide +kernel
theorem dL_law_39 : decode cL_law 39 = .ok (.tableswitch 1278 0 44 #[193, 218, 243, 256, 269, 337, 417, 478, 503, 552, 589, 626, 651, 664, 677, 690, 715, 728, 741, 766, 779, 816, 829, 842, 855, 868, 881, 894, 907, 920, 933, 946, 959, 972, 1009, 1022, 1035, 1048, 1073, 1086, 1111, 1148, 1173, 1198, 1223], 193) := by decide +kernel
theorem dL_law_232 : decode cL_law 232 = .ok (.aload_n 1, 1) := by decide +kernel
theorem dL_law_233 : decode cL_law 233 = .ok (.aload_n 0, 1) := by decide +kernel
theorem dL_law_234 : decode cL_law 234 = .ok (.iload 4, 2) := by decide +kernel
theorem dL_law_236 : decode cL_law 236 = .ok (.iconst 1, 1) := by decide +kernel
theorem dL_law_237 : decode cL_law 237 = .ok (.iadd, 1) := by decide +kernel
theorem dL_law_238 : decode cL_law 238 = .ok (.iaload, 1) := by decide +kernel
theorem dL_law_239 : decode cL_law 239 = .ok (.invokevirtual 27, 3) := by decide +kernel
theorem dL_law_242 : decode cL_law 242 = .ok (.aload_n 2, 1) := by decide +kernel
theorem dL_law_243 : decode cL_law 243 = .ok (.aload_n 0, 1) := by decide +kernel
theorem dL_law_244 : decode cL_law 244 = .ok (.iload 4, 2) := by decide +kernel
theorem dL_law_246 : decode cL_law 246 = .ok (.iconst 1, 1) := by decide +kernel
theorem dL_law_247 : decode cL_law 247 = .ok (.iadd, 1) := by decide +kernel
theorem dL_law_248 : decode cL_law 248 = .ok (.iaload, 1) := by decide +kernel
theorem dL_law_249 : decode cL_law 249 = .ok (.invokevirtual 31, 3) := by decide +kernel
theorem dL_law_252 : decode cL_law 252 = .ok (.if_icmp .eq 1065, 3) := by decide +kernel
theorem dL_law_255 : decode cL_law 255 = .ok (.iconst 0, 1) := by decide +kernel
theorem dL_law_256 : decode cL_law 256 = .ok (.ireturn, 1) := by decide +kernel
theorem dL_law_257 : decode cL_law 257 = .ok (.aload_n 1, 1) := by decide +kernel
theorem dL_law_258 : decode cL_law 258 = .ok (.aload_n 0, 1) := by decide +kernel
theorem dL_law_259 : decode cL_law 259 = .ok (.iload 4, 2) := by decide +kernel
theorem dL_law_261 : decode cL_law 261 = .ok (.iconst 1, 1) := by decide +kernel
theorem dL_law_262 : decode cL_law 262 = .ok (.iadd, 1) := by decide +kernel
theorem dL_law_263 : decode cL_law 263 = .ok (.iaload, 1) := by decide +kernel
theorem dL_law_264 : decode cL_law 264 = .ok (.invokevirtual 32, 3) := by decide +kernel
theorem dL_law_267 : decode cL_law 267 = .ok (.aload_n 2, 1) := by decide +kernel
theorem dL_law_268 : decode cL_law 268 = .ok (.aload_n 0, 1) := by decide +kernel
theorem dL_law_269 : decode cL_law 269 = .ok (.iload 4, 2) := by decide +kernel
theorem dL_law_271 : decode cL_law 271 = .ok (.iconst 1, 1) := by decide +kernel
theorem dL_law_272 : decode cL_law 272 = .ok (.iadd, 1) := by decide +kernel
theorem dL_law_273 : decode cL_law 273 = .ok (.iaload, 1) := by decide +kernel
theorem dL_law_274 : decode cL_law 274 = .ok (.invokevirtual 36, 3) := by decide +kernel
theorem dL_law_277 : decode cL_law 277 = .ok (.if_icmp .eq 1040, 3) := by decide +kernel
theorem dL_law_280 : decode cL_law 280 = .ok (.iconst 0, 1) := by decide +kernel
theorem dL_law_281 : decode cL_law 281 = .ok (.ireturn, 1) := by decide +kernel
theorem dL_law_282 : decode cL_law 282 = .ok (.aload_n 1, 1) := by decide +kernel
theorem dL_law_283 : decode cL_law 283 = .ok (.invokevirtual 37, 3) := by decide +kernel
theorem dL_law_286 : decode cL_law 286 = .ok (.aload_n 2, 1) := by decide +kernel
theorem dL_law_287 : decode cL_law 287 = .ok (.invokevirtual 41, 3) := by decide +kernel
theorem dL_law_290 : decode cL_law 290 = .ok (.if_icmp .eq 1027, 3) := by decide +kernel
theorem dL_law_293 : decode cL_law 293 = .ok (.iconst 0, 1) := by decide +kernel
theorem dL_law_294 : decode cL_law 294 = .ok (.ireturn, 1) := by decide +kernel
theorem dL_law_295 : decode cL_law 295 = .ok (.aload_n 1, 1) := by decide +kernel
theorem dL_law_296 : decode cL_law 296 = .ok (.invokevirtual 42, 3) := by decide +kernel
theorem dL_law_299 : decode cL_law 299 = .ok (.aload_n 2, 1) := by decide +kernel
theorem dL_law_300 : decode cL_law 300 = .ok (.invokevirtual 45, 3) := by decide +kernel
theorem dL_law_303 : decode cL_law 303 = .ok (.if_icmp .eq 1014, 3) := by decide +kernel
theorem dL_law_306 : decode cL_law 306 = .ok (.iconst 0, 1) := by decide +kernel
theorem dL_law_307 : decode cL_law 307 = .ok (.ireturn, 1) := by decide +kernel
theorem dL_law_308 : decode cL_law 308 = .ok (.aload_n 1, 1) := by decide +kernel
theorem dL_law_309 : decode cL_law 309 = .ok (.aload_n 0, 1) := by decide +kernel
theorem dL_law_310 : decode cL_law 310 = .ok (.iload 4, 2) := by decide +kernel
theorem dL_law_312 : decode cL_law 312 = .ok (.iconst 1, 1) := by decide +kernel
theorem dL_law_313 : decode cL_law 313 = .ok (.iadd, 1) := by decide +kernel
theorem dL_law_314 : decode cL_law 314 = .ok (.iaload, 1) := by decide +kernel
theorem dL_law_315 : decode cL_law 315 = .ok (.aload_n 0, 1) := by decide +kernel
theorem dL_law_316 : decode cL_law 316 = .ok (.iload 4, 2) := by decide +kernel
theorem dL_law_318 : decode cL_law 318 = .ok (.iconst 2, 1) := by decide +kernel
theorem dL_law_319 : decode cL_law 319 = .ok (.iadd, 1) := by decide +kernel
theorem dL_law_320 : decode cL_law 320 = .ok (.iaload, 1) := by decide +kernel
theorem dL_law_321 : decode cL_law 321 = .ok (.aload_n 3, 1) := by decide +kernel
theorem dL_law_322 : decode cL_law 322 = .ok (.invokestatic 46, 3) := by decide +kernel
theorem dL_law_325 : decode cL_law 325 = .ok (.istore 5, 2) := by decide +kernel
theorem dL_law_327 : decode cL_law 327 = .ok (.aload_n 2, 1) := by decide +kernel
theorem dL_law_328 : decode cL_law 328 = .ok (.aload_n 0, 1) := by decide +kernel
theorem dL_law_329 : decode cL_law 329 = .ok (.iload 4, 2) := by decide +kernel
theorem dL_law_331 : decode cL_law 331 = .ok (.iconst 1, 1) := by decide +kernel
theorem dL_law_332 : decode cL_law 332 = .ok (.iadd, 1) := by decide +kernel
theorem dL_law_333 : decode cL_law 333 = .ok (.iaload, 1) := by decide +kernel
theorem dL_law_334 : decode cL_law 334 = .ok (.aload_n 0, 1) := by decide +kernel
theorem dL_law_335 : decode cL_law 335 = .ok (.iload 4, 2) := by decide +kernel
theorem dL_law_337 : decode cL_law 337 = .ok (.iconst 2, 1) := by decide +kernel
theorem dL_law_338 : decode cL_law 338 = .ok (.iadd, 1) := by decide +kernel
theorem dL_law_339 : decode cL_law 339 = .ok (.iaload, 1) := by decide +kernel
theorem dL_law_340 : decode cL_law 340 = .ok (.invokevirtual 51, 3) := by decide +kernel
theorem dL_law_343 : decode cL_law 343 = .ok (.istore 6, 2) := by decide +kernel
theorem dL_law_345 : decode cL_law 345 = .ok (.aload_n 2, 1) := by decide +kernel
theorem dL_law_346 : decode cL_law 346 = .ok (.invokevirtual 52, 3) := by decide +kernel
theorem dL_law_349 : decode cL_law 349 = .ok (.iload 5, 2) := by decide +kernel
theorem dL_law_351 : decode cL_law 351 = .ok (.if_icmp .eq 5, 3) := by decide +kernel
theorem dL_law_354 : decode cL_law 354 = .ok (.iconst 0, 1) := by decide +kernel
theorem dL_law_355 : decode cL_law 355 = .ok (.ireturn, 1) := by decide +kernel
theorem dL_law_356 : decode cL_law 356 = .ok (.iload 5, 2) := by decide +kernel
theorem dL_law_358 : decode cL_law 358 = .ok (.ifCond .ne 15, 3) := by decide +kernel
theorem dL_law_361 : decode cL_law 361 = .ok (.aload_n 3, 1) := by decide +kernel
theorem dL_law_362 : decode cL_law 362 = .ok (.iconst 0, 1) := by decide +kernel
theorem dL_law_363 : decode cL_law 363 = .ok (.laload, 1) := by decide +kernel
theorem dL_law_364 : decode cL_law 364 = .ok (.iload 6, 2) := by decide +kernel
theorem dL_law_366 : decode cL_law 366 = .ok (.i2l, 1) := by decide +kernel
theorem dL_law_367 : decode cL_law 367 = .ok (.lcmp, 1) := by decide +kernel
theorem dL_law_368 : decode cL_law 368 = .ok (.ifCond .eq 5, 3) := by decide +kernel
theorem dL_law_371 : decode cL_law 371 = .ok (.iconst 0, 1) := by decide +kernel
theorem dL_law_372 : decode cL_law 372 = .ok (.ireturn, 1) := by decide +kernel
theorem dL_law_373 : decode cL_law 373 = .ok (.goto 944, 3) := by decide +kernel
theorem dL_law_376 : decode cL_law 376 = .ok (.aload_n 1, 1) := by decide +kernel
theorem dL_law_377 : decode cL_law 377 = .ok (.aload_n 0, 1) := by decide +kernel
theorem dL_law_378 : decode cL_law 378 = .ok (.iload 4, 2) := by decide +kernel
theorem dL_law_380 : decode cL_law 380 = .ok (.iconst 1, 1) := by decide +kernel
theorem dL_law_381 : decode cL_law 381 = .ok (.iadd, 1) := by decide +kernel
theorem dL_law_382 : decode cL_law 382 = .ok (.iaload, 1) := by decide +kernel
theorem dL_law_383 : decode cL_law 383 = .ok (.aload_n 0, 1) := by decide +kernel
theorem dL_law_384 : decode cL_law 384 = .ok (.iload 4, 2) := by decide +kernel
theorem dL_law_386 : decode cL_law 386 = .ok (.iconst 2, 1) := by decide +kernel
theorem dL_law_387 : decode cL_law 387 = .ok (.iadd, 1) := by decide +kernel
theorem dL_law_388 : decode cL_law 388 = .ok (.iaload, 1) := by decide +kernel
theorem dL_law_389 : decode cL_law 389 = .ok (.aload_n 0, 1) := by decide +kernel
theorem dL_law_390 : decode cL_law 390 = .ok (.iload 4, 2) := by decide +kernel
theorem dL_law_392 : decode cL_law 392 = .ok (.iconst 3, 1) := by decide +kernel
theorem dL_law_393 : decode cL_law 393 = .ok (.iadd, 1) := by decide +kernel
theorem dL_law_394 : decode cL_law 394 = .ok (.iaload, 1) := by decide +kernel
theorem dL_law_395 : decode cL_law 395 = .ok (.aload_n 3, 1) := by decide +kernel
theorem dL_law_396 : decode cL_law 396 = .ok (.invokestatic 55, 3) := by decide +kernel
theorem dL_law_399 : decode cL_law 399 = .ok (.istore 5, 2) := by decide +kernel
theorem dL_law_401 : decode cL_law 401 = .ok (.aload_n 2, 1) := by decide +kernel
theorem dL_law_402 : decode cL_law 402 = .ok (.aload_n 0, 1) := by decide +kernel
theorem dL_law_403 : decode cL_law 403 = .ok (.iload 4, 2) := by decide +kernel
theorem dL_law_405 : decode cL_law 405 = .ok (.iconst 1, 1) := by decide +kernel
theorem dL_law_406 : decode cL_law 406 = .ok (.iadd, 1) := by decide +kernel
theorem dL_law_407 : decode cL_law 407 = .ok (.iaload, 1) := by decide +kernel
theorem dL_law_408 : decode cL_law 408 = .ok (.aload_n 0, 1) := by decide +kernel
theorem dL_law_409 : decode cL_law 409 = .ok (.iload 4, 2) := by decide +kernel
theorem dL_law_411 : decode cL_law 411 = .ok (.iconst 2, 1) := by decide +kernel
theorem dL_law_412 : decode cL_law 412 = .ok (.iadd, 1) := by decide +kernel
theorem dL_law_413 : decode cL_law 413 = .ok (.iaload, 1) := by decide +kernel
theorem dL_law_414 : decode cL_law 414 = .ok (.aload_n 0, 1) := by decide +kernel
theorem dL_law_415 : decode cL_law 415 = .ok (.iload 4, 2) := by decide +kernel
theorem dL_law_417 : decode cL_law 417 = .ok (.iconst 3, 1) := by decide +kernel
theorem dL_law_418 : decode cL_law 418 = .ok (.iadd, 1) := by decide +kernel
theorem dL_law_419 : decode cL_law 419 = .ok (.iaload, 1) := by decide +kernel
theorem dL_law_420 : decode cL_law 420 = .ok (.invokevirtual 58, 3) := by decide +kernel
theorem dL_law_423 : decode cL_law 423 = .ok (.istore 6, 2) := by decide +kernel
theorem dL_law_425 : decode cL_law 425 = .ok (.aload_n 2, 1) := by decide +kernel
theorem dL_law_426 : decode cL_law 426 = .ok (.invokevirtual 52, 3) := by decide +kernel
theorem dL_law_429 : decode cL_law 429 = .ok (.iload 5, 2) := by decide +kernel
theorem dL_law_431 : decode cL_law 431 = .ok (.if_icmp .eq 5, 3) := by decide +kernel
theorem dL_law_434 : decode cL_law 434 = .ok (.iconst 0, 1) := by decide +kernel
theorem dL_law_435 : decode cL_law 435 = .ok (.ireturn, 1) := by decide +kernel
theorem dL_law_436 : decode cL_law 436 = .ok (.iload 5, 2) := by decide +kernel
theorem dL_law_438 : decode cL_law 438 = .ok (.ifCond .ne 15, 3) := by decide +kernel
theorem dL_law_441 : decode cL_law 441 = .ok (.aload_n 3, 1) := by decide +kernel
theorem dL_law_442 : decode cL_law 442 = .ok (.iconst 0, 1) := by decide +kernel
theorem dL_law_443 : decode cL_law 443 = .ok (.laload, 1) := by decide +kernel
theorem dL_law_444 : decode cL_law 444 = .ok (.iload 6, 2) := by decide +kernel
theorem dL_law_446 : decode cL_law 446 = .ok (.i2l, 1) := by decide +kernel
theorem dL_law_447 : decode cL_law 447 = .ok (.lcmp, 1) := by decide +kernel
theorem dL_law_448 : decode cL_law 448 = .ok (.ifCond .eq 5, 3) := by decide +kernel
theorem dL_law_451 : decode cL_law 451 = .ok (.iconst 0, 1) := by decide +kernel
theorem dL_law_452 : decode cL_law 452 = .ok (.ireturn, 1) := by decide +kernel
theorem dL_law_453 : decode cL_law 453 = .ok (.goto 864, 3) := by decide +kernel
theorem dL_law_456 : decode cL_law 456 = .ok (.aload_n 1, 1) := by decide +kernel
theorem dL_law_457 : decode cL_law 457 = .ok (.aload_n 0, 1) := by decide +kernel
theorem dL_law_458 : decode cL_law 458 = .ok (.iload 4, 2) := by decide +kernel
theorem dL_law_460 : decode cL_law 460 = .ok (.iconst 1, 1) := by decide +kernel
theorem dL_law_461 : decode cL_law 461 = .ok (.iadd, 1) := by decide +kernel
theorem dL_law_462 : decode cL_law 462 = .ok (.iaload, 1) := by decide +kernel
theorem dL_law_463 : decode cL_law 463 = .ok (.aload_n 0, 1) := by decide +kernel
theorem dL_law_464 : decode cL_law 464 = .ok (.iload 4, 2) := by decide +kernel
theorem dL_law_466 : decode cL_law 466 = .ok (.iconst 2, 1) := by decide +kernel
theorem dL_law_467 : decode cL_law 467 = .ok (.iadd, 1) := by decide +kernel
theorem dL_law_468 : decode cL_law 468 = .ok (.iaload, 1) := by decide +kernel
theorem dL_law_469 : decode cL_law 469 = .ok (.aload_n 0, 1) := by decide +kernel
theorem dL_law_470 : decode cL_law 470 = .ok (.iload 4, 2) := by decide +kernel
theorem dL_law_472 : decode cL_law 472 = .ok (.iconst 3, 1) := by decide +kernel
theorem dL_law_473 : decode cL_law 473 = .ok (.iadd, 1) := by decide +kernel
theorem dL_law_474 : decode cL_law 474 = .ok (.iaload, 1) := by decide +kernel
theorem dL_law_475 : decode cL_law 475 = .ok (.aload_n 0, 1) := by decide +kernel
theorem dL_law_476 : decode cL_law 476 = .ok (.iload 4, 2) := by decide +kernel
theorem dL_law_478 : decode cL_law 478 = .ok (.iconst 4, 1) := by decide +kernel
theorem dL_law_479 : decode cL_law 479 = .ok (.iadd, 1) := by decide +kernel
theorem dL_law_480 : decode cL_law 480 = .ok (.iaload, 1) := by decide +kernel
theorem dL_law_481 : decode cL_law 481 = .ok (.invokevirtual 59, 3) := by decide +kernel
theorem dL_law_484 : decode cL_law 484 = .ok (.aload_n 2, 1) := by decide +kernel
theorem dL_law_485 : decode cL_law 485 = .ok (.aload_n 0, 1) := by decide +kernel
theorem dL_law_486 : decode cL_law 486 = .ok (.iload 4, 2) := by decide +kernel
theorem dL_law_488 : decode cL_law 488 = .ok (.iconst 1, 1) := by decide +kernel
theorem dL_law_489 : decode cL_law 489 = .ok (.iadd, 1) := by decide +kernel
theorem dL_law_490 : decode cL_law 490 = .ok (.iaload, 1) := by decide +kernel
theorem dL_law_491 : decode cL_law 491 = .ok (.aload_n 0, 1) := by decide +kernel
theorem dL_law_492 : decode cL_law 492 = .ok (.iload 4, 2) := by decide +kernel
theorem dL_law_494 : decode cL_law 494 = .ok (.iconst 2, 1) := by decide +kernel
theorem dL_law_495 : decode cL_law 495 = .ok (.iadd, 1) := by decide +kernel
theorem dL_law_496 : decode cL_law 496 = .ok (.iaload, 1) := by decide +kernel
theorem dL_law_497 : decode cL_law 497 = .ok (.aload_n 0, 1) := by decide +kernel
theorem dL_law_498 : decode cL_law 498 = .ok (.iload 4, 2) := by decide +kernel
theorem dL_law_500 : decode cL_law 500 = .ok (.iconst 3, 1) := by decide +kernel
theorem dL_law_501 : decode cL_law 501 = .ok (.iadd, 1) := by decide +kernel
theorem dL_law_502 : decode cL_law 502 = .ok (.iaload, 1) := by decide +kernel
theorem dL_law_503 : decode cL_law 503 = .ok (.aload_n 0, 1) := by decide +kernel
theorem dL_law_504 : decode cL_law 504 = .ok (.iload 4, 2) := by decide +kernel
theorem dL_law_506 : decode cL_law 506 = .ok (.iconst 4, 1) := by decide +kernel
theorem dL_law_507 : decode cL_law 507 = .ok (.iadd, 1) := by decide +kernel
theorem dL_law_508 : decode cL_law 508 = .ok (.iaload, 1) := by decide +kernel
theorem dL_law_509 : decode cL_law 509 = .ok (.invokevirtual 63, 3) := by decide +kernel
theorem dL_law_512 : decode cL_law 512 = .ok (.if_icmp .eq 805, 3) := by decide +kernel
theorem dL_law_515 : decode cL_law 515 = .ok (.iconst 0, 1) := by decide +kernel
theorem dL_law_516 : decode cL_law 516 = .ok (.ireturn, 1) := by decide +kernel
theorem dL_law_517 : decode cL_law 517 = .ok (.aload_n 1, 1) := by decide +kernel
theorem dL_law_518 : decode cL_law 518 = .ok (.aload_n 0, 1) := by decide +kernel
theorem dL_law_519 : decode cL_law 519 = .ok (.iload 4, 2) := by decide +kernel
theorem dL_law_521 : decode cL_law 521 = .ok (.iconst 1, 1) := by decide +kernel
theorem dL_law_522 : decode cL_law 522 = .ok (.iadd, 1) := by decide +kernel
theorem dL_law_523 : decode cL_law 523 = .ok (.iaload, 1) := by decide +kernel
theorem dL_law_524 : decode cL_law 524 = .ok (.invokevirtual 64, 3) := by decide +kernel
theorem dL_law_527 : decode cL_law 527 = .ok (.aload_n 2, 1) := by decide +kernel
theorem dL_law_528 : decode cL_law 528 = .ok (.aload_n 0, 1) := by decide +kernel
theorem dL_law_529 : decode cL_law 529 = .ok (.iload 4, 2) := by decide +kernel
theorem dL_law_531 : decode cL_law 531 = .ok (.iconst 1, 1) := by decide +kernel
theorem dL_law_532 : decode cL_law 532 = .ok (.iadd, 1) := by decide +kernel
theorem dL_law_533 : decode cL_law 533 = .ok (.iaload, 1) := by decide +kernel
theorem dL_law_534 : decode cL_law 534 = .ok (.invokevirtual 67, 3) := by decide +kernel
theorem dL_law_537 : decode cL_law 537 = .ok (.if_icmp .eq 780, 3) := by decide +kernel
theorem dL_law_540 : decode cL_law 540 = .ok (.iconst 0, 1) := by decide +kernel
theorem dL_law_541 : decode cL_law 541 = .ok (.ireturn, 1) := by decide +kernel
theorem dL_law_542 : decode cL_law 542 = .ok (.aload_n 1, 1) := by decide +kernel
theorem dL_law_543 : decode cL_law 543 = .ok (.aload_n 0, 1) := by decide +kernel
theorem dL_law_544 : decode cL_law 544 = .ok (.iload 4, 2) := by decide +kernel
theorem dL_law_546 : decode cL_law 546 = .ok (.iconst 1, 1) := by decide +kernel
theorem dL_law_547 : decode cL_law 547 = .ok (.iadd, 1) := by decide +kernel
theorem dL_law_548 : decode cL_law 548 = .ok (.iaload, 1) := by decide +kernel
theorem dL_law_549 : decode cL_law 549 = .ok (.aload_n 0, 1) := by decide +kernel
theorem dL_law_550 : decode cL_law 550 = .ok (.iload 4, 2) := by decide +kernel
theorem dL_law_552 : decode cL_law 552 = .ok (.iconst 2, 1) := by decide +kernel
theorem dL_law_553 : decode cL_law 553 = .ok (.iadd, 1) := by decide +kernel
theorem dL_law_554 : decode cL_law 554 = .ok (.iaload, 1) := by decide +kernel
theorem dL_law_555 : decode cL_law 555 = .ok (.aload_n 0, 1) := by decide +kernel
theorem dL_law_556 : decode cL_law 556 = .ok (.iload 4, 2) := by decide +kernel
theorem dL_law_558 : decode cL_law 558 = .ok (.iconst 3, 1) := by decide +kernel
theorem dL_law_559 : decode cL_law 559 = .ok (.iadd, 1) := by decide +kernel
theorem dL_law_560 : decode cL_law 560 = .ok (.iaload, 1) := by decide +kernel
theorem dL_law_561 : decode cL_law 561 = .ok (.invokevirtual 68, 3) := by decide +kernel
theorem dL_law_564 : decode cL_law 564 = .ok (.aload_n 2, 1) := by decide +kernel
theorem dL_law_565 : decode cL_law 565 = .ok (.aload_n 0, 1) := by decide +kernel
theorem dL_law_566 : decode cL_law 566 = .ok (.iload 4, 2) := by decide +kernel
theorem dL_law_568 : decode cL_law 568 = .ok (.iconst 1, 1) := by decide +kernel
theorem dL_law_569 : decode cL_law 569 = .ok (.iadd, 1) := by decide +kernel
theorem dL_law_570 : decode cL_law 570 = .ok (.iaload, 1) := by decide +kernel
theorem dL_law_571 : decode cL_law 571 = .ok (.aload_n 0, 1) := by decide +kernel
theorem dL_law_572 : decode cL_law 572 = .ok (.iload 4, 2) := by decide +kernel
theorem dL_law_574 : decode cL_law 574 = .ok (.iconst 2, 1) := by decide +kernel
theorem dL_law_575 : decode cL_law 575 = .ok (.iadd, 1) := by decide +kernel
theorem dL_law_576 : decode cL_law 576 = .ok (.iaload, 1) := by decide +kernel
theorem dL_law_577 : decode cL_law 577 = .ok (.aload_n 0, 1) := by decide +kernel
theorem dL_law_578 : decode cL_law 578 = .ok (.iload 4, 2) := by decide +kernel
theorem dL_law_580 : decode cL_law 580 = .ok (.iconst 3, 1) := by decide +kernel
theorem dL_law_581 : decode cL_law 581 = .ok (.iadd, 1) := by decide +kernel
theorem dL_law_582 : decode cL_law 582 = .ok (.iaload, 1) := by decide +kernel
theorem dL_law_583 : decode cL_law 583 = .ok (.invokevirtual 71, 3) := by decide +kernel
theorem dL_law_586 : decode cL_law 586 = .ok (.if_icmp .eq 731, 3) := by decide +kernel
theorem dL_law_589 : decode cL_law 589 = .ok (.iconst 0, 1) := by decide +kernel
theorem dL_law_590 : decode cL_law 590 = .ok (.ireturn, 1) := by decide +kernel
theorem dL_law_591 : decode cL_law 591 = .ok (.aload_n 1, 1) := by decide +kernel
theorem dL_law_592 : decode cL_law 592 = .ok (.aload_n 0, 1) := by decide +kernel
theorem dL_law_593 : decode cL_law 593 = .ok (.iload 4, 2) := by decide +kernel
theorem dL_law_595 : decode cL_law 595 = .ok (.iconst 1, 1) := by decide +kernel
theorem dL_law_596 : decode cL_law 596 = .ok (.iadd, 1) := by decide +kernel
theorem dL_law_597 : decode cL_law 597 = .ok (.iaload, 1) := by decide +kernel
theorem dL_law_598 : decode cL_law 598 = .ok (.aload_n 0, 1) := by decide +kernel
theorem dL_law_599 : decode cL_law 599 = .ok (.iload 4, 2) := by decide +kernel
theorem dL_law_601 : decode cL_law 601 = .ok (.iconst 2, 1) := by decide +kernel
theorem dL_law_602 : decode cL_law 602 = .ok (.iadd, 1) := by decide +kernel
theorem dL_law_603 : decode cL_law 603 = .ok (.iaload, 1) := by decide +kernel
theorem dL_law_604 : decode cL_law 604 = .ok (.invokevirtual 72, 3) := by decide +kernel
theorem dL_law_607 : decode cL_law 607 = .ok (.aload_n 2, 1) := by decide +kernel
theorem dL_law_608 : decode cL_law 608 = .ok (.aload_n 0, 1) := by decide +kernel
theorem dL_law_609 : decode cL_law 609 = .ok (.iload 4, 2) := by decide +kernel
theorem dL_law_611 : decode cL_law 611 = .ok (.iconst 1, 1) := by decide +kernel
theorem dL_law_612 : decode cL_law 612 = .ok (.iadd, 1) := by decide +kernel
theorem dL_law_613 : decode cL_law 613 = .ok (.iaload, 1) := by decide +kernel
theorem dL_law_614 : decode cL_law 614 = .ok (.aload_n 0, 1) := by decide +kernel
theorem dL_law_615 : decode cL_law 615 = .ok (.iload 4, 2) := by decide +kernel
theorem dL_law_617 : decode cL_law 617 = .ok (.iconst 2, 1) := by decide +kernel
theorem dL_law_618 : decode cL_law 618 = .ok (.iadd, 1) := by decide +kernel
theorem dL_law_619 : decode cL_law 619 = .ok (.iaload, 1) := by decide +kernel
theorem dL_law_620 : decode cL_law 620 = .ok (.invokevirtual 75, 3) := by decide +kernel
theorem dL_law_623 : decode cL_law 623 = .ok (.if_icmp .eq 694, 3) := by decide +kernel
theorem dL_law_626 : decode cL_law 626 = .ok (.iconst 0, 1) := by decide +kernel
theorem dL_law_627 : decode cL_law 627 = .ok (.ireturn, 1) := by decide +kernel
theorem dL_law_628 : decode cL_law 628 = .ok (.aload_n 1, 1) := by decide +kernel
theorem dL_law_629 : decode cL_law 629 = .ok (.aload_n 0, 1) := by decide +kernel
theorem dL_law_630 : decode cL_law 630 = .ok (.iload 4, 2) := by decide +kernel
theorem dL_law_632 : decode cL_law 632 = .ok (.iconst 1, 1) := by decide +kernel
theorem dL_law_633 : decode cL_law 633 = .ok (.iadd, 1) := by decide +kernel
theorem dL_law_634 : decode cL_law 634 = .ok (.iaload, 1) := by decide +kernel
theorem dL_law_635 : decode cL_law 635 = .ok (.aload_n 0, 1) := by decide +kernel
theorem dL_law_636 : decode cL_law 636 = .ok (.iload 4, 2) := by decide +kernel
theorem dL_law_638 : decode cL_law 638 = .ok (.iconst 2, 1) := by decide +kernel
theorem dL_law_639 : decode cL_law 639 = .ok (.iadd, 1) := by decide +kernel
theorem dL_law_640 : decode cL_law 640 = .ok (.iaload, 1) := by decide +kernel
theorem dL_law_641 : decode cL_law 641 = .ok (.invokevirtual 76, 3) := by decide +kernel
theorem dL_law_644 : decode cL_law 644 = .ok (.aload_n 2, 1) := by decide +kernel
theorem dL_law_645 : decode cL_law 645 = .ok (.aload_n 0, 1) := by decide +kernel
theorem dL_law_646 : decode cL_law 646 = .ok (.iload 4, 2) := by decide +kernel
theorem dL_law_648 : decode cL_law 648 = .ok (.iconst 1, 1) := by decide +kernel
theorem dL_law_649 : decode cL_law 649 = .ok (.iadd, 1) := by decide +kernel
theorem dL_law_650 : decode cL_law 650 = .ok (.iaload, 1) := by decide +kernel
theorem dL_law_651 : decode cL_law 651 = .ok (.aload_n 0, 1) := by decide +kernel
theorem dL_law_652 : decode cL_law 652 = .ok (.iload 4, 2) := by decide +kernel
theorem dL_law_654 : decode cL_law 654 = .ok (.iconst 2, 1) := by decide +kernel
theorem dL_law_655 : decode cL_law 655 = .ok (.iadd, 1) := by decide +kernel
theorem dL_law_656 : decode cL_law 656 = .ok (.iaload, 1) := by decide +kernel
theorem dL_law_657 : decode cL_law 657 = .ok (.invokevirtual 79, 3) := by decide +kernel
theorem dL_law_660 : decode cL_law 660 = .ok (.if_icmp .eq 657, 3) := by decide +kernel
theorem dL_law_663 : decode cL_law 663 = .ok (.iconst 0, 1) := by decide +kernel
theorem dL_law_664 : decode cL_law 664 = .ok (.ireturn, 1) := by decide +kernel
theorem dL_law_665 : decode cL_law 665 = .ok (.aload_n 1, 1) := by decide +kernel
theorem dL_law_666 : decode cL_law 666 = .ok (.aload_n 0, 1) := by decide +kernel
theorem dL_law_667 : decode cL_law 667 = .ok (.iload 4, 2) := by decide +kernel
theorem dL_law_669 : decode cL_law 669 = .ok (.iconst 1, 1) := by decide +kernel
theorem dL_law_670 : decode cL_law 670 = .ok (.iadd, 1) := by decide +kernel
theorem dL_law_671 : decode cL_law 671 = .ok (.iaload, 1) := by decide +kernel
theorem dL_law_672 : decode cL_law 672 = .ok (.invokevirtual 80, 3) := by decide +kernel
theorem dL_law_675 : decode cL_law 675 = .ok (.aload_n 2, 1) := by decide +kernel
theorem dL_law_676 : decode cL_law 676 = .ok (.aload_n 0, 1) := by decide +kernel
theorem dL_law_677 : decode cL_law 677 = .ok (.iload 4, 2) := by decide +kernel
theorem dL_law_679 : decode cL_law 679 = .ok (.iconst 1, 1) := by decide +kernel
theorem dL_law_680 : decode cL_law 680 = .ok (.iadd, 1) := by decide +kernel
theorem dL_law_681 : decode cL_law 681 = .ok (.iaload, 1) := by decide +kernel
theorem dL_law_682 : decode cL_law 682 = .ok (.invokevirtual 83, 3) := by decide +kernel
theorem dL_law_685 : decode cL_law 685 = .ok (.if_icmp .eq 632, 3) := by decide +kernel
theorem dL_law_688 : decode cL_law 688 = .ok (.iconst 0, 1) := by decide +kernel
theorem dL_law_689 : decode cL_law 689 = .ok (.ireturn, 1) := by decide +kernel
theorem dL_law_690 : decode cL_law 690 = .ok (.aload_n 1, 1) := by decide +kernel
theorem dL_law_691 : decode cL_law 691 = .ok (.invokevirtual 84, 3) := by decide +kernel
theorem dL_law_694 : decode cL_law 694 = .ok (.aload_n 2, 1) := by decide +kernel
theorem dL_law_695 : decode cL_law 695 = .ok (.invokevirtual 87, 3) := by decide +kernel
theorem dL_law_698 : decode cL_law 698 = .ok (.if_icmp .eq 619, 3) := by decide +kernel
theorem dL_law_701 : decode cL_law 701 = .ok (.iconst 0, 1) := by decide +kernel
theorem dL_law_702 : decode cL_law 702 = .ok (.ireturn, 1) := by decide +kernel
theorem dL_law_703 : decode cL_law 703 = .ok (.aload_n 1, 1) := by decide +kernel
theorem dL_law_704 : decode cL_law 704 = .ok (.invokevirtual 88, 3) := by decide +kernel
theorem dL_law_707 : decode cL_law 707 = .ok (.aload_n 2, 1) := by decide +kernel
theorem dL_law_708 : decode cL_law 708 = .ok (.invokevirtual 91, 3) := by decide +kernel
theorem dL_law_711 : decode cL_law 711 = .ok (.if_icmp .eq 606, 3) := by decide +kernel
theorem dL_law_714 : decode cL_law 714 = .ok (.iconst 0, 1) := by decide +kernel
theorem dL_law_715 : decode cL_law 715 = .ok (.ireturn, 1) := by decide +kernel
theorem dL_law_716 : decode cL_law 716 = .ok (.aload_n 1, 1) := by decide +kernel
theorem dL_law_717 : decode cL_law 717 = .ok (.invokevirtual 92, 3) := by decide +kernel
theorem dL_law_720 : decode cL_law 720 = .ok (.aload_n 2, 1) := by decide +kernel
theorem dL_law_721 : decode cL_law 721 = .ok (.invokevirtual 95, 3) := by decide +kernel
theorem dL_law_724 : decode cL_law 724 = .ok (.if_icmp .eq 593, 3) := by decide +kernel
theorem dL_law_727 : decode cL_law 727 = .ok (.iconst 0, 1) := by decide +kernel
theorem dL_law_728 : decode cL_law 728 = .ok (.ireturn, 1) := by decide +kernel
theorem dL_law_729 : decode cL_law 729 = .ok (.aload_n 1, 1) := by decide +kernel
theorem dL_law_730 : decode cL_law 730 = .ok (.aload_n 0, 1) := by decide +kernel
theorem dL_law_731 : decode cL_law 731 = .ok (.iload 4, 2) := by decide +kernel
theorem dL_law_733 : decode cL_law 733 = .ok (.iconst 1, 1) := by decide +kernel
theorem dL_law_734 : decode cL_law 734 = .ok (.iadd, 1) := by decide +kernel
theorem dL_law_735 : decode cL_law 735 = .ok (.iaload, 1) := by decide +kernel
theorem dL_law_736 : decode cL_law 736 = .ok (.invokevirtual 96, 3) := by decide +kernel
theorem dL_law_739 : decode cL_law 739 = .ok (.aload_n 2, 1) := by decide +kernel
theorem dL_law_740 : decode cL_law 740 = .ok (.aload_n 0, 1) := by decide +kernel
theorem dL_law_741 : decode cL_law 741 = .ok (.iload 4, 2) := by decide +kernel
theorem dL_law_743 : decode cL_law 743 = .ok (.iconst 1, 1) := by decide +kernel
theorem dL_law_744 : decode cL_law 744 = .ok (.iadd, 1) := by decide +kernel
theorem dL_law_745 : decode cL_law 745 = .ok (.iaload, 1) := by decide +kernel
theorem dL_law_746 : decode cL_law 746 = .ok (.invokevirtual 99, 3) := by decide +kernel
theorem dL_law_749 : decode cL_law 749 = .ok (.if_icmp .eq 568, 3) := by decide +kernel
theorem dL_law_752 : decode cL_law 752 = .ok (.iconst 0, 1) := by decide +kernel
theorem dL_law_753 : decode cL_law 753 = .ok (.ireturn, 1) := by decide +kernel
theorem dL_law_754 : decode cL_law 754 = .ok (.aload_n 1, 1) := by decide +kernel
theorem dL_law_755 : decode cL_law 755 = .ok (.invokevirtual 100, 3) := by decide +kernel
theorem dL_law_758 : decode cL_law 758 = .ok (.aload_n 2, 1) := by decide +kernel
theorem dL_law_759 : decode cL_law 759 = .ok (.invokevirtual 103, 3) := by decide +kernel
theorem dL_law_762 : decode cL_law 762 = .ok (.if_icmp .eq 555, 3) := by decide +kernel
theorem dL_law_765 : decode cL_law 765 = .ok (.iconst 0, 1) := by decide +kernel
theorem dL_law_766 : decode cL_law 766 = .ok (.ireturn, 1) := by decide +kernel
theorem dL_law_767 : decode cL_law 767 = .ok (.aload_n 1, 1) := by decide +kernel
theorem dL_law_768 : decode cL_law 768 = .ok (.invokevirtual 104, 3) := by decide +kernel
theorem dL_law_771 : decode cL_law 771 = .ok (.aload_n 2, 1) := by decide +kernel
theorem dL_law_772 : decode cL_law 772 = .ok (.invokevirtual 107, 3) := by decide +kernel
theorem dL_law_775 : decode cL_law 775 = .ok (.if_icmp .eq 542, 3) := by decide +kernel
theorem dL_law_778 : decode cL_law 778 = .ok (.iconst 0, 1) := by decide +kernel
theorem dL_law_779 : decode cL_law 779 = .ok (.ireturn, 1) := by decide +kernel
theorem dL_law_780 : decode cL_law 780 = .ok (.aload_n 1, 1) := by decide +kernel
theorem dL_law_781 : decode cL_law 781 = .ok (.aload_n 0, 1) := by decide +kernel
theorem dL_law_782 : decode cL_law 782 = .ok (.iload 4, 2) := by decide +kernel
theorem dL_law_784 : decode cL_law 784 = .ok (.iconst 1, 1) := by decide +kernel
theorem dL_law_785 : decode cL_law 785 = .ok (.iadd, 1) := by decide +kernel
theorem dL_law_786 : decode cL_law 786 = .ok (.iaload, 1) := by decide +kernel
theorem dL_law_787 : decode cL_law 787 = .ok (.invokevirtual 108, 3) := by decide +kernel
theorem dL_law_790 : decode cL_law 790 = .ok (.aload_n 2, 1) := by decide +kernel
theorem dL_law_791 : decode cL_law 791 = .ok (.aload_n 0, 1) := by decide +kernel
theorem dL_law_792 : decode cL_law 792 = .ok (.iload 4, 2) := by decide +kernel
theorem dL_law_794 : decode cL_law 794 = .ok (.iconst 1, 1) := by decide +kernel
theorem dL_law_795 : decode cL_law 795 = .ok (.iadd, 1) := by decide +kernel
theorem dL_law_796 : decode cL_law 796 = .ok (.iaload, 1) := by decide +kernel
theorem dL_law_797 : decode cL_law 797 = .ok (.invokevirtual 111, 3) := by decide +kernel
theorem dL_law_800 : decode cL_law 800 = .ok (.if_icmp .eq 517, 3) := by decide +kernel
theorem dL_law_803 : decode cL_law 803 = .ok (.iconst 0, 1) := by decide +kernel
theorem dL_law_804 : decode cL_law 804 = .ok (.ireturn, 1) := by decide +kernel
theorem dL_law_805 : decode cL_law 805 = .ok (.aload_n 1, 1) := by decide +kernel
theorem dL_law_806 : decode cL_law 806 = .ok (.invokevirtual 112, 3) := by decide +kernel
theorem dL_law_809 : decode cL_law 809 = .ok (.aload_n 2, 1) := by decide +kernel
theorem dL_law_810 : decode cL_law 810 = .ok (.invokevirtual 115, 3) := by decide +kernel
theorem dL_law_813 : decode cL_law 813 = .ok (.if_icmp .eq 504, 3) := by decide +kernel
theorem dL_law_816 : decode cL_law 816 = .ok (.iconst 0, 1) := by decide +kernel
theorem dL_law_817 : decode cL_law 817 = .ok (.ireturn, 1) := by decide +kernel
theorem dL_law_818 : decode cL_law 818 = .ok (.aload_n 1, 1) := by decide +kernel
theorem dL_law_819 : decode cL_law 819 = .ok (.aload_n 0, 1) := by decide +kernel
theorem dL_law_820 : decode cL_law 820 = .ok (.iload 4, 2) := by decide +kernel
theorem dL_law_822 : decode cL_law 822 = .ok (.iconst 1, 1) := by decide +kernel
theorem dL_law_823 : decode cL_law 823 = .ok (.iadd, 1) := by decide +kernel
theorem dL_law_824 : decode cL_law 824 = .ok (.iaload, 1) := by decide +kernel
theorem dL_law_825 : decode cL_law 825 = .ok (.aload_n 0, 1) := by decide +kernel
theorem dL_law_826 : decode cL_law 826 = .ok (.iload 4, 2) := by decide +kernel
theorem dL_law_828 : decode cL_law 828 = .ok (.iconst 2, 1) := by decide +kernel
theorem dL_law_829 : decode cL_law 829 = .ok (.iadd, 1) := by decide +kernel
theorem dL_law_830 : decode cL_law 830 = .ok (.iaload, 1) := by decide +kernel
theorem dL_law_831 : decode cL_law 831 = .ok (.invokevirtual 116, 3) := by decide +kernel
theorem dL_law_834 : decode cL_law 834 = .ok (.aload_n 2, 1) := by decide +kernel
theorem dL_law_835 : decode cL_law 835 = .ok (.aload_n 0, 1) := by decide +kernel
theorem dL_law_836 : decode cL_law 836 = .ok (.iload 4, 2) := by decide +kernel
theorem dL_law_838 : decode cL_law 838 = .ok (.iconst 1, 1) := by decide +kernel
theorem dL_law_839 : decode cL_law 839 = .ok (.iadd, 1) := by decide +kernel
theorem dL_law_840 : decode cL_law 840 = .ok (.iaload, 1) := by decide +kernel
theorem dL_law_841 : decode cL_law 841 = .ok (.aload_n 0, 1) := by decide +kernel
theorem dL_law_842 : decode cL_law 842 = .ok (.iload 4, 2) := by decide +kernel
theorem dL_law_844 : decode cL_law 844 = .ok (.iconst 2, 1) := by decide +kernel
theorem dL_law_845 : decode cL_law 845 = .ok (.iadd, 1) := by decide +kernel
theorem dL_law_846 : decode cL_law 846 = .ok (.iaload, 1) := by decide +kernel
theorem dL_law_847 : decode cL_law 847 = .ok (.invokevirtual 119, 3) := by decide +kernel
theorem dL_law_850 : decode cL_law 850 = .ok (.if_icmp .eq 467, 3) := by decide +kernel
theorem dL_law_853 : decode cL_law 853 = .ok (.iconst 0, 1) := by decide +kernel
theorem dL_law_854 : decode cL_law 854 = .ok (.ireturn, 1) := by decide +kernel
theorem dL_law_855 : decode cL_law 855 = .ok (.aload_n 1, 1) := by decide +kernel
theorem dL_law_856 : decode cL_law 856 = .ok (.invokevirtual 120, 3) := by decide +kernel
theorem dL_law_859 : decode cL_law 859 = .ok (.aload_n 2, 1) := by decide +kernel
theorem dL_law_860 : decode cL_law 860 = .ok (.invokevirtual 123, 3) := by decide +kernel
theorem dL_law_863 : decode cL_law 863 = .ok (.if_icmp .eq 454, 3) := by decide +kernel
theorem dL_law_866 : decode cL_law 866 = .ok (.iconst 0, 1) := by decide +kernel
theorem dL_law_867 : decode cL_law 867 = .ok (.ireturn, 1) := by decide +kernel
theorem dL_law_868 : decode cL_law 868 = .ok (.aload_n 1, 1) := by decide +kernel
theorem dL_law_869 : decode cL_law 869 = .ok (.invokevirtual 124, 3) := by decide +kernel
theorem dL_law_872 : decode cL_law 872 = .ok (.aload_n 2, 1) := by decide +kernel
theorem dL_law_873 : decode cL_law 873 = .ok (.invokevirtual 127, 3) := by decide +kernel
theorem dL_law_876 : decode cL_law 876 = .ok (.if_icmp .eq 441, 3) := by decide +kernel
theorem dL_law_879 : decode cL_law 879 = .ok (.iconst 0, 1) := by decide +kernel
theorem dL_law_880 : decode cL_law 880 = .ok (.ireturn, 1) := by decide +kernel
theorem dL_law_881 : decode cL_law 881 = .ok (.aload_n 1, 1) := by decide +kernel
theorem dL_law_882 : decode cL_law 882 = .ok (.invokevirtual 128, 3) := by decide +kernel
theorem dL_law_885 : decode cL_law 885 = .ok (.aload_n 2, 1) := by decide +kernel
theorem dL_law_886 : decode cL_law 886 = .ok (.invokevirtual 131, 3) := by decide +kernel
theorem dL_law_889 : decode cL_law 889 = .ok (.if_icmp .eq 428, 3) := by decide +kernel
theorem dL_law_892 : decode cL_law 892 = .ok (.iconst 0, 1) := by decide +kernel
theorem dL_law_893 : decode cL_law 893 = .ok (.ireturn, 1) := by decide +kernel
theorem dL_law_894 : decode cL_law 894 = .ok (.aload_n 1, 1) := by decide +kernel
theorem dL_law_895 : decode cL_law 895 = .ok (.invokevirtual 132, 3) := by decide +kernel
theorem dL_law_898 : decode cL_law 898 = .ok (.aload_n 2, 1) := by decide +kernel
theorem dL_law_899 : decode cL_law 899 = .ok (.invokevirtual 135, 3) := by decide +kernel
theorem dL_law_902 : decode cL_law 902 = .ok (.if_icmp .eq 415, 3) := by decide +kernel
theorem dL_law_905 : decode cL_law 905 = .ok (.iconst 0, 1) := by decide +kernel
theorem dL_law_906 : decode cL_law 906 = .ok (.ireturn, 1) := by decide +kernel
theorem dL_law_907 : decode cL_law 907 = .ok (.aload_n 1, 1) := by decide +kernel
theorem dL_law_908 : decode cL_law 908 = .ok (.invokevirtual 136, 3) := by decide +kernel
theorem dL_law_911 : decode cL_law 911 = .ok (.aload_n 2, 1) := by decide +kernel
theorem dL_law_912 : decode cL_law 912 = .ok (.invokevirtual 139, 3) := by decide +kernel
theorem dL_law_915 : decode cL_law 915 = .ok (.if_icmp .eq 402, 3) := by decide +kernel
theorem dL_law_918 : decode cL_law 918 = .ok (.iconst 0, 1) := by decide +kernel
theorem dL_law_919 : decode cL_law 919 = .ok (.ireturn, 1) := by decide +kernel
theorem dL_law_920 : decode cL_law 920 = .ok (.aload_n 1, 1) := by decide +kernel
theorem dL_law_921 : decode cL_law 921 = .ok (.invokevirtual 140, 3) := by decide +kernel
theorem dL_law_924 : decode cL_law 924 = .ok (.aload_n 2, 1) := by decide +kernel
theorem dL_law_925 : decode cL_law 925 = .ok (.invokevirtual 143, 3) := by decide +kernel
theorem dL_law_928 : decode cL_law 928 = .ok (.if_icmp .eq 389, 3) := by decide +kernel
theorem dL_law_931 : decode cL_law 931 = .ok (.iconst 0, 1) := by decide +kernel
theorem dL_law_932 : decode cL_law 932 = .ok (.ireturn, 1) := by decide +kernel
theorem dL_law_933 : decode cL_law 933 = .ok (.aload_n 1, 1) := by decide +kernel
theorem dL_law_934 : decode cL_law 934 = .ok (.invokevirtual 144, 3) := by decide +kernel
theorem dL_law_937 : decode cL_law 937 = .ok (.aload_n 2, 1) := by decide +kernel
theorem dL_law_938 : decode cL_law 938 = .ok (.invokevirtual 147, 3) := by decide +kernel
theorem dL_law_941 : decode cL_law 941 = .ok (.if_icmp .eq 376, 3) := by decide +kernel
theorem dL_law_944 : decode cL_law 944 = .ok (.iconst 0, 1) := by decide +kernel
theorem dL_law_945 : decode cL_law 945 = .ok (.ireturn, 1) := by decide +kernel
theorem dL_law_946 : decode cL_law 946 = .ok (.aload_n 1, 1) := by decide +kernel
theorem dL_law_947 : decode cL_law 947 = .ok (.invokevirtual 148, 3) := by decide +kernel
theorem dL_law_950 : decode cL_law 950 = .ok (.aload_n 2, 1) := by decide +kernel
theorem dL_law_951 : decode cL_law 951 = .ok (.invokevirtual 151, 3) := by decide +kernel
theorem dL_law_954 : decode cL_law 954 = .ok (.if_icmp .eq 363, 3) := by decide +kernel
theorem dL_law_957 : decode cL_law 957 = .ok (.iconst 0, 1) := by decide +kernel
theorem dL_law_958 : decode cL_law 958 = .ok (.ireturn, 1) := by decide +kernel
theorem dL_law_959 : decode cL_law 959 = .ok (.aload_n 1, 1) := by decide +kernel
theorem dL_law_960 : decode cL_law 960 = .ok (.invokevirtual 152, 3) := by decide +kernel
theorem dL_law_963 : decode cL_law 963 = .ok (.aload_n 2, 1) := by decide +kernel
theorem dL_law_964 : decode cL_law 964 = .ok (.invokevirtual 155, 3) := by decide +kernel
theorem dL_law_967 : decode cL_law 967 = .ok (.if_icmp .eq 350, 3) := by decide +kernel
theorem dL_law_970 : decode cL_law 970 = .ok (.iconst 0, 1) := by decide +kernel
theorem dL_law_971 : decode cL_law 971 = .ok (.ireturn, 1) := by decide +kernel
theorem dL_law_972 : decode cL_law 972 = .ok (.aload_n 1, 1) := by decide +kernel
theorem dL_law_973 : decode cL_law 973 = .ok (.invokevirtual 156, 3) := by decide +kernel
theorem dL_law_976 : decode cL_law 976 = .ok (.aload_n 2, 1) := by decide +kernel
theorem dL_law_977 : decode cL_law 977 = .ok (.invokevirtual 159, 3) := by decide +kernel
theorem dL_law_980 : decode cL_law 980 = .ok (.if_icmp .eq 337, 3) := by decide +kernel
theorem dL_law_983 : decode cL_law 983 = .ok (.iconst 0, 1) := by decide +kernel
theorem dL_law_984 : decode cL_law 984 = .ok (.ireturn, 1) := by decide +kernel
theorem dL_law_985 : decode cL_law 985 = .ok (.aload_n 1, 1) := by decide +kernel
theorem dL_law_986 : decode cL_law 986 = .ok (.invokevirtual 160, 3) := by decide +kernel
theorem dL_law_989 : decode cL_law 989 = .ok (.aload_n 2, 1) := by decide +kernel
theorem dL_law_990 : decode cL_law 990 = .ok (.invokevirtual 163, 3) := by decide +kernel
theorem dL_law_993 : decode cL_law 993 = .ok (.if_icmp .eq 324, 3) := by decide +kernel
theorem dL_law_996 : decode cL_law 996 = .ok (.iconst 0, 1) := by decide +kernel
theorem dL_law_997 : decode cL_law 997 = .ok (.ireturn, 1) := by decide +kernel
theorem dL_law_998 : decode cL_law 998 = .ok (.aload_n 1, 1) := by decide +kernel
theorem dL_law_999 : decode cL_law 999 = .ok (.invokevirtual 164, 3) := by decide +kernel
theorem dL_law_1002 : decode cL_law 1002 = .ok (.aload_n 2, 1) := by decide +kernel
theorem dL_law_1003 : decode cL_law 1003 = .ok (.invokevirtual 167, 3) := by decide +kernel
theorem dL_law_1006 : decode cL_law 1006 = .ok (.if_icmp .eq 311, 3) := by decide +kernel
theorem dL_law_1009 : decode cL_law 1009 = .ok (.iconst 0, 1) := by decide +kernel
theorem dL_law_1010 : decode cL_law 1010 = .ok (.ireturn, 1) := by decide +kernel
theorem dL_law_1011 : decode cL_law 1011 = .ok (.aload_n 1, 1) := by decide +kernel
theorem dL_law_1012 : decode cL_law 1012 = .ok (.aload_n 0, 1) := by decide +kernel
theorem dL_law_1013 : decode cL_law 1013 = .ok (.iload 4, 2) := by decide +kernel
theorem dL_law_1015 : decode cL_law 1015 = .ok (.iconst 1, 1) := by decide +kernel
theorem dL_law_1016 : decode cL_law 1016 = .ok (.iadd, 1) := by decide +kernel
theorem dL_law_1017 : decode cL_law 1017 = .ok (.iaload, 1) := by decide +kernel
theorem dL_law_1018 : decode cL_law 1018 = .ok (.aload_n 0, 1) := by decide +kernel
theorem dL_law_1019 : decode cL_law 1019 = .ok (.iload 4, 2) := by decide +kernel
theorem dL_law_1021 : decode cL_law 1021 = .ok (.iconst 2, 1) := by decide +kernel
theorem dL_law_1022 : decode cL_law 1022 = .ok (.iadd, 1) := by decide +kernel
theorem dL_law_1023 : decode cL_law 1023 = .ok (.iaload, 1) := by decide +kernel
theorem dL_law_1024 : decode cL_law 1024 = .ok (.invokevirtual 168, 3) := by decide +kernel
theorem dL_law_1027 : decode cL_law 1027 = .ok (.aload_n 2, 1) := by decide +kernel
theorem dL_law_1028 : decode cL_law 1028 = .ok (.aload_n 0, 1) := by decide +kernel
theorem dL_law_1029 : decode cL_law 1029 = .ok (.iload 4, 2) := by decide +kernel
theorem dL_law_1031 : decode cL_law 1031 = .ok (.iconst 1, 1) := by decide +kernel
theorem dL_law_1032 : decode cL_law 1032 = .ok (.iadd, 1) := by decide +kernel
theorem dL_law_1033 : decode cL_law 1033 = .ok (.iaload, 1) := by decide +kernel
theorem dL_law_1034 : decode cL_law 1034 = .ok (.aload_n 0, 1) := by decide +kernel
theorem dL_law_1035 : decode cL_law 1035 = .ok (.iload 4, 2) := by decide +kernel
theorem dL_law_1037 : decode cL_law 1037 = .ok (.iconst 2, 1) := by decide +kernel
theorem dL_law_1038 : decode cL_law 1038 = .ok (.iadd, 1) := by decide +kernel
theorem dL_law_1039 : decode cL_law 1039 = .ok (.iaload, 1) := by decide +kernel
theorem dL_law_1040 : decode cL_law 1040 = .ok (.invokevirtual 171, 3) := by decide +kernel
theorem dL_law_1043 : decode cL_law 1043 = .ok (.if_icmp .eq 274, 3) := by decide +kernel
theorem dL_law_1046 : decode cL_law 1046 = .ok (.iconst 0, 1) := by decide +kernel
theorem dL_law_1047 : decode cL_law 1047 = .ok (.ireturn, 1) := by decide +kernel
theorem dL_law_1048 : decode cL_law 1048 = .ok (.aload_n 1, 1) := by decide +kernel
theorem dL_law_1049 : decode cL_law 1049 = .ok (.invokevirtual 172, 3) := by decide +kernel
theorem dL_law_1052 : decode cL_law 1052 = .ok (.aload_n 2, 1) := by decide +kernel
theorem dL_law_1053 : decode cL_law 1053 = .ok (.invokevirtual 175, 3) := by decide +kernel
theorem dL_law_1056 : decode cL_law 1056 = .ok (.if_icmp .eq 261, 3) := by decide +kernel
theorem dL_law_1059 : decode cL_law 1059 = .ok (.iconst 0, 1) := by decide +kernel
theorem dL_law_1060 : decode cL_law 1060 = .ok (.ireturn, 1) := by decide +kernel
theorem dL_law_1061 : decode cL_law 1061 = .ok (.aload_n 1, 1) := by decide +kernel
theorem dL_law_1062 : decode cL_law 1062 = .ok (.invokevirtual 176, 3) := by decide +kernel
theorem dL_law_1065 : decode cL_law 1065 = .ok (.aload_n 2, 1) := by decide +kernel
theorem dL_law_1066 : decode cL_law 1066 = .ok (.invokevirtual 179, 3) := by decide +kernel
theorem dL_law_1069 : decode cL_law 1069 = .ok (.if_icmp .eq 248, 3) := by decide +kernel
theorem dL_law_1072 : decode cL_law 1072 = .ok (.iconst 0, 1) := by decide +kernel
theorem dL_law_1073 : decode cL_law 1073 = .ok (.ireturn, 1) := by decide +kernel
theorem dL_law_1074 : decode cL_law 1074 = .ok (.aload_n 1, 1) := by decide +kernel
theorem dL_law_1075 : decode cL_law 1075 = .ok (.invokevirtual 180, 3) := by decide +kernel
theorem dL_law_1078 : decode cL_law 1078 = .ok (.aload_n 2, 1) := by decide +kernel
theorem dL_law_1079 : decode cL_law 1079 = .ok (.invokevirtual 183, 3) := by decide +kernel
theorem dL_law_1082 : decode cL_law 1082 = .ok (.if_icmp .eq 235, 3) := by decide +kernel
theorem dL_law_1085 : decode cL_law 1085 = .ok (.iconst 0, 1) := by decide +kernel
theorem dL_law_1086 : decode cL_law 1086 = .ok (.ireturn, 1) := by decide +kernel
theorem dL_law_1087 : decode cL_law 1087 = .ok (.aload_n 1, 1) := by decide +kernel
theorem dL_law_1088 : decode cL_law 1088 = .ok (.aload_n 0, 1) := by decide +kernel
theorem dL_law_1089 : decode cL_law 1089 = .ok (.iload 4, 2) := by decide +kernel
theorem dL_law_1091 : decode cL_law 1091 = .ok (.iconst 1, 1) := by decide +kernel
theorem dL_law_1092 : decode cL_law 1092 = .ok (.iadd, 1) := by decide +kernel
theorem dL_law_1093 : decode cL_law 1093 = .ok (.iaload, 1) := by decide +kernel
theorem dL_law_1094 : decode cL_law 1094 = .ok (.invokevirtual 184, 3) := by decide +kernel
theorem dL_law_1097 : decode cL_law 1097 = .ok (.aload_n 2, 1) := by decide +kernel
theorem dL_law_1098 : decode cL_law 1098 = .ok (.aload_n 0, 1) := by decide +kernel
theorem dL_law_1099 : decode cL_law 1099 = .ok (.iload 4, 2) := by decide +kernel
theorem dL_law_1101 : decode cL_law 1101 = .ok (.iconst 1, 1) := by decide +kernel
theorem dL_law_1102 : decode cL_law 1102 = .ok (.iadd, 1) := by decide +kernel
theorem dL_law_1103 : decode cL_law 1103 = .ok (.iaload, 1) := by decide +kernel
theorem dL_law_1104 : decode cL_law 1104 = .ok (.invokevirtual 187, 3) := by decide +kernel
theorem dL_law_1107 : decode cL_law 1107 = .ok (.if_icmp .eq 210, 3) := by decide +kernel
theorem dL_law_1110 : decode cL_law 1110 = .ok (.iconst 0, 1) := by decide +kernel
theorem dL_law_1111 : decode cL_law 1111 = .ok (.ireturn, 1) := by decide +kernel
theorem dL_law_1112 : decode cL_law 1112 = .ok (.aload_n 1, 1) := by decide +kernel
theorem dL_law_1113 : decode cL_law 1113 = .ok (.invokevirtual 188, 3) := by decide +kernel
theorem dL_law_1116 : decode cL_law 1116 = .ok (.aload_n 2, 1) := by decide +kernel
theorem dL_law_1117 : decode cL_law 1117 = .ok (.invokevirtual 191, 3) := by decide +kernel
theorem dL_law_1120 : decode cL_law 1120 = .ok (.if_icmp .eq 197, 3) := by decide +kernel
theorem dL_law_1123 : decode cL_law 1123 = .ok (.iconst 0, 1) := by decide +kernel
theorem dL_law_1124 : decode cL_law 1124 = .ok (.ireturn, 1) := by decide +kernel
theorem dL_law_1125 : decode cL_law 1125 = .ok (.aload_n 1, 1) := by decide +kernel
theorem dL_law_1126 : decode cL_law 1126 = .ok (.aload_n 0, 1) := by decide +kernel
theorem dL_law_1127 : decode cL_law 1127 = .ok (.iload 4, 2) := by decide +kernel
theorem dL_law_1129 : decode cL_law 1129 = .ok (.iconst 1, 1) := by decide +kernel
theorem dL_law_1130 : decode cL_law 1130 = .ok (.iadd, 1) := by decide +kernel
theorem dL_law_1131 : decode cL_law 1131 = .ok (.iaload, 1) := by decide +kernel
theorem dL_law_1132 : decode cL_law 1132 = .ok (.invokevirtual 192, 3) := by decide +kernel
theorem dL_law_1135 : decode cL_law 1135 = .ok (.aload_n 2, 1) := by decide +kernel
theorem dL_law_1136 : decode cL_law 1136 = .ok (.aload_n 0, 1) := by decide +kernel
theorem dL_law_1137 : decode cL_law 1137 = .ok (.iload 4, 2) := by decide +kernel
theorem dL_law_1139 : decode cL_law 1139 = .ok (.iconst 1, 1) := by decide +kernel
theorem dL_law_1140 : decode cL_law 1140 = .ok (.iadd, 1) := by decide +kernel
theorem dL_law_1141 : decode cL_law 1141 = .ok (.iaload, 1) := by decide +kernel
theorem dL_law_1142 : decode cL_law 1142 = .ok (.invokevirtual 195, 3) := by decide +kernel
theorem dL_law_1145 : decode cL_law 1145 = .ok (.if_icmp .eq 172, 3) := by decide +kernel
theorem dL_law_1148 : decode cL_law 1148 = .ok (.iconst 0, 1) := by decide +kernel
theorem dL_law_1149 : decode cL_law 1149 = .ok (.ireturn, 1) := by decide +kernel
theorem dL_law_1150 : decode cL_law 1150 = .ok (.aload_n 1, 1) := by decide +kernel
theorem dL_law_1151 : decode cL_law 1151 = .ok (.aload_n 0, 1) := by decide +kernel
theorem dL_law_1152 : decode cL_law 1152 = .ok (.iload 4, 2) := by decide +kernel
theorem dL_law_1154 : decode cL_law 1154 = .ok (.iconst 1, 1) := by decide +kernel
theorem dL_law_1155 : decode cL_law 1155 = .ok (.iadd, 1) := by decide +kernel
theorem dL_law_1156 : decode cL_law 1156 = .ok (.iaload, 1) := by decide +kernel
theorem dL_law_1157 : decode cL_law 1157 = .ok (.aload_n 0, 1) := by decide +kernel
theorem dL_law_1158 : decode cL_law 1158 = .ok (.iload 4, 2) := by decide +kernel
theorem dL_law_1160 : decode cL_law 1160 = .ok (.iconst 2, 1) := by decide +kernel
theorem dL_law_1161 : decode cL_law 1161 = .ok (.iadd, 1) := by decide +kernel
theorem dL_law_1162 : decode cL_law 1162 = .ok (.iaload, 1) := by decide +kernel
theorem dL_law_1163 : decode cL_law 1163 = .ok (.invokevirtual 196, 3) := by decide +kernel
theorem dL_law_1166 : decode cL_law 1166 = .ok (.aload_n 2, 1) := by decide +kernel
theorem dL_law_1167 : decode cL_law 1167 = .ok (.aload_n 0, 1) := by decide +kernel
theorem dL_law_1168 : decode cL_law 1168 = .ok (.iload 4, 2) := by decide +kernel
theorem dL_law_1170 : decode cL_law 1170 = .ok (.iconst 1, 1) := by decide +kernel
theorem dL_law_1171 : decode cL_law 1171 = .ok (.iadd, 1) := by decide +kernel
theorem dL_law_1172 : decode cL_law 1172 = .ok (.iaload, 1) := by decide +kernel
theorem dL_law_1173 : decode cL_law 1173 = .ok (.aload_n 0, 1) := by decide +kernel
theorem dL_law_1174 : decode cL_law 1174 = .ok (.iload 4, 2) := by decide +kernel
theorem dL_law_1176 : decode cL_law 1176 = .ok (.iconst 2, 1) := by decide +kernel
theorem dL_law_1177 : decode cL_law 1177 = .ok (.iadd, 1) := by decide +kernel
theorem dL_law_1178 : decode cL_law 1178 = .ok (.iaload, 1) := by decide +kernel
theorem dL_law_1179 : decode cL_law 1179 = .ok (.invokevirtual 199, 3) := by decide +kernel
theorem dL_law_1182 : decode cL_law 1182 = .ok (.if_icmp .eq 135, 3) := by decide +kernel
theorem dL_law_1185 : decode cL_law 1185 = .ok (.iconst 0, 1) := by decide +kernel
theorem dL_law_1186 : decode cL_law 1186 = .ok (.ireturn, 1) := by decide +kernel
theorem dL_law_1187 : decode cL_law 1187 = .ok (.aload_n 1, 1) := by decide +kernel
theorem dL_law_1188 : decode cL_law 1188 = .ok (.aload_n 0, 1) := by decide +kernel
theorem dL_law_1189 : decode cL_law 1189 = .ok (.iload 4, 2) := by decide +kernel
theorem dL_law_1191 : decode cL_law 1191 = .ok (.iconst 1, 1) := by decide +kernel
theorem dL_law_1192 : decode cL_law 1192 = .ok (.iadd, 1) := by decide +kernel
theorem dL_law_1193 : decode cL_law 1193 = .ok (.iaload, 1) := by decide +kernel
theorem dL_law_1194 : decode cL_law 1194 = .ok (.invokevirtual 200, 3) := by decide +kernel
theorem dL_law_1197 : decode cL_law 1197 = .ok (.aload_n 2, 1) := by decide +kernel
theorem dL_law_1198 : decode cL_law 1198 = .ok (.aload_n 0, 1) := by decide +kernel
theorem dL_law_1199 : decode cL_law 1199 = .ok (.iload 4, 2) := by decide +kernel
theorem dL_law_1201 : decode cL_law 1201 = .ok (.iconst 1, 1) := by decide +kernel
theorem dL_law_1202 : decode cL_law 1202 = .ok (.iadd, 1) := by decide +kernel
theorem dL_law_1203 : decode cL_law 1203 = .ok (.iaload, 1) := by decide +kernel
theorem dL_law_1204 : decode cL_law 1204 = .ok (.invokevirtual 203, 3) := by decide +kernel
theorem dL_law_1207 : decode cL_law 1207 = .ok (.if_icmp .eq 110, 3) := by decide +kernel
theorem dL_law_1210 : decode cL_law 1210 = .ok (.iconst 0, 1) := by decide +kernel
theorem dL_law_1211 : decode cL_law 1211 = .ok (.ireturn, 1) := by decide +kernel
theorem dL_law_1212 : decode cL_law 1212 = .ok (.aload_n 1, 1) := by decide +kernel
theorem dL_law_1213 : decode cL_law 1213 = .ok (.aload_n 0, 1) := by decide +kernel
theorem dL_law_1214 : decode cL_law 1214 = .ok (.iload 4, 2) := by decide +kernel
theorem dL_law_1216 : decode cL_law 1216 = .ok (.iconst 1, 1) := by decide +kernel
theorem dL_law_1217 : decode cL_law 1217 = .ok (.iadd, 1) := by decide +kernel
theorem dL_law_1218 : decode cL_law 1218 = .ok (.iaload, 1) := by decide +kernel
theorem dL_law_1219 : decode cL_law 1219 = .ok (.invokevirtual 204, 3) := by decide +kernel
theorem dL_law_1222 : decode cL_law 1222 = .ok (.aload_n 2, 1) := by decide +kernel
theorem dL_law_1223 : decode cL_law 1223 = .ok (.aload_n 0, 1) := by decide +kernel
theorem dL_law_1224 : decode cL_law 1224 = .ok (.iload 4, 2) := by decide +kernel
theorem dL_law_1226 : decode cL_law 1226 = .ok (.iconst 1, 1) := by decide +kernel
theorem dL_law_1227 : decode cL_law 1227 = .ok (.iadd, 1) := by decide +kernel
theorem dL_law_1228 : decode cL_law 1228 = .ok (.iaload, 1) := by decide +kernel
theorem dL_law_1229 : decode cL_law 1229 = .ok (.invokevirtual 207, 3) := by decide +kernel
theorem dL_law_1232 : decode cL_law 1232 = .ok (.if_icmp .eq 85, 3) := by decide +kernel
theorem dL_law_1235 : decode cL_law 1235 = .ok (.iconst 0, 1) := by decide +kernel
theorem dL_law_1236 : decode cL_law 1236 = .ok (.ireturn, 1) := by decide +kernel
theorem dL_law_1237 : decode cL_law 1237 = .ok (.aload_n 1, 1) := by decide +kernel
theorem dL_law_1238 : decode cL_law 1238 = .ok (.aload_n 0, 1) := by decide +kernel
theorem dL_law_1239 : decode cL_law 1239 = .ok (.iload 4, 2) := by decide +kernel
theorem dL_law_1241 : decode cL_law 1241 = .ok (.iconst 1, 1) := by decide +kernel
theorem dL_law_1242 : decode cL_law 1242 = .ok (.iadd, 1) := by decide +kernel
theorem dL_law_1243 : decode cL_law 1243 = .ok (.iaload, 1) := by decide +kernel
theorem dL_law_1244 : decode cL_law 1244 = .ok (.invokevirtual 208, 3) := by decide +kernel
theorem dL_law_1247 : decode cL_law 1247 = .ok (.aload_n 2, 1) := by decide +kernel
theorem dL_law_1248 : decode cL_law 1248 = .ok (.aload_n 0, 1) := by decide +kernel
theorem dL_law_1249 : decode cL_law 1249 = .ok (.iload 4, 2) := by decide +kernel
theorem dL_law_1251 : decode cL_law 1251 = .ok (.iconst 1, 1) := by decide +kernel
theorem dL_law_1252 : decode cL_law 1252 = .ok (.iadd, 1) := by decide +kernel
theorem dL_law_1253 : decode cL_law 1253 = .ok (.iaload, 1) := by decide +kernel
theorem dL_law_1254 : decode cL_law 1254 = .ok (.invokevirtual 211, 3) := by decide +kernel
theorem dL_law_1257 : decode cL_law 1257 = .ok (.if_icmp .eq 60, 3) := by decide +kernel
theorem dL_law_1260 : decode cL_law 1260 = .ok (.iconst 0, 1) := by decide +kernel
theorem dL_law_1261 : decode cL_law 1261 = .ok (.ireturn, 1) := by decide +kernel
theorem dL_law_1262 : decode cL_law 1262 = .ok (.aload_n 1, 1) := by decide +kernel
theorem dL_law_1263 : decode cL_law 1263 = .ok (.aload_n 0, 1) := by decide +kernel
theorem dL_law_1264 : decode cL_law 1264 = .ok (.iload 4, 2) := by decide +kernel
theorem dL_law_1266 : decode cL_law 1266 = .ok (.iconst 1, 1) := by decide +kernel
theorem dL_law_1267 : decode cL_law 1267 = .ok (.iadd, 1) := by decide +kernel
theorem dL_law_1268 : decode cL_law 1268 = .ok (.iaload, 1) := by decide +kernel
theorem dL_law_1269 : decode cL_law 1269 = .ok (.aload_n 3, 1) := by decide +kernel
theorem dL_law_1270 : decode cL_law 1270 = .ok (.invokestatic 212, 3) := by decide +kernel
theorem dL_law_1273 : decode cL_law 1273 = .ok (.istore 5, 2) := by decide +kernel
theorem dL_law_1275 : decode cL_law 1275 = .ok (.aload_n 2, 1) := by decide +kernel
theorem dL_law_1276 : decode cL_law 1276 = .ok (.aload_n 0, 1) := by decide +kernel
theorem dL_law_1277 : decode cL_law 1277 = .ok (.iload 4, 2) := by decide +kernel
theorem dL_law_1279 : decode cL_law 1279 = .ok (.iconst 1, 1) := by decide +kernel
theorem dL_law_1280 : decode cL_law 1280 = .ok (.iadd, 1) := by decide +kernel
theorem dL_law_1281 : decode cL_law 1281 = .ok (.iaload, 1) := by decide +kernel
theorem dL_law_1282 : decode cL_law 1282 = .ok (.invokevirtual 215, 3) := by decide +kernel
theorem dL_law_1285 : decode cL_law 1285 = .ok (.lstore 6, 2) := by decide +kernel
theorem dL_law_1287 : decode cL_law 1287 = .ok (.aload_n 2, 1) := by decide +kernel
theorem dL_law_1288 : decode cL_law 1288 = .ok (.invokevirtual 52, 3) := by decide +kernel
theorem dL_law_1291 : decode cL_law 1291 = .ok (.iload 5, 2) := by decide +kernel
theorem dL_law_1293 : decode cL_law 1293 = .ok (.if_icmp .eq 5, 3) := by decide +kernel
theorem dL_law_1296 : decode cL_law 1296 = .ok (.iconst 0, 1) := by decide +kernel
theorem dL_law_1297 : decode cL_law 1297 = .ok (.ireturn, 1) := by decide +kernel
theorem dL_law_1298 : decode cL_law 1298 = .ok (.iload 5, 2) := by decide +kernel
theorem dL_law_1300 : decode cL_law 1300 = .ok (.ifCond .ne 14, 3) := by decide +kernel
theorem dL_law_1303 : decode cL_law 1303 = .ok (.aload_n 3, 1) := by decide +kernel
theorem dL_law_1304 : decode cL_law 1304 = .ok (.iconst 0, 1) := by decide +kernel
theorem dL_law_1305 : decode cL_law 1305 = .ok (.laload, 1) := by decide +kernel
theorem dL_law_1306 : decode cL_law 1306 = .ok (.lload 6, 2) := by decide +kernel
theorem dL_law_1308 : decode cL_law 1308 = .ok (.lcmp, 1) := by decide +kernel
theorem dL_law_1309 : decode cL_law 1309 = .ok (.ifCond .eq 5, 3) := by decide +kernel
theorem dL_law_1312 : decode cL_law 1312 = .ok (.iconst 0, 1) := by decide +kernel
theorem dL_law_1313 : decode cL_law 1313 = .ok (.ireturn, 1) := by decide +kernel
theorem dL_law_1314 : decode cL_law 1314 = .ok (.goto 3, 3) := by decide +kernel
theorem dL_law_1317 : decode cL_law 1317 = .ok (.iinc 4 5, 3) := by decide +kernel
theorem dL_law_1320 : decode cL_law 1320 = .ok (.goto (-1297), 3) := by decide +kernel
theorem dL_law_1323 : decode cL_law 1323 = .ok (.iconst 1, 1) := by decide +kernel
theorem dL_law_1324 : decode cL_law 1324 = .ok (.ireturn, 1) := by decide +kernel
