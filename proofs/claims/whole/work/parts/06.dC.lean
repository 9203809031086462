theorem dX12_init_0 : decode cX12_init 0 = .ok (.aload_n 0, 1) := by decide +kernel
theorem dX12_init_1 : decode cX12_init 1 = .ok (.invokespecial 3, 3) := by decide +kernel
theorem dX12_init_4 : decode cX12_init 4 = .ok (.aload_n 0, 1) := by decide +kernel
theorem dX12_init_5 : decode cX12_init 5 = .ok (.bipush 25, 2) := by decide +kernel
theorem dX12_init_7 : decode cX12_init 7 = .ok (.newarray .int, 2) := by decide +kernel
theorem dX12_init_9 : decode cX12_init 9 = .ok (.putfield 9, 3) := by decide +kernel
theorem dX12_init_12 : decode cX12_init 12 = .ok (.aload_n 0, 1) := by decide +kernel
theorem dX12_init_13 : decode cX12_init 13 = .ok (.bipush 6, 2) := by decide +kernel
theorem dX12_init_15 : decode cX12_init 15 = .ok (.newarray .int, 2) := by decide +kernel
theorem dX12_init_17 : decode cX12_init 17 = .ok (.putfield 15, 3) := by decide +kernel
theorem dX12_init_20 : decode cX12_init 20 = .ok (.aload_n 0, 1) := by decide +kernel
theorem dX12_init_21 : decode cX12_init 21 = .ok (.bipush 6, 2) := by decide +kernel
theorem dX12_init_23 : decode cX12_init 23 = .ok (.newarray .int, 2) := by decide +kernel
theorem dX12_init_25 : decode cX12_init 25 = .ok (.putfield 18, 3) := by decide +kernel
theorem dX12_init_28 : decode cX12_init 28 = .ok (.aload_n 0, 1) := by decide +kernel
theorem dX12_init_29 : decode cX12_init 29 = .ok (.bipush 6, 2) := by decide +kernel
theorem dX12_init_31 : decode cX12_init 31 = .ok (.newarray .int, 2) := by decide +kernel
theorem dX12_init_33 : decode cX12_init 33 = .ok (.putfield 21, 3) := by decide +kernel
theorem dX12_init_36 : decode cX12_init 36 = .ok (.aload_n 0, 1) := by decide +kernel
theorem dX12_init_37 : decode cX12_init 37 = .ok (.bipush 6, 2) := by decide +kernel
theorem dX12_init_39 : decode cX12_init 39 = .ok (.newarray .int, 2) := by decide +kernel
theorem dX12_init_41 : decode cX12_init 41 = .ok (.putfield 24, 3) := by decide +kernel
theorem dX12_init_44 : decode cX12_init 44 = .ok (.aload_n 0, 1) := by decide +kernel
theorem dX12_init_45 : decode cX12_init 45 = .ok (.bipush 24, 2) := by decide +kernel
theorem dX12_init_47 : decode cX12_init 47 = .ok (.newarray .int, 2) := by decide +kernel
theorem dX12_init_49 : decode cX12_init 49 = .ok (.putfield 27, 3) := by decide +kernel
theorem dX12_init_52 : decode cX12_init 52 = .ok (.aload_n 0, 1) := by decide +kernel
theorem dX12_init_53 : decode cX12_init 53 = .ok (.bipush 100, 2) := by decide +kernel
theorem dX12_init_55 : decode cX12_init 55 = .ok (.newarray .int, 2) := by decide +kernel
theorem dX12_init_57 : decode cX12_init 57 = .ok (.putfield 30, 3) := by decide +kernel
theorem dX12_init_60 : decode cX12_init 60 = .ok (.aload_n 0, 1) := by decide +kernel
theorem dX12_init_61 : decode cX12_init 61 = .ok (.bipush 6, 2) := by decide +kernel
theorem dX12_init_63 : decode cX12_init 63 = .ok (.newarray .int, 2) := by decide +kernel
theorem dX12_init_65 : decode cX12_init 65 = .ok (.putfield 33, 3) := by decide +kernel
theorem dX12_init_68 : decode cX12_init 68 = .ok (.aload_n 0, 1) := by decide +kernel
theorem dX12_init_69 : decode cX12_init 69 = .ok (.bipush 61, 2) := by decide +kernel
theorem dX12_init_71 : decode cX12_init 71 = .ok (.newarray .int, 2) := by decide +kernel
theorem dX12_init_73 : decode cX12_init 73 = .ok (.putfield 36, 3) := by decide +kernel
theorem dX12_init_76 : decode cX12_init 76 = .ok (.aload_n 0, 1) := by decide +kernel
theorem dX12_init_77 : decode cX12_init 77 = .ok (.bipush 61, 2) := by decide +kernel
theorem dX12_init_79 : decode cX12_init 79 = .ok (.newarray .int, 2) := by decide +kernel
theorem dX12_init_81 : decode cX12_init 81 = .ok (.putfield 39, 3) := by decide +kernel
theorem dX12_init_84 : decode cX12_init 84 = .ok (.aload_n 0, 1) := by decide +kernel
theorem dX12_init_85 : decode cX12_init 85 = .ok (.bipush 61, 2) := by decide +kernel
theorem dX12_init_87 : decode cX12_init 87 = .ok (.newarray .int, 2) := by decide +kernel
theorem dX12_init_89 : decode cX12_init 89 = .ok (.putfield 42, 3) := by decide +kernel
theorem dX12_init_92 : decode cX12_init 92 = .ok (.aload_n 0, 1) := by decide +kernel
theorem dX12_init_93 : decode cX12_init 93 = .ok (.bipush 61, 2) := by decide +kernel
theorem dX12_init_95 : decode cX12_init 95 = .ok (.newarray .int, 2) := by decide +kernel
theorem dX12_init_97 : decode cX12_init 97 = .ok (.putfield 45, 3) := by decide +kernel
theorem dX12_init_100 : decode cX12_init 100 = .ok (.aload_n 0, 1) := by decide +kernel
theorem dX12_init_101 : decode cX12_init 101 = .ok (.sipush 800, 3) := by decide +kernel
theorem dX12_init_104 : decode cX12_init 104 = .ok (.newarray .int, 2) := by decide +kernel
theorem dX12_init_106 : decode cX12_init 106 = .ok (.putfield 48, 3) := by decide +kernel
theorem dX12_init_109 : decode cX12_init 109 = .ok (.aload_n 0, 1) := by decide +kernel
theorem dX12_init_110 : decode cX12_init 110 = .ok (.bipush 110, 2) := by decide +kernel
theorem dX12_init_112 : decode cX12_init 112 = .ok (.newarray .boolean, 2) := by decide +kernel
theorem dX12_init_114 : decode cX12_init 114 = .ok (.putfield 51, 3) := by decide +kernel
theorem dX12_init_117 : decode cX12_init 117 = .ok (.aload_n 0, 1) := by decide +kernel
theorem dX12_init_118 : decode cX12_init 118 = .ok (.iconst 5, 1) := by decide +kernel
theorem dX12_init_119 : decode cX12_init 119 = .ok (.newarray .int, 2) := by decide +kernel
theorem dX12_init_121 : decode cX12_init 121 = .ok (.putfield 55, 3) := by decide +kernel
theorem dX12_init_124 : decode cX12_init 124 = .ok (.aload_n 0, 1) := by decide +kernel
theorem dX12_init_125 : decode cX12_init 125 = .ok (.iconst 5, 1) := by decide +kernel
theorem dX12_init_126 : decode cX12_init 126 = .ok (.newarray .int, 2) := by decide +kernel
theorem dX12_init_128 : decode cX12_init 128 = .ok (.putfield 58, 3) := by decide +kernel
theorem dX12_init_131 : decode cX12_init 131 = .ok (.aload_n 0, 1) := by decide +kernel
theorem dX12_init_132 : decode cX12_init 132 = .ok (.iconst 5, 1) := by decide +kernel
theorem dX12_init_133 : decode cX12_init 133 = .ok (.newarray .int, 2) := by decide +kernel
theorem dX12_init_135 : decode cX12_init 135 = .ok (.putfield 61, 3) := by decide +kernel
theorem dX12_init_138 : decode cX12_init 138 = .ok (.aload_n 0, 1) := by decide +kernel
theorem dX12_init_139 : decode cX12_init 139 = .ok (.bipush 10, 2) := by decide +kernel
theorem dX12_init_141 : decode cX12_init 141 = .ok (.newarray .int, 2) := by decide +kernel
theorem dX12_init_143 : decode cX12_init 143 = .ok (.putfield 64, 3) := by decide +kernel
theorem dX12_init_146 : decode cX12_init 146 = .ok (.aload_n 0, 1) := by decide +kernel
theorem dX12_init_147 : decode cX12_init 147 = .ok (.bipush 10, 2) := by decide +kernel
theorem dX12_init_149 : decode cX12_init 149 = .ok (.newarray .int, 2) := by decide +kernel
theorem dX12_init_151 : decode cX12_init 151 = .ok (.putfield 67, 3) := by decide +kernel
theorem dX12_init_154 : decode cX12_init 154 = .ok (.aload_n 0, 1) := by decide +kernel
theorem dX12_init_155 : decode cX12_init 155 = .ok (.bipush 8, 2) := by decide +kernel
theorem dX12_init_157 : decode cX12_init 157 = .ok (.newarray .int, 2) := by decide +kernel
theorem dX12_init_159 : decode cX12_init 159 = .ok (.putfield 70, 3) := by decide +kernel
theorem dX12_init_162 : decode cX12_init 162 = .ok (.aload_n 0, 1) := by decide +kernel
theorem dX12_init_163 : decode cX12_init 163 = .ok (.bipush 8, 2) := by decide +kernel
theorem dX12_init_165 : decode cX12_init 165 = .ok (.newarray .int, 2) := by decide +kernel
theorem dX12_init_167 : decode cX12_init 167 = .ok (.putfield 73, 3) := by decide +kernel
theorem dX12_init_170 : decode cX12_init 170 = .ok (.aload_n 0, 1) := by decide +kernel
theorem dX12_init_171 : decode cX12_init 171 = .ok (.bipush 20, 2) := by decide +kernel
theorem dX12_init_173 : decode cX12_init 173 = .ok (.newarray .int, 2) := by decide +kernel
theorem dX12_init_175 : decode cX12_init 175 = .ok (.putfield 76, 3) := by decide +kernel
theorem dX12_init_178 : decode cX12_init 178 = .ok (.aload_n 0, 1) := by decide +kernel
theorem dX12_init_179 : decode cX12_init 179 = .ok (.sipush 130, 3) := by decide +kernel
theorem dX12_init_182 : decode cX12_init 182 = .ok (.newarray .int, 2) := by decide +kernel
theorem dX12_init_184 : decode cX12_init 184 = .ok (.putfield 79, 3) := by decide +kernel
theorem dX12_init_187 : decode cX12_init 187 = .ok (.aload_n 0, 1) := by decide +kernel
theorem dX12_init_188 : decode cX12_init 188 = .ok (.sipush 130, 3) := by decide +kernel
theorem dX12_init_191 : decode cX12_init 191 = .ok (.newarray .int, 2) := by decide +kernel
theorem dX12_init_193 : decode cX12_init 193 = .ok (.putfield 82, 3) := by decide +kernel
theorem dX12_init_196 : decode cX12_init 196 = .ok (.aload_n 0, 1) := by decide +kernel
theorem dX12_init_197 : decode cX12_init 197 = .ok (.sipush 130, 3) := by decide +kernel
theorem dX12_init_200 : decode cX12_init 200 = .ok (.newarray .int, 2) := by decide +kernel
theorem dX12_init_202 : decode cX12_init 202 = .ok (.putfield 85, 3) := by decide +kernel
theorem dX12_init_205 : decode cX12_init 205 = .ok (.aload_n 0, 1) := by decide +kernel
theorem dX12_init_206 : decode cX12_init 206 = .ok (.bipush 25, 2) := by decide +kernel
theorem dX12_init_208 : decode cX12_init 208 = .ok (.newarray .int, 2) := by decide +kernel
theorem dX12_init_210 : decode cX12_init 210 = .ok (.putfield 88, 3) := by decide +kernel
theorem dX12_init_213 : decode cX12_init 213 = .ok (.aload_n 0, 1) := by decide +kernel
theorem dX12_init_214 : decode cX12_init 214 = .ok (.bipush 6, 2) := by decide +kernel
theorem dX12_init_216 : decode cX12_init 216 = .ok (.newarray .int, 2) := by decide +kernel
theorem dX12_init_218 : decode cX12_init 218 = .ok (.putfield 91, 3) := by decide +kernel
theorem dX12_init_221 : decode cX12_init 221 = .ok (.aload_n 0, 1) := by decide +kernel
theorem dX12_init_222 : decode cX12_init 222 = .ok (.bipush 6, 2) := by decide +kernel
theorem dX12_init_224 : decode cX12_init 224 = .ok (.newarray .int, 2) := by decide +kernel
theorem dX12_init_226 : decode cX12_init 226 = .ok (.putfield 94, 3) := by decide +kernel
theorem dX12_init_229 : decode cX12_init 229 = .ok (.aload_n 0, 1) := by decide +kernel
theorem dX12_init_230 : decode cX12_init 230 = .ok (.sipush 360, 3) := by decide +kernel
theorem dX12_init_233 : decode cX12_init 233 = .ok (.newarray .long, 2) := by decide +kernel
theorem dX12_init_235 : decode cX12_init 235 = .ok (.putfield 97, 3) := by decide +kernel
theorem dX12_init_238 : decode cX12_init 238 = .ok (.iconst 0, 1) := by decide +kernel
theorem dX12_init_239 : decode cX12_init 239 = .ok (.istore_n 1, 1) := by decide +kernel
theorem dX12_init_240 : decode cX12_init 240 = .ok (.iload_n 1, 1) := by decide +kernel
theorem dX12_init_241 : decode cX12_init 241 = .ok (.bipush 25, 2) := by decide +kernel
theorem dX12_init_243 : decode cX12_init 243 = .ok (.if_icmp .ge 16, 3) := by decide +kernel
theorem dX12_init_246 : decode cX12_init 246 = .ok (.aload_n 0, 1) := by decide +kernel
theorem dX12_init_247 : decode cX12_init 247 = .ok (.getfield 9, 3) := by decide +kernel
theorem dX12_init_250 : decode cX12_init 250 = .ok (.iload_n 1, 1) := by decide +kernel
theorem dX12_init_251 : decode cX12_init 251 = .ok (.iconst 5, 1) := by decide +kernel
theorem dX12_init_252 : decode cX12_init 252 = .ok (.iastore, 1) := by decide +kernel
theorem dX12_init_253 : decode cX12_init 253 = .ok (.iinc 1 1, 3) := by decide +kernel
theorem dX12_init_256 : decode cX12_init 256 = .ok (.goto (-16), 3) := by decide +kernel
theorem dX12_init_259 : decode cX12_init 259 = .ok (.aload_n 0, 1) := by decide +kernel
theorem dX12_init_260 : decode cX12_init 260 = .ok (.iconst (-1), 1) := by decide +kernel
theorem dX12_init_261 : decode cX12_init 261 = .ok (.putfield 101, 3) := by decide +kernel
theorem dX12_init_264 : decode cX12_init 264 = .ok (.iconst 0, 1) := by decide +kernel
theorem dX12_init_265 : decode cX12_init 265 = .ok (.istore_n 1, 1) := by decide +kernel
theorem dX12_init_266 : decode cX12_init 266 = .ok (.iload_n 1, 1) := by decide +kernel
theorem dX12_init_267 : decode cX12_init 267 = .ok (.bipush 6, 2) := by decide +kernel
theorem dX12_init_269 : decode cX12_init 269 = .ok (.if_icmp .ge 16, 3) := by decide +kernel
theorem dX12_init_272 : decode cX12_init 272 = .ok (.aload_n 0, 1) := by decide +kernel
theorem dX12_init_273 : decode cX12_init 273 = .ok (.getfield 91, 3) := by decide +kernel
theorem dX12_init_276 : decode cX12_init 276 = .ok (.iload_n 1, 1) := by decide +kernel
theorem dX12_init_277 : decode cX12_init 277 = .ok (.iconst (-1), 1) := by decide +kernel
theorem dX12_init_278 : decode cX12_init 278 = .ok (.iastore, 1) := by decide +kernel
theorem dX12_init_279 : decode cX12_init 279 = .ok (.iinc 1 1, 3) := by decide +kernel
theorem dX12_init_282 : decode cX12_init 282 = .ok (.goto (-16), 3) := by decide +kernel
theorem dX12_init_285 : decode cX12_init 285 = .ok (.return_, 1) := by decide +kernel
theorem dX12_within_0 : decode cX12_within 0 = .ok (.iload_n 0, 1) := by decide +kernel
theorem dX12_within_1 : decode cX12_within 1 = .ok (.iload_n 1, 1) := by decide +kernel
theorem dX12_within_2 : decode cX12_within 2 = .ok (.if_icmp .lt 12, 3) := by decide +kernel
theorem dX12_within_5 : decode cX12_within 5 = .ok (.iload_n 0, 1) := by decide +kernel
theorem dX12_within_6 : decode cX12_within 6 = .ok (.iload_n 2, 1) := by decide +kernel
theorem dX12_within_7 : decode cX12_within 7 = .ok (.if_icmp .gt 7, 3) := by decide +kernel
theorem dX12_within_10 : decode cX12_within 10 = .ok (.iconst 1, 1) := by decide +kernel
theorem dX12_within_11 : decode cX12_within 11 = .ok (.goto 4, 3) := by decide +kernel
theorem dX12_within_14 : decode cX12_within 14 = .ok (.iconst 0, 1) := by decide +kernel
theorem dX12_within_15 : decode cX12_within 15 = .ok (.ireturn, 1) := by decide +kernel
theorem dX12_isOne_0 : decode cX12_isOne 0 = .ok (.iload_n 1, 1) := by decide +kernel
theorem dX12_isOne_1 : decode cX12_isOne 1 = .ok (.iconst 0, 1) := by decide +kernel
theorem dX12_isOne_2 : decode cX12_isOne 2 = .ok (.aload_n 0, 1) := by decide +kernel
theorem dX12_isOne_3 : decode cX12_isOne 3 = .ok (.getfield 105, 3) := by decide +kernel
theorem dX12_isOne_6 : decode cX12_isOne 6 = .ok (.iconst 1, 1) := by decide +kernel
theorem dX12_isOne_7 : decode cX12_isOne 7 = .ok (.isub, 1) := by decide +kernel
theorem dX12_isOne_8 : decode cX12_isOne 8 = .ok (.invokestatic 108, 3) := by decide +kernel
theorem dX12_isOne_11 : decode cX12_isOne 11 = .ok (.ireturn, 1) := by decide +kernel
theorem dX12_isCell_0 : decode cX12_isCell 0 = .ok (.iload_n 0, 1) := by decide +kernel
theorem dX12_isCell_1 : decode cX12_isCell 1 = .ok (.iconst 0, 1) := by decide +kernel
theorem dX12_isCell_2 : decode cX12_isCell 2 = .ok (.bipush 24, 2) := by decide +kernel
theorem dX12_isCell_4 : decode cX12_isCell 4 = .ok (.invokestatic 108, 3) := by decide +kernel
theorem dX12_isCell_7 : decode cX12_isCell 7 = .ok (.ireturn, 1) := by decide +kernel
theorem dX12_one_0 : decode cX12_one 0 = .ok (.iload_n 1, 1) := by decide +kernel
theorem dX12_one_1 : decode cX12_one 1 = .ok (.iconst 0, 1) := by decide +kernel
theorem dX12_one_2 : decode cX12_one 2 = .ok (.bipush 6, 2) := by decide +kernel
theorem dX12_one_4 : decode cX12_one 4 = .ok (.invokestatic 108, 3) := by decide +kernel
theorem dX12_one_7 : decode cX12_one 7 = .ok (.ifCond .eq 10, 3) := by decide +kernel
theorem dX12_one_10 : decode cX12_one 10 = .ok (.iload_n 3, 1) := by decide +kernel
theorem dX12_one_11 : decode cX12_one 11 = .ok (.invokestatic 112, 3) := by decide +kernel
theorem dX12_one_14 : decode cX12_one 14 = .ok (.ifCond .ne 5, 3) := by decide +kernel
theorem dX12_one_17 : decode cX12_one 17 = .ok (.iconst (-1), 1) := by decide +kernel
theorem dX12_one_18 : decode cX12_one 18 = .ok (.ireturn, 1) := by decide +kernel
theorem dX12_one_19 : decode cX12_one 19 = .ok (.iload_n 2, 1) := by decide +kernel
theorem dX12_one_20 : decode cX12_one 20 = .ok (.iconst 0, 1) := by decide +kernel
theorem dX12_one_21 : decode cX12_one 21 = .ok (.bipush 9, 2) := by decide +kernel
theorem dX12_one_23 : decode cX12_one 23 = .ok (.invokestatic 108, 3) := by decide +kernel
theorem dX12_one_26 : decode cX12_one 26 = .ok (.ifCond .ne 6, 3) := by decide +kernel
theorem dX12_one_29 : decode cX12_one 29 = .ok (.bipush (-2), 2) := by decide +kernel
theorem dX12_one_31 : decode cX12_one 31 = .ok (.ireturn, 1) := by decide +kernel
theorem dX12_one_32 : decode cX12_one 32 = .ok (.aload_n 0, 1) := by decide +kernel
theorem dX12_one_33 : decode cX12_one 33 = .ok (.getfield 105, 3) := by decide +kernel
theorem dX12_one_36 : decode cX12_one 36 = .ok (.bipush 6, 2) := by decide +kernel
theorem dX12_one_38 : decode cX12_one 38 = .ok (.if_icmp .ne 6, 3) := by decide +kernel
theorem dX12_one_41 : decode cX12_one 41 = .ok (.bipush (-4), 2) := by decide +kernel
theorem dX12_one_43 : decode cX12_one 43 = .ok (.ireturn, 1) := by decide +kernel
theorem dX12_one_44 : decode cX12_one 44 = .ok (.aload_n 0, 1) := by decide +kernel
theorem dX12_one_45 : decode cX12_one 45 = .ok (.getfield 15, 3) := by decide +kernel
theorem dX12_one_48 : decode cX12_one 48 = .ok (.aload_n 0, 1) := by decide +kernel
theorem dX12_one_49 : decode cX12_one 49 = .ok (.getfield 105, 3) := by decide +kernel
theorem dX12_one_52 : decode cX12_one 52 = .ok (.iload_n 1, 1) := by decide +kernel
theorem dX12_one_53 : decode cX12_one 53 = .ok (.iastore, 1) := by decide +kernel
theorem dX12_one_54 : decode cX12_one 54 = .ok (.aload_n 0, 1) := by decide +kernel
theorem dX12_one_55 : decode cX12_one 55 = .ok (.getfield 18, 3) := by decide +kernel
theorem dX12_one_58 : decode cX12_one 58 = .ok (.aload_n 0, 1) := by decide +kernel
theorem dX12_one_59 : decode cX12_one 59 = .ok (.getfield 105, 3) := by decide +kernel
theorem dX12_one_62 : decode cX12_one 62 = .ok (.iload_n 2, 1) := by decide +kernel
theorem dX12_one_63 : decode cX12_one 63 = .ok (.iastore, 1) := by decide +kernel
theorem dX12_one_64 : decode cX12_one 64 = .ok (.aload_n 0, 1) := by decide +kernel
theorem dX12_one_65 : decode cX12_one 65 = .ok (.getfield 21, 3) := by decide +kernel
theorem dX12_one_68 : decode cX12_one 68 = .ok (.aload_n 0, 1) := by decide +kernel
theorem dX12_one_69 : decode cX12_one 69 = .ok (.getfield 105, 3) := by decide +kernel
theorem dX12_one_72 : decode cX12_one 72 = .ok (.iload_n 3, 1) := by decide +kernel
theorem dX12_one_73 : decode cX12_one 73 = .ok (.iastore, 1) := by decide +kernel
theorem dX12_one_74 : decode cX12_one 74 = .ok (.aload_n 0, 1) := by decide +kernel
theorem dX12_one_75 : decode cX12_one 75 = .ok (.getfield 24, 3) := by decide +kernel
theorem dX12_one_78 : decode cX12_one 78 = .ok (.aload_n 0, 1) := by decide +kernel
theorem dX12_one_79 : decode cX12_one 79 = .ok (.getfield 105, 3) := by decide +kernel
theorem dX12_one_82 : decode cX12_one 82 = .ok (.iconst 0, 1) := by decide +kernel
theorem dX12_one_83 : decode cX12_one 83 = .ok (.iastore, 1) := by decide +kernel
theorem dX12_one_84 : decode cX12_one 84 = .ok (.iconst 0, 1) := by decide +kernel
theorem dX12_one_85 : decode cX12_one 85 = .ok (.istore 4, 2) := by decide +kernel
theorem dX12_one_87 : decode cX12_one 87 = .ok (.iload 4, 2) := by decide +kernel
theorem dX12_one_89 : decode cX12_one 89 = .ok (.iconst 4, 1) := by decide +kernel
theorem dX12_one_90 : decode cX12_one 90 = .ok (.if_icmp .ge 24, 3) := by decide +kernel
theorem dX12_one_93 : decode cX12_one 93 = .ok (.aload_n 0, 1) := by decide +kernel
theorem dX12_one_94 : decode cX12_one 94 = .ok (.getfield 27, 3) := by decide +kernel
theorem dX12_one_97 : decode cX12_one 97 = .ok (.iconst 4, 1) := by decide +kernel
theorem dX12_one_98 : decode cX12_one 98 = .ok (.aload_n 0, 1) := by decide +kernel
theorem dX12_one_99 : decode cX12_one 99 = .ok (.getfield 105, 3) := by decide +kernel
theorem dX12_one_102 : decode cX12_one 102 = .ok (.imul, 1) := by decide +kernel
theorem dX12_one_103 : decode cX12_one 103 = .ok (.iload 4, 2) := by decide +kernel
theorem dX12_one_105 : decode cX12_one 105 = .ok (.iadd, 1) := by decide +kernel
theorem dX12_one_106 : decode cX12_one 106 = .ok (.iconst 0, 1) := by decide +kernel
theorem dX12_one_107 : decode cX12_one 107 = .ok (.iastore, 1) := by decide +kernel
theorem dX12_one_108 : decode cX12_one 108 = .ok (.iinc 4 1, 3) := by decide +kernel
theorem dX12_one_111 : decode cX12_one 111 = .ok (.goto (-24), 3) := by decide +kernel
theorem dX12_one_114 : decode cX12_one 114 = .ok (.aload_n 0, 1) := by decide +kernel
theorem dX12_one_115 : decode cX12_one 115 = .ok (.dup, 1) := by decide +kernel
theorem dX12_one_116 : decode cX12_one 116 = .ok (.getfield 105, 3) := by decide +kernel
theorem dX12_one_119 : decode cX12_one 119 = .ok (.dup_x1, 1) := by decide +kernel
theorem dX12_one_120 : decode cX12_one 120 = .ok (.iconst 1, 1) := by decide +kernel
theorem dX12_one_121 : decode cX12_one 121 = .ok (.iadd, 1) := by decide +kernel
theorem dX12_one_122 : decode cX12_one 122 = .ok (.putfield 105, 3) := by decide +kernel
theorem dX12_one_125 : decode cX12_one 125 = .ok (.ireturn, 1) := by decide +kernel
theorem dX12_of_0 : decode cX12_of 0 = .ok (.aload_n 0, 1) := by decide +kernel
theorem dX12_of_1 : decode cX12_of 1 = .ok (.iload_n 1, 1) := by decide +kernel
theorem dX12_of_2 : decode cX12_of 2 = .ok (.invokevirtual 116, 3) := by decide +kernel
theorem dX12_of_5 : decode cX12_of 5 = .ok (.ifCond .ne 5, 3) := by decide +kernel
theorem dX12_of_8 : decode cX12_of 8 = .ok (.iconst (-1), 1) := by decide +kernel
theorem dX12_of_9 : decode cX12_of 9 = .ok (.ireturn, 1) := by decide +kernel
theorem dX12_of_10 : decode cX12_of 10 = .ok (.iload_n 2, 1) := by decide +kernel
theorem dX12_of_11 : decode cX12_of 11 = .ok (.tableswitch 77 0 5 #[37, 44, 51, 58, 65, 71], 37) := by decide +kernel
theorem dX12_of_48 : decode cX12_of 48 = .ok (.aload_n 0, 1) := by decide +kernel
theorem dX12_of_49 : decode cX12_of 49 = .ok (.getfield 15, 3) := by decide +kernel
theorem dX12_of_52 : decode cX12_of 52 = .ok (.iload_n 1, 1) := by decide +kernel
theorem dX12_of_53 : decode cX12_of 53 = .ok (.iaload, 1) := by decide +kernel
theorem dX12_of_54 : decode cX12_of 54 = .ok (.ireturn, 1) := by decide +kernel
theorem dX12_of_55 : decode cX12_of 55 = .ok (.aload_n 0, 1) := by decide +kernel
theorem dX12_of_56 : decode cX12_of 56 = .ok (.getfield 18, 3) := by decide +kernel
theorem dX12_of_59 : decode cX12_of 59 = .ok (.iload_n 1, 1) := by decide +kernel
theorem dX12_of_60 : decode cX12_of 60 = .ok (.iaload, 1) := by decide +kernel
theorem dX12_of_61 : decode cX12_of 61 = .ok (.ireturn, 1) := by decide +kernel
theorem dX12_of_62 : decode cX12_of 62 = .ok (.aload_n 0, 1) := by decide +kernel
theorem dX12_of_63 : decode cX12_of 63 = .ok (.getfield 21, 3) := by decide +kernel
theorem dX12_of_66 : decode cX12_of 66 = .ok (.iload_n 1, 1) := by decide +kernel
theorem dX12_of_67 : decode cX12_of 67 = .ok (.iaload, 1) := by decide +kernel
theorem dX12_of_68 : decode cX12_of 68 = .ok (.ireturn, 1) := by decide +kernel
theorem dX12_of_69 : decode cX12_of 69 = .ok (.aload_n 0, 1) := by decide +kernel
theorem dX12_of_70 : decode cX12_of 70 = .ok (.getfield 24, 3) := by decide +kernel
theorem dX12_of_73 : decode cX12_of 73 = .ok (.iload_n 1, 1) := by decide +kernel
theorem dX12_of_74 : decode cX12_of 74 = .ok (.iaload, 1) := by decide +kernel
theorem dX12_of_75 : decode cX12_of 75 = .ok (.ireturn, 1) := by decide +kernel
theorem dX12_of_76 : decode cX12_of 76 = .ok (.aload_n 0, 1) := by decide +kernel
theorem dX12_of_77 : decode cX12_of 77 = .ok (.iload_n 1, 1) := by decide +kernel
theorem dX12_of_78 : decode cX12_of 78 = .ok (.invokevirtual 119, 3) := by decide +kernel
theorem dX12_of_81 : decode cX12_of 81 = .ok (.ireturn, 1) := by decide +kernel
theorem dX12_of_82 : decode cX12_of 82 = .ok (.aload_n 0, 1) := by decide +kernel
theorem dX12_of_83 : decode cX12_of 83 = .ok (.iload_n 1, 1) := by decide +kernel
theorem dX12_of_84 : decode cX12_of 84 = .ok (.invokevirtual 123, 3) := by decide +kernel
theorem dX12_of_87 : decode cX12_of 87 = .ok (.ireturn, 1) := by decide +kernel
theorem dX12_of_88 : decode cX12_of 88 = .ok (.iconst (-1), 1) := by decide +kernel
theorem dX12_of_89 : decode cX12_of 89 = .ok (.ireturn, 1) := by decide +kernel
theorem dX12_pull_0 : decode cX12_pull 0 = .ok (.aload_n 0, 1) := by decide +kernel
theorem dX12_pull_1 : decode cX12_pull 1 = .ok (.iload_n 1, 1) := by decide +kernel
theorem dX12_pull_2 : decode cX12_pull 2 = .ok (.invokevirtual 116, 3) := by decide +kernel
theorem dX12_pull_5 : decode cX12_pull 5 = .ok (.ifCond .eq 19, 3) := by decide +kernel
theorem dX12_pull_8 : decode cX12_pull 8 = .ok (.iload_n 2, 1) := by decide +kernel
theorem dX12_pull_9 : decode cX12_pull 9 = .ok (.invokestatic 112, 3) := by decide +kernel
theorem dX12_pull_12 : decode cX12_pull 12 = .ok (.ifCond .eq 12, 3) := by decide +kernel
theorem dX12_pull_15 : decode cX12_pull 15 = .ok (.aload_n 0, 1) := by decide +kernel
theorem dX12_pull_16 : decode cX12_pull 16 = .ok (.iload_n 1, 1) := by decide +kernel
theorem dX12_pull_17 : decode cX12_pull 17 = .ok (.iload_n 2, 1) := by decide +kernel
theorem dX12_pull_18 : decode cX12_pull 18 = .ok (.invokevirtual 126, 3) := by decide +kernel
theorem dX12_pull_21 : decode cX12_pull 21 = .ok (.goto 6, 3) := by decide +kernel
theorem dX12_pull_24 : decode cX12_pull 24 = .ok (.sipush (-10001), 3) := by decide +kernel
theorem dX12_pull_27 : decode cX12_pull 27 = .ok (.ireturn, 1) := by decide +kernel
theorem dX12_put_0 : decode cX12_put 0 = .ok (.aload_n 0, 1) := by decide +kernel
theorem dX12_put_1 : decode cX12_put 1 = .ok (.iload_n 1, 1) := by decide +kernel
theorem dX12_put_2 : decode cX12_put 2 = .ok (.invokevirtual 116, 3) := by decide +kernel
theorem dX12_put_5 : decode cX12_put 5 = .ok (.ifCond .eq 10, 3) := by decide +kernel
theorem dX12_put_8 : decode cX12_put 8 = .ok (.iload_n 2, 1) := by decide +kernel
theorem dX12_put_9 : decode cX12_put 9 = .ok (.invokestatic 112, 3) := by decide +kernel
theorem dX12_put_12 : decode cX12_put 12 = .ok (.ifCond .ne 5, 3) := by decide +kernel
theorem dX12_put_15 : decode cX12_put 15 = .ok (.iconst (-1), 1) := by decide +kernel
theorem dX12_put_16 : decode cX12_put 16 = .ok (.ireturn, 1) := by decide +kernel
theorem dX12_put_17 : decode cX12_put 17 = .ok (.aload_n 0, 1) := by decide +kernel
theorem dX12_put_18 : decode cX12_put 18 = .ok (.getfield 21, 3) := by decide +kernel
theorem dX12_put_21 : decode cX12_put 21 = .ok (.iload_n 1, 1) := by decide +kernel
theorem dX12_put_22 : decode cX12_put 22 = .ok (.iaload, 1) := by decide +kernel
theorem dX12_put_23 : decode cX12_put 23 = .ok (.istore_n 3, 1) := by decide +kernel
theorem dX12_put_24 : decode cX12_put 24 = .ok (.aload_n 0, 1) := by decide +kernel
theorem dX12_put_25 : decode cX12_put 25 = .ok (.getfield 21, 3) := by decide +kernel
theorem dX12_put_28 : decode cX12_put 28 = .ok (.iload_n 1, 1) := by decide +kernel
theorem dX12_put_29 : decode cX12_put 29 = .ok (.iload_n 2, 1) := by decide +kernel
theorem dX12_put_30 : decode cX12_put 30 = .ok (.iastore, 1) := by decide +kernel
theorem dX12_put_31 : decode cX12_put 31 = .ok (.iload_n 3, 1) := by decide +kernel
theorem dX12_put_32 : decode cX12_put 32 = .ok (.ireturn, 1) := by decide +kernel
theorem dX12_wear_0 : decode cX12_wear 0 = .ok (.iload_n 1, 1) := by decide +kernel
theorem dX12_wear_1 : decode cX12_wear 1 = .ok (.invokestatic 112, 3) := by decide +kernel
theorem dX12_wear_4 : decode cX12_wear 4 = .ok (.ifCond .ne 5, 3) := by decide +kernel
theorem dX12_wear_7 : decode cX12_wear 7 = .ok (.iconst (-1), 1) := by decide +kernel
theorem dX12_wear_8 : decode cX12_wear 8 = .ok (.ireturn, 1) := by decide +kernel
theorem dX12_wear_9 : decode cX12_wear 9 = .ok (.iload_n 2, 1) := by decide +kernel
theorem dX12_wear_10 : decode cX12_wear 10 = .ok (.iconst 0, 1) := by decide +kernel
theorem dX12_wear_11 : decode cX12_wear 11 = .ok (.bipush 99, 2) := by decide +kernel
theorem dX12_wear_13 : decode cX12_wear 13 = .ok (.invokestatic 108, 3) := by decide +kernel
theorem dX12_wear_16 : decode cX12_wear 16 = .ok (.ifCond .ne 6, 3) := by decide +kernel
theorem dX12_wear_19 : decode cX12_wear 19 = .ok (.bipush (-2), 2) := by decide +kernel
theorem dX12_wear_21 : decode cX12_wear 21 = .ok (.ireturn, 1) := by decide +kernel
theorem dX12_wear_22 : decode cX12_wear 22 = .ok (.aload_n 0, 1) := by decide +kernel
theorem dX12_wear_23 : decode cX12_wear 23 = .ok (.getfield 9, 3) := by decide +kernel
theorem dX12_wear_26 : decode cX12_wear 26 = .ok (.iload_n 1, 1) := by decide +kernel
theorem dX12_wear_27 : decode cX12_wear 27 = .ok (.iaload, 1) := by decide +kernel
theorem dX12_wear_28 : decode cX12_wear 28 = .ok (.istore_n 3, 1) := by decide +kernel
theorem dX12_wear_29 : decode cX12_wear 29 = .ok (.aload_n 0, 1) := by decide +kernel
theorem dX12_wear_30 : decode cX12_wear 30 = .ok (.getfield 9, 3) := by decide +kernel
theorem dX12_wear_33 : decode cX12_wear 33 = .ok (.iload_n 1, 1) := by decide +kernel
theorem dX12_wear_34 : decode cX12_wear 34 = .ok (.iload_n 2, 1) := by decide +kernel
theorem dX12_wear_35 : decode cX12_wear 35 = .ok (.iastore, 1) := by decide +kernel
theorem dX12_wear_36 : decode cX12_wear 36 = .ok (.iload_n 3, 1) := by decide +kernel
theorem dX12_wear_37 : decode cX12_wear 37 = .ok (.ireturn, 1) := by decide +kernel
theorem dX12_away_0 : decode cX12_away 0 = .ok (.aload_n 0, 1) := by decide +kernel
theorem dX12_away_1 : decode cX12_away 1 = .ok (.iload_n 1, 1) := by decide +kernel
theorem dX12_away_2 : decode cX12_away 2 = .ok (.invokevirtual 116, 3) := by decide +kernel
theorem dX12_away_5 : decode cX12_away 5 = .ok (.ifCond .ne 5, 3) := by decide +kernel
theorem dX12_away_8 : decode cX12_away 8 = .ok (.iconst (-1), 1) := by decide +kernel
theorem dX12_away_9 : decode cX12_away 9 = .ok (.ireturn, 1) := by decide +kernel
theorem dX12_away_10 : decode cX12_away 10 = .ok (.aload_n 0, 1) := by decide +kernel
theorem dX12_away_11 : decode cX12_away 11 = .ok (.getfield 24, 3) := by decide +kernel
theorem dX12_away_14 : decode cX12_away 14 = .ok (.iload_n 1, 1) := by decide +kernel
theorem dX12_away_15 : decode cX12_away 15 = .ok (.iaload, 1) := by decide +kernel
theorem dX12_away_16 : decode cX12_away 16 = .ok (.istore_n 3, 1) := by decide +kernel
theorem dX12_away_17 : decode cX12_away 17 = .ok (.aload_n 0, 1) := by decide +kernel
theorem dX12_away_18 : decode cX12_away 18 = .ok (.getfield 24, 3) := by decide +kernel
theorem dX12_away_21 : decode cX12_away 21 = .ok (.iload_n 1, 1) := by decide +kernel
theorem dX12_away_22 : decode cX12_away 22 = .ok (.iload_n 2, 1) := by decide +kernel
theorem dX12_away_23 : decode cX12_away 23 = .ok (.ifCond .eq 7, 3) := by decide +kernel
theorem dX12_away_26 : decode cX12_away 26 = .ok (.iconst 1, 1) := by decide +kernel
theorem dX12_away_27 : decode cX12_away 27 = .ok (.goto 4, 3) := by decide +kernel
theorem dX12_away_30 : decode cX12_away 30 = .ok (.iconst 0, 1) := by decide +kernel
theorem dX12_away_31 : decode cX12_away 31 = .ok (.iastore, 1) := by decide +kernel
theorem dX12_away_32 : decode cX12_away 32 = .ok (.iload_n 3, 1) := by decide +kernel
theorem dX12_away_33 : decode cX12_away 33 = .ok (.ireturn, 1) := by decide +kernel
theorem dX12_row_0 : decode cX12_row 0 = .ok (.aload_n 0, 1) := by decide +kernel
theorem dX12_row_1 : decode cX12_row 1 = .ok (.iload_n 1, 1) := by decide +kernel
theorem dX12_row_2 : decode cX12_row 2 = .ok (.invokevirtual 116, 3) := by decide +kernel
theorem dX12_row_5 : decode cX12_row 5 = .ok (.ifCond .eq 12, 3) := by decide +kernel
theorem dX12_row_8 : decode cX12_row 8 = .ok (.iload_n 2, 1) := by decide +kernel
theorem dX12_row_9 : decode cX12_row 9 = .ok (.iconst 0, 1) := by decide +kernel
theorem dX12_row_10 : decode cX12_row 10 = .ok (.iconst 3, 1) := by decide +kernel
theorem dX12_row_11 : decode cX12_row 11 = .ok (.invokestatic 108, 3) := by decide +kernel
theorem dX12_row_14 : decode cX12_row 14 = .ok (.ifCond .ne 5, 3) := by decide +kernel
theorem dX12_row_17 : decode cX12_row 17 = .ok (.iconst (-1), 1) := by decide +kernel
theorem dX12_row_18 : decode cX12_row 18 = .ok (.ireturn, 1) := by decide +kernel
theorem dX12_row_19 : decode cX12_row 19 = .ok (.iload_n 3, 1) := by decide +kernel
theorem dX12_row_20 : decode cX12_row 20 = .ok (.iconst 0, 1) := by decide +kernel
theorem dX12_row_21 : decode cX12_row 21 = .ok (.bipush 9, 2) := by decide +kernel
theorem dX12_row_23 : decode cX12_row 23 = .ok (.invokestatic 108, 3) := by decide +kernel
theorem dX12_row_26 : decode cX12_row 26 = .ok (.ifCond .ne 6, 3) := by decide +kernel
theorem dX12_row_29 : decode cX12_row 29 = .ok (.bipush (-2), 2) := by decide +kernel
theorem dX12_row_31 : decode cX12_row 31 = .ok (.ireturn, 1) := by decide +kernel
theorem dX12_row_32 : decode cX12_row 32 = .ok (.aload_n 0, 1) := by decide +kernel
theorem dX12_row_33 : decode cX12_row 33 = .ok (.getfield 15, 3) := by decide +kernel
theorem dX12_row_36 : decode cX12_row 36 = .ok (.iload_n 1, 1) := by decide +kernel
theorem dX12_row_37 : decode cX12_row 37 = .ok (.iaload, 1) := by decide +kernel
theorem dX12_row_38 : decode cX12_row 38 = .ok (.bipush 6, 2) := by decide +kernel
theorem dX12_row_40 : decode cX12_row 40 = .ok (.if_icmp .eq 6, 3) := by decide +kernel
theorem dX12_row_43 : decode cX12_row 43 = .ok (.bipush (-3), 2) := by decide +kernel
theorem dX12_row_45 : decode cX12_row 45 = .ok (.ireturn, 1) := by decide +kernel
theorem dX12_row_46 : decode cX12_row 46 = .ok (.aload_n 0, 1) := by decide +kernel
theorem dX12_row_47 : decode cX12_row 47 = .ok (.getfield 27, 3) := by decide +kernel
theorem dX12_row_50 : decode cX12_row 50 = .ok (.iconst 4, 1) := by decide +kernel
theorem dX12_row_51 : decode cX12_row 51 = .ok (.iload_n 1, 1) := by decide +kernel
theorem dX12_row_52 : decode cX12_row 52 = .ok (.imul, 1) := by decide +kernel
theorem dX12_row_53 : decode cX12_row 53 = .ok (.iload_n 2, 1) := by decide +kernel
theorem dX12_row_54 : decode cX12_row 54 = .ok (.iadd, 1) := by decide +kernel
theorem dX12_row_55 : decode cX12_row 55 = .ok (.iaload, 1) := by decide +kernel
theorem dX12_row_56 : decode cX12_row 56 = .ok (.istore 4, 2) := by decide +kernel
theorem dX12_row_58 : decode cX12_row 58 = .ok (.aload_n 0, 1) := by decide +kernel
theorem dX12_row_59 : decode cX12_row 59 = .ok (.getfield 27, 3) := by decide +kernel
theorem dX12_row_62 : decode cX12_row 62 = .ok (.iconst 4, 1) := by decide +kernel
theorem dX12_row_63 : decode cX12_row 63 = .ok (.iload_n 1, 1) := by decide +kernel
theorem dX12_row_64 : decode cX12_row 64 = .ok (.imul, 1) := by decide +kernel
theorem dX12_row_65 : decode cX12_row 65 = .ok (.iload_n 2, 1) := by decide +kernel
theorem dX12_row_66 : decode cX12_row 66 = .ok (.iadd, 1) := by decide +kernel
theorem dX12_row_67 : decode cX12_row 67 = .ok (.iload_n 3, 1) := by decide +kernel
theorem dX12_row_68 : decode cX12_row 68 = .ok (.iastore, 1) := by decide +kernel
theorem dX12_row_69 : decode cX12_row 69 = .ok (.iload 4, 2) := by decide +kernel
theorem dX12_row_71 : decode cX12_row 71 = .ok (.ireturn, 1) := by decide +kernel
theorem dX12_feed_0 : decode cX12_feed 0 = .ok (.iload_n 1, 1) := by decide +kernel
theorem dX12_feed_1 : decode cX12_feed 1 = .ok (.iconst 0, 1) := by decide +kernel
theorem dX12_feed_2 : decode cX12_feed 2 = .ok (.bipush 127, 2) := by decide +kernel
theorem dX12_feed_4 : decode cX12_feed 4 = .ok (.invokestatic 108, 3) := by decide +kernel
theorem dX12_feed_7 : decode cX12_feed 7 = .ok (.ifCond .ne 6, 3) := by decide +kernel
theorem dX12_feed_10 : decode cX12_feed 10 = .ok (.bipush (-2), 2) := by decide +kernel
theorem dX12_feed_12 : decode cX12_feed 12 = .ok (.ireturn, 1) := by decide +kernel
theorem dX12_feed_13 : decode cX12_feed 13 = .ok (.aload_n 0, 1) := by decide +kernel
theorem dX12_feed_14 : decode cX12_feed 14 = .ok (.getfield 130, 3) := by decide +kernel
theorem dX12_feed_17 : decode cX12_feed 17 = .ok (.bipush 100, 2) := by decide +kernel
theorem dX12_feed_19 : decode cX12_feed 19 = .ok (.if_icmp .ne 6, 3) := by decide +kernel
theorem dX12_feed_22 : decode cX12_feed 22 = .ok (.bipush (-4), 2) := by decide +kernel
theorem dX12_feed_24 : decode cX12_feed 24 = .ok (.ireturn, 1) := by decide +kernel
theorem dX12_feed_25 : decode cX12_feed 25 = .ok (.aload_n 0, 1) := by decide +kernel
theorem dX12_feed_26 : decode cX12_feed 26 = .ok (.getfield 30, 3) := by decide +kernel
theorem dX12_feed_29 : decode cX12_feed 29 = .ok (.aload_n 0, 1) := by decide +kernel
theorem dX12_feed_30 : decode cX12_feed 30 = .ok (.dup, 1) := by decide +kernel
theorem dX12_feed_31 : decode cX12_feed 31 = .ok (.getfield 130, 3) := by decide +kernel
theorem dX12_feed_34 : decode cX12_feed 34 = .ok (.dup_x1, 1) := by decide +kernel
theorem dX12_feed_35 : decode cX12_feed 35 = .ok (.iconst 1, 1) := by decide +kernel
theorem dX12_feed_36 : decode cX12_feed 36 = .ok (.iadd, 1) := by decide +kernel
theorem dX12_feed_37 : decode cX12_feed 37 = .ok (.putfield 130, 3) := by decide +kernel
theorem dX12_feed_40 : decode cX12_feed 40 = .ok (.iload_n 1, 1) := by decide +kernel
theorem dX12_feed_41 : decode cX12_feed 41 = .ok (.iastore, 1) := by decide +kernel
theorem dX12_feed_42 : decode cX12_feed 42 = .ok (.aload_n 0, 1) := by decide +kernel
theorem dX12_feed_43 : decode cX12_feed 43 = .ok (.getfield 130, 3) := by decide +kernel
theorem dX12_feed_46 : decode cX12_feed 46 = .ok (.ireturn, 1) := by decide +kernel
theorem dX12_is_0 : decode cX12_is 0 = .ok (.aload_n 0, 1) := by decide +kernel
theorem dX12_is_1 : decode cX12_is 1 = .ok (.getfield 133, 3) := by decide +kernel
theorem dX12_is_4 : decode cX12_is 4 = .ok (.aload_n 0, 1) := by decide +kernel
theorem dX12_is_5 : decode cX12_is 5 = .ok (.getfield 130, 3) := by decide +kernel
theorem dX12_is_8 : decode cX12_is 8 = .ok (.if_icmp .eq 16, 3) := by decide +kernel
theorem dX12_is_11 : decode cX12_is 11 = .ok (.aload_n 0, 1) := by decide +kernel
theorem dX12_is_12 : decode cX12_is 12 = .ok (.getfield 30, 3) := by decide +kernel
theorem dX12_is_15 : decode cX12_is 15 = .ok (.aload_n 0, 1) := by decide +kernel
theorem dX12_is_16 : decode cX12_is 16 = .ok (.getfield 133, 3) := by decide +kernel
theorem dX12_is_19 : decode cX12_is 19 = .ok (.iaload, 1) := by decide +kernel
theorem dX12_is_20 : decode cX12_is 20 = .ok (.iload_n 1, 1) := by decide +kernel
theorem dX12_is_21 : decode cX12_is 21 = .ok (.if_icmp .eq 5, 3) := by decide +kernel
theorem dX12_is_24 : decode cX12_is 24 = .ok (.iconst 0, 1) := by decide +kernel
theorem dX12_is_25 : decode cX12_is 25 = .ok (.ireturn, 1) := by decide +kernel
theorem dX12_is_26 : decode cX12_is 26 = .ok (.aload_n 0, 1) := by decide +kernel
theorem dX12_is_27 : decode cX12_is 27 = .ok (.dup, 1) := by decide +kernel
theorem dX12_is_28 : decode cX12_is 28 = .ok (.getfield 133, 3) := by decide +kernel
theorem dX12_is_31 : decode cX12_is 31 = .ok (.iconst 1, 1) := by decide +kernel
theorem dX12_is_32 : decode cX12_is 32 = .ok (.iadd, 1) := by decide +kernel
theorem dX12_is_33 : decode cX12_is 33 = .ok (.putfield 133, 3) := by decide +kernel
theorem dX12_is_36 : decode cX12_is 36 = .ok (.iconst 1, 1) := by decide +kernel
theorem dX12_is_37 : decode cX12_is 37 = .ok (.ireturn, 1) := by decide +kernel
theorem dX12_isDigit_0 : decode cX12_isDigit 0 = .ok (.aload_n 0, 1) := by decide +kernel
theorem dX12_isDigit_1 : decode cX12_isDigit 1 = .ok (.getfield 133, 3) := by decide +kernel
theorem dX12_isDigit_4 : decode cX12_isDigit 4 = .ok (.aload_n 0, 1) := by decide +kernel
theorem dX12_isDigit_5 : decode cX12_isDigit 5 = .ok (.getfield 130, 3) := by decide +kernel
theorem dX12_isDigit_8 : decode cX12_isDigit 8 = .ok (.if_icmp .ge 35, 3) := by decide +kernel
theorem dX12_isDigit_11 : decode cX12_isDigit 11 = .ok (.aload_n 0, 1) := by decide +kernel
theorem dX12_isDigit_12 : decode cX12_isDigit 12 = .ok (.getfield 30, 3) := by decide +kernel
theorem dX12_isDigit_15 : decode cX12_isDigit 15 = .ok (.aload_n 0, 1) := by decide +kernel
theorem dX12_isDigit_16 : decode cX12_isDigit 16 = .ok (.getfield 133, 3) := by decide +kernel
theorem dX12_isDigit_19 : decode cX12_isDigit 19 = .ok (.iaload, 1) := by decide +kernel
theorem dX12_isDigit_20 : decode cX12_isDigit 20 = .ok (.bipush 48, 2) := by decide +kernel
theorem dX12_isDigit_22 : decode cX12_isDigit 22 = .ok (.if_icmp .lt 21, 3) := by decide +kernel
theorem dX12_isDigit_25 : decode cX12_isDigit 25 = .ok (.aload_n 0, 1) := by decide +kernel
theorem dX12_isDigit_26 : decode cX12_isDigit 26 = .ok (.getfield 30, 3) := by decide +kernel
theorem dX12_isDigit_29 : decode cX12_isDigit 29 = .ok (.aload_n 0, 1) := by decide +kernel
theorem dX12_isDigit_30 : decode cX12_isDigit 30 = .ok (.getfield 133, 3) := by decide +kernel
theorem dX12_isDigit_33 : decode cX12_isDigit 33 = .ok (.iaload, 1) := by decide +kernel
theorem dX12_isDigit_34 : decode cX12_isDigit 34 = .ok (.bipush 57, 2) := by decide +kernel
theorem dX12_isDigit_36 : decode cX12_isDigit 36 = .ok (.if_icmp .gt 7, 3) := by decide +kernel
theorem dX12_isDigit_39 : decode cX12_isDigit 39 = .ok (.iconst 1, 1) := by decide +kernel
theorem dX12_isDigit_40 : decode cX12_isDigit 40 = .ok (.goto 4, 3) := by decide +kernel
theorem dX12_isDigit_43 : decode cX12_isDigit 43 = .ok (.iconst 0, 1) := by decide +kernel
theorem dX12_isDigit_44 : decode cX12_isDigit 44 = .ok (.ireturn, 1) := by decide +kernel
theorem dX12_isNumber_0 : decode cX12_isNumber 0 = .ok (.aload_n 0, 1) := by decide +kernel
theorem dX12_isNumber_1 : decode cX12_isNumber 1 = .ok (.iconst 0, 1) := by decide +kernel
theorem dX12_isNumber_2 : decode cX12_isNumber 2 = .ok (.putfield 136, 3) := by decide +kernel
theorem dX12_isNumber_5 : decode cX12_isNumber 5 = .ok (.aload_n 0, 1) := by decide +kernel
theorem dX12_isNumber_6 : decode cX12_isNumber 6 = .ok (.iconst 0, 1) := by decide +kernel
theorem dX12_isNumber_7 : decode cX12_isNumber 7 = .ok (.putfield 139, 3) := by decide +kernel
theorem dX12_isNumber_10 : decode cX12_isNumber 10 = .ok (.aload_n 0, 1) := by decide +kernel
theorem dX12_isNumber_11 : decode cX12_isNumber 11 = .ok (.getfield 139, 3) := by decide +kernel
theorem dX12_isNumber_14 : decode cX12_isNumber 14 = .ok (.iconst 2, 1) := by decide +kernel
theorem dX12_isNumber_15 : decode cX12_isNumber 15 = .ok (.if_icmp .ge 57, 3) := by decide +kernel
theorem dX12_isNumber_18 : decode cX12_isNumber 18 = .ok (.aload_n 0, 1) := by decide +kernel
theorem dX12_isNumber_19 : decode cX12_isNumber 19 = .ok (.invokevirtual 142, 3) := by decide +kernel
theorem dX12_isNumber_22 : decode cX12_isNumber 22 = .ok (.ifCond .eq 50, 3) := by decide +kernel
theorem dX12_isNumber_25 : decode cX12_isNumber 25 = .ok (.aload_n 0, 1) := by decide +kernel
theorem dX12_isNumber_26 : decode cX12_isNumber 26 = .ok (.bipush 10, 2) := by decide +kernel
theorem dX12_isNumber_28 : decode cX12_isNumber 28 = .ok (.aload_n 0, 1) := by decide +kernel
theorem dX12_isNumber_29 : decode cX12_isNumber 29 = .ok (.getfield 136, 3) := by decide +kernel
theorem dX12_isNumber_32 : decode cX12_isNumber 32 = .ok (.imul, 1) := by decide +kernel
theorem dX12_isNumber_33 : decode cX12_isNumber 33 = .ok (.aload_n 0, 1) := by decide +kernel
theorem dX12_isNumber_34 : decode cX12_isNumber 34 = .ok (.getfield 30, 3) := by decide +kernel
theorem dX12_isNumber_37 : decode cX12_isNumber 37 = .ok (.aload_n 0, 1) := by decide +kernel
theorem dX12_isNumber_38 : decode cX12_isNumber 38 = .ok (.getfield 133, 3) := by decide +kernel
theorem dX12_isNumber_41 : decode cX12_isNumber 41 = .ok (.iaload, 1) := by decide +kernel
theorem dX12_isNumber_42 : decode cX12_isNumber 42 = .ok (.iadd, 1) := by decide +kernel
theorem dX12_isNumber_43 : decode cX12_isNumber 43 = .ok (.bipush 48, 2) := by decide +kernel
theorem dX12_isNumber_45 : decode cX12_isNumber 45 = .ok (.isub, 1) := by decide +kernel
theorem dX12_isNumber_46 : decode cX12_isNumber 46 = .ok (.putfield 136, 3) := by decide +kernel
theorem dX12_isNumber_49 : decode cX12_isNumber 49 = .ok (.aload_n 0, 1) := by decide +kernel
theorem dX12_isNumber_50 : decode cX12_isNumber 50 = .ok (.dup, 1) := by decide +kernel
theorem dX12_isNumber_51 : decode cX12_isNumber 51 = .ok (.getfield 133, 3) := by decide +kernel
theorem dX12_isNumber_54 : decode cX12_isNumber 54 = .ok (.iconst 1, 1) := by decide +kernel
theorem dX12_isNumber_55 : decode cX12_isNumber 55 = .ok (.iadd, 1) := by decide +kernel
theorem dX12_isNumber_56 : decode cX12_isNumber 56 = .ok (.putfield 133, 3) := by decide +kernel
theorem dX12_isNumber_59 : decode cX12_isNumber 59 = .ok (.aload_n 0, 1) := by decide +kernel
theorem dX12_isNumber_60 : decode cX12_isNumber 60 = .ok (.dup, 1) := by decide +kernel
theorem dX12_isNumber_61 : decode cX12_isNumber 61 = .ok (.getfield 139, 3) := by decide +kernel
theorem dX12_isNumber_64 : decode cX12_isNumber 64 = .ok (.iconst 1, 1) := by decide +kernel
theorem dX12_isNumber_65 : decode cX12_isNumber 65 = .ok (.iadd, 1) := by decide +kernel
theorem dX12_isNumber_66 : decode cX12_isNumber 66 = .ok (.putfield 139, 3) := by decide +kernel
theorem dX12_isNumber_69 : decode cX12_isNumber 69 = .ok (.goto (-59), 3) := by decide +kernel
theorem dX12_isNumber_72 : decode cX12_isNumber 72 = .ok (.aload_n 0, 1) := by decide +kernel
theorem dX12_isNumber_73 : decode cX12_isNumber 73 = .ok (.getfield 139, 3) := by decide +kernel
theorem dX12_isNumber_76 : decode cX12_isNumber 76 = .ok (.ifCond .le 7, 3) := by decide +kernel
theorem dX12_isNumber_79 : decode cX12_isNumber 79 = .ok (.iconst 1, 1) := by decide +kernel
theorem dX12_isNumber_80 : decode cX12_isNumber 80 = .ok (.goto 4, 3) := by decide +kernel
theorem dX12_isNumber_83 : decode cX12_isNumber 83 = .ok (.iconst 0, 1) := by decide +kernel
theorem dX12_isNumber_84 : decode cX12_isNumber 84 = .ok (.ireturn, 1) := by decide +kernel
theorem dX12_isAll_0 : decode cX12_isAll 0 = .ok (.iconst 0, 1) := by decide +kernel
theorem dX12_isAll_1 : decode cX12_isAll 1 = .ok (.istore_n 2, 1) := by decide +kernel
theorem dX12_isAll_2 : decode cX12_isAll 2 = .ok (.iload_n 2, 1) := by decide +kernel
theorem dX12_isAll_3 : decode cX12_isAll 3 = .ok (.aload_n 1, 1) := by decide +kernel
theorem dX12_isAll_4 : decode cX12_isAll 4 = .ok (.invokevirtual 146, 3) := by decide +kernel
theorem dX12_isAll_7 : decode cX12_isAll 7 = .ok (.if_icmp .ge 23, 3) := by decide +kernel
theorem dX12_isAll_10 : decode cX12_isAll 10 = .ok (.aload_n 0, 1) := by decide +kernel
theorem dX12_isAll_11 : decode cX12_isAll 11 = .ok (.aload_n 1, 1) := by decide +kernel
theorem dX12_isAll_12 : decode cX12_isAll 12 = .ok (.iload_n 2, 1) := by decide +kernel
theorem dX12_isAll_13 : decode cX12_isAll 13 = .ok (.invokevirtual 151, 3) := by decide +kernel
theorem dX12_isAll_16 : decode cX12_isAll 16 = .ok (.invokevirtual 155, 3) := by decide +kernel
theorem dX12_isAll_19 : decode cX12_isAll 19 = .ok (.ifCond .ne 5, 3) := by decide +kernel
theorem dX12_isAll_22 : decode cX12_isAll 22 = .ok (.iconst 0, 1) := by decide +kernel
theorem dX12_isAll_23 : decode cX12_isAll 23 = .ok (.ireturn, 1) := by decide +kernel
theorem dX12_isAll_24 : decode cX12_isAll 24 = .ok (.iinc 2 1, 3) := by decide +kernel
theorem dX12_isAll_27 : decode cX12_isAll 27 = .ok (.goto (-25), 3) := by decide +kernel
theorem dX12_isAll_30 : decode cX12_isAll 30 = .ok (.iconst 1, 1) := by decide +kernel
theorem dX12_isAll_31 : decode cX12_isAll 31 = .ok (.ireturn, 1) := by decide +kernel
theorem dX12_codes_0 : decode cX12_codes 0 = .ok (.aload_n 0, 1) := by decide +kernel
theorem dX12_codes_1 : decode cX12_codes 1 = .ok (.getfield 48, 3) := by decide +kernel
theorem dX12_codes_4 : decode cX12_codes 4 = .ok (.aload_n 0, 1) := by decide +kernel
theorem dX12_codes_5 : decode cX12_codes 5 = .ok (.dup, 1) := by decide +kernel
theorem dX12_codes_6 : decode cX12_codes 6 = .ok (.getfield 158, 3) := by decide +kernel
theorem dX12_codes_9 : decode cX12_codes 9 = .ok (.dup_x1, 1) := by decide +kernel
theorem dX12_codes_10 : decode cX12_codes 10 = .ok (.iconst 1, 1) := by decide +kernel
theorem dX12_codes_11 : decode cX12_codes 11 = .ok (.iadd, 1) := by decide +kernel
theorem dX12_codes_12 : decode cX12_codes 12 = .ok (.putfield 158, 3) := by decide +kernel
theorem dX12_codes_15 : decode cX12_codes 15 = .ok (.iload_n 1, 1) := by decide +kernel
theorem dX12_codes_16 : decode cX12_codes 16 = .ok (.iastore, 1) := by decide +kernel
theorem dX12_codes_17 : decode cX12_codes 17 = .ok (.iconst 1, 1) := by decide +kernel
theorem dX12_codes_18 : decode cX12_codes 18 = .ok (.ireturn, 1) := by decide +kernel
theorem dX12_isTest_0 : decode cX12_isTest 0 = .ok (.aload_n 0, 1) := by decide +kernel
theorem dX12_isTest_1 : decode cX12_isTest 1 = .ok (.getfield 133, 3) := by decide +kernel
theorem dX12_isTest_4 : decode cX12_isTest 4 = .ok (.aload_n 0, 1) := by decide +kernel
theorem dX12_isTest_5 : decode cX12_isTest 5 = .ok (.getfield 130, 3) := by decide +kernel
theorem dX12_isTest_8 : decode cX12_isTest 8 = .ok (.if_icmp .ge 32, 3) := by decide +kernel
theorem dX12_isTest_11 : decode cX12_isTest 11 = .ok (.aload_n 0, 1) := by decide +kernel
theorem dX12_isTest_12 : decode cX12_isTest 12 = .ok (.getfield 30, 3) := by decide +kernel
theorem dX12_isTest_15 : decode cX12_isTest 15 = .ok (.aload_n 0, 1) := by decide +kernel
theorem dX12_isTest_16 : decode cX12_isTest 16 = .ok (.getfield 133, 3) := by decide +kernel
theorem dX12_isTest_19 : decode cX12_isTest 19 = .ok (.iaload, 1) := by decide +kernel
theorem dX12_isTest_20 : decode cX12_isTest 20 = .ok (.ifCond .le 20, 3) := by decide +kernel
theorem dX12_isTest_23 : decode cX12_isTest 23 = .ok (.ldc 161, 2) := by decide +kernel
theorem dX12_isTest_25 : decode cX12_isTest 25 = .ok (.aload_n 0, 1) := by decide +kernel
theorem dX12_isTest_26 : decode cX12_isTest 26 = .ok (.getfield 30, 3) := by decide +kernel
theorem dX12_isTest_29 : decode cX12_isTest 29 = .ok (.aload_n 0, 1) := by decide +kernel
theorem dX12_isTest_30 : decode cX12_isTest 30 = .ok (.getfield 133, 3) := by decide +kernel
theorem dX12_isTest_33 : decode cX12_isTest 33 = .ok (.iaload, 1) := by decide +kernel
theorem dX12_isTest_34 : decode cX12_isTest 34 = .ok (.invokevirtual 163, 3) := by decide +kernel
theorem dX12_isTest_37 : decode cX12_isTest 37 = .ok (.goto 4, 3) := by decide +kernel
theorem dX12_isTest_40 : decode cX12_isTest 40 = .ok (.iconst (-1), 1) := by decide +kernel
theorem dX12_isTest_41 : decode cX12_isTest 41 = .ok (.istore_n 1, 1) := by decide +kernel
theorem dX12_isTest_42 : decode cX12_isTest 42 = .ok (.iload_n 1, 1) := by decide +kernel
theorem dX12_isTest_43 : decode cX12_isTest 43 = .ok (.ifCond .ge 5, 3) := by decide +kernel
theorem dX12_isTest_46 : decode cX12_isTest 46 = .ok (.iconst 0, 1) := by decide +kernel
theorem dX12_isTest_47 : decode cX12_isTest 47 = .ok (.ireturn, 1) := by decide +kernel
theorem dX12_isTest_48 : decode cX12_isTest 48 = .ok (.aload_n 0, 1) := by decide +kernel
theorem dX12_isTest_49 : decode cX12_isTest 49 = .ok (.dup, 1) := by decide +kernel
theorem dX12_isTest_50 : decode cX12_isTest 50 = .ok (.getfield 133, 3) := by decide +kernel
theorem dX12_isTest_53 : decode cX12_isTest 53 = .ok (.iconst 1, 1) := by decide +kernel
theorem dX12_isTest_54 : decode cX12_isTest 54 = .ok (.iadd, 1) := by decide +kernel
theorem dX12_isTest_55 : decode cX12_isTest 55 = .ok (.putfield 133, 3) := by decide +kernel
theorem dX12_isTest_58 : decode cX12_isTest 58 = .ok (.aload_n 0, 1) := by decide +kernel
theorem dX12_isTest_59 : decode cX12_isTest 59 = .ok (.getfield 133, 3) := by decide +kernel
theorem dX12_isTest_62 : decode cX12_isTest 62 = .ok (.aload_n 0, 1) := by decide +kernel
theorem dX12_isTest_63 : decode cX12_isTest 63 = .ok (.getfield 130, 3) := by decide +kernel
theorem dX12_isTest_66 : decode cX12_isTest 66 = .ok (.if_icmp .ge 32, 3) := by decide +kernel
theorem dX12_isTest_69 : decode cX12_isTest 69 = .ok (.aload_n 0, 1) := by decide +kernel
theorem dX12_isTest_70 : decode cX12_isTest 70 = .ok (.getfield 30, 3) := by decide +kernel
theorem dX12_isTest_73 : decode cX12_isTest 73 = .ok (.aload_n 0, 1) := by decide +kernel
theorem dX12_isTest_74 : decode cX12_isTest 74 = .ok (.getfield 133, 3) := by decide +kernel
theorem dX12_isTest_77 : decode cX12_isTest 77 = .ok (.iaload, 1) := by decide +kernel
theorem dX12_isTest_78 : decode cX12_isTest 78 = .ok (.ifCond .le 20, 3) := by decide +kernel
theorem dX12_isTest_81 : decode cX12_isTest 81 = .ok (.ldc 166, 2) := by decide +kernel
theorem dX12_isTest_83 : decode cX12_isTest 83 = .ok (.aload_n 0, 1) := by decide +kernel
theorem dX12_isTest_84 : decode cX12_isTest 84 = .ok (.getfield 30, 3) := by decide +kernel
theorem dX12_isTest_87 : decode cX12_isTest 87 = .ok (.aload_n 0, 1) := by decide +kernel
theorem dX12_isTest_88 : decode cX12_isTest 88 = .ok (.getfield 133, 3) := by decide +kernel
theorem dX12_isTest_91 : decode cX12_isTest 91 = .ok (.iaload, 1) := by decide +kernel
theorem dX12_isTest_92 : decode cX12_isTest 92 = .ok (.invokevirtual 163, 3) := by decide +kernel
theorem dX12_isTest_95 : decode cX12_isTest 95 = .ok (.goto 4, 3) := by decide +kernel
theorem dX12_isTest_98 : decode cX12_isTest 98 = .ok (.iconst (-1), 1) := by decide +kernel
theorem dX12_isTest_99 : decode cX12_isTest 99 = .ok (.istore_n 2, 1) := by decide +kernel
theorem dX12_isTest_100 : decode cX12_isTest 100 = .ok (.iload_n 2, 1) := by decide +kernel
theorem dX12_isTest_101 : decode cX12_isTest 101 = .ok (.ifCond .ge 5, 3) := by decide +kernel
theorem dX12_isTest_104 : decode cX12_isTest 104 = .ok (.iconst 0, 1) := by decide +kernel
theorem dX12_isTest_105 : decode cX12_isTest 105 = .ok (.ireturn, 1) := by decide +kernel
theorem dX12_isTest_106 : decode cX12_isTest 106 = .ok (.aload_n 0, 1) := by decide +kernel
theorem dX12_isTest_107 : decode cX12_isTest 107 = .ok (.dup, 1) := by decide +kernel
theorem dX12_isTest_108 : decode cX12_isTest 108 = .ok (.getfield 133, 3) := by decide +kernel
theorem dX12_isTest_111 : decode cX12_isTest 111 = .ok (.iconst 1, 1) := by decide +kernel
theorem dX12_isTest_112 : decode cX12_isTest 112 = .ok (.iadd, 1) := by decide +kernel
theorem dX12_isTest_113 : decode cX12_isTest 113 = .ok (.putfield 133, 3) := by decide +kernel
theorem dX12_isTest_116 : decode cX12_isTest 116 = .ok (.aload_n 0, 1) := by decide +kernel
theorem dX12_isTest_117 : decode cX12_isTest 117 = .ok (.invokevirtual 168, 3) := by decide +kernel
theorem dX12_isTest_120 : decode cX12_isTest 120 = .ok (.ifCond .eq 31, 3) := by decide +kernel
theorem dX12_isTest_123 : decode cX12_isTest 123 = .ok (.aload_n 0, 1) := by decide +kernel
theorem dX12_isTest_124 : decode cX12_isTest 124 = .ok (.iconst 3, 1) := by decide +kernel
theorem dX12_isTest_125 : decode cX12_isTest 125 = .ok (.sipush 300, 3) := by decide +kernel
theorem dX12_isTest_128 : decode cX12_isTest 128 = .ok (.iload_n 1, 1) := by decide +kernel
theorem dX12_isTest_129 : decode cX12_isTest 129 = .ok (.imul, 1) := by decide +kernel
theorem dX12_isTest_130 : decode cX12_isTest 130 = .ok (.iadd, 1) := by decide +kernel
theorem dX12_isTest_131 : decode cX12_isTest 131 = .ok (.bipush 100, 2) := by decide +kernel
theorem dX12_isTest_133 : decode cX12_isTest 133 = .ok (.iload_n 2, 1) := by decide +kernel
theorem dX12_isTest_134 : decode cX12_isTest 134 = .ok (.imul, 1) := by decide +kernel
theorem dX12_isTest_135 : decode cX12_isTest 135 = .ok (.iadd, 1) := by decide +kernel
theorem dX12_isTest_136 : decode cX12_isTest 136 = .ok (.aload_n 0, 1) := by decide +kernel
theorem dX12_isTest_137 : decode cX12_isTest 137 = .ok (.getfield 136, 3) := by decide +kernel
theorem dX12_isTest_140 : decode cX12_isTest 140 = .ok (.iadd, 1) := by decide +kernel
theorem dX12_isTest_141 : decode cX12_isTest 141 = .ok (.invokevirtual 171, 3) := by decide +kernel
theorem dX12_isTest_144 : decode cX12_isTest 144 = .ok (.ifCond .eq 7, 3) := by decide +kernel
theorem dX12_isTest_147 : decode cX12_isTest 147 = .ok (.iconst 1, 1) := by decide +kernel
theorem dX12_isTest_148 : decode cX12_isTest 148 = .ok (.goto 4, 3) := by decide +kernel
theorem dX12_isTest_151 : decode cX12_isTest 151 = .ok (.iconst 0, 1) := by decide +kernel
theorem dX12_isTest_152 : decode cX12_isTest 152 = .ok (.ireturn, 1) := by decide +kernel
theorem dX12_isOpened_0 : decode cX12_isOpened 0 = .ok (.aload_n 0, 1) := by decide +kernel
theorem dX12_isOpened_1 : decode cX12_isOpened 1 = .ok (.getfield 174, 3) := by decide +kernel
theorem dX12_isOpened_4 : decode cX12_isOpened 4 = .ok (.iconst 4, 1) := by decide +kernel
theorem dX12_isOpened_5 : decode cX12_isOpened 5 = .ok (.if_icmp .eq 11, 3) := by decide +kernel
theorem dX12_isOpened_8 : decode cX12_isOpened 8 = .ok (.aload_n 0, 1) := by decide +kernel
theorem dX12_isOpened_9 : decode cX12_isOpened 9 = .ok (.iload_n 1, 1) := by decide +kernel
theorem dX12_isOpened_10 : decode cX12_isOpened 10 = .ok (.invokevirtual 155, 3) := by decide +kernel
theorem dX12_isOpened_13 : decode cX12_isOpened 13 = .ok (.ifCond .ne 5, 3) := by decide +kernel
theorem dX12_isOpened_16 : decode cX12_isOpened 16 = .ok (.iconst 0, 1) := by decide +kernel
theorem dX12_isOpened_17 : decode cX12_isOpened 17 = .ok (.ireturn, 1) := by decide +kernel
theorem dX12_isOpened_18 : decode cX12_isOpened 18 = .ok (.aload_n 0, 1) := by decide +kernel
theorem dX12_isOpened_19 : decode cX12_isOpened 19 = .ok (.dup, 1) := by decide +kernel
theorem dX12_isOpened_20 : decode cX12_isOpened 20 = .ok (.getfield 174, 3) := by decide +kernel
theorem dX12_isOpened_23 : decode cX12_isOpened 23 = .ok (.iconst 1, 1) := by decide +kernel
theorem dX12_isOpened_24 : decode cX12_isOpened 24 = .ok (.iadd, 1) := by decide +kernel
theorem dX12_isOpened_25 : decode cX12_isOpened 25 = .ok (.putfield 174, 3) := by decide +kernel
theorem dX12_isOpened_28 : decode cX12_isOpened 28 = .ok (.iconst 1, 1) := by decide +kernel
theorem dX12_isOpened_29 : decode cX12_isOpened 29 = .ok (.ireturn, 1) := by decide +kernel
theorem dX12_isF_0 : decode cX12_isF 0 = .ok (.aload_n 0, 1) := by decide +kernel
theorem dX12_isF_1 : decode cX12_isF 1 = .ok (.bipush 33, 2) := by decide +kernel
theorem dX12_isF_3 : decode cX12_isF 3 = .ok (.invokevirtual 177, 3) := by decide +kernel
theorem dX12_isF_6 : decode cX12_isF 6 = .ok (.ifCond .eq 27, 3) := by decide +kernel
theorem dX12_isF_9 : decode cX12_isF 9 = .ok (.aload_n 0, 1) := by decide +kernel
theorem dX12_isF_10 : decode cX12_isF 10 = .ok (.invokevirtual 180, 3) := by decide +kernel
theorem dX12_isF_13 : decode cX12_isF 13 = .ok (.ifCond .eq 15, 3) := by decide +kernel
theorem dX12_isF_16 : decode cX12_isF 16 = .ok (.aload_n 0, 1) := by decide +kernel
theorem dX12_isF_17 : decode cX12_isF 17 = .ok (.iconst 0, 1) := by decide +kernel
theorem dX12_isF_18 : decode cX12_isF 18 = .ok (.invokevirtual 171, 3) := by decide +kernel
theorem dX12_isF_21 : decode cX12_isF 21 = .ok (.ifCond .eq 7, 3) := by decide +kernel
theorem dX12_isF_24 : decode cX12_isF 24 = .ok (.iconst 1, 1) := by decide +kernel
theorem dX12_isF_25 : decode cX12_isF 25 = .ok (.goto 4, 3) := by decide +kernel
theorem dX12_isF_28 : decode cX12_isF 28 = .ok (.iconst 0, 1) := by decide +kernel
theorem dX12_isF_29 : decode cX12_isF 29 = .ok (.istore_n 1, 1) := by decide +kernel
theorem dX12_isF_30 : decode cX12_isF 30 = .ok (.goto 42, 3) := by decide +kernel
theorem dX12_isF_33 : decode cX12_isF 33 = .ok (.aload_n 0, 1) := by decide +kernel
theorem dX12_isF_34 : decode cX12_isF 34 = .ok (.bipush 40, 2) := by decide +kernel
theorem dX12_isF_36 : decode cX12_isF 36 = .ok (.invokevirtual 177, 3) := by decide +kernel
theorem dX12_isF_39 : decode cX12_isF 39 = .ok (.ifCond .eq 28, 3) := by decide +kernel
theorem dX12_isF_42 : decode cX12_isF 42 = .ok (.aload_n 0, 1) := by decide +kernel
theorem dX12_isF_43 : decode cX12_isF 43 = .ok (.invokevirtual 183, 3) := by decide +kernel
theorem dX12_isF_46 : decode cX12_isF 46 = .ok (.ifCond .eq 16, 3) := by decide +kernel
theorem dX12_isF_49 : decode cX12_isF 49 = .ok (.aload_n 0, 1) := by decide +kernel
theorem dX12_isF_50 : decode cX12_isF 50 = .ok (.bipush 41, 2) := by decide +kernel
theorem dX12_isF_52 : decode cX12_isF 52 = .ok (.invokevirtual 155, 3) := by decide +kernel
theorem dX12_isF_55 : decode cX12_isF 55 = .ok (.ifCond .eq 7, 3) := by decide +kernel
theorem dX12_isF_58 : decode cX12_isF 58 = .ok (.iconst 1, 1) := by decide +kernel
theorem dX12_isF_59 : decode cX12_isF 59 = .ok (.goto 4, 3) := by decide +kernel
theorem dX12_isF_62 : decode cX12_isF 62 = .ok (.iconst 0, 1) := by decide +kernel
theorem dX12_isF_63 : decode cX12_isF 63 = .ok (.istore_n 1, 1) := by decide +kernel
theorem dX12_isF_64 : decode cX12_isF 64 = .ok (.goto 8, 3) := by decide +kernel
theorem dX12_isF_67 : decode cX12_isF 67 = .ok (.aload_n 0, 1) := by decide +kernel
theorem dX12_isF_68 : decode cX12_isF 68 = .ok (.invokevirtual 186, 3) := by decide +kernel
theorem dX12_isF_71 : decode cX12_isF 71 = .ok (.ireturn, 1) := by decide +kernel
theorem dX12_isF_72 : decode cX12_isF 72 = .ok (.aload_n 0, 1) := by decide +kernel
theorem dX12_isF_73 : decode cX12_isF 73 = .ok (.dup, 1) := by decide +kernel
theorem dX12_isF_74 : decode cX12_isF 74 = .ok (.getfield 174, 3) := by decide +kernel
theorem dX12_isF_77 : decode cX12_isF 77 = .ok (.iconst 1, 1) := by decide +kernel
theorem dX12_isF_78 : decode cX12_isF 78 = .ok (.isub, 1) := by decide +kernel
theorem dX12_isF_79 : decode cX12_isF 79 = .ok (.putfield 174, 3) := by decide +kernel
theorem dX12_isF_82 : decode cX12_isF 82 = .ok (.iload_n 1, 1) := by decide +kernel
theorem dX12_isF_83 : decode cX12_isF 83 = .ok (.ireturn, 1) := by decide +kernel
theorem dX12_isT_0 : decode cX12_isT 0 = .ok (.aload_n 0, 1) := by decide +kernel
theorem dX12_isT_1 : decode cX12_isT 1 = .ok (.invokevirtual 180, 3) := by decide +kernel
theorem dX12_isT_4 : decode cX12_isT 4 = .ok (.ifCond .ne 5, 3) := by decide +kernel
theorem dX12_isT_7 : decode cX12_isT 7 = .ok (.iconst 0, 1) := by decide +kernel
theorem dX12_isT_8 : decode cX12_isT 8 = .ok (.ireturn, 1) := by decide +kernel
theorem dX12_isT_9 : decode cX12_isT 9 = .ok (.aload_n 0, 1) := by decide +kernel
theorem dX12_isT_10 : decode cX12_isT 10 = .ok (.bipush 38, 2) := by decide +kernel
theorem dX12_isT_12 : decode cX12_isT 12 = .ok (.invokevirtual 155, 3) := by decide +kernel
theorem dX12_isT_15 : decode cX12_isT 15 = .ok (.ifCond .eq 20, 3) := by decide +kernel
theorem dX12_isT_18 : decode cX12_isT 18 = .ok (.aload_n 0, 1) := by decide +kernel
theorem dX12_isT_19 : decode cX12_isT 19 = .ok (.invokevirtual 180, 3) := by decide +kernel
theorem dX12_isT_22 : decode cX12_isT 22 = .ok (.ifCond .eq 11, 3) := by decide +kernel
theorem dX12_isT_25 : decode cX12_isT 25 = .ok (.aload_n 0, 1) := by decide +kernel
theorem dX12_isT_26 : decode cX12_isT 26 = .ok (.iconst 1, 1) := by decide +kernel
theorem dX12_isT_27 : decode cX12_isT 27 = .ok (.invokevirtual 171, 3) := by decide +kernel
theorem dX12_isT_30 : decode cX12_isT 30 = .ok (.ifCond .ne (-21), 3) := by decide +kernel
theorem dX12_isT_33 : decode cX12_isT 33 = .ok (.iconst 0, 1) := by decide +kernel
theorem dX12_isT_34 : decode cX12_isT 34 = .ok (.ireturn, 1) := by decide +kernel
theorem dX12_isT_35 : decode cX12_isT 35 = .ok (.iconst 1, 1) := by decide +kernel
theorem dX12_isT_36 : decode cX12_isT 36 = .ok (.ireturn, 1) := by decide +kernel
theorem dX12_isE_0 : decode cX12_isE 0 = .ok (.aload_n 0, 1) := by decide +kernel
theorem dX12_isE_1 : decode cX12_isE 1 = .ok (.invokevirtual 189, 3) := by decide +kernel
theorem dX12_isE_4 : decode cX12_isE 4 = .ok (.ifCond .ne 5, 3) := by decide +kernel
theorem dX12_isE_7 : decode cX12_isE 7 = .ok (.iconst 0, 1) := by decide +kernel
theorem dX12_isE_8 : decode cX12_isE 8 = .ok (.ireturn, 1) := by decide +kernel
theorem dX12_isE_9 : decode cX12_isE 9 = .ok (.aload_n 0, 1) := by decide +kernel
theorem dX12_isE_10 : decode cX12_isE 10 = .ok (.bipush 124, 2) := by decide +kernel
theorem dX12_isE_12 : decode cX12_isE 12 = .ok (.invokevirtual 155, 3) := by decide +kernel
theorem dX12_isE_15 : decode cX12_isE 15 = .ok (.ifCond .eq 20, 3) := by decide +kernel
theorem dX12_isE_18 : decode cX12_isE 18 = .ok (.aload_n 0, 1) := by decide +kernel
theorem dX12_isE_19 : decode cX12_isE 19 = .ok (.invokevirtual 189, 3) := by decide +kernel
theorem dX12_isE_22 : decode cX12_isE 22 = .ok (.ifCond .eq 11, 3) := by decide +kernel
theorem dX12_isE_25 : decode cX12_isE 25 = .ok (.aload_n 0, 1) := by decide +kernel
theorem dX12_isE_26 : decode cX12_isE 26 = .ok (.iconst 2, 1) := by decide +kernel
theorem dX12_isE_27 : decode cX12_isE 27 = .ok (.invokevirtual 171, 3) := by decide +kernel
theorem dX12_isE_30 : decode cX12_isE 30 = .ok (.ifCond .ne (-21), 3) := by decide +kernel
theorem dX12_isE_33 : decode cX12_isE 33 = .ok (.iconst 0, 1) := by decide +kernel
theorem dX12_isE_34 : decode cX12_isE 34 = .ok (.ireturn, 1) := by decide +kernel
theorem dX12_isE_35 : decode cX12_isE 35 = .ok (.iconst 1, 1) := by decide +kernel
theorem dX12_isE_36 : decode cX12_isE 36 = .ok (.ireturn, 1) := by decide +kernel
theorem dX12_isClause_0 : decode cX12_isClause 0 = .ok (.iconst (-1), 1) := by decide +kernel
theorem dX12_isClause_1 : decode cX12_isClause 1 = .ok (.istore_n 2, 1) := by decide +kernel
theorem dX12_isClause_2 : decode cX12_isClause 2 = .ok (.aload_n 0, 1) := by decide +kernel
theorem dX12_isClause_3 : decode cX12_isClause 3 = .ok (.getfield 133, 3) := by decide +kernel
theorem dX12_isClause_6 : decode cX12_isClause 6 = .ok (.aload_n 0, 1) := by decide +kernel
theorem dX12_isClause_7 : decode cX12_isClause 7 = .ok (.getfield 130, 3) := by decide +kernel
theorem dX12_isClause_10 : decode cX12_isClause 10 = .ok (.if_icmp .ge 41, 3) := by decide +kernel
theorem dX12_isClause_13 : decode cX12_isClause 13 = .ok (.aload_n 0, 1) := by decide +kernel
theorem dX12_isClause_14 : decode cX12_isClause 14 = .ok (.getfield 30, 3) := by decide +kernel
theorem dX12_isClause_17 : decode cX12_isClause 17 = .ok (.aload_n 0, 1) := by decide +kernel
theorem dX12_isClause_18 : decode cX12_isClause 18 = .ok (.getfield 133, 3) := by decide +kernel
theorem dX12_isClause_21 : decode cX12_isClause 21 = .ok (.iaload, 1) := by decide +kernel
theorem dX12_isClause_22 : decode cX12_isClause 22 = .ok (.bipush 100, 2) := by decide +kernel
theorem dX12_isClause_24 : decode cX12_isClause 24 = .ok (.if_icmp .ne 7, 3) := by decide +kernel
theorem dX12_isClause_27 : decode cX12_isClause 27 = .ok (.iconst 0, 1) := by decide +kernel
theorem dX12_isClause_28 : decode cX12_isClause 28 = .ok (.goto 22, 3) := by decide +kernel
theorem dX12_isClause_31 : decode cX12_isClause 31 = .ok (.aload_n 0, 1) := by decide +kernel
theorem dX12_isClause_32 : decode cX12_isClause 32 = .ok (.getfield 30, 3) := by decide +kernel
theorem dX12_isClause_35 : decode cX12_isClause 35 = .ok (.aload_n 0, 1) := by decide +kernel
theorem dX12_isClause_36 : decode cX12_isClause 36 = .ok (.getfield 133, 3) := by decide +kernel
theorem dX12_isClause_39 : decode cX12_isClause 39 = .ok (.iaload, 1) := by decide +kernel
theorem dX12_isClause_40 : decode cX12_isClause 40 = .ok (.bipush 98, 2) := by decide +kernel
theorem dX12_isClause_42 : decode cX12_isClause 42 = .ok (.if_icmp .ne 7, 3) := by decide +kernel
theorem dX12_isClause_45 : decode cX12_isClause 45 = .ok (.iconst 1, 1) := by decide +kernel
theorem dX12_isClause_46 : decode cX12_isClause 46 = .ok (.goto 4, 3) := by decide +kernel
theorem dX12_isClause_49 : decode cX12_isClause 49 = .ok (.iconst (-1), 1) := by decide +kernel
theorem dX12_isClause_50 : decode cX12_isClause 50 = .ok (.istore_n 2, 1) := by decide +kernel
theorem dX12_isClause_51 : decode cX12_isClause 51 = .ok (.iload_n 2, 1) := by decide +kernel
theorem dX12_isClause_52 : decode cX12_isClause 52 = .ok (.iconst 1, 1) := by decide +kernel
theorem dX12_isClause_53 : decode cX12_isClause 53 = .ok (.if_icmp .ne 34, 3) := by decide +kernel
theorem dX12_isClause_56 : decode cX12_isClause 56 = .ok (.aload_n 0, 1) := by decide +kernel
theorem dX12_isClause_57 : decode cX12_isClause 57 = .ok (.getfield 133, 3) := by decide +kernel
theorem dX12_isClause_60 : decode cX12_isClause 60 = .ok (.iconst 2, 1) := by decide +kernel
theorem dX12_isClause_61 : decode cX12_isClause 61 = .ok (.iadd, 1) := by decide +kernel
theorem dX12_isClause_62 : decode cX12_isClause 62 = .ok (.aload_n 0, 1) := by decide +kernel
theorem dX12_isClause_63 : decode cX12_isClause 63 = .ok (.getfield 130, 3) := by decide +kernel
theorem dX12_isClause_66 : decode cX12_isClause 66 = .ok (.if_icmp .ge 21, 3) := by decide +kernel
theorem dX12_isClause_69 : decode cX12_isClause 69 = .ok (.aload_n 0, 1) := by decide +kernel
theorem dX12_isClause_70 : decode cX12_isClause 70 = .ok (.getfield 30, 3) := by decide +kernel
theorem dX12_isClause_73 : decode cX12_isClause 73 = .ok (.aload_n 0, 1) := by decide +kernel
theorem dX12_isClause_74 : decode cX12_isClause 74 = .ok (.getfield 133, 3) := by decide +kernel
theorem dX12_isClause_77 : decode cX12_isClause 77 = .ok (.iconst 2, 1) := by decide +kernel
theorem dX12_isClause_78 : decode cX12_isClause 78 = .ok (.iadd, 1) := by decide +kernel
theorem dX12_isClause_79 : decode cX12_isClause 79 = .ok (.iaload, 1) := by decide +kernel
theorem dX12_isClause_80 : decode cX12_isClause 80 = .ok (.bipush 108, 2) := by decide +kernel
theorem dX12_isClause_82 : decode cX12_isClause 82 = .ok (.if_icmp .ne 5, 3) := by decide +kernel
theorem dX12_isClause_85 : decode cX12_isClause 85 = .ok (.iconst 2, 1) := by decide +kernel
theorem dX12_isClause_86 : decode cX12_isClause 86 = .ok (.istore_n 2, 1) := by decide +kernel
theorem dX12_isClause_87 : decode cX12_isClause 87 = .ok (.iload_n 2, 1) := by decide +kernel
theorem dX12_isClause_88 : decode cX12_isClause 88 = .ok (.ifCond .ne 12, 3) := by decide +kernel
theorem dX12_isClause_91 : decode cX12_isClause 91 = .ok (.aload_n 0, 1) := by decide +kernel
theorem dX12_isClause_92 : decode cX12_isClause 92 = .ok (.ldc 192, 2) := by decide +kernel
theorem dX12_isClause_94 : decode cX12_isClause 94 = .ok (.invokevirtual 194, 3) := by decide +kernel
theorem dX12_isClause_97 : decode cX12_isClause 97 = .ok (.goto 36, 3) := by decide +kernel
theorem dX12_isClause_100 : decode cX12_isClause 100 = .ok (.iload_n 2, 1) := by decide +kernel
theorem dX12_isClause_101 : decode cX12_isClause 101 = .ok (.iconst 1, 1) := by decide +kernel
theorem dX12_isClause_102 : decode cX12_isClause 102 = .ok (.if_icmp .ne 12, 3) := by decide +kernel
theorem dX12_isClause_105 : decode cX12_isClause 105 = .ok (.aload_n 0, 1) := by decide +kernel
theorem dX12_isClause_106 : decode cX12_isClause 106 = .ok (.ldc 198, 2) := by decide +kernel
theorem dX12_isClause_108 : decode cX12_isClause 108 = .ok (.invokevirtual 194, 3) := by decide +kernel
theorem dX12_isClause_111 : decode cX12_isClause 111 = .ok (.goto 22, 3) := by decide +kernel
theorem dX12_isClause_114 : decode cX12_isClause 114 = .ok (.iload_n 2, 1) := by decide +kernel
theorem dX12_isClause_115 : decode cX12_isClause 115 = .ok (.iconst 2, 1) := by decide +kernel
theorem dX12_isClause_116 : decode cX12_isClause 116 = .ok (.if_icmp .ne 16, 3) := by decide +kernel
theorem dX12_isClause_119 : decode cX12_isClause 119 = .ok (.aload_n 0, 1) := by decide +kernel
theorem dX12_isClause_120 : decode cX12_isClause 120 = .ok (.ldc 200, 2) := by decide +kernel
theorem dX12_isClause_122 : decode cX12_isClause 122 = .ok (.invokevirtual 194, 3) := by decide +kernel
theorem dX12_isClause_125 : decode cX12_isClause 125 = .ok (.ifCond .eq 7, 3) := by decide +kernel
theorem dX12_isClause_128 : decode cX12_isClause 128 = .ok (.iconst 1, 1) := by decide +kernel
theorem dX12_isClause_129 : decode cX12_isClause 129 = .ok (.goto 4, 3) := by decide +kernel
theorem dX12_isClause_132 : decode cX12_isClause 132 = .ok (.iconst 0, 1) := by decide +kernel
theorem dX12_isClause_133 : decode cX12_isClause 133 = .ok (.istore_n 3, 1) := by decide +kernel
theorem dX12_isClause_134 : decode cX12_isClause 134 = .ok (.iload_n 3, 1) := by decide +kernel
theorem dX12_isClause_135 : decode cX12_isClause 135 = .ok (.ifCond .eq 10, 3) := by decide +kernel
theorem dX12_isClause_138 : decode cX12_isClause 138 = .ok (.aload_n 0, 1) := by decide +kernel
theorem dX12_isClause_139 : decode cX12_isClause 139 = .ok (.invokevirtual 168, 3) := by decide +kernel
theorem dX12_isClause_142 : decode cX12_isClause 142 = .ok (.ifCond .ne 5, 3) := by decide +kernel
theorem dX12_isClause_145 : decode cX12_isClause 145 = .ok (.iconst 0, 1) := by decide +kernel
theorem dX12_isClause_146 : decode cX12_isClause 146 = .ok (.ireturn, 1) := by decide +kernel
theorem dX12_isClause_147 : decode cX12_isClause 147 = .ok (.aload_n 0, 1) := by decide +kernel
theorem dX12_isClause_148 : decode cX12_isClause 148 = .ok (.getfield 36, 3) := by decide +kernel
theorem dX12_isClause_151 : decode cX12_isClause 151 = .ok (.iload_n 1, 1) := by decide +kernel
theorem dX12_isClause_152 : decode cX12_isClause 152 = .ok (.iload_n 2, 1) := by decide +kernel
theorem dX12_isClause_153 : decode cX12_isClause 153 = .ok (.iastore, 1) := by decide +kernel
theorem dX12_isClause_154 : decode cX12_isClause 154 = .ok (.aload_n 0, 1) := by decide +kernel
theorem dX12_isClause_155 : decode cX12_isClause 155 = .ok (.getfield 39, 3) := by decide +kernel
theorem dX12_isClause_158 : decode cX12_isClause 158 = .ok (.iload_n 1, 1) := by decide +kernel
theorem dX12_isClause_159 : decode cX12_isClause 159 = .ok (.aload_n 0, 1) := by decide +kernel
theorem dX12_isClause_160 : decode cX12_isClause 160 = .ok (.getfield 136, 3) := by decide +kernel
theorem dX12_isClause_163 : decode cX12_isClause 163 = .ok (.iastore, 1) := by decide +kernel
theorem dX12_isClause_164 : decode cX12_isClause 164 = .ok (.aload_n 0, 1) := by decide +kernel
theorem dX12_isClause_165 : decode cX12_isClause 165 = .ok (.getfield 42, 3) := by decide +kernel
theorem dX12_isClause_168 : decode cX12_isClause 168 = .ok (.iload_n 1, 1) := by decide +kernel
theorem dX12_isClause_169 : decode cX12_isClause 169 = .ok (.aload_n 0, 1) := by decide +kernel
theorem dX12_isClause_170 : decode cX12_isClause 170 = .ok (.getfield 158, 3) := by decide +kernel
theorem dX12_isClause_173 : decode cX12_isClause 173 = .ok (.iastore, 1) := by decide +kernel
theorem dX12_isClause_174 : decode cX12_isClause 174 = .ok (.aload_n 0, 1) := by decide +kernel
theorem dX12_isClause_175 : decode cX12_isClause 175 = .ok (.iconst 0, 1) := by decide +kernel
theorem dX12_isClause_176 : decode cX12_isClause 176 = .ok (.putfield 174, 3) := by decide +kernel
theorem dX12_isClause_179 : decode cX12_isClause 179 = .ok (.iload_n 2, 1) := by decide +kernel
theorem dX12_isClause_180 : decode cX12_isClause 180 = .ok (.iconst 2, 1) := by decide +kernel
theorem dX12_isClause_181 : decode cX12_isClause 181 = .ok (.if_icmp .ge 21, 3) := by decide +kernel
theorem dX12_isClause_184 : decode cX12_isClause 184 = .ok (.aload_n 0, 1) := by decide +kernel
theorem dX12_isClause_185 : decode cX12_isClause 185 = .ok (.bipush 32, 2) := by decide +kernel
theorem dX12_isClause_187 : decode cX12_isClause 187 = .ok (.invokevirtual 155, 3) := by decide +kernel
theorem dX12_isClause_190 : decode cX12_isClause 190 = .ok (.ifCond .eq 10, 3) := by decide +kernel
theorem dX12_isClause_193 : decode cX12_isClause 193 = .ok (.aload_n 0, 1) := by decide +kernel
theorem dX12_isClause_194 : decode cX12_isClause 194 = .ok (.invokevirtual 183, 3) := by decide +kernel
theorem dX12_isClause_197 : decode cX12_isClause 197 = .ok (.ifCond .ne 5, 3) := by decide +kernel
theorem dX12_isClause_200 : decode cX12_isClause 200 = .ok (.iconst 0, 1) := by decide +kernel
theorem dX12_isClause_201 : decode cX12_isClause 201 = .ok (.ireturn, 1) := by decide +kernel
theorem dX12_isClause_202 : decode cX12_isClause 202 = .ok (.aload_n 0, 1) := by decide +kernel
theorem dX12_isClause_203 : decode cX12_isClause 203 = .ok (.getfield 45, 3) := by decide +kernel
theorem dX12_isClause_206 : decode cX12_isClause 206 = .ok (.iload_n 1, 1) := by decide +kernel
theorem dX12_isClause_207 : decode cX12_isClause 207 = .ok (.aload_n 0, 1) := by decide +kernel
theorem dX12_isClause_208 : decode cX12_isClause 208 = .ok (.getfield 158, 3) := by decide +kernel
theorem dX12_isClause_211 : decode cX12_isClause 211 = .ok (.aload_n 0, 1) := by decide +kernel
theorem dX12_isClause_212 : decode cX12_isClause 212 = .ok (.getfield 42, 3) := by decide +kernel
theorem dX12_isClause_215 : decode cX12_isClause 215 = .ok (.iload_n 1, 1) := by decide +kernel
theorem dX12_isClause_216 : decode cX12_isClause 216 = .ok (.iaload, 1) := by decide +kernel
theorem dX12_isClause_217 : decode cX12_isClause 217 = .ok (.isub, 1) := by decide +kernel
theorem dX12_isClause_218 : decode cX12_isClause 218 = .ok (.iastore, 1) := by decide +kernel
theorem dX12_isClause_219 : decode cX12_isClause 219 = .ok (.iconst 1, 1) := by decide +kernel
theorem dX12_isClause_220 : decode cX12_isClause 220 = .ok (.ireturn, 1) := by decide +kernel
theorem dX12_statute_0 : decode cX12_statute 0 = .ok (.aload_n 0, 1) := by decide +kernel
theorem dX12_statute_1 : decode cX12_statute 1 = .ok (.getfield 202, 3) := by decide +kernel
theorem dX12_statute_4 : decode cX12_statute 4 = .ok (.bipush 6, 2) := by decide +kernel
theorem dX12_statute_6 : decode cX12_statute 6 = .ok (.if_icmp .ne 6, 3) := by decide +kernel
theorem dX12_statute_9 : decode cX12_statute 9 = .ok (.bipush (-4), 2) := by decide +kernel
theorem dX12_statute_11 : decode cX12_statute 11 = .ok (.ireturn, 1) := by decide +kernel
theorem dX12_statute_12 : decode cX12_statute 12 = .ok (.aload_n 0, 1) := by decide +kernel
theorem dX12_statute_13 : decode cX12_statute 13 = .ok (.getfield 158, 3) := by decide +kernel
theorem dX12_statute_16 : decode cX12_statute 16 = .ok (.istore_n 1, 1) := by decide +kernel
theorem dX12_statute_17 : decode cX12_statute 17 = .ok (.aload_n 0, 1) := by decide +kernel
theorem dX12_statute_18 : decode cX12_statute 18 = .ok (.iconst 0, 1) := by decide +kernel
theorem dX12_statute_19 : decode cX12_statute 19 = .ok (.putfield 133, 3) := by decide +kernel
theorem dX12_statute_22 : decode cX12_statute 22 = .ok (.iconst 0, 1) := by decide +kernel
theorem dX12_statute_23 : decode cX12_statute 23 = .ok (.istore_n 2, 1) := by decide +kernel
theorem dX12_statute_24 : decode cX12_statute 24 = .ok (.iconst 1, 1) := by decide +kernel
theorem dX12_statute_25 : decode cX12_statute 25 = .ok (.istore_n 3, 1) := by decide +kernel
theorem dX12_statute_26 : decode cX12_statute 26 = .ok (.iconst 0, 1) := by decide +kernel
theorem dX12_statute_27 : decode cX12_statute 27 = .ok (.istore 4, 2) := by decide +kernel
theorem dX12_statute_29 : decode cX12_statute 29 = .ok (.iload_n 3, 1) := by decide +kernel
theorem dX12_statute_30 : decode cX12_statute 30 = .ok (.ifCond .eq 93, 3) := by decide +kernel
theorem dX12_statute_33 : decode cX12_statute 33 = .ok (.iload 4, 2) := by decide +kernel
theorem dX12_statute_35 : decode cX12_statute 35 = .ok (.ifCond .ne 88, 3) := by decide +kernel
theorem dX12_statute_38 : decode cX12_statute 38 = .ok (.iload_n 2, 1) := by decide +kernel
theorem dX12_statute_39 : decode cX12_statute 39 = .ok (.bipush 10, 2) := by decide +kernel
theorem dX12_statute_41 : decode cX12_statute 41 = .ok (.if_icmp .ge 23, 3) := by decide +kernel
theorem dX12_statute_44 : decode cX12_statute 44 = .ok (.aload_n 0, 1) := by decide +kernel
theorem dX12_statute_45 : decode cX12_statute 45 = .ok (.bipush 10, 2) := by decide +kernel
theorem dX12_statute_47 : decode cX12_statute 47 = .ok (.aload_n 0, 1) := by decide +kernel
theorem dX12_statute_48 : decode cX12_statute 48 = .ok (.getfield 202, 3) := by decide +kernel
theorem dX12_statute_51 : decode cX12_statute 51 = .ok (.imul, 1) := by decide +kernel
theorem dX12_statute_52 : decode cX12_statute 52 = .ok (.iload_n 2, 1) := by decide +kernel
theorem dX12_statute_53 : decode cX12_statute 53 = .ok (.iadd, 1) := by decide +kernel
theorem dX12_statute_54 : decode cX12_statute 54 = .ok (.invokevirtual 205, 3) := by decide +kernel
theorem dX12_statute_57 : decode cX12_statute 57 = .ok (.ifCond .eq 7, 3) := by decide +kernel
theorem dX12_statute_60 : decode cX12_statute 60 = .ok (.iconst 1, 1) := by decide +kernel
theorem dX12_statute_61 : decode cX12_statute 61 = .ok (.goto 4, 3) := by decide +kernel
theorem dX12_statute_64 : decode cX12_statute 64 = .ok (.iconst 0, 1) := by decide +kernel
theorem dX12_statute_65 : decode cX12_statute 65 = .ok (.istore_n 3, 1) := by decide +kernel
theorem dX12_statute_66 : decode cX12_statute 66 = .ok (.iload_n 3, 1) := by decide +kernel
theorem dX12_statute_67 : decode cX12_statute 67 = .ok (.ifCond .ne 6, 3) := by decide +kernel
theorem dX12_statute_70 : decode cX12_statute 70 = .ok (.goto (-41), 3) := by decide +kernel
theorem dX12_statute_73 : decode cX12_statute 73 = .ok (.iinc 2 1, 3) := by decide +kernel
theorem dX12_statute_76 : decode cX12_statute 76 = .ok (.aload_n 0, 1) := by decide +kernel
theorem dX12_statute_77 : decode cX12_statute 77 = .ok (.getfield 133, 3) := by decide +kernel
theorem dX12_statute_80 : decode cX12_statute 80 = .ok (.aload_n 0, 1) := by decide +kernel
theorem dX12_statute_81 : decode cX12_statute 81 = .ok (.getfield 130, 3) := by decide +kernel
theorem dX12_statute_84 : decode cX12_statute 84 = .ok (.if_icmp .ne 7, 3) := by decide +kernel
theorem dX12_statute_87 : decode cX12_statute 87 = .ok (.iconst 1, 1) := by decide +kernel
theorem dX12_statute_88 : decode cX12_statute 88 = .ok (.goto 4, 3) := by decide +kernel
theorem dX12_statute_91 : decode cX12_statute 91 = .ok (.iconst 0, 1) := by decide +kernel
theorem dX12_statute_92 : decode cX12_statute 92 = .ok (.istore 4, 2) := by decide +kernel
theorem dX12_statute_94 : decode cX12_statute 94 = .ok (.iload 4, 2) := by decide +kernel
theorem dX12_statute_96 : decode cX12_statute 96 = .ok (.ifCond .ne 18, 3) := by decide +kernel
theorem dX12_statute_99 : decode cX12_statute 99 = .ok (.iload_n 2, 1) := by decide +kernel
theorem dX12_statute_100 : decode cX12_statute 100 = .ok (.bipush 10, 2) := by decide +kernel
theorem dX12_statute_102 : decode cX12_statute 102 = .ok (.if_icmp .ge 16, 3) := by decide +kernel
theorem dX12_statute_105 : decode cX12_statute 105 = .ok (.aload_n 0, 1) := by decide +kernel
theorem dX12_statute_106 : decode cX12_statute 106 = .ok (.bipush 59, 2) := by decide +kernel
theorem dX12_statute_108 : decode cX12_statute 108 = .ok (.invokevirtual 155, 3) := by decide +kernel
theorem dX12_statute_111 : decode cX12_statute 111 = .ok (.ifCond .eq 7, 3) := by decide +kernel
theorem dX12_statute_114 : decode cX12_statute 114 = .ok (.iconst 1, 1) := by decide +kernel
theorem dX12_statute_115 : decode cX12_statute 115 = .ok (.goto 4, 3) := by decide +kernel
theorem dX12_statute_118 : decode cX12_statute 118 = .ok (.iconst 0, 1) := by decide +kernel
theorem dX12_statute_119 : decode cX12_statute 119 = .ok (.istore_n 3, 1) := by decide +kernel
theorem dX12_statute_120 : decode cX12_statute 120 = .ok (.goto (-91), 3) := by decide +kernel
theorem dX12_statute_123 : decode cX12_statute 123 = .ok (.aload_n 0, 1) := by decide +kernel
theorem dX12_statute_124 : decode cX12_statute 124 = .ok (.iconst 0, 1) := by decide +kernel
theorem dX12_statute_125 : decode cX12_statute 125 = .ok (.putfield 130, 3) := by decide +kernel
theorem dX12_statute_128 : decode cX12_statute 128 = .ok (.iload 4, 2) := by decide +kernel
theorem dX12_statute_130 : decode cX12_statute 130 = .ok (.ifCond .ne 16, 3) := by decide +kernel
theorem dX12_statute_133 : decode cX12_statute 133 = .ok (.aload_n 0, 1) := by decide +kernel
theorem dX12_statute_134 : decode cX12_statute 134 = .ok (.iload_n 1, 1) := by decide +kernel
theorem dX12_statute_135 : decode cX12_statute 135 = .ok (.putfield 158, 3) := by decide +kernel
theorem dX12_statute_138 : decode cX12_statute 138 = .ok (.bipush (-10), 2) := by decide +kernel
theorem dX12_statute_140 : decode cX12_statute 140 = .ok (.aload_n 0, 1) := by decide +kernel
theorem dX12_statute_141 : decode cX12_statute 141 = .ok (.getfield 133, 3) := by decide +kernel
theorem dX12_statute_144 : decode cX12_statute 144 = .ok (.isub, 1) := by decide +kernel
theorem dX12_statute_145 : decode cX12_statute 145 = .ok (.ireturn, 1) := by decide +kernel
theorem dX12_statute_146 : decode cX12_statute 146 = .ok (.aload_n 0, 1) := by decide +kernel
theorem dX12_statute_147 : decode cX12_statute 147 = .ok (.getfield 33, 3) := by decide +kernel
theorem dX12_statute_150 : decode cX12_statute 150 = .ok (.aload_n 0, 1) := by decide +kernel
theorem dX12_statute_151 : decode cX12_statute 151 = .ok (.getfield 202, 3) := by decide +kernel
theorem dX12_statute_154 : decode cX12_statute 154 = .ok (.iload_n 2, 1) := by decide +kernel
theorem dX12_statute_155 : decode cX12_statute 155 = .ok (.iastore, 1) := by decide +kernel
theorem dX12_statute_156 : decode cX12_statute 156 = .ok (.aload_n 0, 1) := by decide +kernel
theorem dX12_statute_157 : decode cX12_statute 157 = .ok (.aload_n 0, 1) := by decide +kernel
theorem dX12_statute_158 : decode cX12_statute 158 = .ok (.getfield 202, 3) := by decide +kernel
theorem dX12_statute_161 : decode cX12_statute 161 = .ok (.putfield 101, 3) := by decide +kernel
theorem dX12_statute_164 : decode cX12_statute 164 = .ok (.aload_n 0, 1) := by decide +kernel
theorem dX12_statute_165 : decode cX12_statute 165 = .ok (.dup, 1) := by decide +kernel
theorem dX12_statute_166 : decode cX12_statute 166 = .ok (.getfield 202, 3) := by decide +kernel
theorem dX12_statute_169 : decode cX12_statute 169 = .ok (.dup_x1, 1) := by decide +kernel
theorem dX12_statute_170 : decode cX12_statute 170 = .ok (.iconst 1, 1) := by decide +kernel
theorem dX12_statute_171 : decode cX12_statute 171 = .ok (.iadd, 1) := by decide +kernel
theorem dX12_statute_172 : decode cX12_statute 172 = .ok (.putfield 202, 3) := by decide +kernel
theorem dX12_statute_175 : decode cX12_statute 175 = .ok (.ireturn, 1) := by decide +kernel
theorem dX12_letterOf_0 : decode cX12_letterOf 0 = .ok (.iload_n 3, 1) := by decide +kernel
theorem dX12_letterOf_1 : decode cX12_letterOf 1 = .ok (.tableswitch 63 0 4 #[35, 37, 44, 51, 53], 35) := by decide +kernel
theorem dX12_letterOf_36 : decode cX12_letterOf 36 = .ok (.iload_n 1, 1) := by decide +kernel
theorem dX12_letterOf_37 : decode cX12_letterOf 37 = .ok (.ireturn, 1) := by decide +kernel
theorem dX12_letterOf_38 : decode cX12_letterOf 38 = .ok (.aload_n 0, 1) := by decide +kernel
theorem dX12_letterOf_39 : decode cX12_letterOf 39 = .ok (.getfield 15, 3) := by decide +kernel
theorem dX12_letterOf_42 : decode cX12_letterOf 42 = .ok (.iload_n 1, 1) := by decide +kernel
theorem dX12_letterOf_43 : decode cX12_letterOf 43 = .ok (.iaload, 1) := by decide +kernel
theorem dX12_letterOf_44 : decode cX12_letterOf 44 = .ok (.ireturn, 1) := by decide +kernel
theorem dX12_letterOf_45 : decode cX12_letterOf 45 = .ok (.aload_n 0, 1) := by decide +kernel
theorem dX12_letterOf_46 : decode cX12_letterOf 46 = .ok (.getfield 18, 3) := by decide +kernel
theorem dX12_letterOf_49 : decode cX12_letterOf 49 = .ok (.iload_n 1, 1) := by decide +kernel
theorem dX12_letterOf_50 : decode cX12_letterOf 50 = .ok (.iaload, 1) := by decide +kernel
theorem dX12_letterOf_51 : decode cX12_letterOf 51 = .ok (.ireturn, 1) := by decide +kernel
theorem dX12_letterOf_52 : decode cX12_letterOf 52 = .ok (.iload_n 2, 1) := by decide +kernel
theorem dX12_letterOf_53 : decode cX12_letterOf 53 = .ok (.ireturn, 1) := by decide +kernel
theorem dX12_letterOf_54 : decode cX12_letterOf 54 = .ok (.aload_n 0, 1) := by decide +kernel
theorem dX12_letterOf_55 : decode cX12_letterOf 55 = .ok (.getfield 9, 3) := by decide +kernel
theorem dX12_letterOf_58 : decode cX12_letterOf 58 = .ok (.iload_n 2, 1) := by decide +kernel
theorem dX12_letterOf_59 : decode cX12_letterOf 59 = .ok (.iaload, 1) := by decide +kernel
theorem dX12_letterOf_60 : decode cX12_letterOf 60 = .ok (.bipush 10, 2) := by decide +kernel
theorem dX12_letterOf_62 : decode cX12_letterOf 62 = .ok (.idiv, 1) := by decide +kernel
theorem dX12_letterOf_63 : decode cX12_letterOf 63 = .ok (.ireturn, 1) := by decide +kernel
theorem dX12_letterOf_64 : decode cX12_letterOf 64 = .ok (.aload_n 0, 1) := by decide +kernel
theorem dX12_letterOf_65 : decode cX12_letterOf 65 = .ok (.getfield 208, 3) := by decide +kernel
theorem dX12_letterOf_68 : decode cX12_letterOf 68 = .ok (.bipush 10, 2) := by decide +kernel
theorem dX12_letterOf_70 : decode cX12_letterOf 70 = .ok (.irem, 1) := by decide +kernel
theorem dX12_letterOf_71 : decode cX12_letterOf 71 = .ok (.ireturn, 1) := by decide +kernel
theorem dX12_isTrue_0 : decode cX12_isTrue 0 = .ok (.iconst 0, 1) := by decide +kernel
theorem dX12_isTrue_1 : decode cX12_isTrue 1 = .ok (.istore 4, 2) := by decide +kernel
theorem dX12_isTrue_3 : decode cX12_isTrue 3 = .ok (.aload_n 0, 1) := by decide +kernel
theorem dX12_isTrue_4 : decode cX12_isTrue 4 = .ok (.getfield 42, 3) := by decide +kernel
theorem dX12_isTrue_7 : decode cX12_isTrue 7 = .ok (.iload_n 3, 1) := by decide +kernel
theorem dX12_isTrue_8 : decode cX12_isTrue 8 = .ok (.iaload, 1) := by decide +kernel
theorem dX12_isTrue_9 : decode cX12_isTrue 9 = .ok (.istore 5, 2) := by decide +kernel
theorem dX12_isTrue_11 : decode cX12_isTrue 11 = .ok (.iload 5, 2) := by decide +kernel
theorem dX12_isTrue_13 : decode cX12_isTrue 13 = .ok (.aload_n 0, 1) := by decide +kernel
theorem dX12_isTrue_14 : decode cX12_isTrue 14 = .ok (.getfield 42, 3) := by decide +kernel
theorem dX12_isTrue_17 : decode cX12_isTrue 17 = .ok (.iload_n 3, 1) := by decide +kernel
theorem dX12_isTrue_18 : decode cX12_isTrue 18 = .ok (.iaload, 1) := by decide +kernel
theorem dX12_isTrue_19 : decode cX12_isTrue 19 = .ok (.aload_n 0, 1) := by decide +kernel
theorem dX12_isTrue_20 : decode cX12_isTrue 20 = .ok (.getfield 45, 3) := by decide +kernel
theorem dX12_isTrue_23 : decode cX12_isTrue 23 = .ok (.iload_n 3, 1) := by decide +kernel
theorem dX12_isTrue_24 : decode cX12_isTrue 24 = .ok (.iaload, 1) := by decide +kernel
theorem dX12_isTrue_25 : decode cX12_isTrue 25 = .ok (.iadd, 1) := by decide +kernel
theorem dX12_isTrue_26 : decode cX12_isTrue 26 = .ok (.if_icmp .ge 235, 3) := by decide +kernel
theorem dX12_isTrue_29 : decode cX12_isTrue 29 = .ok (.aload_n 0, 1) := by decide +kernel
theorem dX12_isTrue_30 : decode cX12_isTrue 30 = .ok (.getfield 48, 3) := by decide +kernel
theorem dX12_isTrue_33 : decode cX12_isTrue 33 = .ok (.iload 5, 2) := by decide +kernel
theorem dX12_isTrue_35 : decode cX12_isTrue 35 = .ok (.iaload, 1) := by decide +kernel
theorem dX12_isTrue_36 : decode cX12_isTrue 36 = .ok (.istore 6, 2) := by decide +kernel
theorem dX12_isTrue_38 : decode cX12_isTrue 38 = .ok (.iload 6, 2) := by decide +kernel
theorem dX12_isTrue_40 : decode cX12_isTrue 40 = .ok (.iconst 3, 1) := by decide +kernel
theorem dX12_isTrue_41 : decode cX12_isTrue 41 = .ok (.if_icmp .lt 105, 3) := by decide +kernel
theorem dX12_isTrue_44 : decode cX12_isTrue 44 = .ok (.aload_n 0, 1) := by decide +kernel
theorem dX12_isTrue_45 : decode cX12_isTrue 45 = .ok (.iload_n 1, 1) := by decide +kernel
theorem dX12_isTrue_46 : decode cX12_isTrue 46 = .ok (.iload_n 2, 1) := by decide +kernel
theorem dX12_isTrue_47 : decode cX12_isTrue 47 = .ok (.iload 6, 2) := by decide +kernel
theorem dX12_isTrue_49 : decode cX12_isTrue 49 = .ok (.iconst 3, 1) := by decide +kernel
theorem dX12_isTrue_50 : decode cX12_isTrue 50 = .ok (.isub, 1) := by decide +kernel
theorem dX12_isTrue_51 : decode cX12_isTrue 51 = .ok (.sipush 300, 3) := by decide +kernel
theorem dX12_isTrue_54 : decode cX12_isTrue 54 = .ok (.idiv, 1) := by decide +kernel
theorem dX12_isTrue_55 : decode cX12_isTrue 55 = .ok (.invokevirtual 211, 3) := by decide +kernel
theorem dX12_isTrue_58 : decode cX12_isTrue 58 = .ok (.istore 7, 2) := by decide +kernel
theorem dX12_isTrue_60 : decode cX12_isTrue 60 = .ok (.iload 6, 2) := by decide +kernel
theorem dX12_isTrue_62 : decode cX12_isTrue 62 = .ok (.iconst 3, 1) := by decide +kernel
theorem dX12_isTrue_63 : decode cX12_isTrue 63 = .ok (.isub, 1) := by decide +kernel
theorem dX12_isTrue_64 : decode cX12_isTrue 64 = .ok (.bipush 100, 2) := by decide +kernel
theorem dX12_isTrue_66 : decode cX12_isTrue 66 = .ok (.irem, 1) := by decide +kernel
theorem dX12_isTrue_67 : decode cX12_isTrue 67 = .ok (.istore 8, 2) := by decide +kernel
theorem dX12_isTrue_69 : decode cX12_isTrue 69 = .ok (.iload 6, 2) := by decide +kernel
theorem dX12_isTrue_71 : decode cX12_isTrue 71 = .ok (.iconst 3, 1) := by decide +kernel
theorem dX12_isTrue_72 : decode cX12_isTrue 72 = .ok (.isub, 1) := by decide +kernel
theorem dX12_isTrue_73 : decode cX12_isTrue 73 = .ok (.bipush 100, 2) := by decide +kernel
theorem dX12_isTrue_75 : decode cX12_isTrue 75 = .ok (.idiv, 1) := by decide +kernel
theorem dX12_isTrue_76 : decode cX12_isTrue 76 = .ok (.iconst 3, 1) := by decide +kernel
theorem dX12_isTrue_77 : decode cX12_isTrue 77 = .ok (.irem, 1) := by decide +kernel
theorem dX12_isTrue_78 : decode cX12_isTrue 78 = .ok (.istore 9, 2) := by decide +kernel
theorem dX12_isTrue_80 : decode cX12_isTrue 80 = .ok (.aload_n 0, 1) := by decide +kernel
theorem dX12_isTrue_81 : decode cX12_isTrue 81 = .ok (.getfield 51, 3) := by decide +kernel
theorem dX12_isTrue_84 : decode cX12_isTrue 84 = .ok (.iload 4, 2) := by decide +kernel
theorem dX12_isTrue_86 : decode cX12_isTrue 86 = .ok (.iinc 4 1, 3) := by decide +kernel
theorem dX12_isTrue_89 : decode cX12_isTrue 89 = .ok (.iload 9, 2) := by decide +kernel
theorem dX12_isTrue_91 : decode cX12_isTrue 91 = .ok (.ifCond .ne 18, 3) := by decide +kernel
theorem dX12_isTrue_94 : decode cX12_isTrue 94 = .ok (.iload 7, 2) := by decide +kernel
theorem dX12_isTrue_96 : decode cX12_isTrue 96 = .ok (.iload 8, 2) := by decide +kernel
theorem dX12_isTrue_98 : decode cX12_isTrue 98 = .ok (.if_icmp .ge 7, 3) := by decide +kernel
theorem dX12_isTrue_101 : decode cX12_isTrue 101 = .ok (.iconst 1, 1) := by decide +kernel
theorem dX12_isTrue_102 : decode cX12_isTrue 102 = .ok (.goto 40, 3) := by decide +kernel
theorem dX12_isTrue_105 : decode cX12_isTrue 105 = .ok (.iconst 0, 1) := by decide +kernel
theorem dX12_isTrue_106 : decode cX12_isTrue 106 = .ok (.goto 36, 3) := by decide +kernel
theorem dX12_isTrue_109 : decode cX12_isTrue 109 = .ok (.iload 9, 2) := by decide +kernel
theorem dX12_isTrue_111 : decode cX12_isTrue 111 = .ok (.iconst 1, 1) := by decide +kernel
theorem dX12_isTrue_112 : decode cX12_isTrue 112 = .ok (.if_icmp .ne 18, 3) := by decide +kernel
theorem dX12_isTrue_115 : decode cX12_isTrue 115 = .ok (.iload 7, 2) := by decide +kernel
theorem dX12_isTrue_117 : decode cX12_isTrue 117 = .ok (.iload 8, 2) := by decide +kernel
theorem dX12_isTrue_119 : decode cX12_isTrue 119 = .ok (.if_icmp .ne 7, 3) := by decide +kernel
theorem dX12_isTrue_122 : decode cX12_isTrue 122 = .ok (.iconst 1, 1) := by decide +kernel
theorem dX12_isTrue_123 : decode cX12_isTrue 123 = .ok (.goto 19, 3) := by decide +kernel
theorem dX12_isTrue_126 : decode cX12_isTrue 126 = .ok (.iconst 0, 1) := by decide +kernel
theorem dX12_isTrue_127 : decode cX12_isTrue 127 = .ok (.goto 15, 3) := by decide +kernel
theorem dX12_isTrue_130 : decode cX12_isTrue 130 = .ok (.iload 7, 2) := by decide +kernel
theorem dX12_isTrue_132 : decode cX12_isTrue 132 = .ok (.iload 8, 2) := by decide +kernel
theorem dX12_isTrue_134 : decode cX12_isTrue 134 = .ok (.if_icmp .le 7, 3) := by decide +kernel
theorem dX12_isTrue_137 : decode cX12_isTrue 137 = .ok (.iconst 1, 1) := by decide +kernel
theorem dX12_isTrue_138 : decode cX12_isTrue 138 = .ok (.goto 4, 3) := by decide +kernel
theorem dX12_isTrue_141 : decode cX12_isTrue 141 = .ok (.iconst 0, 1) := by decide +kernel
theorem dX12_isTrue_142 : decode cX12_isTrue 142 = .ok (.bastore, 1) := by decide +kernel
theorem dX12_isTrue_143 : decode cX12_isTrue 143 = .ok (.goto 112, 3) := by decide +kernel
theorem dX12_isTrue_146 : decode cX12_isTrue 146 = .ok (.iload 6, 2) := by decide +kernel
theorem dX12_isTrue_148 : decode cX12_isTrue 148 = .ok (.ifCond .ne 32, 3) := by decide +kernel
theorem dX12_isTrue_151 : decode cX12_isTrue 151 = .ok (.aload_n 0, 1) := by decide +kernel
theorem dX12_isTrue_152 : decode cX12_isTrue 152 = .ok (.getfield 51, 3) := by decide +kernel
theorem dX12_isTrue_155 : decode cX12_isTrue 155 = .ok (.iload 4, 2) := by decide +kernel
theorem dX12_isTrue_157 : decode cX12_isTrue 157 = .ok (.iconst 1, 1) := by decide +kernel
theorem dX12_isTrue_158 : decode cX12_isTrue 158 = .ok (.isub, 1) := by decide +kernel
theorem dX12_isTrue_159 : decode cX12_isTrue 159 = .ok (.aload_n 0, 1) := by decide +kernel
theorem dX12_isTrue_160 : decode cX12_isTrue 160 = .ok (.getfield 51, 3) := by decide +kernel
theorem dX12_isTrue_163 : decode cX12_isTrue 163 = .ok (.iload 4, 2) := by decide +kernel
theorem dX12_isTrue_165 : decode cX12_isTrue 165 = .ok (.iconst 1, 1) := by decide +kernel
theorem dX12_isTrue_166 : decode cX12_isTrue 166 = .ok (.isub, 1) := by decide +kernel
theorem dX12_isTrue_167 : decode cX12_isTrue 167 = .ok (.baload, 1) := by decide +kernel
theorem dX12_isTrue_168 : decode cX12_isTrue 168 = .ok (.ifCond .ne 7, 3) := by decide +kernel
theorem dX12_isTrue_171 : decode cX12_isTrue 171 = .ok (.iconst 1, 1) := by decide +kernel
theorem dX12_isTrue_172 : decode cX12_isTrue 172 = .ok (.goto 4, 3) := by decide +kernel
theorem dX12_isTrue_175 : decode cX12_isTrue 175 = .ok (.iconst 0, 1) := by decide +kernel
theorem dX12_isTrue_176 : decode cX12_isTrue 176 = .ok (.bastore, 1) := by decide +kernel
theorem dX12_isTrue_177 : decode cX12_isTrue 177 = .ok (.goto 78, 3) := by decide +kernel
theorem dX12_isTrue_180 : decode cX12_isTrue 180 = .ok (.iinc 4 (-1), 3) := by decide +kernel
theorem dX12_isTrue_183 : decode cX12_isTrue 183 = .ok (.aload_n 0, 1) := by decide +kernel
theorem dX12_isTrue_184 : decode cX12_isTrue 184 = .ok (.getfield 51, 3) := by decide +kernel
theorem dX12_isTrue_187 : decode cX12_isTrue 187 = .ok (.iload 4, 2) := by decide +kernel
theorem dX12_isTrue_189 : decode cX12_isTrue 189 = .ok (.iconst 1, 1) := by decide +kernel
theorem dX12_isTrue_190 : decode cX12_isTrue 190 = .ok (.isub, 1) := by decide +kernel
theorem dX12_isTrue_191 : decode cX12_isTrue 191 = .ok (.iload 6, 2) := by decide +kernel
theorem dX12_isTrue_193 : decode cX12_isTrue 193 = .ok (.iconst 1, 1) := by decide +kernel
theorem dX12_isTrue_194 : decode cX12_isTrue 194 = .ok (.if_icmp .ne 33, 3) := by decide +kernel
theorem dX12_isTrue_197 : decode cX12_isTrue 197 = .ok (.aload_n 0, 1) := by decide +kernel
theorem dX12_isTrue_198 : decode cX12_isTrue 198 = .ok (.getfield 51, 3) := by decide +kernel
theorem dX12_isTrue_201 : decode cX12_isTrue 201 = .ok (.iload 4, 2) := by decide +kernel
theorem dX12_isTrue_203 : decode cX12_isTrue 203 = .ok (.iconst 1, 1) := by decide +kernel
theorem dX12_isTrue_204 : decode cX12_isTrue 204 = .ok (.isub, 1) := by decide +kernel
theorem dX12_isTrue_205 : decode cX12_isTrue 205 = .ok (.baload, 1) := by decide +kernel
theorem dX12_isTrue_206 : decode cX12_isTrue 206 = .ok (.ifCond .eq 17, 3) := by decide +kernel
theorem dX12_isTrue_209 : decode cX12_isTrue 209 = .ok (.aload_n 0, 1) := by decide +kernel
theorem dX12_isTrue_210 : decode cX12_isTrue 210 = .ok (.getfield 51, 3) := by decide +kernel
theorem dX12_isTrue_213 : decode cX12_isTrue 213 = .ok (.iload 4, 2) := by decide +kernel
theorem dX12_isTrue_215 : decode cX12_isTrue 215 = .ok (.baload, 1) := by decide +kernel
theorem dX12_isTrue_216 : decode cX12_isTrue 216 = .ok (.ifCond .eq 7, 3) := by decide +kernel
theorem dX12_isTrue_219 : decode cX12_isTrue 219 = .ok (.iconst 1, 1) := by decide +kernel
theorem dX12_isTrue_220 : decode cX12_isTrue 220 = .ok (.goto 34, 3) := by decide +kernel
theorem dX12_isTrue_223 : decode cX12_isTrue 223 = .ok (.iconst 0, 1) := by decide +kernel
theorem dX12_isTrue_224 : decode cX12_isTrue 224 = .ok (.goto 30, 3) := by decide +kernel
theorem dX12_isTrue_227 : decode cX12_isTrue 227 = .ok (.aload_n 0, 1) := by decide +kernel
theorem dX12_isTrue_228 : decode cX12_isTrue 228 = .ok (.getfield 51, 3) := by decide +kernel
theorem dX12_isTrue_231 : decode cX12_isTrue 231 = .ok (.iload 4, 2) := by decide +kernel
theorem dX12_isTrue_233 : decode cX12_isTrue 233 = .ok (.iconst 1, 1) := by decide +kernel
theorem dX12_isTrue_234 : decode cX12_isTrue 234 = .ok (.isub, 1) := by decide +kernel
theorem dX12_isTrue_235 : decode cX12_isTrue 235 = .ok (.baload, 1) := by decide +kernel
theorem dX12_isTrue_236 : decode cX12_isTrue 236 = .ok (.ifCond .ne 13, 3) := by decide +kernel
theorem dX12_isTrue_239 : decode cX12_isTrue 239 = .ok (.aload_n 0, 1) := by decide +kernel
theorem dX12_isTrue_240 : decode cX12_isTrue 240 = .ok (.getfield 51, 3) := by decide +kernel
theorem dX12_isTrue_243 : decode cX12_isTrue 243 = .ok (.iload 4, 2) := by decide +kernel
theorem dX12_isTrue_245 : decode cX12_isTrue 245 = .ok (.baload, 1) := by decide +kernel
theorem dX12_isTrue_246 : decode cX12_isTrue 246 = .ok (.ifCond .eq 7, 3) := by decide +kernel
theorem dX12_isTrue_249 : decode cX12_isTrue 249 = .ok (.iconst 1, 1) := by decide +kernel
theorem dX12_isTrue_250 : decode cX12_isTrue 250 = .ok (.goto 4, 3) := by decide +kernel
theorem dX12_isTrue_253 : decode cX12_isTrue 253 = .ok (.iconst 0, 1) := by decide +kernel
theorem dX12_isTrue_254 : decode cX12_isTrue 254 = .ok (.bastore, 1) := by decide +kernel
theorem dX12_isTrue_255 : decode cX12_isTrue 255 = .ok (.iinc 5 1, 3) := by decide +kernel
theorem dX12_isTrue_258 : decode cX12_isTrue 258 = .ok (.goto (-247), 3) := by decide +kernel
theorem dX12_isTrue_261 : decode cX12_isTrue 261 = .ok (.aload_n 0, 1) := by decide +kernel
theorem dX12_isTrue_262 : decode cX12_isTrue 262 = .ok (.getfield 51, 3) := by decide +kernel
theorem dX12_isTrue_265 : decode cX12_isTrue 265 = .ok (.iconst 0, 1) := by decide +kernel
theorem dX12_isTrue_266 : decode cX12_isTrue 266 = .ok (.baload, 1) := by decide +kernel
theorem dX12_isTrue_267 : decode cX12_isTrue 267 = .ok (.ireturn, 1) := by decide +kernel
theorem dX12_sum_0 : decode cX12_sum 0 = .ok (.aload_n 0, 1) := by decide +kernel
theorem dX12_sum_1 : decode cX12_sum 1 = .ok (.getfield 9, 3) := by decide +kernel
theorem dX12_sum_4 : decode cX12_sum 4 = .ok (.iload_n 2, 1) := by decide +kernel
theorem dX12_sum_5 : decode cX12_sum 5 = .ok (.iaload, 1) := by decide +kernel
theorem dX12_sum_6 : decode cX12_sum 6 = .ok (.istore_n 3, 1) := by decide +kernel
theorem dX12_sum_7 : decode cX12_sum 7 = .ok (.iconst 0, 1) := by decide +kernel
theorem dX12_sum_8 : decode cX12_sum 8 = .ok (.istore 4, 2) := by decide +kernel
theorem dX12_sum_10 : decode cX12_sum 10 = .ok (.aload_n 0, 1) := by decide +kernel
theorem dX12_sum_11 : decode cX12_sum 11 = .ok (.getfield 101, 3) := by decide +kernel
theorem dX12_sum_14 : decode cX12_sum 14 = .ok (.iconst (-1), 1) := by decide +kernel
theorem dX12_sum_15 : decode cX12_sum 15 = .ok (.if_icmp .eq 88, 3) := by decide +kernel
theorem dX12_sum_18 : decode cX12_sum 18 = .ok (.iload 4, 2) := by decide +kernel
theorem dX12_sum_20 : decode cX12_sum 20 = .ok (.aload_n 0, 1) := by decide +kernel
theorem dX12_sum_21 : decode cX12_sum 21 = .ok (.getfield 33, 3) := by decide +kernel
theorem dX12_sum_24 : decode cX12_sum 24 = .ok (.aload_n 0, 1) := by decide +kernel
theorem dX12_sum_25 : decode cX12_sum 25 = .ok (.getfield 101, 3) := by decide +kernel
theorem dX12_sum_28 : decode cX12_sum 28 = .ok (.iaload, 1) := by decide +kernel
theorem dX12_sum_29 : decode cX12_sum 29 = .ok (.if_icmp .ge 74, 3) := by decide +kernel
theorem dX12_sum_32 : decode cX12_sum 32 = .ok (.bipush 10, 2) := by decide +kernel
theorem dX12_sum_34 : decode cX12_sum 34 = .ok (.aload_n 0, 1) := by decide +kernel
theorem dX12_sum_35 : decode cX12_sum 35 = .ok (.getfield 101, 3) := by decide +kernel
theorem dX12_sum_38 : decode cX12_sum 38 = .ok (.imul, 1) := by decide +kernel
theorem dX12_sum_39 : decode cX12_sum 39 = .ok (.iload 4, 2) := by decide +kernel
theorem dX12_sum_41 : decode cX12_sum 41 = .ok (.iadd, 1) := by decide +kernel
theorem dX12_sum_42 : decode cX12_sum 42 = .ok (.istore 5, 2) := by decide +kernel
theorem dX12_sum_44 : decode cX12_sum 44 = .ok (.aload_n 0, 1) := by decide +kernel
theorem dX12_sum_45 : decode cX12_sum 45 = .ok (.getfield 36, 3) := by decide +kernel
theorem dX12_sum_48 : decode cX12_sum 48 = .ok (.iload 5, 2) := by decide +kernel
theorem dX12_sum_50 : decode cX12_sum 50 = .ok (.iaload, 1) := by decide +kernel
theorem dX12_sum_51 : decode cX12_sum 51 = .ok (.iconst 2, 1) := by decide +kernel
theorem dX12_sum_52 : decode cX12_sum 52 = .ok (.if_icmp .ge 45, 3) := by decide +kernel
theorem dX12_sum_55 : decode cX12_sum 55 = .ok (.aload_n 0, 1) := by decide +kernel
theorem dX12_sum_56 : decode cX12_sum 56 = .ok (.iload_n 1, 1) := by decide +kernel
theorem dX12_sum_57 : decode cX12_sum 57 = .ok (.iload_n 2, 1) := by decide +kernel
theorem dX12_sum_58 : decode cX12_sum 58 = .ok (.iload 5, 2) := by decide +kernel
theorem dX12_sum_60 : decode cX12_sum 60 = .ok (.invokevirtual 215, 3) := by decide +kernel
theorem dX12_sum_63 : decode cX12_sum 63 = .ok (.ifCond .eq 34, 3) := by decide +kernel
theorem dX12_sum_66 : decode cX12_sum 66 = .ok (.iload_n 3, 1) := by decide +kernel
theorem dX12_sum_67 : decode cX12_sum 67 = .ok (.aload_n 0, 1) := by decide +kernel
theorem dX12_sum_68 : decode cX12_sum 68 = .ok (.getfield 36, 3) := by decide +kernel
theorem dX12_sum_71 : decode cX12_sum 71 = .ok (.iload 5, 2) := by decide +kernel
theorem dX12_sum_73 : decode cX12_sum 73 = .ok (.iaload, 1) := by decide +kernel
theorem dX12_sum_74 : decode cX12_sum 74 = .ok (.ifCond .ne 13, 3) := by decide +kernel
theorem dX12_sum_77 : decode cX12_sum 77 = .ok (.aload_n 0, 1) := by decide +kernel
theorem dX12_sum_78 : decode cX12_sum 78 = .ok (.getfield 39, 3) := by decide +kernel
theorem dX12_sum_81 : decode cX12_sum 81 = .ok (.iload 5, 2) := by decide +kernel
theorem dX12_sum_83 : decode cX12_sum 83 = .ok (.iaload, 1) := by decide +kernel
theorem dX12_sum_84 : decode cX12_sum 84 = .ok (.goto 11, 3) := by decide +kernel
theorem dX12_sum_87 : decode cX12_sum 87 = .ok (.aload_n 0, 1) := by decide +kernel
theorem dX12_sum_88 : decode cX12_sum 88 = .ok (.getfield 39, 3) := by decide +kernel
theorem dX12_sum_91 : decode cX12_sum 91 = .ok (.iload 5, 2) := by decide +kernel
theorem dX12_sum_93 : decode cX12_sum 93 = .ok (.iaload, 1) := by decide +kernel
theorem dX12_sum_94 : decode cX12_sum 94 = .ok (.ineg, 1) := by decide +kernel
