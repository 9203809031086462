theorem dX11_init_0 : decode cX11_init 0 = .ok (.aload_n 0, 1) := by decide +kernel
theorem dX11_init_1 : decode cX11_init 1 = .ok (.invokespecial 5, 3) := by decide +kernel
theorem dX11_init_4 : decode cX11_init 4 = .ok (.aload_n 0, 1) := by decide +kernel
theorem dX11_init_5 : decode cX11_init 5 = .ok (.new 11, 3) := by decide +kernel
theorem dX11_init_8 : decode cX11_init 8 = .ok (.dup, 1) := by decide +kernel
theorem dX11_init_9 : decode cX11_init 9 = .ok (.iconst 5, 1) := by decide +kernel
theorem dX11_init_10 : decode cX11_init 10 = .ok (.invokespecial 13, 3) := by decide +kernel
theorem dX11_init_13 : decode cX11_init 13 = .ok (.putfield 16, 3) := by decide +kernel
theorem dX11_init_16 : decode cX11_init 16 = .ok (.aload_n 0, 1) := by decide +kernel
theorem dX11_init_17 : decode cX11_init 17 = .ok (.new 11, 3) := by decide +kernel
theorem dX11_init_20 : decode cX11_init 20 = .ok (.dup, 1) := by decide +kernel
theorem dX11_init_21 : decode cX11_init 21 = .ok (.bipush 10, 2) := by decide +kernel
theorem dX11_init_23 : decode cX11_init 23 = .ok (.invokespecial 13, 3) := by decide +kernel
theorem dX11_init_26 : decode cX11_init 26 = .ok (.putfield 20, 3) := by decide +kernel
theorem dX11_init_29 : decode cX11_init 29 = .ok (.aload_n 0, 1) := by decide +kernel
theorem dX11_init_30 : decode cX11_init 30 = .ok (.new 11, 3) := by decide +kernel
theorem dX11_init_33 : decode cX11_init 33 = .ok (.dup, 1) := by decide +kernel
theorem dX11_init_34 : decode cX11_init 34 = .ok (.bipush 8, 2) := by decide +kernel
theorem dX11_init_36 : decode cX11_init 36 = .ok (.invokespecial 13, 3) := by decide +kernel
theorem dX11_init_39 : decode cX11_init 39 = .ok (.putfield 23, 3) := by decide +kernel
theorem dX11_init_42 : decode cX11_init 42 = .ok (.aload_n 0, 1) := by decide +kernel
theorem dX11_init_43 : decode cX11_init 43 = .ok (.new 11, 3) := by decide +kernel
theorem dX11_init_46 : decode cX11_init 46 = .ok (.dup, 1) := by decide +kernel
theorem dX11_init_47 : decode cX11_init 47 = .ok (.iconst 5, 1) := by decide +kernel
theorem dX11_init_48 : decode cX11_init 48 = .ok (.invokespecial 13, 3) := by decide +kernel
theorem dX11_init_51 : decode cX11_init 51 = .ok (.putfield 26, 3) := by decide +kernel
theorem dX11_init_54 : decode cX11_init 54 = .ok (.aload_n 0, 1) := by decide +kernel
theorem dX11_init_55 : decode cX11_init 55 = .ok (.new 11, 3) := by decide +kernel
theorem dX11_init_58 : decode cX11_init 58 = .ok (.dup, 1) := by decide +kernel
theorem dX11_init_59 : decode cX11_init 59 = .ok (.bipush 10, 2) := by decide +kernel
theorem dX11_init_61 : decode cX11_init 61 = .ok (.invokespecial 13, 3) := by decide +kernel
theorem dX11_init_64 : decode cX11_init 64 = .ok (.putfield 29, 3) := by decide +kernel
theorem dX11_init_67 : decode cX11_init 67 = .ok (.aload_n 0, 1) := by decide +kernel
theorem dX11_init_68 : decode cX11_init 68 = .ok (.new 11, 3) := by decide +kernel
theorem dX11_init_71 : decode cX11_init 71 = .ok (.dup, 1) := by decide +kernel
theorem dX11_init_72 : decode cX11_init 72 = .ok (.bipush 8, 2) := by decide +kernel
theorem dX11_init_74 : decode cX11_init 74 = .ok (.invokespecial 13, 3) := by decide +kernel
theorem dX11_init_77 : decode cX11_init 77 = .ok (.putfield 32, 3) := by decide +kernel
theorem dX11_init_80 : decode cX11_init 80 = .ok (.aload_n 0, 1) := by decide +kernel
theorem dX11_init_81 : decode cX11_init 81 = .ok (.bipush 100, 2) := by decide +kernel
theorem dX11_init_83 : decode cX11_init 83 = .ok (.newarray .byte, 2) := by decide +kernel
theorem dX11_init_85 : decode cX11_init 85 = .ok (.putfield 35, 3) := by decide +kernel
theorem dX11_init_88 : decode cX11_init 88 = .ok (.aload_n 0, 1) := by decide +kernel
theorem dX11_init_89 : decode cX11_init 89 = .ok (.new 39, 3) := by decide +kernel
theorem dX11_init_92 : decode cX11_init 92 = .ok (.dup, 1) := by decide +kernel
theorem dX11_init_93 : decode cX11_init 93 = .ok (.invokespecial 41, 3) := by decide +kernel
theorem dX11_init_96 : decode cX11_init 96 = .ok (.putfield 42, 3) := by decide +kernel
theorem dX11_init_99 : decode cX11_init 99 = .ok (.aload_n 0, 1) := by decide +kernel
theorem dX11_init_100 : decode cX11_init 100 = .ok (.new 46, 3) := by decide +kernel
theorem dX11_init_103 : decode cX11_init 103 = .ok (.dup, 1) := by decide +kernel
theorem dX11_init_104 : decode cX11_init 104 = .ok (.invokespecial 48, 3) := by decide +kernel
theorem dX11_init_107 : decode cX11_init 107 = .ok (.putfield 49, 3) := by decide +kernel
theorem dX11_init_110 : decode cX11_init 110 = .ok (.aload_n 0, 1) := by decide +kernel
theorem dX11_init_111 : decode cX11_init 111 = .ok (.bipush 6, 2) := by decide +kernel
theorem dX11_init_113 : decode cX11_init 113 = .ok (.newarray .int, 2) := by decide +kernel
theorem dX11_init_115 : decode cX11_init 115 = .ok (.putfield 53, 3) := by decide +kernel
theorem dX11_init_118 : decode cX11_init 118 = .ok (.aload_n 0, 1) := by decide +kernel
theorem dX11_init_119 : decode cX11_init 119 = .ok (.bipush 6, 2) := by decide +kernel
theorem dX11_init_121 : decode cX11_init 121 = .ok (.newarray .int, 2) := by decide +kernel
theorem dX11_init_123 : decode cX11_init 123 = .ok (.putfield 57, 3) := by decide +kernel
theorem dX11_init_126 : decode cX11_init 126 = .ok (.aload_n 0, 1) := by decide +kernel
theorem dX11_init_127 : decode cX11_init 127 = .ok (.sipush 360, 3) := by decide +kernel
theorem dX11_init_130 : decode cX11_init 130 = .ok (.newarray .long, 2) := by decide +kernel
theorem dX11_init_132 : decode cX11_init 132 = .ok (.putfield 60, 3) := by decide +kernel
theorem dX11_init_135 : decode cX11_init 135 = .ok (.bipush 7, 2) := by decide +kernel
theorem dX11_init_137 : decode cX11_init 137 = .ok (.anewarray 64, 3) := by decide +kernel
theorem dX11_init_140 : decode cX11_init 140 = .ok (.dup, 1) := by decide +kernel
theorem dX11_init_141 : decode cX11_init 141 = .ok (.iconst 0, 1) := by decide +kernel
theorem dX11_init_142 : decode cX11_init 142 = .ok (.new 64, 3) := by decide +kernel
theorem dX11_init_145 : decode cX11_init 145 = .ok (.dup, 1) := by decide +kernel
theorem dX11_init_146 : decode cX11_init 146 = .ok (.invokespecial 66, 3) := by decide +kernel
theorem dX11_init_149 : decode cX11_init 149 = .ok (.aastore, 1) := by decide +kernel
theorem dX11_init_150 : decode cX11_init 150 = .ok (.dup, 1) := by decide +kernel
theorem dX11_init_151 : decode cX11_init 151 = .ok (.iconst 1, 1) := by decide +kernel
theorem dX11_init_152 : decode cX11_init 152 = .ok (.new 67, 3) := by decide +kernel
theorem dX11_init_155 : decode cX11_init 155 = .ok (.dup, 1) := by decide +kernel
theorem dX11_init_156 : decode cX11_init 156 = .ok (.invokespecial 69, 3) := by decide +kernel
theorem dX11_init_159 : decode cX11_init 159 = .ok (.aastore, 1) := by decide +kernel
theorem dX11_init_160 : decode cX11_init 160 = .ok (.dup, 1) := by decide +kernel
theorem dX11_init_161 : decode cX11_init 161 = .ok (.iconst 2, 1) := by decide +kernel
theorem dX11_init_162 : decode cX11_init 162 = .ok (.new 70, 3) := by decide +kernel
theorem dX11_init_165 : decode cX11_init 165 = .ok (.dup, 1) := by decide +kernel
theorem dX11_init_166 : decode cX11_init 166 = .ok (.invokespecial 72, 3) := by decide +kernel
theorem dX11_init_169 : decode cX11_init 169 = .ok (.aastore, 1) := by decide +kernel
theorem dX11_init_170 : decode cX11_init 170 = .ok (.dup, 1) := by decide +kernel
theorem dX11_init_171 : decode cX11_init 171 = .ok (.iconst 3, 1) := by decide +kernel
theorem dX11_init_172 : decode cX11_init 172 = .ok (.new 73, 3) := by decide +kernel
theorem dX11_init_175 : decode cX11_init 175 = .ok (.dup, 1) := by decide +kernel
theorem dX11_init_176 : decode cX11_init 176 = .ok (.invokespecial 75, 3) := by decide +kernel
theorem dX11_init_179 : decode cX11_init 179 = .ok (.aastore, 1) := by decide +kernel
theorem dX11_init_180 : decode cX11_init 180 = .ok (.dup, 1) := by decide +kernel
theorem dX11_init_181 : decode cX11_init 181 = .ok (.iconst 4, 1) := by decide +kernel
theorem dX11_init_182 : decode cX11_init 182 = .ok (.new 76, 3) := by decide +kernel
theorem dX11_init_185 : decode cX11_init 185 = .ok (.dup, 1) := by decide +kernel
theorem dX11_init_186 : decode cX11_init 186 = .ok (.invokespecial 78, 3) := by decide +kernel
theorem dX11_init_189 : decode cX11_init 189 = .ok (.aastore, 1) := by decide +kernel
theorem dX11_init_190 : decode cX11_init 190 = .ok (.dup, 1) := by decide +kernel
theorem dX11_init_191 : decode cX11_init 191 = .ok (.iconst 5, 1) := by decide +kernel
theorem dX11_init_192 : decode cX11_init 192 = .ok (.new 79, 3) := by decide +kernel
theorem dX11_init_195 : decode cX11_init 195 = .ok (.dup, 1) := by decide +kernel
theorem dX11_init_196 : decode cX11_init 196 = .ok (.invokespecial 81, 3) := by decide +kernel
theorem dX11_init_199 : decode cX11_init 199 = .ok (.aastore, 1) := by decide +kernel
theorem dX11_init_200 : decode cX11_init 200 = .ok (.dup, 1) := by decide +kernel
theorem dX11_init_201 : decode cX11_init 201 = .ok (.bipush 6, 2) := by decide +kernel
theorem dX11_init_203 : decode cX11_init 203 = .ok (.new 82, 3) := by decide +kernel
theorem dX11_init_206 : decode cX11_init 206 = .ok (.dup, 1) := by decide +kernel
theorem dX11_init_207 : decode cX11_init 207 = .ok (.invokespecial 84, 3) := by decide +kernel
theorem dX11_init_210 : decode cX11_init 210 = .ok (.aastore, 1) := by decide +kernel
theorem dX11_init_211 : decode cX11_init 211 = .ok (.astore_n 1, 1) := by decide +kernel
theorem dX11_init_212 : decode cX11_init 212 = .ok (.new 39, 3) := by decide +kernel
theorem dX11_init_215 : decode cX11_init 215 = .ok (.dup, 1) := by decide +kernel
theorem dX11_init_216 : decode cX11_init 216 = .ok (.invokespecial 41, 3) := by decide +kernel
theorem dX11_init_219 : decode cX11_init 219 = .ok (.astore_n 2, 1) := by decide +kernel
theorem dX11_init_220 : decode cX11_init 220 = .ok (.aload_n 0, 1) := by decide +kernel
theorem dX11_init_221 : decode cX11_init 221 = .ok (.new 85, 3) := by decide +kernel
theorem dX11_init_224 : decode cX11_init 224 = .ok (.dup, 1) := by decide +kernel
theorem dX11_init_225 : decode cX11_init 225 = .ok (.aload_n 1, 1) := by decide +kernel
theorem dX11_init_226 : decode cX11_init 226 = .ok (.aload_n 2, 1) := by decide +kernel
theorem dX11_init_227 : decode cX11_init 227 = .ok (.invokespecial 87, 3) := by decide +kernel
theorem dX11_init_230 : decode cX11_init 230 = .ok (.putfield 90, 3) := by decide +kernel
theorem dX11_init_233 : decode cX11_init 233 = .ok (.aload_n 0, 1) := by decide +kernel
theorem dX11_init_234 : decode cX11_init 234 = .ok (.new 85, 3) := by decide +kernel
theorem dX11_init_237 : decode cX11_init 237 = .ok (.dup, 1) := by decide +kernel
theorem dX11_init_238 : decode cX11_init 238 = .ok (.aload_n 1, 1) := by decide +kernel
theorem dX11_init_239 : decode cX11_init 239 = .ok (.aload_n 2, 1) := by decide +kernel
theorem dX11_init_240 : decode cX11_init 240 = .ok (.invokespecial 87, 3) := by decide +kernel
theorem dX11_init_243 : decode cX11_init 243 = .ok (.putfield 94, 3) := by decide +kernel
theorem dX11_init_246 : decode cX11_init 246 = .ok (.aload_n 0, 1) := by decide +kernel
theorem dX11_init_247 : decode cX11_init 247 = .ok (.new 85, 3) := by decide +kernel
theorem dX11_init_250 : decode cX11_init 250 = .ok (.dup, 1) := by decide +kernel
theorem dX11_init_251 : decode cX11_init 251 = .ok (.aload_n 1, 1) := by decide +kernel
theorem dX11_init_252 : decode cX11_init 252 = .ok (.aload_n 2, 1) := by decide +kernel
theorem dX11_init_253 : decode cX11_init 253 = .ok (.invokespecial 87, 3) := by decide +kernel
theorem dX11_init_256 : decode cX11_init 256 = .ok (.putfield 97, 3) := by decide +kernel
theorem dX11_init_259 : decode cX11_init 259 = .ok (.iconst 0, 1) := by decide +kernel
theorem dX11_init_260 : decode cX11_init 260 = .ok (.istore_n 3, 1) := by decide +kernel
theorem dX11_init_261 : decode cX11_init 261 = .ok (.iload_n 3, 1) := by decide +kernel
theorem dX11_init_262 : decode cX11_init 262 = .ok (.bipush 6, 2) := by decide +kernel
theorem dX11_init_264 : decode cX11_init 264 = .ok (.if_icmp .ge 16, 3) := by decide +kernel
theorem dX11_init_267 : decode cX11_init 267 = .ok (.aload_n 0, 1) := by decide +kernel
theorem dX11_init_268 : decode cX11_init 268 = .ok (.getfield 53, 3) := by decide +kernel
theorem dX11_init_271 : decode cX11_init 271 = .ok (.iload_n 3, 1) := by decide +kernel
theorem dX11_init_272 : decode cX11_init 272 = .ok (.iconst (-1), 1) := by decide +kernel
theorem dX11_init_273 : decode cX11_init 273 = .ok (.iastore, 1) := by decide +kernel
theorem dX11_init_274 : decode cX11_init 274 = .ok (.iinc 3 1, 3) := by decide +kernel
theorem dX11_init_277 : decode cX11_init 277 = .ok (.goto (-16), 3) := by decide +kernel
theorem dX11_init_280 : decode cX11_init 280 = .ok (.return_, 1) := by decide +kernel
theorem dX11_one_0 : decode cX11_one 0 = .ok (.iload_n 1, 1) := by decide +kernel
theorem dX11_one_1 : decode cX11_one 1 = .ok (.ifCond .lt 16, 3) := by decide +kernel
theorem dX11_one_4 : decode cX11_one 4 = .ok (.iload_n 1, 1) := by decide +kernel
theorem dX11_one_5 : decode cX11_one 5 = .ok (.bipush 7, 2) := by decide +kernel
theorem dX11_one_7 : decode cX11_one 7 = .ok (.if_icmp .ge 10, 3) := by decide +kernel
theorem dX11_one_10 : decode cX11_one 10 = .ok (.iload_n 3, 1) := by decide +kernel
theorem dX11_one_11 : decode cX11_one 11 = .ok (.invokestatic 100, 3) := by decide +kernel
theorem dX11_one_14 : decode cX11_one 14 = .ok (.ifCond .ne 5, 3) := by decide +kernel
theorem dX11_one_17 : decode cX11_one 17 = .ok (.iconst (-1), 1) := by decide +kernel
theorem dX11_one_18 : decode cX11_one 18 = .ok (.ireturn, 1) := by decide +kernel
theorem dX11_one_19 : decode cX11_one 19 = .ok (.iload_n 2, 1) := by decide +kernel
theorem dX11_one_20 : decode cX11_one 20 = .ok (.invokestatic 104, 3) := by decide +kernel
theorem dX11_one_23 : decode cX11_one 23 = .ok (.ifCond .ne 6, 3) := by decide +kernel
theorem dX11_one_26 : decode cX11_one 26 = .ok (.bipush (-2), 2) := by decide +kernel
theorem dX11_one_28 : decode cX11_one 28 = .ok (.ireturn, 1) := by decide +kernel
theorem dX11_one_29 : decode cX11_one 29 = .ok (.aload_n 0, 1) := by decide +kernel
theorem dX11_one_30 : decode cX11_one 30 = .ok (.getfield 90, 3) := by decide +kernel
theorem dX11_one_33 : decode cX11_one 33 = .ok (.iload_n 1, 1) := by decide +kernel
theorem dX11_one_34 : decode cX11_one 34 = .ok (.iload_n 2, 1) := by decide +kernel
theorem dX11_one_35 : decode cX11_one 35 = .ok (.iload_n 3, 1) := by decide +kernel
theorem dX11_one_36 : decode cX11_one 36 = .ok (.invokevirtual 107, 3) := by decide +kernel
theorem dX11_one_39 : decode cX11_one 39 = .ok (.ireturn, 1) := by decide +kernel
theorem dX11_of_0 : decode cX11_of 0 = .ok (.aload_n 0, 1) := by decide +kernel
theorem dX11_of_1 : decode cX11_of 1 = .ok (.iload_n 1, 1) := by decide +kernel
theorem dX11_of_2 : decode cX11_of 2 = .ok (.invokevirtual 111, 3) := by decide +kernel
theorem dX11_of_5 : decode cX11_of 5 = .ok (.ifCond .ne 5, 3) := by decide +kernel
theorem dX11_of_8 : decode cX11_of 8 = .ok (.iconst (-1), 1) := by decide +kernel
theorem dX11_of_9 : decode cX11_of 9 = .ok (.ireturn, 1) := by decide +kernel
theorem dX11_of_10 : decode cX11_of 10 = .ok (.iload_n 2, 1) := by decide +kernel
theorem dX11_of_11 : decode cX11_of 11 = .ok (.tableswitch 106 0 5 #[37, 47, 57, 67, 85, 94], 37) := by decide +kernel
theorem dX11_of_48 : decode cX11_of 48 = .ok (.aload_n 0, 1) := by decide +kernel
theorem dX11_of_49 : decode cX11_of 49 = .ok (.getfield 90, 3) := by decide +kernel
theorem dX11_of_52 : decode cX11_of 52 = .ok (.getfield 114, 3) := by decide +kernel
theorem dX11_of_55 : decode cX11_of 55 = .ok (.iload_n 1, 1) := by decide +kernel
theorem dX11_of_56 : decode cX11_of 56 = .ok (.iaload, 1) := by decide +kernel
theorem dX11_of_57 : decode cX11_of 57 = .ok (.ireturn, 1) := by decide +kernel
theorem dX11_of_58 : decode cX11_of 58 = .ok (.aload_n 0, 1) := by decide +kernel
theorem dX11_of_59 : decode cX11_of 59 = .ok (.getfield 90, 3) := by decide +kernel
theorem dX11_of_62 : decode cX11_of 62 = .ok (.getfield 117, 3) := by decide +kernel
theorem dX11_of_65 : decode cX11_of 65 = .ok (.iload_n 1, 1) := by decide +kernel
theorem dX11_of_66 : decode cX11_of 66 = .ok (.iaload, 1) := by decide +kernel
theorem dX11_of_67 : decode cX11_of 67 = .ok (.ireturn, 1) := by decide +kernel
theorem dX11_of_68 : decode cX11_of 68 = .ok (.aload_n 0, 1) := by decide +kernel
theorem dX11_of_69 : decode cX11_of 69 = .ok (.getfield 90, 3) := by decide +kernel
theorem dX11_of_72 : decode cX11_of 72 = .ok (.getfield 120, 3) := by decide +kernel
theorem dX11_of_75 : decode cX11_of 75 = .ok (.iload_n 1, 1) := by decide +kernel
theorem dX11_of_76 : decode cX11_of 76 = .ok (.iaload, 1) := by decide +kernel
theorem dX11_of_77 : decode cX11_of 77 = .ok (.ireturn, 1) := by decide +kernel
theorem dX11_of_78 : decode cX11_of 78 = .ok (.aload_n 0, 1) := by decide +kernel
theorem dX11_of_79 : decode cX11_of 79 = .ok (.getfield 90, 3) := by decide +kernel
theorem dX11_of_82 : decode cX11_of 82 = .ok (.getfield 123, 3) := by decide +kernel
theorem dX11_of_85 : decode cX11_of 85 = .ok (.iload_n 1, 1) := by decide +kernel
theorem dX11_of_86 : decode cX11_of 86 = .ok (.baload, 1) := by decide +kernel
theorem dX11_of_87 : decode cX11_of 87 = .ok (.ifCond .eq 7, 3) := by decide +kernel
theorem dX11_of_90 : decode cX11_of 90 = .ok (.iconst 1, 1) := by decide +kernel
theorem dX11_of_91 : decode cX11_of 91 = .ok (.goto 4, 3) := by decide +kernel
theorem dX11_of_94 : decode cX11_of 94 = .ok (.iconst 0, 1) := by decide +kernel
theorem dX11_of_95 : decode cX11_of 95 = .ok (.ireturn, 1) := by decide +kernel
theorem dX11_of_96 : decode cX11_of 96 = .ok (.aload_n 0, 1) := by decide +kernel
theorem dX11_of_97 : decode cX11_of 97 = .ok (.getfield 90, 3) := by decide +kernel
theorem dX11_of_100 : decode cX11_of 100 = .ok (.iload_n 1, 1) := by decide +kernel
theorem dX11_of_101 : decode cX11_of 101 = .ok (.invokevirtual 127, 3) := by decide +kernel
theorem dX11_of_104 : decode cX11_of 104 = .ok (.ireturn, 1) := by decide +kernel
theorem dX11_of_105 : decode cX11_of 105 = .ok (.aload_n 0, 1) := by decide +kernel
theorem dX11_of_106 : decode cX11_of 106 = .ok (.getfield 90, 3) := by decide +kernel
theorem dX11_of_109 : decode cX11_of 109 = .ok (.iload_n 1, 1) := by decide +kernel
theorem dX11_of_110 : decode cX11_of 110 = .ok (.invokevirtual 131, 3) := by decide +kernel
theorem dX11_of_113 : decode cX11_of 113 = .ok (.invokevirtual 135, 3) := by decide +kernel
theorem dX11_of_116 : decode cX11_of 116 = .ok (.ireturn, 1) := by decide +kernel
theorem dX11_of_117 : decode cX11_of 117 = .ok (.iconst (-1), 1) := by decide +kernel
theorem dX11_of_118 : decode cX11_of 118 = .ok (.ireturn, 1) := by decide +kernel
theorem dX11_pull_0 : decode cX11_pull 0 = .ok (.aload_n 0, 1) := by decide +kernel
theorem dX11_pull_1 : decode cX11_pull 1 = .ok (.iload_n 1, 1) := by decide +kernel
theorem dX11_pull_2 : decode cX11_pull 2 = .ok (.invokevirtual 111, 3) := by decide +kernel
theorem dX11_pull_5 : decode cX11_pull 5 = .ok (.ifCond .eq 10, 3) := by decide +kernel
theorem dX11_pull_8 : decode cX11_pull 8 = .ok (.iload_n 2, 1) := by decide +kernel
theorem dX11_pull_9 : decode cX11_pull 9 = .ok (.invokestatic 100, 3) := by decide +kernel
theorem dX11_pull_12 : decode cX11_pull 12 = .ok (.ifCond .ne 7, 3) := by decide +kernel
theorem dX11_pull_15 : decode cX11_pull 15 = .ok (.sipush (-10001), 3) := by decide +kernel
theorem dX11_pull_18 : decode cX11_pull 18 = .ok (.ireturn, 1) := by decide +kernel
theorem dX11_pull_19 : decode cX11_pull 19 = .ok (.aload_n 0, 1) := by decide +kernel
theorem dX11_pull_20 : decode cX11_pull 20 = .ok (.getfield 90, 3) := by decide +kernel
theorem dX11_pull_23 : decode cX11_pull 23 = .ok (.iload_n 1, 1) := by decide +kernel
theorem dX11_pull_24 : decode cX11_pull 24 = .ok (.iload_n 2, 1) := by decide +kernel
theorem dX11_pull_25 : decode cX11_pull 25 = .ok (.invokevirtual 139, 3) := by decide +kernel
theorem dX11_pull_28 : decode cX11_pull 28 = .ok (.ireturn, 1) := by decide +kernel
theorem dX11_put_0 : decode cX11_put 0 = .ok (.aload_n 0, 1) := by decide +kernel
theorem dX11_put_1 : decode cX11_put 1 = .ok (.iload_n 1, 1) := by decide +kernel
theorem dX11_put_2 : decode cX11_put 2 = .ok (.invokevirtual 111, 3) := by decide +kernel
theorem dX11_put_5 : decode cX11_put 5 = .ok (.ifCond .eq 10, 3) := by decide +kernel
theorem dX11_put_8 : decode cX11_put 8 = .ok (.iload_n 2, 1) := by decide +kernel
theorem dX11_put_9 : decode cX11_put 9 = .ok (.invokestatic 100, 3) := by decide +kernel
theorem dX11_put_12 : decode cX11_put 12 = .ok (.ifCond .ne 5, 3) := by decide +kernel
theorem dX11_put_15 : decode cX11_put 15 = .ok (.iconst (-1), 1) := by decide +kernel
theorem dX11_put_16 : decode cX11_put 16 = .ok (.ireturn, 1) := by decide +kernel
theorem dX11_put_17 : decode cX11_put 17 = .ok (.aload_n 0, 1) := by decide +kernel
theorem dX11_put_18 : decode cX11_put 18 = .ok (.getfield 90, 3) := by decide +kernel
theorem dX11_put_21 : decode cX11_put 21 = .ok (.getfield 120, 3) := by decide +kernel
theorem dX11_put_24 : decode cX11_put 24 = .ok (.iload_n 1, 1) := by decide +kernel
theorem dX11_put_25 : decode cX11_put 25 = .ok (.iaload, 1) := by decide +kernel
theorem dX11_put_26 : decode cX11_put 26 = .ok (.istore_n 3, 1) := by decide +kernel
theorem dX11_put_27 : decode cX11_put 27 = .ok (.aload_n 0, 1) := by decide +kernel
theorem dX11_put_28 : decode cX11_put 28 = .ok (.getfield 90, 3) := by decide +kernel
theorem dX11_put_31 : decode cX11_put 31 = .ok (.getfield 120, 3) := by decide +kernel
theorem dX11_put_34 : decode cX11_put 34 = .ok (.iload_n 1, 1) := by decide +kernel
theorem dX11_put_35 : decode cX11_put 35 = .ok (.iload_n 2, 1) := by decide +kernel
theorem dX11_put_36 : decode cX11_put 36 = .ok (.iastore, 1) := by decide +kernel
theorem dX11_put_37 : decode cX11_put 37 = .ok (.iload_n 3, 1) := by decide +kernel
theorem dX11_put_38 : decode cX11_put 38 = .ok (.ireturn, 1) := by decide +kernel
theorem dX11_wear_0 : decode cX11_wear 0 = .ok (.iload_n 1, 1) := by decide +kernel
theorem dX11_wear_1 : decode cX11_wear 1 = .ok (.invokestatic 100, 3) := by decide +kernel
theorem dX11_wear_4 : decode cX11_wear 4 = .ok (.ifCond .ne 5, 3) := by decide +kernel
theorem dX11_wear_7 : decode cX11_wear 7 = .ok (.iconst (-1), 1) := by decide +kernel
theorem dX11_wear_8 : decode cX11_wear 8 = .ok (.ireturn, 1) := by decide +kernel
theorem dX11_wear_9 : decode cX11_wear 9 = .ok (.iload_n 2, 1) := by decide +kernel
theorem dX11_wear_10 : decode cX11_wear 10 = .ok (.ifCond .lt 9, 3) := by decide +kernel
theorem dX11_wear_13 : decode cX11_wear 13 = .ok (.iload_n 2, 1) := by decide +kernel
theorem dX11_wear_14 : decode cX11_wear 14 = .ok (.bipush 99, 2) := by decide +kernel
theorem dX11_wear_16 : decode cX11_wear 16 = .ok (.if_icmp .le 6, 3) := by decide +kernel
theorem dX11_wear_19 : decode cX11_wear 19 = .ok (.bipush (-2), 2) := by decide +kernel
theorem dX11_wear_21 : decode cX11_wear 21 = .ok (.ireturn, 1) := by decide +kernel
theorem dX11_wear_22 : decode cX11_wear 22 = .ok (.aload_n 0, 1) := by decide +kernel
theorem dX11_wear_23 : decode cX11_wear 23 = .ok (.getfield 90, 3) := by decide +kernel
theorem dX11_wear_26 : decode cX11_wear 26 = .ok (.getfield 143, 3) := by decide +kernel
theorem dX11_wear_29 : decode cX11_wear 29 = .ok (.iload_n 1, 1) := by decide +kernel
theorem dX11_wear_30 : decode cX11_wear 30 = .ok (.iaload, 1) := by decide +kernel
theorem dX11_wear_31 : decode cX11_wear 31 = .ok (.istore_n 3, 1) := by decide +kernel
theorem dX11_wear_32 : decode cX11_wear 32 = .ok (.aload_n 0, 1) := by decide +kernel
theorem dX11_wear_33 : decode cX11_wear 33 = .ok (.getfield 90, 3) := by decide +kernel
theorem dX11_wear_36 : decode cX11_wear 36 = .ok (.getfield 143, 3) := by decide +kernel
theorem dX11_wear_39 : decode cX11_wear 39 = .ok (.iload_n 1, 1) := by decide +kernel
theorem dX11_wear_40 : decode cX11_wear 40 = .ok (.iload_n 2, 1) := by decide +kernel
theorem dX11_wear_41 : decode cX11_wear 41 = .ok (.iastore, 1) := by decide +kernel
theorem dX11_wear_42 : decode cX11_wear 42 = .ok (.iload_n 3, 1) := by decide +kernel
theorem dX11_wear_43 : decode cX11_wear 43 = .ok (.ireturn, 1) := by decide +kernel
theorem dX11_away_0 : decode cX11_away 0 = .ok (.aload_n 0, 1) := by decide +kernel
theorem dX11_away_1 : decode cX11_away 1 = .ok (.iload_n 1, 1) := by decide +kernel
theorem dX11_away_2 : decode cX11_away 2 = .ok (.invokevirtual 111, 3) := by decide +kernel
theorem dX11_away_5 : decode cX11_away 5 = .ok (.ifCond .ne 5, 3) := by decide +kernel
theorem dX11_away_8 : decode cX11_away 8 = .ok (.iconst (-1), 1) := by decide +kernel
theorem dX11_away_9 : decode cX11_away 9 = .ok (.ireturn, 1) := by decide +kernel
theorem dX11_away_10 : decode cX11_away 10 = .ok (.aload_n 0, 1) := by decide +kernel
theorem dX11_away_11 : decode cX11_away 11 = .ok (.getfield 90, 3) := by decide +kernel
theorem dX11_away_14 : decode cX11_away 14 = .ok (.getfield 123, 3) := by decide +kernel
theorem dX11_away_17 : decode cX11_away 17 = .ok (.iload_n 1, 1) := by decide +kernel
theorem dX11_away_18 : decode cX11_away 18 = .ok (.baload, 1) := by decide +kernel
theorem dX11_away_19 : decode cX11_away 19 = .ok (.ifCond .eq 7, 3) := by decide +kernel
theorem dX11_away_22 : decode cX11_away 22 = .ok (.iconst 1, 1) := by decide +kernel
theorem dX11_away_23 : decode cX11_away 23 = .ok (.goto 4, 3) := by decide +kernel
theorem dX11_away_26 : decode cX11_away 26 = .ok (.iconst 0, 1) := by decide +kernel
theorem dX11_away_27 : decode cX11_away 27 = .ok (.istore_n 3, 1) := by decide +kernel
theorem dX11_away_28 : decode cX11_away 28 = .ok (.aload_n 0, 1) := by decide +kernel
theorem dX11_away_29 : decode cX11_away 29 = .ok (.getfield 90, 3) := by decide +kernel
theorem dX11_away_32 : decode cX11_away 32 = .ok (.getfield 123, 3) := by decide +kernel
theorem dX11_away_35 : decode cX11_away 35 = .ok (.iload_n 1, 1) := by decide +kernel
theorem dX11_away_36 : decode cX11_away 36 = .ok (.iload_n 2, 1) := by decide +kernel
theorem dX11_away_37 : decode cX11_away 37 = .ok (.bastore, 1) := by decide +kernel
theorem dX11_away_38 : decode cX11_away 38 = .ok (.iload_n 3, 1) := by decide +kernel
theorem dX11_away_39 : decode cX11_away 39 = .ok (.ireturn, 1) := by decide +kernel
theorem dX11_row_0 : decode cX11_row 0 = .ok (.aload_n 0, 1) := by decide +kernel
theorem dX11_row_1 : decode cX11_row 1 = .ok (.iload_n 1, 1) := by decide +kernel
theorem dX11_row_2 : decode cX11_row 2 = .ok (.invokevirtual 111, 3) := by decide +kernel
theorem dX11_row_5 : decode cX11_row 5 = .ok (.ifCond .eq 12, 3) := by decide +kernel
theorem dX11_row_8 : decode cX11_row 8 = .ok (.iload_n 2, 1) := by decide +kernel
theorem dX11_row_9 : decode cX11_row 9 = .ok (.ifCond .lt 8, 3) := by decide +kernel
theorem dX11_row_12 : decode cX11_row 12 = .ok (.iload_n 2, 1) := by decide +kernel
theorem dX11_row_13 : decode cX11_row 13 = .ok (.iconst 4, 1) := by decide +kernel
theorem dX11_row_14 : decode cX11_row 14 = .ok (.if_icmp .lt 5, 3) := by decide +kernel
theorem dX11_row_17 : decode cX11_row 17 = .ok (.iconst (-1), 1) := by decide +kernel
theorem dX11_row_18 : decode cX11_row 18 = .ok (.ireturn, 1) := by decide +kernel
theorem dX11_row_19 : decode cX11_row 19 = .ok (.iload_n 3, 1) := by decide +kernel
theorem dX11_row_20 : decode cX11_row 20 = .ok (.invokestatic 104, 3) := by decide +kernel
theorem dX11_row_23 : decode cX11_row 23 = .ok (.ifCond .ne 6, 3) := by decide +kernel
theorem dX11_row_26 : decode cX11_row 26 = .ok (.bipush (-2), 2) := by decide +kernel
theorem dX11_row_28 : decode cX11_row 28 = .ok (.ireturn, 1) := by decide +kernel
theorem dX11_row_29 : decode cX11_row 29 = .ok (.aload_n 0, 1) := by decide +kernel
theorem dX11_row_30 : decode cX11_row 30 = .ok (.getfield 90, 3) := by decide +kernel
theorem dX11_row_33 : decode cX11_row 33 = .ok (.iload_n 1, 1) := by decide +kernel
theorem dX11_row_34 : decode cX11_row 34 = .ok (.invokevirtual 131, 3) := by decide +kernel
theorem dX11_row_37 : decode cX11_row 37 = .ok (.instanceof 82, 3) := by decide +kernel
theorem dX11_row_40 : decode cX11_row 40 = .ok (.ifCond .ne 6, 3) := by decide +kernel
theorem dX11_row_43 : decode cX11_row 43 = .ok (.bipush (-3), 2) := by decide +kernel
theorem dX11_row_45 : decode cX11_row 45 = .ok (.ireturn, 1) := by decide +kernel
theorem dX11_row_46 : decode cX11_row 46 = .ok (.iload_n 1, 1) := by decide +kernel
theorem dX11_row_47 : decode cX11_row 47 = .ok (.iconst 4, 1) := by decide +kernel
theorem dX11_row_48 : decode cX11_row 48 = .ok (.imul, 1) := by decide +kernel
theorem dX11_row_49 : decode cX11_row 49 = .ok (.iload_n 2, 1) := by decide +kernel
theorem dX11_row_50 : decode cX11_row 50 = .ok (.iadd, 1) := by decide +kernel
theorem dX11_row_51 : decode cX11_row 51 = .ok (.istore 4, 2) := by decide +kernel
theorem dX11_row_53 : decode cX11_row 53 = .ok (.aload_n 0, 1) := by decide +kernel
theorem dX11_row_54 : decode cX11_row 54 = .ok (.getfield 90, 3) := by decide +kernel
theorem dX11_row_57 : decode cX11_row 57 = .ok (.getfield 146, 3) := by decide +kernel
theorem dX11_row_60 : decode cX11_row 60 = .ok (.iload 4, 2) := by decide +kernel
theorem dX11_row_62 : decode cX11_row 62 = .ok (.iaload, 1) := by decide +kernel
theorem dX11_row_63 : decode cX11_row 63 = .ok (.istore 5, 2) := by decide +kernel
theorem dX11_row_65 : decode cX11_row 65 = .ok (.aload_n 0, 1) := by decide +kernel
theorem dX11_row_66 : decode cX11_row 66 = .ok (.getfield 90, 3) := by decide +kernel
theorem dX11_row_69 : decode cX11_row 69 = .ok (.getfield 146, 3) := by decide +kernel
theorem dX11_row_72 : decode cX11_row 72 = .ok (.iload 4, 2) := by decide +kernel
theorem dX11_row_74 : decode cX11_row 74 = .ok (.iload_n 3, 1) := by decide +kernel
theorem dX11_row_75 : decode cX11_row 75 = .ok (.iastore, 1) := by decide +kernel
theorem dX11_row_76 : decode cX11_row 76 = .ok (.iload 5, 2) := by decide +kernel
theorem dX11_row_78 : decode cX11_row 78 = .ok (.ireturn, 1) := by decide +kernel
theorem dX11_feed_0 : decode cX11_feed 0 = .ok (.iload_n 1, 1) := by decide +kernel
theorem dX11_feed_1 : decode cX11_feed 1 = .ok (.ifCond .lt 10, 3) := by decide +kernel
theorem dX11_feed_4 : decode cX11_feed 4 = .ok (.iload_n 1, 1) := by decide +kernel
theorem dX11_feed_5 : decode cX11_feed 5 = .ok (.sipush 128, 3) := by decide +kernel
theorem dX11_feed_8 : decode cX11_feed 8 = .ok (.if_icmp .lt 6, 3) := by decide +kernel
theorem dX11_feed_11 : decode cX11_feed 11 = .ok (.bipush (-2), 2) := by decide +kernel
theorem dX11_feed_13 : decode cX11_feed 13 = .ok (.ireturn, 1) := by decide +kernel
theorem dX11_feed_14 : decode cX11_feed 14 = .ok (.aload_n 0, 1) := by decide +kernel
theorem dX11_feed_15 : decode cX11_feed 15 = .ok (.getfield 149, 3) := by decide +kernel
theorem dX11_feed_18 : decode cX11_feed 18 = .ok (.bipush 100, 2) := by decide +kernel
theorem dX11_feed_20 : decode cX11_feed 20 = .ok (.if_icmp .lt 6, 3) := by decide +kernel
theorem dX11_feed_23 : decode cX11_feed 23 = .ok (.bipush (-4), 2) := by decide +kernel
theorem dX11_feed_25 : decode cX11_feed 25 = .ok (.ireturn, 1) := by decide +kernel
theorem dX11_feed_26 : decode cX11_feed 26 = .ok (.aload_n 0, 1) := by decide +kernel
theorem dX11_feed_27 : decode cX11_feed 27 = .ok (.getfield 35, 3) := by decide +kernel
theorem dX11_feed_30 : decode cX11_feed 30 = .ok (.aload_n 0, 1) := by decide +kernel
theorem dX11_feed_31 : decode cX11_feed 31 = .ok (.getfield 149, 3) := by decide +kernel
theorem dX11_feed_34 : decode cX11_feed 34 = .ok (.iload_n 1, 1) := by decide +kernel
theorem dX11_feed_35 : decode cX11_feed 35 = .ok (.i2b, 1) := by decide +kernel
theorem dX11_feed_36 : decode cX11_feed 36 = .ok (.bastore, 1) := by decide +kernel
theorem dX11_feed_37 : decode cX11_feed 37 = .ok (.aload_n 0, 1) := by decide +kernel
theorem dX11_feed_38 : decode cX11_feed 38 = .ok (.dup, 1) := by decide +kernel
theorem dX11_feed_39 : decode cX11_feed 39 = .ok (.getfield 149, 3) := by decide +kernel
theorem dX11_feed_42 : decode cX11_feed 42 = .ok (.iconst 1, 1) := by decide +kernel
theorem dX11_feed_43 : decode cX11_feed 43 = .ok (.iadd, 1) := by decide +kernel
theorem dX11_feed_44 : decode cX11_feed 44 = .ok (.putfield 149, 3) := by decide +kernel
theorem dX11_feed_47 : decode cX11_feed 47 = .ok (.aload_n 0, 1) := by decide +kernel
theorem dX11_feed_48 : decode cX11_feed 48 = .ok (.getfield 149, 3) := by decide +kernel
theorem dX11_feed_51 : decode cX11_feed 51 = .ok (.ireturn, 1) := by decide +kernel
theorem dX11_statute_0 : decode cX11_statute 0 = .ok (.aload_n 0, 1) := by decide +kernel
theorem dX11_statute_1 : decode cX11_statute 1 = .ok (.getfield 153, 3) := by decide +kernel
theorem dX11_statute_4 : decode cX11_statute 4 = .ok (.bipush 6, 2) := by decide +kernel
theorem dX11_statute_6 : decode cX11_statute 6 = .ok (.if_icmp .lt 6, 3) := by decide +kernel
theorem dX11_statute_9 : decode cX11_statute 9 = .ok (.bipush (-4), 2) := by decide +kernel
theorem dX11_statute_11 : decode cX11_statute 11 = .ok (.ireturn, 1) := by decide +kernel
theorem dX11_statute_12 : decode cX11_statute 12 = .ok (.aload_n 0, 1) := by decide +kernel
theorem dX11_statute_13 : decode cX11_statute 13 = .ok (.getfield 42, 3) := by decide +kernel
theorem dX11_statute_16 : decode cX11_statute 16 = .ok (.aload_n 0, 1) := by decide +kernel
theorem dX11_statute_17 : decode cX11_statute 17 = .ok (.getfield 35, 3) := by decide +kernel
theorem dX11_statute_20 : decode cX11_statute 20 = .ok (.aload_n 0, 1) := by decide +kernel
theorem dX11_statute_21 : decode cX11_statute 21 = .ok (.getfield 149, 3) := by decide +kernel
theorem dX11_statute_24 : decode cX11_statute 24 = .ok (.invokevirtual 156, 3) := by decide +kernel
theorem dX11_statute_27 : decode cX11_statute 27 = .ok (.istore_n 1, 1) := by decide +kernel
theorem dX11_statute_28 : decode cX11_statute 28 = .ok (.aload_n 0, 1) := by decide +kernel
theorem dX11_statute_29 : decode cX11_statute 29 = .ok (.iconst 0, 1) := by decide +kernel
theorem dX11_statute_30 : decode cX11_statute 30 = .ok (.putfield 149, 3) := by decide +kernel
theorem dX11_statute_33 : decode cX11_statute 33 = .ok (.iload_n 1, 1) := by decide +kernel
theorem dX11_statute_34 : decode cX11_statute 34 = .ok (.ifCond .ne 14, 3) := by decide +kernel
theorem dX11_statute_37 : decode cX11_statute 37 = .ok (.bipush (-10), 2) := by decide +kernel
theorem dX11_statute_39 : decode cX11_statute 39 = .ok (.aload_n 0, 1) := by decide +kernel
theorem dX11_statute_40 : decode cX11_statute 40 = .ok (.getfield 42, 3) := by decide +kernel
theorem dX11_statute_43 : decode cX11_statute 43 = .ok (.getfield 160, 3) := by decide +kernel
theorem dX11_statute_46 : decode cX11_statute 46 = .ok (.isub, 1) := by decide +kernel
theorem dX11_statute_47 : decode cX11_statute 47 = .ok (.ireturn, 1) := by decide +kernel
theorem dX11_statute_48 : decode cX11_statute 48 = .ok (.aload_n 0, 1) := by decide +kernel
theorem dX11_statute_49 : decode cX11_statute 49 = .ok (.getfield 90, 3) := by decide +kernel
theorem dX11_statute_52 : decode cX11_statute 52 = .ok (.aload_n 0, 1) := by decide +kernel
theorem dX11_statute_53 : decode cX11_statute 53 = .ok (.getfield 42, 3) := by decide +kernel
theorem dX11_statute_56 : decode cX11_statute 56 = .ok (.putfield 163, 3) := by decide +kernel
theorem dX11_statute_59 : decode cX11_statute 59 = .ok (.aload_n 0, 1) := by decide +kernel
theorem dX11_statute_60 : decode cX11_statute 60 = .ok (.new 39, 3) := by decide +kernel
theorem dX11_statute_63 : decode cX11_statute 63 = .ok (.dup, 1) := by decide +kernel
theorem dX11_statute_64 : decode cX11_statute 64 = .ok (.invokespecial 41, 3) := by decide +kernel
theorem dX11_statute_67 : decode cX11_statute 67 = .ok (.putfield 42, 3) := by decide +kernel
theorem dX11_statute_70 : decode cX11_statute 70 = .ok (.aload_n 0, 1) := by decide +kernel
theorem dX11_statute_71 : decode cX11_statute 71 = .ok (.dup, 1) := by decide +kernel
theorem dX11_statute_72 : decode cX11_statute 72 = .ok (.getfield 153, 3) := by decide +kernel
theorem dX11_statute_75 : decode cX11_statute 75 = .ok (.iconst 1, 1) := by decide +kernel
theorem dX11_statute_76 : decode cX11_statute 76 = .ok (.iadd, 1) := by decide +kernel
theorem dX11_statute_77 : decode cX11_statute 77 = .ok (.putfield 153, 3) := by decide +kernel
theorem dX11_statute_80 : decode cX11_statute 80 = .ok (.aload_n 0, 1) := by decide +kernel
theorem dX11_statute_81 : decode cX11_statute 81 = .ok (.getfield 153, 3) := by decide +kernel
theorem dX11_statute_84 : decode cX11_statute 84 = .ok (.iconst 1, 1) := by decide +kernel
theorem dX11_statute_85 : decode cX11_statute 85 = .ok (.isub, 1) := by decide +kernel
theorem dX11_statute_86 : decode cX11_statute 86 = .ok (.ireturn, 1) := by decide +kernel
theorem dX11_told_0 : decode cX11_told 0 = .ok (.iload_n 1, 1) := by decide +kernel
theorem dX11_told_1 : decode cX11_told 1 = .ok (.tableswitch 78 0 4 #[35, 43, 54, 62, 70], 35) := by decide +kernel
theorem dX11_told_36 : decode cX11_told 36 = .ok (.aload_n 0, 1) := by decide +kernel
theorem dX11_told_37 : decode cX11_told 37 = .ok (.getfield 90, 3) := by decide +kernel
theorem dX11_told_40 : decode cX11_told 40 = .ok (.getfield 166, 3) := by decide +kernel
theorem dX11_told_43 : decode cX11_told 43 = .ok (.ireturn, 1) := by decide +kernel
theorem dX11_told_44 : decode cX11_told 44 = .ok (.aload_n 0, 1) := by decide +kernel
theorem dX11_told_45 : decode cX11_told 45 = .ok (.getfield 90, 3) := by decide +kernel
theorem dX11_told_48 : decode cX11_told 48 = .ok (.getfield 163, 3) := by decide +kernel
theorem dX11_told_51 : decode cX11_told 51 = .ok (.getfield 169, 3) := by decide +kernel
theorem dX11_told_54 : decode cX11_told 54 = .ok (.ireturn, 1) := by decide +kernel
theorem dX11_told_55 : decode cX11_told 55 = .ok (.aload_n 0, 1) := by decide +kernel
theorem dX11_told_56 : decode cX11_told 56 = .ok (.getfield 90, 3) := by decide +kernel
theorem dX11_told_59 : decode cX11_told 59 = .ok (.invokevirtual 172, 3) := by decide +kernel
theorem dX11_told_62 : decode cX11_told 62 = .ok (.ireturn, 1) := by decide +kernel
theorem dX11_told_63 : decode cX11_told 63 = .ok (.aload_n 0, 1) := by decide +kernel
theorem dX11_told_64 : decode cX11_told 64 = .ok (.getfield 90, 3) := by decide +kernel
theorem dX11_told_67 : decode cX11_told 67 = .ok (.invokevirtual 175, 3) := by decide +kernel
theorem dX11_told_70 : decode cX11_told 70 = .ok (.ireturn, 1) := by decide +kernel
theorem dX11_told_71 : decode cX11_told 71 = .ok (.aload_n 0, 1) := by decide +kernel
theorem dX11_told_72 : decode cX11_told 72 = .ok (.getfield 90, 3) := by decide +kernel
theorem dX11_told_75 : decode cX11_told 75 = .ok (.invokevirtual 178, 3) := by decide +kernel
theorem dX11_told_78 : decode cX11_told 78 = .ok (.ireturn, 1) := by decide +kernel
theorem dX11_told_79 : decode cX11_told 79 = .ok (.iload_n 1, 1) := by decide +kernel
theorem dX11_told_80 : decode cX11_told 80 = .ok (.bipush 10, 2) := by decide +kernel
theorem dX11_told_82 : decode cX11_told 82 = .ok (.isub, 1) := by decide +kernel
theorem dX11_told_83 : decode cX11_told 83 = .ok (.invokestatic 100, 3) := by decide +kernel
theorem dX11_told_86 : decode cX11_told 86 = .ok (.ifCond .eq 18, 3) := by decide +kernel
theorem dX11_told_89 : decode cX11_told 89 = .ok (.aload_n 0, 1) := by decide +kernel
theorem dX11_told_90 : decode cX11_told 90 = .ok (.getfield 90, 3) := by decide +kernel
theorem dX11_told_93 : decode cX11_told 93 = .ok (.getfield 143, 3) := by decide +kernel
theorem dX11_told_96 : decode cX11_told 96 = .ok (.iload_n 1, 1) := by decide +kernel
theorem dX11_told_97 : decode cX11_told 97 = .ok (.bipush 10, 2) := by decide +kernel
theorem dX11_told_99 : decode cX11_told 99 = .ok (.isub, 1) := by decide +kernel
theorem dX11_told_100 : decode cX11_told 100 = .ok (.iaload, 1) := by decide +kernel
theorem dX11_told_101 : decode cX11_told 101 = .ok (.goto 4, 3) := by decide +kernel
theorem dX11_told_104 : decode cX11_told 104 = .ok (.iconst (-1), 1) := by decide +kernel
theorem dX11_told_105 : decode cX11_told 105 = .ok (.ireturn, 1) := by decide +kernel
theorem dX11_pass_0 : decode cX11_pass 0 = .ok (.iload_n 1, 1) := by decide +kernel
theorem dX11_pass_1 : decode cX11_pass 1 = .ok (.ifCond .lt 9, 3) := by decide +kernel
theorem dX11_pass_4 : decode cX11_pass 4 = .ok (.iload_n 1, 1) := by decide +kernel
theorem dX11_pass_5 : decode cX11_pass 5 = .ok (.bipush 60, 2) := by decide +kernel
theorem dX11_pass_7 : decode cX11_pass 7 = .ok (.if_icmp .le 6, 3) := by decide +kernel
theorem dX11_pass_10 : decode cX11_pass 10 = .ok (.bipush (-2), 2) := by decide +kernel
theorem dX11_pass_12 : decode cX11_pass 12 = .ok (.ireturn, 1) := by decide +kernel
theorem dX11_pass_13 : decode cX11_pass 13 = .ok (.aload_n 0, 1) := by decide +kernel
theorem dX11_pass_14 : decode cX11_pass 14 = .ok (.getfield 90, 3) := by decide +kernel
theorem dX11_pass_17 : decode cX11_pass 17 = .ok (.getfield 166, 3) := by decide +kernel
theorem dX11_pass_20 : decode cX11_pass 20 = .ok (.iload_n 1, 1) := by decide +kernel
theorem dX11_pass_21 : decode cX11_pass 21 = .ok (.iadd, 1) := by decide +kernel
theorem dX11_pass_22 : decode cX11_pass 22 = .ok (.sipush 9999, 3) := by decide +kernel
theorem dX11_pass_25 : decode cX11_pass 25 = .ok (.if_icmp .le 6, 3) := by decide +kernel
theorem dX11_pass_28 : decode cX11_pass 28 = .ok (.bipush (-3), 2) := by decide +kernel
theorem dX11_pass_30 : decode cX11_pass 30 = .ok (.ireturn, 1) := by decide +kernel
theorem dX11_pass_31 : decode cX11_pass 31 = .ok (.aload_n 0, 1) := by decide +kernel
theorem dX11_pass_32 : decode cX11_pass 32 = .ok (.getfield 90, 3) := by decide +kernel
theorem dX11_pass_35 : decode cX11_pass 35 = .ok (.iload_n 1, 1) := by decide +kernel
theorem dX11_pass_36 : decode cX11_pass 36 = .ok (.invokevirtual 181, 3) := by decide +kernel
theorem dX11_pass_39 : decode cX11_pass 39 = .ok (.aload_n 0, 1) := by decide +kernel
theorem dX11_pass_40 : decode cX11_pass 40 = .ok (.getfield 90, 3) := by decide +kernel
theorem dX11_pass_43 : decode cX11_pass 43 = .ok (.getfield 166, 3) := by decide +kernel
theorem dX11_pass_46 : decode cX11_pass 46 = .ok (.ireturn, 1) := by decide +kernel
theorem dX11_on_0 : decode cX11_on 0 = .ok (.iload_n 2, 1) := by decide +kernel
theorem dX11_on_1 : decode cX11_on 1 = .ok (.bipush 10, 2) := by decide +kernel
theorem dX11_on_3 : decode cX11_on 3 = .ok (.isub, 1) := by decide +kernel
theorem dX11_on_4 : decode cX11_on 4 = .ok (.istore_n 3, 1) := by decide +kernel
theorem dX11_on_5 : decode cX11_on 5 = .ok (.iload_n 2, 1) := by decide +kernel
theorem dX11_on_6 : decode cX11_on 6 = .ok (.bipush 40, 2) := by decide +kernel
theorem dX11_on_8 : decode cX11_on 8 = .ok (.isub, 1) := by decide +kernel
theorem dX11_on_9 : decode cX11_on 9 = .ok (.istore 4, 2) := by decide +kernel
theorem dX11_on_11 : decode cX11_on 11 = .ok (.iload_n 2, 1) := by decide +kernel
theorem dX11_on_12 : decode cX11_on 12 = .ok (.ifCond .eq 21, 3) := by decide +kernel
theorem dX11_on_15 : decode cX11_on 15 = .ok (.iload_n 3, 1) := by decide +kernel
theorem dX11_on_16 : decode cX11_on 16 = .ok (.invokestatic 100, 3) := by decide +kernel
theorem dX11_on_19 : decode cX11_on 19 = .ok (.ifCond .ne 14, 3) := by decide +kernel
theorem dX11_on_22 : decode cX11_on 22 = .ok (.aload_n 0, 1) := by decide +kernel
theorem dX11_on_23 : decode cX11_on 23 = .ok (.iload 4, 2) := by decide +kernel
theorem dX11_on_25 : decode cX11_on 25 = .ok (.invokevirtual 111, 3) := by decide +kernel
theorem dX11_on_28 : decode cX11_on 28 = .ok (.ifCond .ne 5, 3) := by decide +kernel
theorem dX11_on_31 : decode cX11_on 31 = .ok (.iconst (-1), 1) := by decide +kernel
theorem dX11_on_32 : decode cX11_on 32 = .ok (.ireturn, 1) := by decide +kernel
theorem dX11_on_33 : decode cX11_on 33 = .ok (.iload_n 1, 1) := by decide +kernel
theorem dX11_on_34 : decode cX11_on 34 = .ok (.invokestatic 184, 3) := by decide +kernel
theorem dX11_on_37 : decode cX11_on 37 = .ok (.ifCond .ne 6, 3) := by decide +kernel
theorem dX11_on_40 : decode cX11_on 40 = .ok (.bipush (-2), 2) := by decide +kernel
theorem dX11_on_42 : decode cX11_on 42 = .ok (.ireturn, 1) := by decide +kernel
theorem dX11_on_43 : decode cX11_on 43 = .ok (.aload_n 0, 1) := by decide +kernel
theorem dX11_on_44 : decode cX11_on 44 = .ok (.getfield 94, 3) := by decide +kernel
theorem dX11_on_47 : decode cX11_on 47 = .ok (.aload_n 0, 1) := by decide +kernel
theorem dX11_on_48 : decode cX11_on 48 = .ok (.getfield 90, 3) := by decide +kernel
theorem dX11_on_51 : decode cX11_on 51 = .ok (.invokevirtual 187, 3) := by decide +kernel
theorem dX11_on_54 : decode cX11_on 54 = .ok (.aload_n 0, 1) := by decide +kernel
theorem dX11_on_55 : decode cX11_on 55 = .ok (.getfield 94, 3) := by decide +kernel
theorem dX11_on_58 : decode cX11_on 58 = .ok (.iload_n 1, 1) := by decide +kernel
theorem dX11_on_59 : decode cX11_on 59 = .ok (.invokevirtual 181, 3) := by decide +kernel
theorem dX11_on_62 : decode cX11_on 62 = .ok (.iload_n 3, 1) := by decide +kernel
theorem dX11_on_63 : decode cX11_on 63 = .ok (.invokestatic 100, 3) := by decide +kernel
theorem dX11_on_66 : decode cX11_on 66 = .ok (.ifCond .eq 13, 3) := by decide +kernel
theorem dX11_on_69 : decode cX11_on 69 = .ok (.aload_n 0, 1) := by decide +kernel
theorem dX11_on_70 : decode cX11_on 70 = .ok (.getfield 94, 3) := by decide +kernel
theorem dX11_on_73 : decode cX11_on 73 = .ok (.getfield 143, 3) := by decide +kernel
theorem dX11_on_76 : decode cX11_on 76 = .ok (.iload_n 3, 1) := by decide +kernel
theorem dX11_on_77 : decode cX11_on 77 = .ok (.iaload, 1) := by decide +kernel
theorem dX11_on_78 : decode cX11_on 78 = .ok (.ireturn, 1) := by decide +kernel
theorem dX11_on_79 : decode cX11_on 79 = .ok (.aload_n 0, 1) := by decide +kernel
theorem dX11_on_80 : decode cX11_on 80 = .ok (.iload 4, 2) := by decide +kernel
theorem dX11_on_82 : decode cX11_on 82 = .ok (.invokevirtual 111, 3) := by decide +kernel
theorem dX11_on_85 : decode cX11_on 85 = .ok (.ifCond .eq 16, 3) := by decide +kernel
theorem dX11_on_88 : decode cX11_on 88 = .ok (.aload_n 0, 1) := by decide +kernel
theorem dX11_on_89 : decode cX11_on 89 = .ok (.getfield 94, 3) := by decide +kernel
theorem dX11_on_92 : decode cX11_on 92 = .ok (.getfield 120, 3) := by decide +kernel
theorem dX11_on_95 : decode cX11_on 95 = .ok (.iload 4, 2) := by decide +kernel
theorem dX11_on_97 : decode cX11_on 97 = .ok (.iaload, 1) := by decide +kernel
theorem dX11_on_98 : decode cX11_on 98 = .ok (.goto 10, 3) := by decide +kernel
theorem dX11_on_101 : decode cX11_on 101 = .ok (.aload_n 0, 1) := by decide +kernel
theorem dX11_on_102 : decode cX11_on 102 = .ok (.getfield 94, 3) := by decide +kernel
theorem dX11_on_105 : decode cX11_on 105 = .ok (.invokevirtual 172, 3) := by decide +kernel
theorem dX11_on_108 : decode cX11_on 108 = .ok (.ireturn, 1) := by decide +kernel
theorem dX11_way_0 : decode cX11_way 0 = .ok (.aload_n 0, 1) := by decide +kernel
theorem dX11_way_1 : decode cX11_way 1 = .ok (.iload_n 1, 1) := by decide +kernel
theorem dX11_way_2 : decode cX11_way 2 = .ok (.invokevirtual 111, 3) := by decide +kernel
theorem dX11_way_5 : decode cX11_way 5 = .ok (.ifCond .eq 10, 3) := by decide +kernel
theorem dX11_way_8 : decode cX11_way 8 = .ok (.iload_n 2, 1) := by decide +kernel
theorem dX11_way_9 : decode cX11_way 9 = .ok (.invokestatic 100, 3) := by decide +kernel
theorem dX11_way_12 : decode cX11_way 12 = .ok (.ifCond .ne 5, 3) := by decide +kernel
theorem dX11_way_15 : decode cX11_way 15 = .ok (.iconst (-1), 1) := by decide +kernel
theorem dX11_way_16 : decode cX11_way 16 = .ok (.ireturn, 1) := by decide +kernel
theorem dX11_way_17 : decode cX11_way 17 = .ok (.iload_n 3, 1) := by decide +kernel
theorem dX11_way_18 : decode cX11_way 18 = .ok (.tableswitch 64 0 2 #[26, 47, 57], 26) := by decide +kernel
theorem dX11_way_44 : decode cX11_way 44 = .ok (.aload_n 0, 1) := by decide +kernel
theorem dX11_way_45 : decode cX11_way 45 = .ok (.getfield 94, 3) := by decide +kernel
theorem dX11_way_48 : decode cX11_way 48 = .ok (.aload_n 0, 1) := by decide +kernel
theorem dX11_way_49 : decode cX11_way 49 = .ok (.getfield 90, 3) := by decide +kernel
theorem dX11_way_52 : decode cX11_way 52 = .ok (.invokevirtual 187, 3) := by decide +kernel
theorem dX11_way_55 : decode cX11_way 55 = .ok (.aload_n 0, 1) := by decide +kernel
theorem dX11_way_56 : decode cX11_way 56 = .ok (.getfield 94, 3) := by decide +kernel
theorem dX11_way_59 : decode cX11_way 59 = .ok (.iload_n 1, 1) := by decide +kernel
theorem dX11_way_60 : decode cX11_way 60 = .ok (.iload_n 2, 1) := by decide +kernel
theorem dX11_way_61 : decode cX11_way 61 = .ok (.invokevirtual 191, 3) := by decide +kernel
theorem dX11_way_64 : decode cX11_way 64 = .ok (.ireturn, 1) := by decide +kernel
theorem dX11_way_65 : decode cX11_way 65 = .ok (.aload_n 0, 1) := by decide +kernel
theorem dX11_way_66 : decode cX11_way 66 = .ok (.getfield 90, 3) := by decide +kernel
theorem dX11_way_69 : decode cX11_way 69 = .ok (.iload_n 1, 1) := by decide +kernel
theorem dX11_way_70 : decode cX11_way 70 = .ok (.iload_n 2, 1) := by decide +kernel
theorem dX11_way_71 : decode cX11_way 71 = .ok (.invokevirtual 194, 3) := by decide +kernel
theorem dX11_way_74 : decode cX11_way 74 = .ok (.ireturn, 1) := by decide +kernel
theorem dX11_way_75 : decode cX11_way 75 = .ok (.aload_n 0, 1) := by decide +kernel
theorem dX11_way_76 : decode cX11_way 76 = .ok (.iload_n 1, 1) := by decide +kernel
theorem dX11_way_77 : decode cX11_way 77 = .ok (.iload_n 2, 1) := by decide +kernel
theorem dX11_way_78 : decode cX11_way 78 = .ok (.invokevirtual 197, 3) := by decide +kernel
theorem dX11_way_81 : decode cX11_way 81 = .ok (.ireturn, 1) := by decide +kernel
theorem dX11_way_82 : decode cX11_way 82 = .ok (.iconst (-1), 1) := by decide +kernel
theorem dX11_way_83 : decode cX11_way 83 = .ok (.ireturn, 1) := by decide +kernel
theorem dX11_night_0 : decode cX11_night 0 = .ok (.aload_n 0, 1) := by decide +kernel
theorem dX11_night_1 : decode cX11_night 1 = .ok (.iload_n 1, 1) := by decide +kernel
theorem dX11_night_2 : decode cX11_night 2 = .ok (.invokevirtual 111, 3) := by decide +kernel
theorem dX11_night_5 : decode cX11_night 5 = .ok (.ifCond .eq 10, 3) := by decide +kernel
theorem dX11_night_8 : decode cX11_night 8 = .ok (.iload_n 2, 1) := by decide +kernel
theorem dX11_night_9 : decode cX11_night 9 = .ok (.invokestatic 100, 3) := by decide +kernel
theorem dX11_night_12 : decode cX11_night 12 = .ok (.ifCond .ne 5, 3) := by decide +kernel
theorem dX11_night_15 : decode cX11_night 15 = .ok (.iconst (-1), 1) := by decide +kernel
theorem dX11_night_16 : decode cX11_night 16 = .ok (.ireturn, 1) := by decide +kernel
theorem dX11_night_17 : decode cX11_night 17 = .ok (.aload_n 0, 1) := by decide +kernel
theorem dX11_night_18 : decode cX11_night 18 = .ok (.getfield 90, 3) := by decide +kernel
theorem dX11_night_21 : decode cX11_night 21 = .ok (.getfield 120, 3) := by decide +kernel
theorem dX11_night_24 : decode cX11_night 24 = .ok (.iload_n 1, 1) := by decide +kernel
theorem dX11_night_25 : decode cX11_night 25 = .ok (.iaload, 1) := by decide +kernel
theorem dX11_night_26 : decode cX11_night 26 = .ok (.iload_n 2, 1) := by decide +kernel
theorem dX11_night_27 : decode cX11_night 27 = .ok (.invokestatic 200, 3) := by decide +kernel
theorem dX11_night_30 : decode cX11_night 30 = .ok (.ifCond .ne 6, 3) := by decide +kernel
theorem dX11_night_33 : decode cX11_night 33 = .ok (.bipush (-2), 2) := by decide +kernel
theorem dX11_night_35 : decode cX11_night 35 = .ok (.ireturn, 1) := by decide +kernel
theorem dX11_night_36 : decode cX11_night 36 = .ok (.aload_n 0, 1) := by decide +kernel
theorem dX11_night_37 : decode cX11_night 37 = .ok (.getfield 94, 3) := by decide +kernel
theorem dX11_night_40 : decode cX11_night 40 = .ok (.aload_n 0, 1) := by decide +kernel
theorem dX11_night_41 : decode cX11_night 41 = .ok (.getfield 90, 3) := by decide +kernel
theorem dX11_night_44 : decode cX11_night 44 = .ok (.invokevirtual 187, 3) := by decide +kernel
theorem dX11_night_47 : decode cX11_night 47 = .ok (.iconst 0, 1) := by decide +kernel
theorem dX11_night_48 : decode cX11_night 48 = .ok (.istore_n 3, 1) := by decide +kernel
theorem dX11_night_49 : decode cX11_night 49 = .ok (.iload_n 3, 1) := by decide +kernel
theorem dX11_night_50 : decode cX11_night 50 = .ok (.bipush 99, 2) := by decide +kernel
theorem dX11_night_52 : decode cX11_night 52 = .ok (.if_icmp .gt 50, 3) := by decide +kernel
theorem dX11_night_55 : decode cX11_night 55 = .ok (.aload_n 0, 1) := by decide +kernel
theorem dX11_night_56 : decode cX11_night 56 = .ok (.getfield 94, 3) := by decide +kernel
theorem dX11_night_59 : decode cX11_night 59 = .ok (.getfield 143, 3) := by decide +kernel
theorem dX11_night_62 : decode cX11_night 62 = .ok (.iload_n 2, 1) := by decide +kernel
theorem dX11_night_63 : decode cX11_night 63 = .ok (.aload_n 0, 1) := by decide +kernel
theorem dX11_night_64 : decode cX11_night 64 = .ok (.getfield 90, 3) := by decide +kernel
theorem dX11_night_67 : decode cX11_night 67 = .ok (.getfield 143, 3) := by decide +kernel
theorem dX11_night_70 : decode cX11_night 70 = .ok (.iload_n 2, 1) := by decide +kernel
theorem dX11_night_71 : decode cX11_night 71 = .ok (.iaload, 1) := by decide +kernel
theorem dX11_night_72 : decode cX11_night 72 = .ok (.iastore, 1) := by decide +kernel
theorem dX11_night_73 : decode cX11_night 73 = .ok (.aload_n 0, 1) := by decide +kernel
theorem dX11_night_74 : decode cX11_night 74 = .ok (.getfield 94, 3) := by decide +kernel
theorem dX11_night_77 : decode cX11_night 77 = .ok (.iload_n 2, 1) := by decide +kernel
theorem dX11_night_78 : decode cX11_night 78 = .ok (.iload_n 3, 1) := by decide +kernel
theorem dX11_night_79 : decode cX11_night 79 = .ok (.invokevirtual 204, 3) := by decide +kernel
theorem dX11_night_82 : decode cX11_night 82 = .ok (.aload_n 0, 1) := by decide +kernel
theorem dX11_night_83 : decode cX11_night 83 = .ok (.getfield 94, 3) := by decide +kernel
theorem dX11_night_86 : decode cX11_night 86 = .ok (.iload_n 1, 1) := by decide +kernel
theorem dX11_night_87 : decode cX11_night 87 = .ok (.invokevirtual 127, 3) := by decide +kernel
theorem dX11_night_90 : decode cX11_night 90 = .ok (.iload_n 2, 1) := by decide +kernel
theorem dX11_night_91 : decode cX11_night 91 = .ok (.if_icmp .ne 5, 3) := by decide +kernel
theorem dX11_night_94 : decode cX11_night 94 = .ok (.iload_n 3, 1) := by decide +kernel
theorem dX11_night_95 : decode cX11_night 95 = .ok (.ireturn, 1) := by decide +kernel
theorem dX11_night_96 : decode cX11_night 96 = .ok (.iinc 3 1, 3) := by decide +kernel
theorem dX11_night_99 : decode cX11_night 99 = .ok (.goto (-50), 3) := by decide +kernel
theorem dX11_night_102 : decode cX11_night 102 = .ok (.bipush (-5), 2) := by decide +kernel
theorem dX11_night_104 : decode cX11_night 104 = .ok (.ireturn, 1) := by decide +kernel
theorem dX11_see_0 : decode cX11_see 0 = .ok (.iload_n 1, 1) := by decide +kernel
theorem dX11_see_1 : decode cX11_see 1 = .ok (.iconst (-1), 1) := by decide +kernel
theorem dX11_see_2 : decode cX11_see 2 = .ok (.if_icmp .ne 11, 3) := by decide +kernel
theorem dX11_see_5 : decode cX11_see 5 = .ok (.aload_n 0, 1) := by decide +kernel
theorem dX11_see_6 : decode cX11_see 6 = .ok (.getfield 16, 3) := by decide +kernel
theorem dX11_see_9 : decode cX11_see 9 = .ok (.invokevirtual 207, 3) := by decide +kernel
theorem dX11_see_12 : decode cX11_see 12 = .ok (.ireturn, 1) := by decide +kernel
theorem dX11_see_13 : decode cX11_see 13 = .ok (.aload_n 0, 1) := by decide +kernel
theorem dX11_see_14 : decode cX11_see 14 = .ok (.iload_n 1, 1) := by decide +kernel
theorem dX11_see_15 : decode cX11_see 15 = .ok (.invokevirtual 111, 3) := by decide +kernel
theorem dX11_see_18 : decode cX11_see 18 = .ok (.ifCond .eq 10, 3) := by decide +kernel
theorem dX11_see_21 : decode cX11_see 21 = .ok (.iload_n 3, 1) := by decide +kernel
theorem dX11_see_22 : decode cX11_see 22 = .ok (.invokestatic 100, 3) := by decide +kernel
theorem dX11_see_25 : decode cX11_see 25 = .ok (.ifCond .ne 5, 3) := by decide +kernel
theorem dX11_see_28 : decode cX11_see 28 = .ok (.iconst (-1), 1) := by decide +kernel
theorem dX11_see_29 : decode cX11_see 29 = .ok (.ireturn, 1) := by decide +kernel
theorem dX11_see_30 : decode cX11_see 30 = .ok (.iload_n 2, 1) := by decide +kernel
theorem dX11_see_31 : decode cX11_see 31 = .ok (.ifCond .lt 9, 3) := by decide +kernel
theorem dX11_see_34 : decode cX11_see 34 = .ok (.iload_n 2, 1) := by decide +kernel
theorem dX11_see_35 : decode cX11_see 35 = .ok (.bipush 8, 2) := by decide +kernel
theorem dX11_see_37 : decode cX11_see 37 = .ok (.if_icmp .le 6, 3) := by decide +kernel
theorem dX11_see_40 : decode cX11_see 40 = .ok (.bipush (-2), 2) := by decide +kernel
theorem dX11_see_42 : decode cX11_see 42 = .ok (.ireturn, 1) := by decide +kernel
theorem dX11_see_43 : decode cX11_see 43 = .ok (.aload_n 0, 1) := by decide +kernel
theorem dX11_see_44 : decode cX11_see 44 = .ok (.getfield 16, 3) := by decide +kernel
theorem dX11_see_47 : decode cX11_see 47 = .ok (.iload_n 1, 1) := by decide +kernel
theorem dX11_see_48 : decode cX11_see 48 = .ok (.iload_n 2, 1) := by decide +kernel
theorem dX11_see_49 : decode cX11_see 49 = .ok (.iload_n 3, 1) := by decide +kernel
theorem dX11_see_50 : decode cX11_see 50 = .ok (.invokevirtual 210, 3) := by decide +kernel
theorem dX11_see_53 : decode cX11_see 53 = .ok (.ireturn, 1) := by decide +kernel
theorem dX11_from_0 : decode cX11_from 0 = .ok (.aload_n 0, 1) := by decide +kernel
theorem dX11_from_1 : decode cX11_from 1 = .ok (.iload_n 1, 1) := by decide +kernel
theorem dX11_from_2 : decode cX11_from 2 = .ok (.invokevirtual 111, 3) := by decide +kernel
theorem dX11_from_5 : decode cX11_from 5 = .ok (.ifCond .ne 5, 3) := by decide +kernel
theorem dX11_from_8 : decode cX11_from 8 = .ok (.iconst (-1), 1) := by decide +kernel
theorem dX11_from_9 : decode cX11_from 9 = .ok (.ireturn, 1) := by decide +kernel
theorem dX11_from_10 : decode cX11_from 10 = .ok (.iconst 0, 1) := by decide +kernel
theorem dX11_from_11 : decode cX11_from 11 = .ok (.istore_n 2, 1) := by decide +kernel
theorem dX11_from_12 : decode cX11_from 12 = .ok (.iconst 0, 1) := by decide +kernel
theorem dX11_from_13 : decode cX11_from 13 = .ok (.istore_n 3, 1) := by decide +kernel
theorem dX11_from_14 : decode cX11_from 14 = .ok (.iload_n 3, 1) := by decide +kernel
theorem dX11_from_15 : decode cX11_from 15 = .ok (.bipush 25, 2) := by decide +kernel
theorem dX11_from_17 : decode cX11_from 17 = .ok (.if_icmp .ge 43, 3) := by decide +kernel
theorem dX11_from_20 : decode cX11_from 20 = .ok (.aload_n 0, 1) := by decide +kernel
theorem dX11_from_21 : decode cX11_from 21 = .ok (.getfield 94, 3) := by decide +kernel
theorem dX11_from_24 : decode cX11_from 24 = .ok (.aload_n 0, 1) := by decide +kernel
theorem dX11_from_25 : decode cX11_from 25 = .ok (.getfield 90, 3) := by decide +kernel
theorem dX11_from_28 : decode cX11_from 28 = .ok (.invokevirtual 187, 3) := by decide +kernel
theorem dX11_from_31 : decode cX11_from 31 = .ok (.aload_n 0, 1) := by decide +kernel
theorem dX11_from_32 : decode cX11_from 32 = .ok (.getfield 94, 3) := by decide +kernel
theorem dX11_from_35 : decode cX11_from 35 = .ok (.getfield 120, 3) := by decide +kernel
theorem dX11_from_38 : decode cX11_from 38 = .ok (.iload_n 1, 1) := by decide +kernel
theorem dX11_from_39 : decode cX11_from 39 = .ok (.iload_n 3, 1) := by decide +kernel
theorem dX11_from_40 : decode cX11_from 40 = .ok (.iastore, 1) := by decide +kernel
theorem dX11_from_41 : decode cX11_from 41 = .ok (.aload_n 0, 1) := by decide +kernel
theorem dX11_from_42 : decode cX11_from 42 = .ok (.invokevirtual 213, 3) := by decide +kernel
theorem dX11_from_45 : decode cX11_from 45 = .ok (.ifCond .eq 9, 3) := by decide +kernel
theorem dX11_from_48 : decode cX11_from 48 = .ok (.iload_n 2, 1) := by decide +kernel
theorem dX11_from_49 : decode cX11_from 49 = .ok (.iconst 1, 1) := by decide +kernel
theorem dX11_from_50 : decode cX11_from 50 = .ok (.iload_n 3, 1) := by decide +kernel
theorem dX11_from_51 : decode cX11_from 51 = .ok (.ishl, 1) := by decide +kernel
theorem dX11_from_52 : decode cX11_from 52 = .ok (.ior, 1) := by decide +kernel
theorem dX11_from_53 : decode cX11_from 53 = .ok (.istore_n 2, 1) := by decide +kernel
theorem dX11_from_54 : decode cX11_from 54 = .ok (.iinc 3 1, 3) := by decide +kernel
theorem dX11_from_57 : decode cX11_from 57 = .ok (.goto (-43), 3) := by decide +kernel
theorem dX11_from_60 : decode cX11_from 60 = .ok (.iload_n 2, 1) := by decide +kernel
theorem dX11_from_61 : decode cX11_from 61 = .ok (.ireturn, 1) := by decide +kernel
theorem dX11_can_0 : decode cX11_can 0 = .ok (.aload_n 0, 1) := by decide +kernel
theorem dX11_can_1 : decode cX11_can 1 = .ok (.iload_n 1, 1) := by decide +kernel
theorem dX11_can_2 : decode cX11_can 2 = .ok (.invokevirtual 111, 3) := by decide +kernel
theorem dX11_can_5 : decode cX11_can 5 = .ok (.ifCond .eq 12, 3) := by decide +kernel
theorem dX11_can_8 : decode cX11_can 8 = .ok (.iload_n 2, 1) := by decide +kernel
theorem dX11_can_9 : decode cX11_can 9 = .ok (.ifCond .lt 8, 3) := by decide +kernel
theorem dX11_can_12 : decode cX11_can 12 = .ok (.iload_n 2, 1) := by decide +kernel
theorem dX11_can_13 : decode cX11_can 13 = .ok (.iconst 1, 1) := by decide +kernel
theorem dX11_can_14 : decode cX11_can 14 = .ok (.if_icmp .le 5, 3) := by decide +kernel
theorem dX11_can_17 : decode cX11_can 17 = .ok (.iconst (-1), 1) := by decide +kernel
theorem dX11_can_18 : decode cX11_can 18 = .ok (.ireturn, 1) := by decide +kernel
theorem dX11_can_19 : decode cX11_can 19 = .ok (.iconst 0, 1) := by decide +kernel
theorem dX11_can_20 : decode cX11_can 20 = .ok (.istore_n 3, 1) := by decide +kernel
theorem dX11_can_21 : decode cX11_can 21 = .ok (.bipush (-5), 2) := by decide +kernel
theorem dX11_can_23 : decode cX11_can 23 = .ok (.istore 4, 2) := by decide +kernel
theorem dX11_can_25 : decode cX11_can 25 = .ok (.bipush 9, 2) := by decide +kernel
theorem dX11_can_27 : decode cX11_can 27 = .ok (.istore 5, 2) := by decide +kernel
theorem dX11_can_29 : decode cX11_can 29 = .ok (.iload 5, 2) := by decide +kernel
theorem dX11_can_31 : decode cX11_can 31 = .ok (.ifCond .lt 45, 3) := by decide +kernel
theorem dX11_can_34 : decode cX11_can 34 = .ok (.aload_n 0, 1) := by decide +kernel
theorem dX11_can_35 : decode cX11_can 35 = .ok (.getfield 94, 3) := by decide +kernel
theorem dX11_can_38 : decode cX11_can 38 = .ok (.aload_n 0, 1) := by decide +kernel
theorem dX11_can_39 : decode cX11_can 39 = .ok (.getfield 90, 3) := by decide +kernel
theorem dX11_can_42 : decode cX11_can 42 = .ok (.invokevirtual 187, 3) := by decide +kernel
theorem dX11_can_45 : decode cX11_can 45 = .ok (.aload_n 0, 1) := by decide +kernel
theorem dX11_can_46 : decode cX11_can 46 = .ok (.getfield 94, 3) := by decide +kernel
theorem dX11_can_49 : decode cX11_can 49 = .ok (.getfield 117, 3) := by decide +kernel
theorem dX11_can_52 : decode cX11_can 52 = .ok (.iload_n 1, 1) := by decide +kernel
theorem dX11_can_53 : decode cX11_can 53 = .ok (.iload 5, 2) := by decide +kernel
theorem dX11_can_55 : decode cX11_can 55 = .ok (.iastore, 1) := by decide +kernel
theorem dX11_can_56 : decode cX11_can 56 = .ok (.aload_n 0, 1) := by decide +kernel
theorem dX11_can_57 : decode cX11_can 57 = .ok (.invokevirtual 213, 3) := by decide +kernel
theorem dX11_can_60 : decode cX11_can 60 = .ok (.ifCond .eq 10, 3) := by decide +kernel
theorem dX11_can_63 : decode cX11_can 63 = .ok (.iinc 3 1, 3) := by decide +kernel
theorem dX11_can_66 : decode cX11_can 66 = .ok (.iload 5, 2) := by decide +kernel
theorem dX11_can_68 : decode cX11_can 68 = .ok (.istore 4, 2) := by decide +kernel
theorem dX11_can_70 : decode cX11_can 70 = .ok (.iinc 5 (-1), 3) := by decide +kernel
theorem dX11_can_73 : decode cX11_can 73 = .ok (.goto (-44), 3) := by decide +kernel
theorem dX11_can_76 : decode cX11_can 76 = .ok (.iload_n 2, 1) := by decide +kernel
theorem dX11_can_77 : decode cX11_can 77 = .ok (.ifCond .ne 7, 3) := by decide +kernel
theorem dX11_can_80 : decode cX11_can 80 = .ok (.iload_n 3, 1) := by decide +kernel
theorem dX11_can_81 : decode cX11_can 81 = .ok (.goto 5, 3) := by decide +kernel
theorem dX11_can_84 : decode cX11_can 84 = .ok (.iload 4, 2) := by decide +kernel
theorem dX11_can_86 : decode cX11_can 86 = .ok (.ireturn, 1) := by decide +kernel
theorem dX11_odds_0 : decode cX11_odds 0 = .ok (.aload_n 0, 1) := by decide +kernel
theorem dX11_odds_1 : decode cX11_odds 1 = .ok (.iload_n 1, 1) := by decide +kernel
theorem dX11_odds_2 : decode cX11_odds 2 = .ok (.invokevirtual 111, 3) := by decide +kernel
theorem dX11_odds_5 : decode cX11_odds 5 = .ok (.ifCond .eq 17, 3) := by decide +kernel
theorem dX11_odds_8 : decode cX11_odds 8 = .ok (.iload_n 2, 1) := by decide +kernel
theorem dX11_odds_9 : decode cX11_odds 9 = .ok (.invokestatic 100, 3) := by decide +kernel
theorem dX11_odds_12 : decode cX11_odds 12 = .ok (.ifCond .eq 10, 3) := by decide +kernel
theorem dX11_odds_15 : decode cX11_odds 15 = .ok (.iload_n 3, 1) := by decide +kernel
theorem dX11_odds_16 : decode cX11_odds 16 = .ok (.invokestatic 217, 3) := by decide +kernel
theorem dX11_odds_19 : decode cX11_odds 19 = .ok (.ifCond .ne 7, 3) := by decide +kernel
theorem dX11_odds_22 : decode cX11_odds 22 = .ok (.ldc2_w 220, 3) := by decide +kernel
theorem dX11_odds_25 : decode cX11_odds 25 = .ok (.lreturn, 1) := by decide +kernel
theorem dX11_odds_26 : decode cX11_odds 26 = .ok (.aload_n 0, 1) := by decide +kernel
theorem dX11_odds_27 : decode cX11_odds 27 = .ok (.getfield 94, 3) := by decide +kernel
theorem dX11_odds_30 : decode cX11_odds 30 = .ok (.aload_n 0, 1) := by decide +kernel
theorem dX11_odds_31 : decode cX11_odds 31 = .ok (.getfield 90, 3) := by decide +kernel
theorem dX11_odds_34 : decode cX11_odds 34 = .ok (.invokevirtual 187, 3) := by decide +kernel
theorem dX11_odds_37 : decode cX11_odds 37 = .ok (.iconst 0, 1) := by decide +kernel
theorem dX11_odds_38 : decode cX11_odds 38 = .ok (.istore 4, 2) := by decide +kernel
theorem dX11_odds_40 : decode cX11_odds 40 = .ok (.iconst 0, 1) := by decide +kernel
theorem dX11_odds_41 : decode cX11_odds 41 = .ok (.istore 5, 2) := by decide +kernel
theorem dX11_odds_43 : decode cX11_odds 43 = .ok (.iload 5, 2) := by decide +kernel
theorem dX11_odds_45 : decode cX11_odds 45 = .ok (.bipush 25, 2) := by decide +kernel
theorem dX11_odds_47 : decode cX11_odds 47 = .ok (.if_icmp .ge 55, 3) := by decide +kernel
theorem dX11_odds_50 : decode cX11_odds 50 = .ok (.aload_n 0, 1) := by decide +kernel
theorem dX11_odds_51 : decode cX11_odds 51 = .ok (.getfield 94, 3) := by decide +kernel
theorem dX11_odds_54 : decode cX11_odds 54 = .ok (.iload 5, 2) := by decide +kernel
theorem dX11_odds_56 : decode cX11_odds 56 = .ok (.bipush 10, 2) := by decide +kernel
theorem dX11_odds_58 : decode cX11_odds 58 = .ok (.invokevirtual 204, 3) := by decide +kernel
theorem dX11_odds_61 : decode cX11_odds 61 = .ok (.aload_n 0, 1) := by decide +kernel
theorem dX11_odds_62 : decode cX11_odds 62 = .ok (.getfield 94, 3) := by decide +kernel
theorem dX11_odds_65 : decode cX11_odds 65 = .ok (.iload_n 1, 1) := by decide +kernel
theorem dX11_odds_66 : decode cX11_odds 66 = .ok (.invokevirtual 127, 3) := by decide +kernel
theorem dX11_odds_69 : decode cX11_odds 69 = .ok (.iload_n 2, 1) := by decide +kernel
theorem dX11_odds_70 : decode cX11_odds 70 = .ok (.if_icmp .ne 6, 3) := by decide +kernel
theorem dX11_odds_73 : decode cX11_odds 73 = .ok (.iinc 4 1, 3) := by decide +kernel
theorem dX11_odds_76 : decode cX11_odds 76 = .ok (.aload_n 0, 1) := by decide +kernel
theorem dX11_odds_77 : decode cX11_odds 77 = .ok (.getfield 94, 3) := by decide +kernel
theorem dX11_odds_80 : decode cX11_odds 80 = .ok (.getfield 143, 3) := by decide +kernel
theorem dX11_odds_83 : decode cX11_odds 83 = .ok (.iload 5, 2) := by decide +kernel
theorem dX11_odds_85 : decode cX11_odds 85 = .ok (.aload_n 0, 1) := by decide +kernel
theorem dX11_odds_86 : decode cX11_odds 86 = .ok (.getfield 90, 3) := by decide +kernel
theorem dX11_odds_89 : decode cX11_odds 89 = .ok (.getfield 143, 3) := by decide +kernel
theorem dX11_odds_92 : decode cX11_odds 92 = .ok (.iload 5, 2) := by decide +kernel
theorem dX11_odds_94 : decode cX11_odds 94 = .ok (.iaload, 1) := by decide +kernel
theorem dX11_odds_95 : decode cX11_odds 95 = .ok (.iastore, 1) := by decide +kernel
theorem dX11_odds_96 : decode cX11_odds 96 = .ok (.iinc 5 1, 3) := by decide +kernel
theorem dX11_odds_99 : decode cX11_odds 99 = .ok (.goto (-56), 3) := by decide +kernel
theorem dX11_odds_102 : decode cX11_odds 102 = .ok (.iload 4, 2) := by decide +kernel
theorem dX11_odds_104 : decode cX11_odds 104 = .ok (.iload_n 3, 1) := by decide +kernel
theorem dX11_odds_105 : decode cX11_odds 105 = .ok (.invokestatic 222, 3) := by decide +kernel
theorem dX11_odds_108 : decode cX11_odds 108 = .ok (.lreturn, 1) := by decide +kernel
theorem dX11_mean_0 : decode cX11_mean 0 = .ok (.iload_n 1, 1) := by decide +kernel
theorem dX11_mean_1 : decode cX11_mean 1 = .ok (.invokestatic 184, 3) := by decide +kernel
theorem dX11_mean_4 : decode cX11_mean 4 = .ok (.ifCond .eq 10, 3) := by decide +kernel
theorem dX11_mean_7 : decode cX11_mean 7 = .ok (.iload_n 2, 1) := by decide +kernel
theorem dX11_mean_8 : decode cX11_mean 8 = .ok (.invokestatic 217, 3) := by decide +kernel
theorem dX11_mean_11 : decode cX11_mean 11 = .ok (.ifCond .ne 7, 3) := by decide +kernel
theorem dX11_mean_14 : decode cX11_mean 14 = .ok (.ldc2_w 220, 3) := by decide +kernel
theorem dX11_mean_17 : decode cX11_mean 17 = .ok (.lreturn, 1) := by decide +kernel
theorem dX11_mean_18 : decode cX11_mean 18 = .ok (.aload_n 0, 1) := by decide +kernel
theorem dX11_mean_19 : decode cX11_mean 19 = .ok (.getfield 94, 3) := by decide +kernel
theorem dX11_mean_22 : decode cX11_mean 22 = .ok (.aload_n 0, 1) := by decide +kernel
theorem dX11_mean_23 : decode cX11_mean 23 = .ok (.getfield 90, 3) := by decide +kernel
theorem dX11_mean_26 : decode cX11_mean 26 = .ok (.invokevirtual 187, 3) := by decide +kernel
theorem dX11_mean_29 : decode cX11_mean 29 = .ok (.aload_n 0, 1) := by decide +kernel
theorem dX11_mean_30 : decode cX11_mean 30 = .ok (.getfield 94, 3) := by decide +kernel
theorem dX11_mean_33 : decode cX11_mean 33 = .ok (.iload_n 1, 1) := by decide +kernel
theorem dX11_mean_34 : decode cX11_mean 34 = .ok (.invokevirtual 181, 3) := by decide +kernel
theorem dX11_mean_37 : decode cX11_mean 37 = .ok (.aload_n 0, 1) := by decide +kernel
theorem dX11_mean_38 : decode cX11_mean 38 = .ok (.getfield 94, 3) := by decide +kernel
theorem dX11_mean_41 : decode cX11_mean 41 = .ok (.invokevirtual 175, 3) := by decide +kernel
theorem dX11_mean_44 : decode cX11_mean 44 = .ok (.iload_n 2, 1) := by decide +kernel
theorem dX11_mean_45 : decode cX11_mean 45 = .ok (.invokestatic 222, 3) := by decide +kernel
theorem dX11_mean_48 : decode cX11_mean 48 = .ok (.lreturn, 1) := by decide +kernel
theorem dX11_plan_0 : decode cX11_plan 0 = .ok (.iload_n 1, 1) := by decide +kernel
theorem dX11_plan_1 : decode cX11_plan 1 = .ok (.tableswitch 99 (-1) 3 #[35, 43, 54, 76, 76], 35) := by decide +kernel
theorem dX11_plan_36 : decode cX11_plan 36 = .ok (.aload_n 0, 1) := by decide +kernel
theorem dX11_plan_37 : decode cX11_plan 37 = .ok (.getfield 20, 3) := by decide +kernel
theorem dX11_plan_40 : decode cX11_plan 40 = .ok (.invokevirtual 207, 3) := by decide +kernel
theorem dX11_plan_43 : decode cX11_plan 43 = .ok (.ireturn, 1) := by decide +kernel
theorem dX11_plan_44 : decode cX11_plan 44 = .ok (.aload_n 0, 1) := by decide +kernel
theorem dX11_plan_45 : decode cX11_plan 45 = .ok (.getfield 20, 3) := by decide +kernel
theorem dX11_plan_48 : decode cX11_plan 48 = .ok (.iload_n 1, 1) := by decide +kernel
theorem dX11_plan_49 : decode cX11_plan 49 = .ok (.iconst 0, 1) := by decide +kernel
theorem dX11_plan_50 : decode cX11_plan 50 = .ok (.iconst 0, 1) := by decide +kernel
theorem dX11_plan_51 : decode cX11_plan 51 = .ok (.invokevirtual 210, 3) := by decide +kernel
theorem dX11_plan_54 : decode cX11_plan 54 = .ok (.ireturn, 1) := by decide +kernel
theorem dX11_plan_55 : decode cX11_plan 55 = .ok (.iload_n 2, 1) := by decide +kernel
theorem dX11_plan_56 : decode cX11_plan 56 = .ok (.invokestatic 100, 3) := by decide +kernel
theorem dX11_plan_59 : decode cX11_plan 59 = .ok (.ifCond .eq 16, 3) := by decide +kernel
theorem dX11_plan_62 : decode cX11_plan 62 = .ok (.aload_n 0, 1) := by decide +kernel
theorem dX11_plan_63 : decode cX11_plan 63 = .ok (.getfield 20, 3) := by decide +kernel
theorem dX11_plan_66 : decode cX11_plan 66 = .ok (.iload_n 1, 1) := by decide +kernel
theorem dX11_plan_67 : decode cX11_plan 67 = .ok (.iload_n 2, 1) := by decide +kernel
theorem dX11_plan_68 : decode cX11_plan 68 = .ok (.iconst 0, 1) := by decide +kernel
theorem dX11_plan_69 : decode cX11_plan 69 = .ok (.invokevirtual 210, 3) := by decide +kernel
theorem dX11_plan_72 : decode cX11_plan 72 = .ok (.goto 4, 3) := by decide +kernel
theorem dX11_plan_75 : decode cX11_plan 75 = .ok (.iconst (-1), 1) := by decide +kernel
theorem dX11_plan_76 : decode cX11_plan 76 = .ok (.ireturn, 1) := by decide +kernel
theorem dX11_plan_77 : decode cX11_plan 77 = .ok (.aload_n 0, 1) := by decide +kernel
theorem dX11_plan_78 : decode cX11_plan 78 = .ok (.iload_n 2, 1) := by decide +kernel
theorem dX11_plan_79 : decode cX11_plan 79 = .ok (.invokevirtual 111, 3) := by decide +kernel
theorem dX11_plan_82 : decode cX11_plan 82 = .ok (.ifCond .eq 16, 3) := by decide +kernel
theorem dX11_plan_85 : decode cX11_plan 85 = .ok (.aload_n 0, 1) := by decide +kernel
theorem dX11_plan_86 : decode cX11_plan 86 = .ok (.getfield 20, 3) := by decide +kernel
theorem dX11_plan_89 : decode cX11_plan 89 = .ok (.iload_n 1, 1) := by decide +kernel
theorem dX11_plan_90 : decode cX11_plan 90 = .ok (.iload_n 2, 1) := by decide +kernel
theorem dX11_plan_91 : decode cX11_plan 91 = .ok (.iconst 0, 1) := by decide +kernel
theorem dX11_plan_92 : decode cX11_plan 92 = .ok (.invokevirtual 210, 3) := by decide +kernel
theorem dX11_plan_95 : decode cX11_plan 95 = .ok (.goto 4, 3) := by decide +kernel
theorem dX11_plan_98 : decode cX11_plan 98 = .ok (.iconst (-1), 1) := by decide +kernel
theorem dX11_plan_99 : decode cX11_plan 99 = .ok (.ireturn, 1) := by decide +kernel
theorem dX11_plan_100 : decode cX11_plan 100 = .ok (.iconst (-1), 1) := by decide +kernel
theorem dX11_plan_101 : decode cX11_plan 101 = .ok (.ireturn, 1) := by decide +kernel
theorem dX11_ends_0 : decode cX11_ends 0 = .ok (.iload_n 1, 1) := by decide +kernel
theorem dX11_ends_1 : decode cX11_ends 1 = .ok (.ifCond .lt 8, 3) := by decide +kernel
theorem dX11_ends_4 : decode cX11_ends 4 = .ok (.iload_n 1, 1) := by decide +kernel
theorem dX11_ends_5 : decode cX11_ends 5 = .ok (.iconst 1, 1) := by decide +kernel
theorem dX11_ends_6 : decode cX11_ends 6 = .ok (.if_icmp .le 5, 3) := by decide +kernel
theorem dX11_ends_9 : decode cX11_ends 9 = .ok (.iconst (-1), 1) := by decide +kernel
theorem dX11_ends_10 : decode cX11_ends 10 = .ok (.ireturn, 1) := by decide +kernel
theorem dX11_ends_11 : decode cX11_ends 11 = .ok (.aload_n 0, 1) := by decide +kernel
theorem dX11_ends_12 : decode cX11_ends 12 = .ok (.getfield 94, 3) := by decide +kernel
theorem dX11_ends_15 : decode cX11_ends 15 = .ok (.aload_n 0, 1) := by decide +kernel
theorem dX11_ends_16 : decode cX11_ends 16 = .ok (.getfield 90, 3) := by decide +kernel
theorem dX11_ends_19 : decode cX11_ends 19 = .ok (.invokevirtual 187, 3) := by decide +kernel
theorem dX11_ends_22 : decode cX11_ends 22 = .ok (.iconst 0, 1) := by decide +kernel
theorem dX11_ends_23 : decode cX11_ends 23 = .ok (.istore_n 2, 1) := by decide +kernel
theorem dX11_ends_24 : decode cX11_ends 24 = .ok (.iload_n 2, 1) := by decide +kernel
theorem dX11_ends_25 : decode cX11_ends 25 = .ok (.aload_n 0, 1) := by decide +kernel
theorem dX11_ends_26 : decode cX11_ends 26 = .ok (.getfield 20, 3) := by decide +kernel
theorem dX11_ends_29 : decode cX11_ends 29 = .ok (.getfield 226, 3) := by decide +kernel
theorem dX11_ends_32 : decode cX11_ends 32 = .ok (.if_icmp .ge 31, 3) := by decide +kernel
theorem dX11_ends_35 : decode cX11_ends 35 = .ok (.aload_n 0, 1) := by decide +kernel
theorem dX11_ends_36 : decode cX11_ends 36 = .ok (.aload_n 0, 1) := by decide +kernel
theorem dX11_ends_37 : decode cX11_ends 37 = .ok (.getfield 20, 3) := by decide +kernel
theorem dX11_ends_40 : decode cX11_ends 40 = .ok (.iload_n 2, 1) := by decide +kernel
theorem dX11_ends_41 : decode cX11_ends 41 = .ok (.iconst 0, 1) := by decide +kernel
theorem dX11_ends_42 : decode cX11_ends 42 = .ok (.invokevirtual 229, 3) := by decide +kernel
