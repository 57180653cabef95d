theorem dL_round_220 : decode cL_round 220 = .ok (.if_icmp .ne 16, 3) := by decide +kernel
theorem dL_round_223 : decode cL_round 223 = .ok (.aload_n 1, 1) := by decide +kernel
theorem dL_round_224 : decode cL_round 224 = .ok (.iconst 5, 1) := by decide +kernel
theorem dL_round_225 : decode cL_round 225 = .ok (.iload 5, 2) := by decide +kernel
theorem dL_round_227 : decode cL_round 227 = .ok (.imul, 1) := by decide +kernel
theorem dL_round_228 : decode cL_round 228 = .ok (.iconst 3, 1) := by decide +kernel
theorem dL_round_229 : decode cL_round 229 = .ok (.iadd, 1) := by decide +kernel
theorem dL_round_230 : decode cL_round 230 = .ok (.iaload, 1) := by decide +kernel
theorem dL_round_231 : decode cL_round 231 = .ok (.iconst 1, 1) := by decide +kernel
theorem dL_round_232 : decode cL_round 232 = .ok (.iadd, 1) := by decide +kernel
theorem dL_round_233 : decode cL_round 233 = .ok (.goto 4, 3) := by decide +kernel
theorem dL_round_236 : decode cL_round 236 = .ok (.iconst 0, 1) := by decide +kernel
theorem dL_round_237 : decode cL_round 237 = .ok (.iastore, 1) := by decide +kernel
theorem dL_round_238 : decode cL_round 238 = .ok (.aload_n 1, 1) := by decide +kernel
theorem dL_round_239 : decode cL_round 239 = .ok (.iconst 5, 1) := by decide +kernel
theorem dL_round_240 : decode cL_round 240 = .ok (.iload 5, 2) := by decide +kernel
theorem dL_round_242 : decode cL_round 242 = .ok (.imul, 1) := by decide +kernel
theorem dL_round_243 : decode cL_round 243 = .ok (.iconst 3, 1) := by decide +kernel
theorem dL_round_244 : decode cL_round 244 = .ok (.iadd, 1) := by decide +kernel
theorem dL_round_245 : decode cL_round 245 = .ok (.iaload, 1) := by decide +kernel
theorem dL_round_246 : decode cL_round 246 = .ok (.iconst 3, 1) := by decide +kernel
theorem dL_round_247 : decode cL_round 247 = .ok (.if_icmp .ne 20, 3) := by decide +kernel
theorem dL_round_250 : decode cL_round 250 = .ok (.aload_n 0, 1) := by decide +kernel
theorem dL_round_251 : decode cL_round 251 = .ok (.aload_n 1, 1) := by decide +kernel
theorem dL_round_252 : decode cL_round 252 = .ok (.aload_n 2, 1) := by decide +kernel
theorem dL_round_253 : decode cL_round 253 = .ok (.iload 5, 2) := by decide +kernel
theorem dL_round_255 : decode cL_round 255 = .ok (.invokestatic 63, 3) := by decide +kernel
theorem dL_round_258 : decode cL_round 258 = .ok (.iload 4, 2) := by decide +kernel
theorem dL_round_260 : decode cL_round 260 = .ok (.iconst 1, 1) := by decide +kernel
theorem dL_round_261 : decode cL_round 261 = .ok (.iload 5, 2) := by decide +kernel
theorem dL_round_263 : decode cL_round 263 = .ok (.ishl, 1) := by decide +kernel
theorem dL_round_264 : decode cL_round 264 = .ok (.ior, 1) := by decide +kernel
theorem dL_round_265 : decode cL_round 265 = .ok (.istore 4, 2) := by decide +kernel
theorem dL_round_267 : decode cL_round 267 = .ok (.iinc 5 1, 3) := by decide +kernel
theorem dL_round_270 : decode cL_round 270 = .ok (.goto (-83), 3) := by decide +kernel
theorem dL_round_273 : decode cL_round 273 = .ok (.aload_n 0, 1) := by decide +kernel
theorem dL_round_274 : decode cL_round 274 = .ok (.iconst 0, 1) := by decide +kernel
theorem dL_round_275 : decode cL_round 275 = .ok (.dup2, 1) := by decide +kernel
theorem dL_round_276 : decode cL_round 276 = .ok (.iaload, 1) := by decide +kernel
theorem dL_round_277 : decode cL_round 277 = .ok (.iconst 1, 1) := by decide +kernel
theorem dL_round_278 : decode cL_round 278 = .ok (.iadd, 1) := by decide +kernel
theorem dL_round_279 : decode cL_round 279 = .ok (.iastore, 1) := by decide +kernel
theorem dL_round_280 : decode cL_round 280 = .ok (.iload 4, 2) := by decide +kernel
theorem dL_round_282 : decode cL_round 282 = .ok (.ireturn, 1) := by decide +kernel
theorem dL_borrow_0 : decode cL_borrow 0 = .ok (.iconst 0, 1) := by decide +kernel
theorem dL_borrow_1 : decode cL_borrow 1 = .ok (.istore 4, 2) := by decide +kernel
theorem dL_borrow_3 : decode cL_borrow 3 = .ok (.iload 4, 2) := by decide +kernel
theorem dL_borrow_5 : decode cL_borrow 5 = .ok (.aload_n 0, 1) := by decide +kernel
theorem dL_borrow_6 : decode cL_borrow 6 = .ok (.iconst 1, 1) := by decide +kernel
theorem dL_borrow_7 : decode cL_borrow 7 = .ok (.iaload, 1) := by decide +kernel
theorem dL_borrow_8 : decode cL_borrow 8 = .ok (.if_icmp .ge 192, 3) := by decide +kernel
theorem dL_borrow_11 : decode cL_borrow 11 = .ok (.iload_n 3, 1) := by decide +kernel
theorem dL_borrow_12 : decode cL_borrow 12 = .ok (.aload_n 1, 1) := by decide +kernel
theorem dL_borrow_13 : decode cL_borrow 13 = .ok (.iconst 5, 1) := by decide +kernel
theorem dL_borrow_14 : decode cL_borrow 14 = .ok (.iload 4, 2) := by decide +kernel
theorem dL_borrow_16 : decode cL_borrow 16 = .ok (.imul, 1) := by decide +kernel
theorem dL_borrow_17 : decode cL_borrow 17 = .ok (.iconst 1, 1) := by decide +kernel
theorem dL_borrow_18 : decode cL_borrow 18 = .ok (.iadd, 1) := by decide +kernel
theorem dL_borrow_19 : decode cL_borrow 19 = .ok (.iaload, 1) := by decide +kernel
theorem dL_borrow_20 : decode cL_borrow 20 = .ok (.isub, 1) := by decide +kernel
theorem dL_borrow_21 : decode cL_borrow 21 = .ok (.istore 5, 2) := by decide +kernel
theorem dL_borrow_23 : decode cL_borrow 23 = .ok (.aload_n 1, 1) := by decide +kernel
theorem dL_borrow_24 : decode cL_borrow 24 = .ok (.iconst 5, 1) := by decide +kernel
theorem dL_borrow_25 : decode cL_borrow 25 = .ok (.iload 4, 2) := by decide +kernel
theorem dL_borrow_27 : decode cL_borrow 27 = .ok (.imul, 1) := by decide +kernel
theorem dL_borrow_28 : decode cL_borrow 28 = .ok (.iconst 4, 1) := by decide +kernel
theorem dL_borrow_29 : decode cL_borrow 29 = .ok (.iadd, 1) := by decide +kernel
theorem dL_borrow_30 : decode cL_borrow 30 = .ok (.iaload, 1) := by decide +kernel
theorem dL_borrow_31 : decode cL_borrow 31 = .ok (.ifCond .ne 163, 3) := by decide +kernel
theorem dL_borrow_34 : decode cL_borrow 34 = .ok (.iload 5, 2) := by decide +kernel
theorem dL_borrow_36 : decode cL_borrow 36 = .ok (.ifCond .le 158, 3) := by decide +kernel
theorem dL_borrow_39 : decode cL_borrow 39 = .ok (.iconst (-1), 1) := by decide +kernel
theorem dL_borrow_40 : decode cL_borrow 40 = .ok (.istore 6, 2) := by decide +kernel
theorem dL_borrow_42 : decode cL_borrow 42 = .ok (.aload_n 0, 1) := by decide +kernel
theorem dL_borrow_43 : decode cL_borrow 43 = .ok (.iconst 1, 1) := by decide +kernel
theorem dL_borrow_44 : decode cL_borrow 44 = .ok (.iaload, 1) := by decide +kernel
theorem dL_borrow_45 : decode cL_borrow 45 = .ok (.iconst 1, 1) := by decide +kernel
theorem dL_borrow_46 : decode cL_borrow 46 = .ok (.isub, 1) := by decide +kernel
theorem dL_borrow_47 : decode cL_borrow 47 = .ok (.istore 7, 2) := by decide +kernel
theorem dL_borrow_49 : decode cL_borrow 49 = .ok (.iload 7, 2) := by decide +kernel
theorem dL_borrow_51 : decode cL_borrow 51 = .ok (.ifCond .lt 60, 3) := by decide +kernel
theorem dL_borrow_54 : decode cL_borrow 54 = .ok (.iload 7, 2) := by decide +kernel
theorem dL_borrow_56 : decode cL_borrow 56 = .ok (.iload 4, 2) := by decide +kernel
theorem dL_borrow_58 : decode cL_borrow 58 = .ok (.if_icmp .eq 43, 3) := by decide +kernel
theorem dL_borrow_61 : decode cL_borrow 61 = .ok (.aload_n 1, 1) := by decide +kernel
theorem dL_borrow_62 : decode cL_borrow 62 = .ok (.iconst 5, 1) := by decide +kernel
theorem dL_borrow_63 : decode cL_borrow 63 = .ok (.iload 7, 2) := by decide +kernel
theorem dL_borrow_65 : decode cL_borrow 65 = .ok (.imul, 1) := by decide +kernel
theorem dL_borrow_66 : decode cL_borrow 66 = .ok (.iconst 4, 1) := by decide +kernel
theorem dL_borrow_67 : decode cL_borrow 67 = .ok (.iadd, 1) := by decide +kernel
theorem dL_borrow_68 : decode cL_borrow 68 = .ok (.iaload, 1) := by decide +kernel
theorem dL_borrow_69 : decode cL_borrow 69 = .ok (.ifCond .ne 32, 3) := by decide +kernel
theorem dL_borrow_72 : decode cL_borrow 72 = .ok (.iload 6, 2) := by decide +kernel
theorem dL_borrow_74 : decode cL_borrow 74 = .ok (.ifCond .lt 22, 3) := by decide +kernel
theorem dL_borrow_77 : decode cL_borrow 77 = .ok (.aload_n 1, 1) := by decide +kernel
theorem dL_borrow_78 : decode cL_borrow 78 = .ok (.iconst 5, 1) := by decide +kernel
theorem dL_borrow_79 : decode cL_borrow 79 = .ok (.iload 7, 2) := by decide +kernel
theorem dL_borrow_81 : decode cL_borrow 81 = .ok (.imul, 1) := by decide +kernel
theorem dL_borrow_82 : decode cL_borrow 82 = .ok (.iconst 1, 1) := by decide +kernel
theorem dL_borrow_83 : decode cL_borrow 83 = .ok (.iadd, 1) := by decide +kernel
theorem dL_borrow_84 : decode cL_borrow 84 = .ok (.iaload, 1) := by decide +kernel
theorem dL_borrow_85 : decode cL_borrow 85 = .ok (.aload_n 1, 1) := by decide +kernel
theorem dL_borrow_86 : decode cL_borrow 86 = .ok (.iconst 5, 1) := by decide +kernel
theorem dL_borrow_87 : decode cL_borrow 87 = .ok (.iload 6, 2) := by decide +kernel
theorem dL_borrow_89 : decode cL_borrow 89 = .ok (.imul, 1) := by decide +kernel
theorem dL_borrow_90 : decode cL_borrow 90 = .ok (.iconst 1, 1) := by decide +kernel
theorem dL_borrow_91 : decode cL_borrow 91 = .ok (.iadd, 1) := by decide +kernel
theorem dL_borrow_92 : decode cL_borrow 92 = .ok (.iaload, 1) := by decide +kernel
theorem dL_borrow_93 : decode cL_borrow 93 = .ok (.if_icmp .lt 8, 3) := by decide +kernel
theorem dL_borrow_96 : decode cL_borrow 96 = .ok (.iload 7, 2) := by decide +kernel
theorem dL_borrow_98 : decode cL_borrow 98 = .ok (.goto 5, 3) := by decide +kernel
theorem dL_borrow_101 : decode cL_borrow 101 = .ok (.iload 6, 2) := by decide +kernel
theorem dL_borrow_103 : decode cL_borrow 103 = .ok (.istore 6, 2) := by decide +kernel
theorem dL_borrow_105 : decode cL_borrow 105 = .ok (.iinc 7 (-1), 3) := by decide +kernel
theorem dL_borrow_108 : decode cL_borrow 108 = .ok (.goto (-59), 3) := by decide +kernel
theorem dL_borrow_111 : decode cL_borrow 111 = .ok (.iload 6, 2) := by decide +kernel
theorem dL_borrow_113 : decode cL_borrow 113 = .ok (.ifCond .lt 21, 3) := by decide +kernel
theorem dL_borrow_116 : decode cL_borrow 116 = .ok (.aload_n 1, 1) := by decide +kernel
theorem dL_borrow_117 : decode cL_borrow 117 = .ok (.iconst 5, 1) := by decide +kernel
theorem dL_borrow_118 : decode cL_borrow 118 = .ok (.iload 4, 2) := by decide +kernel
theorem dL_borrow_120 : decode cL_borrow 120 = .ok (.imul, 1) := by decide +kernel
theorem dL_borrow_121 : decode cL_borrow 121 = .ok (.iaload, 1) := by decide +kernel
theorem dL_borrow_122 : decode cL_borrow 122 = .ok (.iload_n 3, 1) := by decide +kernel
theorem dL_borrow_123 : decode cL_borrow 123 = .ok (.if_icmp .lt 11, 3) := by decide +kernel
theorem dL_borrow_126 : decode cL_borrow 126 = .ok (.aload_n 0, 1) := by decide +kernel
theorem dL_borrow_127 : decode cL_borrow 127 = .ok (.iconst 2, 1) := by decide +kernel
theorem dL_borrow_128 : decode cL_borrow 128 = .ok (.iaload, 1) := by decide +kernel
theorem dL_borrow_129 : decode cL_borrow 129 = .ok (.bipush 12, 2) := by decide +kernel
theorem dL_borrow_131 : decode cL_borrow 131 = .ok (.if_icmp .ne 5, 3) := by decide +kernel
theorem dL_borrow_134 : decode cL_borrow 134 = .ok (.iconst 0, 1) := by decide +kernel
theorem dL_borrow_135 : decode cL_borrow 135 = .ok (.ireturn, 1) := by decide +kernel
theorem dL_borrow_136 : decode cL_borrow 136 = .ok (.iconst 1, 1) := by decide +kernel
theorem dL_borrow_137 : decode cL_borrow 137 = .ok (.istore 7, 2) := by decide +kernel
theorem dL_borrow_139 : decode cL_borrow 139 = .ok (.iload 7, 2) := by decide +kernel
theorem dL_borrow_141 : decode cL_borrow 141 = .ok (.iload 7, 2) := by decide +kernel
theorem dL_borrow_143 : decode cL_borrow 143 = .ok (.iload 6, 2) := by decide +kernel
theorem dL_borrow_145 : decode cL_borrow 145 = .ok (.iload 4, 2) := by decide +kernel
theorem dL_borrow_147 : decode cL_borrow 147 = .ok (.invokestatic 42, 3) := by decide +kernel
theorem dL_borrow_150 : decode cL_borrow 150 = .ok (.isub, 1) := by decide +kernel
theorem dL_borrow_151 : decode cL_borrow 151 = .ok (.iload 5, 2) := by decide +kernel
theorem dL_borrow_153 : decode cL_borrow 153 = .ok (.if_icmp .ge 9, 3) := by decide +kernel
theorem dL_borrow_156 : decode cL_borrow 156 = .ok (.iinc 7 1, 3) := by decide +kernel
theorem dL_borrow_159 : decode cL_borrow 159 = .ok (.goto (-20), 3) := by decide +kernel
theorem dL_borrow_162 : decode cL_borrow 162 = .ok (.aload_n 1, 1) := by decide +kernel
theorem dL_borrow_163 : decode cL_borrow 163 = .ok (.iconst 5, 1) := by decide +kernel
theorem dL_borrow_164 : decode cL_borrow 164 = .ok (.iload 6, 2) := by decide +kernel
theorem dL_borrow_166 : decode cL_borrow 166 = .ok (.imul, 1) := by decide +kernel
theorem dL_borrow_167 : decode cL_borrow 167 = .ok (.iconst 1, 1) := by decide +kernel
theorem dL_borrow_168 : decode cL_borrow 168 = .ok (.iadd, 1) := by decide +kernel
theorem dL_borrow_169 : decode cL_borrow 169 = .ok (.iaload, 1) := by decide +kernel
theorem dL_borrow_170 : decode cL_borrow 170 = .ok (.iload_n 3, 1) := by decide +kernel
theorem dL_borrow_171 : decode cL_borrow 171 = .ok (.iload 7, 2) := by decide +kernel
theorem dL_borrow_173 : decode cL_borrow 173 = .ok (.iadd, 1) := by decide +kernel
theorem dL_borrow_174 : decode cL_borrow 174 = .ok (.if_icmp .ge 5, 3) := by decide +kernel
theorem dL_borrow_177 : decode cL_borrow 177 = .ok (.iconst 0, 1) := by decide +kernel
theorem dL_borrow_178 : decode cL_borrow 178 = .ok (.ireturn, 1) := by decide +kernel
theorem dL_borrow_179 : decode cL_borrow 179 = .ok (.aload_n 0, 1) := by decide +kernel
theorem dL_borrow_180 : decode cL_borrow 180 = .ok (.aload_n 1, 1) := by decide +kernel
theorem dL_borrow_181 : decode cL_borrow 181 = .ok (.aload_n 2, 1) := by decide +kernel
theorem dL_borrow_182 : decode cL_borrow 182 = .ok (.iload 6, 2) := by decide +kernel
theorem dL_borrow_184 : decode cL_borrow 184 = .ok (.iload 4, 2) := by decide +kernel
theorem dL_borrow_186 : decode cL_borrow 186 = .ok (.iload 7, 2) := by decide +kernel
theorem dL_borrow_188 : decode cL_borrow 188 = .ok (.bipush 10, 2) := by decide +kernel
theorem dL_borrow_190 : decode cL_borrow 190 = .ok (.invokestatic 67, 3) := by decide +kernel
theorem dL_borrow_193 : decode cL_borrow 193 = .ok (.pop, 1) := by decide +kernel
theorem dL_borrow_194 : decode cL_borrow 194 = .ok (.iinc 4 1, 3) := by decide +kernel
theorem dL_borrow_197 : decode cL_borrow 197 = .ok (.goto (-194), 3) := by decide +kernel
theorem dL_borrow_200 : decode cL_borrow 200 = .ok (.iconst 1, 1) := by decide +kernel
theorem dL_borrow_201 : decode cL_borrow 201 = .ok (.ireturn, 1) := by decide +kernel
theorem dL_areCells_0 : decode cL_areCells 0 = .ok (.iconst 0, 1) := by decide +kernel
theorem dL_areCells_1 : decode cL_areCells 1 = .ok (.istore 4, 2) := by decide +kernel
theorem dL_areCells_3 : decode cL_areCells 3 = .ok (.iconst 0, 1) := by decide +kernel
theorem dL_areCells_4 : decode cL_areCells 4 = .ok (.istore 5, 2) := by decide +kernel
theorem dL_areCells_6 : decode cL_areCells 6 = .ok (.iconst 0, 1) := by decide +kernel
theorem dL_areCells_7 : decode cL_areCells 7 = .ok (.istore 6, 2) := by decide +kernel
theorem dL_areCells_9 : decode cL_areCells 9 = .ok (.iload 6, 2) := by decide +kernel
theorem dL_areCells_11 : decode cL_areCells 11 = .ok (.aload_n 1, 1) := by decide +kernel
theorem dL_areCells_12 : decode cL_areCells 12 = .ok (.iconst 1, 1) := by decide +kernel
theorem dL_areCells_13 : decode cL_areCells 13 = .ok (.iaload, 1) := by decide +kernel
theorem dL_areCells_14 : decode cL_areCells 14 = .ok (.if_icmp .ge 257, 3) := by decide +kernel
theorem dL_areCells_17 : decode cL_areCells 17 = .ok (.iconst 5, 1) := by decide +kernel
theorem dL_areCells_18 : decode cL_areCells 18 = .ok (.iload 6, 2) := by decide +kernel
theorem dL_areCells_20 : decode cL_areCells 20 = .ok (.imul, 1) := by decide +kernel
theorem dL_areCells_21 : decode cL_areCells 21 = .ok (.istore 7, 2) := by decide +kernel
theorem dL_areCells_23 : decode cL_areCells 23 = .ok (.aload_n 1, 1) := by decide +kernel
theorem dL_areCells_24 : decode cL_areCells 24 = .ok (.aload_n 3, 1) := by decide +kernel
theorem dL_areCells_25 : decode cL_areCells 25 = .ok (.iload 6, 2) := by decide +kernel
theorem dL_areCells_27 : decode cL_areCells 27 = .ok (.iconst 1, 1) := by decide +kernel
theorem dL_areCells_28 : decode cL_areCells 28 = .ok (.invokestatic 51, 3) := by decide +kernel
theorem dL_areCells_31 : decode cL_areCells 31 = .ok (.istore 8, 2) := by decide +kernel
theorem dL_areCells_33 : decode cL_areCells 33 = .ok (.iconst 0, 1) := by decide +kernel
theorem dL_areCells_34 : decode cL_areCells 34 = .ok (.istore 9, 2) := by decide +kernel
theorem dL_areCells_36 : decode cL_areCells 36 = .ok (.iconst 0, 1) := by decide +kernel
theorem dL_areCells_37 : decode cL_areCells 37 = .ok (.istore 10, 2) := by decide +kernel
theorem dL_areCells_39 : decode cL_areCells 39 = .ok (.iload 10, 2) := by decide +kernel
theorem dL_areCells_41 : decode cL_areCells 41 = .ok (.aload_n 1, 1) := by decide +kernel
theorem dL_areCells_42 : decode cL_areCells 42 = .ok (.iconst 2, 1) := by decide +kernel
theorem dL_areCells_43 : decode cL_areCells 43 = .ok (.iaload, 1) := by decide +kernel
theorem dL_areCells_44 : decode cL_areCells 44 = .ok (.if_icmp .ge 37, 3) := by decide +kernel
theorem dL_areCells_47 : decode cL_areCells 47 = .ok (.iload 9, 2) := by decide +kernel
theorem dL_areCells_49 : decode cL_areCells 49 = .ok (.aload_n 3, 1) := by decide +kernel
theorem dL_areCells_50 : decode cL_areCells 50 = .ok (.iconst 5, 1) := by decide +kernel
theorem dL_areCells_51 : decode cL_areCells 51 = .ok (.iload 10, 2) := by decide +kernel
theorem dL_areCells_53 : decode cL_areCells 53 = .ok (.imul, 1) := by decide +kernel
theorem dL_areCells_54 : decode cL_areCells 54 = .ok (.iconst 1, 1) := by decide +kernel
theorem dL_areCells_55 : decode cL_areCells 55 = .ok (.iadd, 1) := by decide +kernel
theorem dL_areCells_56 : decode cL_areCells 56 = .ok (.iaload, 1) := by decide +kernel
theorem dL_areCells_57 : decode cL_areCells 57 = .ok (.iload 6, 2) := by decide +kernel
theorem dL_areCells_59 : decode cL_areCells 59 = .ok (.if_icmp .ne 12, 3) := by decide +kernel
theorem dL_areCells_62 : decode cL_areCells 62 = .ok (.aload_n 3, 1) := by decide +kernel
theorem dL_areCells_63 : decode cL_areCells 63 = .ok (.iload 10, 2) := by decide +kernel
theorem dL_areCells_65 : decode cL_areCells 65 = .ok (.invokestatic 59, 3) := by decide +kernel
theorem dL_areCells_68 : decode cL_areCells 68 = .ok (.goto 4, 3) := by decide +kernel
theorem dL_areCells_71 : decode cL_areCells 71 = .ok (.iconst 0, 1) := by decide +kernel
theorem dL_areCells_72 : decode cL_areCells 72 = .ok (.iadd, 1) := by decide +kernel
theorem dL_areCells_73 : decode cL_areCells 73 = .ok (.istore 9, 2) := by decide +kernel
theorem dL_areCells_75 : decode cL_areCells 75 = .ok (.iinc 10 1, 3) := by decide +kernel
theorem dL_areCells_78 : decode cL_areCells 78 = .ok (.goto (-39), 3) := by decide +kernel
theorem dL_areCells_81 : decode cL_areCells 81 = .ok (.aload_n 2, 1) := by decide +kernel
theorem dL_areCells_82 : decode cL_areCells 82 = .ok (.iload 7, 2) := by decide +kernel
theorem dL_areCells_84 : decode cL_areCells 84 = .ok (.iconst 4, 1) := by decide +kernel
theorem dL_areCells_85 : decode cL_areCells 85 = .ok (.iadd, 1) := by decide +kernel
theorem dL_areCells_86 : decode cL_areCells 86 = .ok (.iaload, 1) := by decide +kernel
theorem dL_areCells_87 : decode cL_areCells 87 = .ok (.iconst 1, 1) := by decide +kernel
theorem dL_areCells_88 : decode cL_areCells 88 = .ok (.if_icmp .ne 7, 3) := by decide +kernel
theorem dL_areCells_91 : decode cL_areCells 91 = .ok (.iconst 3, 1) := by decide +kernel
theorem dL_areCells_92 : decode cL_areCells 92 = .ok (.goto 26, 3) := by decide +kernel
theorem dL_areCells_95 : decode cL_areCells 95 = .ok (.aload_n 2, 1) := by decide +kernel
theorem dL_areCells_96 : decode cL_areCells 96 = .ok (.iload 7, 2) := by decide +kernel
theorem dL_areCells_98 : decode cL_areCells 98 = .ok (.iconst 3, 1) := by decide +kernel
theorem dL_areCells_99 : decode cL_areCells 99 = .ok (.iadd, 1) := by decide +kernel
theorem dL_areCells_100 : decode cL_areCells 100 = .ok (.iaload, 1) := by decide +kernel
theorem dL_areCells_101 : decode cL_areCells 101 = .ok (.ifCond .le 7, 3) := by decide +kernel
theorem dL_areCells_104 : decode cL_areCells 104 = .ok (.iconst 2, 1) := by decide +kernel
theorem dL_areCells_105 : decode cL_areCells 105 = .ok (.goto 13, 3) := by decide +kernel
theorem dL_areCells_108 : decode cL_areCells 108 = .ok (.iload 8, 2) := by decide +kernel
theorem dL_areCells_110 : decode cL_areCells 110 = .ok (.ifCond .le 7, 3) := by decide +kernel
theorem dL_areCells_113 : decode cL_areCells 113 = .ok (.iconst 1, 1) := by decide +kernel
theorem dL_areCells_114 : decode cL_areCells 114 = .ok (.goto 4, 3) := by decide +kernel
theorem dL_areCells_117 : decode cL_areCells 117 = .ok (.iconst 0, 1) := by decide +kernel
theorem dL_areCells_118 : decode cL_areCells 118 = .ok (.istore 10, 2) := by decide +kernel
theorem dL_areCells_120 : decode cL_areCells 120 = .ok (.aload_n 0, 1) := by decide +kernel
theorem dL_areCells_121 : decode cL_areCells 121 = .ok (.iload 6, 2) := by decide +kernel
theorem dL_areCells_123 : decode cL_areCells 123 = .ok (.iconst 0, 1) := by decide +kernel
theorem dL_areCells_124 : decode cL_areCells 124 = .ok (.invokevirtual 71, 3) := by decide +kernel
theorem dL_areCells_127 : decode cL_areCells 127 = .ok (.aload_n 2, 1) := by decide +kernel
theorem dL_areCells_128 : decode cL_areCells 128 = .ok (.iload 7, 2) := by decide +kernel
theorem dL_areCells_130 : decode cL_areCells 130 = .ok (.iaload, 1) := by decide +kernel
theorem dL_areCells_131 : decode cL_areCells 131 = .ok (.if_icmp .ne 107, 3) := by decide +kernel
theorem dL_areCells_134 : decode cL_areCells 134 = .ok (.aload_n 0, 1) := by decide +kernel
theorem dL_areCells_135 : decode cL_areCells 135 = .ok (.iload 6, 2) := by decide +kernel
theorem dL_areCells_137 : decode cL_areCells 137 = .ok (.iconst 1, 1) := by decide +kernel
theorem dL_areCells_138 : decode cL_areCells 138 = .ok (.invokevirtual 71, 3) := by decide +kernel
theorem dL_areCells_141 : decode cL_areCells 141 = .ok (.aload_n 2, 1) := by decide +kernel
theorem dL_areCells_142 : decode cL_areCells 142 = .ok (.iload 7, 2) := by decide +kernel
theorem dL_areCells_144 : decode cL_areCells 144 = .ok (.iconst 1, 1) := by decide +kernel
theorem dL_areCells_145 : decode cL_areCells 145 = .ok (.iadd, 1) := by decide +kernel
theorem dL_areCells_146 : decode cL_areCells 146 = .ok (.iaload, 1) := by decide +kernel
theorem dL_areCells_147 : decode cL_areCells 147 = .ok (.if_icmp .ne 91, 3) := by decide +kernel
theorem dL_areCells_150 : decode cL_areCells 150 = .ok (.aload_n 0, 1) := by decide +kernel
theorem dL_areCells_151 : decode cL_areCells 151 = .ok (.iload 6, 2) := by decide +kernel
theorem dL_areCells_153 : decode cL_areCells 153 = .ok (.iconst 2, 1) := by decide +kernel
theorem dL_areCells_154 : decode cL_areCells 154 = .ok (.invokevirtual 71, 3) := by decide +kernel
theorem dL_areCells_157 : decode cL_areCells 157 = .ok (.aload_n 2, 1) := by decide +kernel
theorem dL_areCells_158 : decode cL_areCells 158 = .ok (.iload 7, 2) := by decide +kernel
theorem dL_areCells_160 : decode cL_areCells 160 = .ok (.iconst 2, 1) := by decide +kernel
theorem dL_areCells_161 : decode cL_areCells 161 = .ok (.iadd, 1) := by decide +kernel
theorem dL_areCells_162 : decode cL_areCells 162 = .ok (.iaload, 1) := by decide +kernel
theorem dL_areCells_163 : decode cL_areCells 163 = .ok (.if_icmp .ne 75, 3) := by decide +kernel
theorem dL_areCells_166 : decode cL_areCells 166 = .ok (.aload_n 0, 1) := by decide +kernel
theorem dL_areCells_167 : decode cL_areCells 167 = .ok (.iload 6, 2) := by decide +kernel
theorem dL_areCells_169 : decode cL_areCells 169 = .ok (.iconst 3, 1) := by decide +kernel
theorem dL_areCells_170 : decode cL_areCells 170 = .ok (.invokevirtual 71, 3) := by decide +kernel
theorem dL_areCells_173 : decode cL_areCells 173 = .ok (.aload_n 2, 1) := by decide +kernel
theorem dL_areCells_174 : decode cL_areCells 174 = .ok (.iload 7, 2) := by decide +kernel
theorem dL_areCells_176 : decode cL_areCells 176 = .ok (.iconst 3, 1) := by decide +kernel
theorem dL_areCells_177 : decode cL_areCells 177 = .ok (.iadd, 1) := by decide +kernel
theorem dL_areCells_178 : decode cL_areCells 178 = .ok (.iaload, 1) := by decide +kernel
theorem dL_areCells_179 : decode cL_areCells 179 = .ok (.if_icmp .ne 59, 3) := by decide +kernel
theorem dL_areCells_182 : decode cL_areCells 182 = .ok (.aload_n 0, 1) := by decide +kernel
theorem dL_areCells_183 : decode cL_areCells 183 = .ok (.iload 6, 2) := by decide +kernel
theorem dL_areCells_185 : decode cL_areCells 185 = .ok (.iconst 4, 1) := by decide +kernel
theorem dL_areCells_186 : decode cL_areCells 186 = .ok (.invokevirtual 71, 3) := by decide +kernel
theorem dL_areCells_189 : decode cL_areCells 189 = .ok (.iload 8, 2) := by decide +kernel
theorem dL_areCells_191 : decode cL_areCells 191 = .ok (.if_icmp .ne 47, 3) := by decide +kernel
theorem dL_areCells_194 : decode cL_areCells 194 = .ok (.aload_n 0, 1) := by decide +kernel
theorem dL_areCells_195 : decode cL_areCells 195 = .ok (.iload 6, 2) := by decide +kernel
theorem dL_areCells_197 : decode cL_areCells 197 = .ok (.iconst 5, 1) := by decide +kernel
theorem dL_areCells_198 : decode cL_areCells 198 = .ok (.invokevirtual 71, 3) := by decide +kernel
theorem dL_areCells_201 : decode cL_areCells 201 = .ok (.aload_n 1, 1) := by decide +kernel
theorem dL_areCells_202 : decode cL_areCells 202 = .ok (.aload_n 3, 1) := by decide +kernel
theorem dL_areCells_203 : decode cL_areCells 203 = .ok (.iload 6, 2) := by decide +kernel
theorem dL_areCells_205 : decode cL_areCells 205 = .ok (.iconst 0, 1) := by decide +kernel
theorem dL_areCells_206 : decode cL_areCells 206 = .ok (.invokestatic 51, 3) := by decide +kernel
theorem dL_areCells_209 : decode cL_areCells 209 = .ok (.if_icmp .ne 29, 3) := by decide +kernel
theorem dL_areCells_212 : decode cL_areCells 212 = .ok (.aload_n 0, 1) := by decide +kernel
theorem dL_areCells_213 : decode cL_areCells 213 = .ok (.iload 6, 2) := by decide +kernel
theorem dL_areCells_215 : decode cL_areCells 215 = .ok (.bipush 6, 2) := by decide +kernel
theorem dL_areCells_217 : decode cL_areCells 217 = .ok (.invokevirtual 71, 3) := by decide +kernel
theorem dL_areCells_220 : decode cL_areCells 220 = .ok (.iload 9, 2) := by decide +kernel
theorem dL_areCells_222 : decode cL_areCells 222 = .ok (.if_icmp .ne 16, 3) := by decide +kernel
theorem dL_areCells_225 : decode cL_areCells 225 = .ok (.aload_n 0, 1) := by decide +kernel
theorem dL_areCells_226 : decode cL_areCells 226 = .ok (.iload 6, 2) := by decide +kernel
theorem dL_areCells_228 : decode cL_areCells 228 = .ok (.bipush 7, 2) := by decide +kernel
theorem dL_areCells_230 : decode cL_areCells 230 = .ok (.invokevirtual 71, 3) := by decide +kernel
theorem dL_areCells_233 : decode cL_areCells 233 = .ok (.iload 10, 2) := by decide +kernel
theorem dL_areCells_235 : decode cL_areCells 235 = .ok (.if_icmp .eq 5, 3) := by decide +kernel
theorem dL_areCells_238 : decode cL_areCells 238 = .ok (.iconst 0, 1) := by decide +kernel
theorem dL_areCells_239 : decode cL_areCells 239 = .ok (.ireturn, 1) := by decide +kernel
theorem dL_areCells_240 : decode cL_areCells 240 = .ok (.iload 4, 2) := by decide +kernel
theorem dL_areCells_242 : decode cL_areCells 242 = .ok (.aload_n 2, 1) := by decide +kernel
theorem dL_areCells_243 : decode cL_areCells 243 = .ok (.iload 7, 2) := by decide +kernel
theorem dL_areCells_245 : decode cL_areCells 245 = .ok (.iconst 1, 1) := by decide +kernel
theorem dL_areCells_246 : decode cL_areCells 246 = .ok (.iadd, 1) := by decide +kernel
theorem dL_areCells_247 : decode cL_areCells 247 = .ok (.iaload, 1) := by decide +kernel
theorem dL_areCells_248 : decode cL_areCells 248 = .ok (.iadd, 1) := by decide +kernel
theorem dL_areCells_249 : decode cL_areCells 249 = .ok (.istore 4, 2) := by decide +kernel
theorem dL_areCells_251 : decode cL_areCells 251 = .ok (.iload 5, 2) := by decide +kernel
theorem dL_areCells_253 : decode cL_areCells 253 = .ok (.aload_n 2, 1) := by decide +kernel
theorem dL_areCells_254 : decode cL_areCells 254 = .ok (.iload 7, 2) := by decide +kernel
theorem dL_areCells_256 : decode cL_areCells 256 = .ok (.iconst 4, 1) := by decide +kernel
theorem dL_areCells_257 : decode cL_areCells 257 = .ok (.iadd, 1) := by decide +kernel
theorem dL_areCells_258 : decode cL_areCells 258 = .ok (.iaload, 1) := by decide +kernel
theorem dL_areCells_259 : decode cL_areCells 259 = .ok (.iload 6, 2) := by decide +kernel
theorem dL_areCells_261 : decode cL_areCells 261 = .ok (.ishl, 1) := by decide +kernel
theorem dL_areCells_262 : decode cL_areCells 262 = .ok (.ior, 1) := by decide +kernel
theorem dL_areCells_263 : decode cL_areCells 263 = .ok (.istore 5, 2) := by decide +kernel
theorem dL_areCells_265 : decode cL_areCells 265 = .ok (.iinc 6 1, 3) := by decide +kernel
theorem dL_areCells_268 : decode cL_areCells 268 = .ok (.goto (-259), 3) := by decide +kernel
theorem dL_areCells_271 : decode cL_areCells 271 = .ok (.iconst 0, 1) := by decide +kernel
theorem dL_areCells_272 : decode cL_areCells 272 = .ok (.istore 6, 2) := by decide +kernel
theorem dL_areCells_274 : decode cL_areCells 274 = .ok (.iconst 0, 1) := by decide +kernel
theorem dL_areCells_275 : decode cL_areCells 275 = .ok (.istore 7, 2) := by decide +kernel
theorem dL_areCells_277 : decode cL_areCells 277 = .ok (.iload 7, 2) := by decide +kernel
theorem dL_areCells_279 : decode cL_areCells 279 = .ok (.aload_n 1, 1) := by decide +kernel
theorem dL_areCells_280 : decode cL_areCells 280 = .ok (.iconst 2, 1) := by decide +kernel
theorem dL_areCells_281 : decode cL_areCells 281 = .ok (.iaload, 1) := by decide +kernel
theorem dL_areCells_282 : decode cL_areCells 282 = .ok (.if_icmp .ge 95, 3) := by decide +kernel
theorem dL_areCells_285 : decode cL_areCells 285 = .ok (.iconst 0, 1) := by decide +kernel
theorem dL_areCells_286 : decode cL_areCells 286 = .ok (.istore 8, 2) := by decide +kernel
theorem dL_areCells_288 : decode cL_areCells 288 = .ok (.iload 8, 2) := by decide +kernel
theorem dL_areCells_290 : decode cL_areCells 290 = .ok (.iconst 4, 1) := by decide +kernel
theorem dL_areCells_291 : decode cL_areCells 291 = .ok (.if_icmp .ge 31, 3) := by decide +kernel
theorem dL_areCells_294 : decode cL_areCells 294 = .ok (.aload_n 0, 1) := by decide +kernel
theorem dL_areCells_295 : decode cL_areCells 295 = .ok (.iload 7, 2) := by decide +kernel
theorem dL_areCells_297 : decode cL_areCells 297 = .ok (.iload 8, 2) := by decide +kernel
theorem dL_areCells_299 : decode cL_areCells 299 = .ok (.invokevirtual 74, 3) := by decide +kernel
theorem dL_areCells_302 : decode cL_areCells 302 = .ok (.aload_n 3, 1) := by decide +kernel
theorem dL_areCells_303 : decode cL_areCells 303 = .ok (.iconst 5, 1) := by decide +kernel
theorem dL_areCells_304 : decode cL_areCells 304 = .ok (.iload 7, 2) := by decide +kernel
theorem dL_areCells_306 : decode cL_areCells 306 = .ok (.imul, 1) := by decide +kernel
theorem dL_areCells_307 : decode cL_areCells 307 = .ok (.iload 8, 2) := by decide +kernel
theorem dL_areCells_309 : decode cL_areCells 309 = .ok (.iadd, 1) := by decide +kernel
theorem dL_areCells_310 : decode cL_areCells 310 = .ok (.iaload, 1) := by decide +kernel
theorem dL_areCells_311 : decode cL_areCells 311 = .ok (.if_icmp .eq 5, 3) := by decide +kernel
theorem dL_areCells_314 : decode cL_areCells 314 = .ok (.iconst 0, 1) := by decide +kernel
theorem dL_areCells_315 : decode cL_areCells 315 = .ok (.ireturn, 1) := by decide +kernel
theorem dL_areCells_316 : decode cL_areCells 316 = .ok (.iinc 8 1, 3) := by decide +kernel
theorem dL_areCells_319 : decode cL_areCells 319 = .ok (.goto (-31), 3) := by decide +kernel
theorem dL_areCells_322 : decode cL_areCells 322 = .ok (.aload_n 0, 1) := by decide +kernel
theorem dL_areCells_323 : decode cL_areCells 323 = .ok (.iload 7, 2) := by decide +kernel
theorem dL_areCells_325 : decode cL_areCells 325 = .ok (.iconst 4, 1) := by decide +kernel
theorem dL_areCells_326 : decode cL_areCells 326 = .ok (.invokevirtual 74, 3) := by decide +kernel
theorem dL_areCells_329 : decode cL_areCells 329 = .ok (.aload_n 3, 1) := by decide +kernel
theorem dL_areCells_330 : decode cL_areCells 330 = .ok (.iload 7, 2) := by decide +kernel
theorem dL_areCells_332 : decode cL_areCells 332 = .ok (.invokestatic 59, 3) := by decide +kernel
theorem dL_areCells_335 : decode cL_areCells 335 = .ok (.if_icmp .ne 21, 3) := by decide +kernel
theorem dL_areCells_338 : decode cL_areCells 338 = .ok (.aload_n 0, 1) := by decide +kernel
theorem dL_areCells_339 : decode cL_areCells 339 = .ok (.iload 7, 2) := by decide +kernel
theorem dL_areCells_341 : decode cL_areCells 341 = .ok (.iconst 5, 1) := by decide +kernel
theorem dL_areCells_342 : decode cL_areCells 342 = .ok (.invokevirtual 74, 3) := by decide +kernel
theorem dL_areCells_345 : decode cL_areCells 345 = .ok (.aload_n 3, 1) := by decide +kernel
theorem dL_areCells_346 : decode cL_areCells 346 = .ok (.iconst 5, 1) := by decide +kernel
theorem dL_areCells_347 : decode cL_areCells 347 = .ok (.iload 7, 2) := by decide +kernel
theorem dL_areCells_349 : decode cL_areCells 349 = .ok (.imul, 1) := by decide +kernel
theorem dL_areCells_350 : decode cL_areCells 350 = .ok (.iconst 4, 1) := by decide +kernel
theorem dL_areCells_351 : decode cL_areCells 351 = .ok (.iadd, 1) := by decide +kernel
theorem dL_areCells_352 : decode cL_areCells 352 = .ok (.iaload, 1) := by decide +kernel
theorem dL_areCells_353 : decode cL_areCells 353 = .ok (.if_icmp .eq 5, 3) := by decide +kernel
theorem dL_areCells_356 : decode cL_areCells 356 = .ok (.iconst 0, 1) := by decide +kernel
theorem dL_areCells_357 : decode cL_areCells 357 = .ok (.ireturn, 1) := by decide +kernel
theorem dL_areCells_358 : decode cL_areCells 358 = .ok (.iload 6, 2) := by decide +kernel
theorem dL_areCells_360 : decode cL_areCells 360 = .ok (.aload_n 3, 1) := by decide +kernel
theorem dL_areCells_361 : decode cL_areCells 361 = .ok (.iconst 5, 1) := by decide +kernel
theorem dL_areCells_362 : decode cL_areCells 362 = .ok (.iload 7, 2) := by decide +kernel
theorem dL_areCells_364 : decode cL_areCells 364 = .ok (.imul, 1) := by decide +kernel
theorem dL_areCells_365 : decode cL_areCells 365 = .ok (.iconst 2, 1) := by decide +kernel
theorem dL_areCells_366 : decode cL_areCells 366 = .ok (.iadd, 1) := by decide +kernel
theorem dL_areCells_367 : decode cL_areCells 367 = .ok (.iaload, 1) := by decide +kernel
theorem dL_areCells_368 : decode cL_areCells 368 = .ok (.iadd, 1) := by decide +kernel
theorem dL_areCells_369 : decode cL_areCells 369 = .ok (.istore 6, 2) := by decide +kernel
theorem dL_areCells_371 : decode cL_areCells 371 = .ok (.iinc 7 1, 3) := by decide +kernel
theorem dL_areCells_374 : decode cL_areCells 374 = .ok (.goto (-97), 3) := by decide +kernel
theorem dL_areCells_377 : decode cL_areCells 377 = .ok (.aload_n 0, 1) := by decide +kernel
theorem dL_areCells_378 : decode cL_areCells 378 = .ok (.iconst 0, 1) := by decide +kernel
theorem dL_areCells_379 : decode cL_areCells 379 = .ok (.invokevirtual 77, 3) := by decide +kernel
theorem dL_areCells_382 : decode cL_areCells 382 = .ok (.aload_n 1, 1) := by decide +kernel
theorem dL_areCells_383 : decode cL_areCells 383 = .ok (.iconst 1, 1) := by decide +kernel
theorem dL_areCells_384 : decode cL_areCells 384 = .ok (.iaload, 1) := by decide +kernel
theorem dL_areCells_385 : decode cL_areCells 385 = .ok (.if_icmp .ne 73, 3) := by decide +kernel
theorem dL_areCells_388 : decode cL_areCells 388 = .ok (.aload_n 0, 1) := by decide +kernel
theorem dL_areCells_389 : decode cL_areCells 389 = .ok (.iconst 1, 1) := by decide +kernel
theorem dL_areCells_390 : decode cL_areCells 390 = .ok (.invokevirtual 77, 3) := by decide +kernel
theorem dL_areCells_393 : decode cL_areCells 393 = .ok (.aload_n 1, 1) := by decide +kernel
theorem dL_areCells_394 : decode cL_areCells 394 = .ok (.iconst 2, 1) := by decide +kernel
theorem dL_areCells_395 : decode cL_areCells 395 = .ok (.iaload, 1) := by decide +kernel
theorem dL_areCells_396 : decode cL_areCells 396 = .ok (.if_icmp .ne 62, 3) := by decide +kernel
theorem dL_areCells_399 : decode cL_areCells 399 = .ok (.aload_n 0, 1) := by decide +kernel
theorem dL_areCells_400 : decode cL_areCells 400 = .ok (.iconst 2, 1) := by decide +kernel
theorem dL_areCells_401 : decode cL_areCells 401 = .ok (.invokevirtual 77, 3) := by decide +kernel
theorem dL_areCells_404 : decode cL_areCells 404 = .ok (.aload_n 1, 1) := by decide +kernel
theorem dL_areCells_405 : decode cL_areCells 405 = .ok (.iconst 0, 1) := by decide +kernel
theorem dL_areCells_406 : decode cL_areCells 406 = .ok (.iaload, 1) := by decide +kernel
theorem dL_areCells_407 : decode cL_areCells 407 = .ok (.if_icmp .ne 51, 3) := by decide +kernel
theorem dL_areCells_410 : decode cL_areCells 410 = .ok (.aload_n 0, 1) := by decide +kernel
theorem dL_areCells_411 : decode cL_areCells 411 = .ok (.iconst 3, 1) := by decide +kernel
theorem dL_areCells_412 : decode cL_areCells 412 = .ok (.invokevirtual 77, 3) := by decide +kernel
theorem dL_areCells_415 : decode cL_areCells 415 = .ok (.iload 4, 2) := by decide +kernel
theorem dL_areCells_417 : decode cL_areCells 417 = .ok (.if_icmp .ne 41, 3) := by decide +kernel
theorem dL_areCells_420 : decode cL_areCells 420 = .ok (.aload_n 0, 1) := by decide +kernel
theorem dL_areCells_421 : decode cL_areCells 421 = .ok (.iconst 4, 1) := by decide +kernel
theorem dL_areCells_422 : decode cL_areCells 422 = .ok (.invokevirtual 77, 3) := by decide +kernel
theorem dL_areCells_425 : decode cL_areCells 425 = .ok (.aload_n 1, 1) := by decide +kernel
theorem dL_areCells_426 : decode cL_areCells 426 = .ok (.iconst 3, 1) := by decide +kernel
theorem dL_areCells_427 : decode cL_areCells 427 = .ok (.iaload, 1) := by decide +kernel
theorem dL_areCells_428 : decode cL_areCells 428 = .ok (.if_icmp .ne 30, 3) := by decide +kernel
theorem dL_areCells_431 : decode cL_areCells 431 = .ok (.aload_n 0, 1) := by decide +kernel
theorem dL_areCells_432 : decode cL_areCells 432 = .ok (.iconst 5, 1) := by decide +kernel
theorem dL_areCells_433 : decode cL_areCells 433 = .ok (.invokevirtual 77, 3) := by decide +kernel
theorem dL_areCells_436 : decode cL_areCells 436 = .ok (.aload_n 1, 1) := by decide +kernel
theorem dL_areCells_437 : decode cL_areCells 437 = .ok (.iconst 4, 1) := by decide +kernel
theorem dL_areCells_438 : decode cL_areCells 438 = .ok (.iaload, 1) := by decide +kernel
theorem dL_areCells_439 : decode cL_areCells 439 = .ok (.if_icmp .ne 19, 3) := by decide +kernel
theorem dL_areCells_442 : decode cL_areCells 442 = .ok (.aload_n 0, 1) := by decide +kernel
theorem dL_areCells_443 : decode cL_areCells 443 = .ok (.bipush 6, 2) := by decide +kernel
theorem dL_areCells_445 : decode cL_areCells 445 = .ok (.invokevirtual 77, 3) := by decide +kernel
theorem dL_areCells_448 : decode cL_areCells 448 = .ok (.aload_n 1, 1) := by decide +kernel
theorem dL_areCells_449 : decode cL_areCells 449 = .ok (.iconst 5, 1) := by decide +kernel
theorem dL_areCells_450 : decode cL_areCells 450 = .ok (.iaload, 1) := by decide +kernel
theorem dL_areCells_451 : decode cL_areCells 451 = .ok (.if_icmp .ne 7, 3) := by decide +kernel
theorem dL_areCells_454 : decode cL_areCells 454 = .ok (.iconst 1, 1) := by decide +kernel
theorem dL_areCells_455 : decode cL_areCells 455 = .ok (.goto 4, 3) := by decide +kernel
theorem dL_areCells_458 : decode cL_areCells 458 = .ok (.iconst 0, 1) := by decide +kernel
theorem dL_areCells_459 : decode cL_areCells 459 = .ok (.istore 7, 2) := by decide +kernel
theorem dL_areCells_461 : decode cL_areCells 461 = .ok (.iload 7, 2) := by decide +kernel
theorem dL_areCells_463 : decode cL_areCells 463 = .ok (.ifCond .eq 58, 3) := by decide +kernel
theorem dL_areCells_466 : decode cL_areCells 466 = .ok (.aload_n 0, 1) := by decide +kernel
theorem dL_areCells_467 : decode cL_areCells 467 = .ok (.bipush 7, 2) := by decide +kernel
theorem dL_areCells_469 : decode cL_areCells 469 = .ok (.invokevirtual 77, 3) := by decide +kernel
theorem dL_areCells_472 : decode cL_areCells 472 = .ok (.iload 6, 2) := by decide +kernel
theorem dL_areCells_474 : decode cL_areCells 474 = .ok (.if_icmp .ne 47, 3) := by decide +kernel
theorem dL_areCells_477 : decode cL_areCells 477 = .ok (.aload_n 0, 1) := by decide +kernel
theorem dL_areCells_478 : decode cL_areCells 478 = .ok (.bipush 8, 2) := by decide +kernel
theorem dL_areCells_480 : decode cL_areCells 480 = .ok (.invokevirtual 77, 3) := by decide +kernel
theorem dL_areCells_483 : decode cL_areCells 483 = .ok (.aload_n 1, 1) := by decide +kernel
theorem dL_areCells_484 : decode cL_areCells 484 = .ok (.bipush 6, 2) := by decide +kernel
theorem dL_areCells_486 : decode cL_areCells 486 = .ok (.iaload, 1) := by decide +kernel
theorem dL_areCells_487 : decode cL_areCells 487 = .ok (.if_icmp .ne 34, 3) := by decide +kernel
theorem dL_areCells_490 : decode cL_areCells 490 = .ok (.aload_n 0, 1) := by decide +kernel
theorem dL_areCells_491 : decode cL_areCells 491 = .ok (.bipush 9, 2) := by decide +kernel
theorem dL_areCells_493 : decode cL_areCells 493 = .ok (.invokevirtual 77, 3) := by decide +kernel
theorem dL_areCells_496 : decode cL_areCells 496 = .ok (.iload 5, 2) := by decide +kernel
theorem dL_areCells_498 : decode cL_areCells 498 = .ok (.if_icmp .ne 23, 3) := by decide +kernel
theorem dL_areCells_501 : decode cL_areCells 501 = .ok (.iload 4, 2) := by decide +kernel
theorem dL_areCells_503 : decode cL_areCells 503 = .ok (.aload_n 1, 1) := by decide +kernel
theorem dL_areCells_504 : decode cL_areCells 504 = .ok (.iconst 4, 1) := by decide +kernel
theorem dL_areCells_505 : decode cL_areCells 505 = .ok (.iaload, 1) := by decide +kernel
theorem dL_areCells_506 : decode cL_areCells 506 = .ok (.iadd, 1) := by decide +kernel
theorem dL_areCells_507 : decode cL_areCells 507 = .ok (.aload_n 1, 1) := by decide +kernel
theorem dL_areCells_508 : decode cL_areCells 508 = .ok (.iconst 5, 1) := by decide +kernel
theorem dL_areCells_509 : decode cL_areCells 509 = .ok (.iaload, 1) := by decide +kernel
theorem dL_areCells_510 : decode cL_areCells 510 = .ok (.iadd, 1) := by decide +kernel
theorem dL_areCells_511 : decode cL_areCells 511 = .ok (.aload_n 1, 1) := by decide +kernel
theorem dL_areCells_512 : decode cL_areCells 512 = .ok (.iconst 3, 1) := by decide +kernel
theorem dL_areCells_513 : decode cL_areCells 513 = .ok (.iaload, 1) := by decide +kernel
theorem dL_areCells_514 : decode cL_areCells 514 = .ok (.if_icmp .ne 7, 3) := by decide +kernel
theorem dL_areCells_517 : decode cL_areCells 517 = .ok (.iconst 1, 1) := by decide +kernel
theorem dL_areCells_518 : decode cL_areCells 518 = .ok (.goto 4, 3) := by decide +kernel
theorem dL_areCells_521 : decode cL_areCells 521 = .ok (.iconst 0, 1) := by decide +kernel
theorem dL_areCells_522 : decode cL_areCells 522 = .ok (.ireturn, 1) := by decide +kernel
theorem dL_isAdded_0 : decode cL_isAdded 0 = .ok (.aload_n 1, 1) := by decide +kernel
theorem dL_isAdded_1 : decode cL_isAdded 1 = .ok (.iconst 1, 1) := by decide +kernel
theorem dL_isAdded_2 : decode cL_isAdded 2 = .ok (.iaload, 1) := by decide +kernel
theorem dL_isAdded_3 : decode cL_isAdded 3 = .ok (.istore 5, 2) := by decide +kernel
theorem dL_isAdded_5 : decode cL_isAdded 5 = .ok (.iload 5, 2) := by decide +kernel
theorem dL_isAdded_7 : decode cL_isAdded 7 = .ok (.bipush 6, 2) := by decide +kernel
theorem dL_isAdded_9 : decode cL_isAdded 9 = .ok (.if_icmp .ne 49, 3) := by decide +kernel
theorem dL_isAdded_12 : decode cL_isAdded 12 = .ok (.aload_n 0, 1) := by decide +kernel
theorem dL_isAdded_13 : decode cL_isAdded 13 = .ok (.bipush 10, 2) := by decide +kernel
theorem dL_isAdded_15 : decode cL_isAdded 15 = .ok (.bipush 11, 2) := by decide +kernel
theorem dL_isAdded_17 : decode cL_isAdded 17 = .ok (.iconst 0, 1) := by decide +kernel
theorem dL_isAdded_18 : decode cL_isAdded 18 = .ok (.aload_n 3, 1) := by decide +kernel
theorem dL_isAdded_19 : decode cL_isAdded 19 = .ok (.invokestatic 80, 3) := by decide +kernel
theorem dL_isAdded_22 : decode cL_isAdded 22 = .ok (.iconst 1, 1) := by decide +kernel
theorem dL_isAdded_23 : decode cL_isAdded 23 = .ok (.if_icmp .ne 33, 3) := by decide +kernel
theorem dL_isAdded_26 : decode cL_isAdded 26 = .ok (.aload_n 0, 1) := by decide +kernel
theorem dL_isAdded_27 : decode cL_isAdded 27 = .ok (.bipush 9, 2) := by decide +kernel
theorem dL_isAdded_29 : decode cL_isAdded 29 = .ok (.iconst 0, 1) := by decide +kernel
theorem dL_isAdded_30 : decode cL_isAdded 30 = .ok (.iconst 0, 1) := by decide +kernel
theorem dL_isAdded_31 : decode cL_isAdded 31 = .ok (.aload_n 3, 1) := by decide +kernel
theorem dL_isAdded_32 : decode cL_isAdded 32 = .ok (.invokestatic 80, 3) := by decide +kernel
theorem dL_isAdded_35 : decode cL_isAdded 35 = .ok (.iconst 1, 1) := by decide +kernel
theorem dL_isAdded_36 : decode cL_isAdded 36 = .ok (.if_icmp .ne 20, 3) := by decide +kernel
theorem dL_isAdded_39 : decode cL_isAdded 39 = .ok (.aload_n 0, 1) := by decide +kernel
theorem dL_isAdded_40 : decode cL_isAdded 40 = .ok (.bipush 10, 2) := by decide +kernel
theorem dL_isAdded_42 : decode cL_isAdded 42 = .ok (.iconst 0, 1) := by decide +kernel
theorem dL_isAdded_43 : decode cL_isAdded 43 = .ok (.iconst 4, 1) := by decide +kernel
theorem dL_isAdded_44 : decode cL_isAdded 44 = .ok (.aload_n 3, 1) := by decide +kernel
theorem dL_isAdded_45 : decode cL_isAdded 45 = .ok (.invokestatic 80, 3) := by decide +kernel
theorem dL_isAdded_48 : decode cL_isAdded 48 = .ok (.iconst 1, 1) := by decide +kernel
theorem dL_isAdded_49 : decode cL_isAdded 49 = .ok (.if_icmp .ne 7, 3) := by decide +kernel
theorem dL_isAdded_52 : decode cL_isAdded 52 = .ok (.iconst 1, 1) := by decide +kernel
theorem dL_isAdded_53 : decode cL_isAdded 53 = .ok (.goto 4, 3) := by decide +kernel
theorem dL_isAdded_56 : decode cL_isAdded 56 = .ok (.iconst 0, 1) := by decide +kernel
theorem dL_isAdded_57 : decode cL_isAdded 57 = .ok (.ireturn, 1) := by decide +kernel
theorem dL_isAdded_58 : decode cL_isAdded 58 = .ok (.aload_n 2, 1) := by decide +kernel
theorem dL_isAdded_59 : decode cL_isAdded 59 = .ok (.iconst 5, 1) := by decide +kernel
theorem dL_isAdded_60 : decode cL_isAdded 60 = .ok (.iload 5, 2) := by decide +kernel
theorem dL_isAdded_62 : decode cL_isAdded 62 = .ok (.imul, 1) := by decide +kernel
theorem dL_isAdded_63 : decode cL_isAdded 63 = .ok (.bipush 10, 2) := by decide +kernel
theorem dL_isAdded_65 : decode cL_isAdded 65 = .ok (.iload 4, 2) := by decide +kernel
theorem dL_isAdded_67 : decode cL_isAdded 67 = .ok (.bipush 90, 2) := by decide +kernel
theorem dL_isAdded_69 : decode cL_isAdded 69 = .ok (.invokestatic 83, 3) := by decide +kernel
theorem dL_isAdded_72 : decode cL_isAdded 72 = .ok (.iadd, 1) := by decide +kernel
theorem dL_isAdded_73 : decode cL_isAdded 73 = .ok (.iastore, 1) := by decide +kernel
theorem dL_isAdded_74 : decode cL_isAdded 74 = .ok (.aload_n 2, 1) := by decide +kernel
theorem dL_isAdded_75 : decode cL_isAdded 75 = .ok (.iconst 5, 1) := by decide +kernel
theorem dL_isAdded_76 : decode cL_isAdded 76 = .ok (.iload 5, 2) := by decide +kernel
theorem dL_isAdded_78 : decode cL_isAdded 78 = .ok (.imul, 1) := by decide +kernel
theorem dL_isAdded_79 : decode cL_isAdded 79 = .ok (.iconst 1, 1) := by decide +kernel
theorem dL_isAdded_80 : decode cL_isAdded 80 = .ok (.iadd, 1) := by decide +kernel
theorem dL_isAdded_81 : decode cL_isAdded 81 = .ok (.iload 4, 2) := by decide +kernel
theorem dL_isAdded_83 : decode cL_isAdded 83 = .ok (.bipush 7, 2) := by decide +kernel
theorem dL_isAdded_85 : decode cL_isAdded 85 = .ok (.ishr, 1) := by decide +kernel
theorem dL_isAdded_86 : decode cL_isAdded 86 = .ok (.aload_n 2, 1) := by decide +kernel
theorem dL_isAdded_87 : decode cL_isAdded 87 = .ok (.iconst 5, 1) := by decide +kernel
theorem dL_isAdded_88 : decode cL_isAdded 88 = .ok (.iload 5, 2) := by decide +kernel
theorem dL_isAdded_90 : decode cL_isAdded 90 = .ok (.imul, 1) := by decide +kernel
theorem dL_isAdded_91 : decode cL_isAdded 91 = .ok (.iaload, 1) := by decide +kernel
theorem dL_isAdded_92 : decode cL_isAdded 92 = .ok (.iconst 1, 1) := by decide +kernel
theorem dL_isAdded_93 : decode cL_isAdded 93 = .ok (.iadd, 1) := by decide +kernel
theorem dL_isAdded_94 : decode cL_isAdded 94 = .ok (.invokestatic 83, 3) := by decide +kernel
theorem dL_isAdded_97 : decode cL_isAdded 97 = .ok (.iastore, 1) := by decide +kernel
theorem dL_isAdded_98 : decode cL_isAdded 98 = .ok (.aload_n 2, 1) := by decide +kernel
theorem dL_isAdded_99 : decode cL_isAdded 99 = .ok (.iconst 5, 1) := by decide +kernel
theorem dL_isAdded_100 : decode cL_isAdded 100 = .ok (.iload 5, 2) := by decide +kernel
theorem dL_isAdded_102 : decode cL_isAdded 102 = .ok (.imul, 1) := by decide +kernel
theorem dL_isAdded_103 : decode cL_isAdded 103 = .ok (.iconst 2, 1) := by decide +kernel
theorem dL_isAdded_104 : decode cL_isAdded 104 = .ok (.iadd, 1) := by decide +kernel
theorem dL_isAdded_105 : decode cL_isAdded 105 = .ok (.iload 4, 2) := by decide +kernel
theorem dL_isAdded_107 : decode cL_isAdded 107 = .ok (.bipush 14, 2) := by decide +kernel
theorem dL_isAdded_109 : decode cL_isAdded 109 = .ok (.ishr, 1) := by decide +kernel
theorem dL_isAdded_110 : decode cL_isAdded 110 = .ok (.iconst 4, 1) := by decide +kernel
theorem dL_isAdded_111 : decode cL_isAdded 111 = .ok (.invokestatic 83, 3) := by decide +kernel
theorem dL_isAdded_114 : decode cL_isAdded 114 = .ok (.iastore, 1) := by decide +kernel
theorem dL_isAdded_115 : decode cL_isAdded 115 = .ok (.aload_n 1, 1) := by decide +kernel
theorem dL_isAdded_116 : decode cL_isAdded 116 = .ok (.iconst 1, 1) := by decide +kernel
theorem dL_isAdded_117 : decode cL_isAdded 117 = .ok (.dup2, 1) := by decide +kernel
theorem dL_isAdded_118 : decode cL_isAdded 118 = .ok (.iaload, 1) := by decide +kernel
theorem dL_isAdded_119 : decode cL_isAdded 119 = .ok (.iconst 1, 1) := by decide +kernel
theorem dL_isAdded_120 : decode cL_isAdded 120 = .ok (.iadd, 1) := by decide +kernel
theorem dL_isAdded_121 : decode cL_isAdded 121 = .ok (.iastore, 1) := by decide +kernel
theorem dL_isAdded_122 : decode cL_isAdded 122 = .ok (.aload_n 1, 1) := by decide +kernel
theorem dL_isAdded_123 : decode cL_isAdded 123 = .ok (.iconst 3, 1) := by decide +kernel
theorem dL_isAdded_124 : decode cL_isAdded 124 = .ok (.dup2, 1) := by decide +kernel
theorem dL_isAdded_125 : decode cL_isAdded 125 = .ok (.iaload, 1) := by decide +kernel
theorem dL_isAdded_126 : decode cL_isAdded 126 = .ok (.aload_n 2, 1) := by decide +kernel
theorem dL_isAdded_127 : decode cL_isAdded 127 = .ok (.iconst 5, 1) := by decide +kernel
theorem dL_isAdded_128 : decode cL_isAdded 128 = .ok (.iload 5, 2) := by decide +kernel
theorem dL_isAdded_130 : decode cL_isAdded 130 = .ok (.imul, 1) := by decide +kernel
theorem dL_isAdded_131 : decode cL_isAdded 131 = .ok (.iconst 1, 1) := by decide +kernel
theorem dL_isAdded_132 : decode cL_isAdded 132 = .ok (.iadd, 1) := by decide +kernel
theorem dL_isAdded_133 : decode cL_isAdded 133 = .ok (.iaload, 1) := by decide +kernel
theorem dL_isAdded_134 : decode cL_isAdded 134 = .ok (.iadd, 1) := by decide +kernel
theorem dL_isAdded_135 : decode cL_isAdded 135 = .ok (.iastore, 1) := by decide +kernel
theorem dL_isAdded_136 : decode cL_isAdded 136 = .ok (.aload_n 0, 1) := by decide +kernel
theorem dL_isAdded_137 : decode cL_isAdded 137 = .ok (.aload_n 2, 1) := by decide +kernel
theorem dL_isAdded_138 : decode cL_isAdded 138 = .ok (.iconst 5, 1) := by decide +kernel
theorem dL_isAdded_139 : decode cL_isAdded 139 = .ok (.iload 5, 2) := by decide +kernel
theorem dL_isAdded_141 : decode cL_isAdded 141 = .ok (.imul, 1) := by decide +kernel
theorem dL_isAdded_142 : decode cL_isAdded 142 = .ok (.iaload, 1) := by decide +kernel
theorem dL_isAdded_143 : decode cL_isAdded 143 = .ok (.aload_n 2, 1) := by decide +kernel
theorem dL_isAdded_144 : decode cL_isAdded 144 = .ok (.iconst 5, 1) := by decide +kernel
theorem dL_isAdded_145 : decode cL_isAdded 145 = .ok (.iload 5, 2) := by decide +kernel
theorem dL_isAdded_147 : decode cL_isAdded 147 = .ok (.imul, 1) := by decide +kernel
theorem dL_isAdded_148 : decode cL_isAdded 148 = .ok (.iconst 1, 1) := by decide +kernel
theorem dL_isAdded_149 : decode cL_isAdded 149 = .ok (.iadd, 1) := by decide +kernel
theorem dL_isAdded_150 : decode cL_isAdded 150 = .ok (.iaload, 1) := by decide +kernel
theorem dL_isAdded_151 : decode cL_isAdded 151 = .ok (.aload_n 2, 1) := by decide +kernel
theorem dL_isAdded_152 : decode cL_isAdded 152 = .ok (.iconst 5, 1) := by decide +kernel
theorem dL_isAdded_153 : decode cL_isAdded 153 = .ok (.iload 5, 2) := by decide +kernel
theorem dL_isAdded_155 : decode cL_isAdded 155 = .ok (.imul, 1) := by decide +kernel
theorem dL_isAdded_156 : decode cL_isAdded 156 = .ok (.iconst 2, 1) := by decide +kernel
theorem dL_isAdded_157 : decode cL_isAdded 157 = .ok (.iadd, 1) := by decide +kernel
theorem dL_isAdded_158 : decode cL_isAdded 158 = .ok (.iaload, 1) := by decide +kernel
theorem dL_isAdded_159 : decode cL_isAdded 159 = .ok (.aload_n 3, 1) := by decide +kernel
theorem dL_isAdded_160 : decode cL_isAdded 160 = .ok (.invokestatic 80, 3) := by decide +kernel
theorem dL_isAdded_163 : decode cL_isAdded 163 = .ok (.ifCond .ne 15, 3) := by decide +kernel
theorem dL_isAdded_166 : decode cL_isAdded 166 = .ok (.aload_n 3, 1) := by decide +kernel
theorem dL_isAdded_167 : decode cL_isAdded 167 = .ok (.iconst 0, 1) := by decide +kernel
theorem dL_isAdded_168 : decode cL_isAdded 168 = .ok (.iaload, 1) := by decide +kernel
theorem dL_isAdded_169 : decode cL_isAdded 169 = .ok (.iload 5, 2) := by decide +kernel
theorem dL_isAdded_171 : decode cL_isAdded 171 = .ok (.if_icmp .ne 7, 3) := by decide +kernel
theorem dL_isAdded_174 : decode cL_isAdded 174 = .ok (.iconst 1, 1) := by decide +kernel
theorem dL_isAdded_175 : decode cL_isAdded 175 = .ok (.goto 4, 3) := by decide +kernel
theorem dL_isAdded_178 : decode cL_isAdded 178 = .ok (.iconst 0, 1) := by decide +kernel
theorem dL_isAdded_179 : decode cL_isAdded 179 = .ok (.ireturn, 1) := by decide +kernel
theorem dL_isLent_0 : decode cL_isLent 0 = .ok (.iload 5, 2) := by decide +kernel
theorem dL_isLent_2 : decode cL_isLent 2 = .ok (.aload_n 1, 1) := by decide +kernel
theorem dL_isLent_3 : decode cL_isLent 3 = .ok (.iconst 1, 1) := by decide +kernel
theorem dL_isLent_4 : decode cL_isLent 4 = .ok (.iaload, 1) := by decide +kernel
theorem dL_isLent_5 : decode cL_isLent 5 = .ok (.invokestatic 83, 3) := by decide +kernel
theorem dL_isLent_8 : decode cL_isLent 8 = .ok (.istore 6, 2) := by decide +kernel
theorem dL_isLent_10 : decode cL_isLent 10 = .ok (.iload 5, 2) := by decide +kernel
theorem dL_isLent_12 : decode cL_isLent 12 = .ok (.iconst 3, 1) := by decide +kernel
theorem dL_isLent_13 : decode cL_isLent 13 = .ok (.ishr, 1) := by decide +kernel
theorem dL_isLent_14 : decode cL_isLent 14 = .ok (.aload_n 1, 1) := by decide +kernel
theorem dL_isLent_15 : decode cL_isLent 15 = .ok (.iconst 1, 1) := by decide +kernel
theorem dL_isLent_16 : decode cL_isLent 16 = .ok (.iaload, 1) := by decide +kernel
theorem dL_isLent_17 : decode cL_isLent 17 = .ok (.invokestatic 83, 3) := by decide +kernel
theorem dL_isLent_20 : decode cL_isLent 20 = .ok (.istore 7, 2) := by decide +kernel
theorem dL_isLent_22 : decode cL_isLent 22 = .ok (.iconst 1, 1) := by decide +kernel
theorem dL_isLent_23 : decode cL_isLent 23 = .ok (.iload 5, 2) := by decide +kernel
theorem dL_isLent_25 : decode cL_isLent 25 = .ok (.bipush 6, 2) := by decide +kernel
theorem dL_isLent_27 : decode cL_isLent 27 = .ok (.ishr, 1) := by decide +kernel
theorem dL_isLent_28 : decode cL_isLent 28 = .ok (.bipush 40, 2) := by decide +kernel
theorem dL_isLent_30 : decode cL_isLent 30 = .ok (.invokestatic 83, 3) := by decide +kernel
theorem dL_isLent_33 : decode cL_isLent 33 = .ok (.iadd, 1) := by decide +kernel
theorem dL_isLent_34 : decode cL_isLent 34 = .ok (.istore 8, 2) := by decide +kernel
theorem dL_isLent_36 : decode cL_isLent 36 = .ok (.iload 5, 2) := by decide +kernel
theorem dL_isLent_38 : decode cL_isLent 38 = .ok (.bipush 12, 2) := by decide +kernel
theorem dL_isLent_40 : decode cL_isLent 40 = .ok (.ishr, 1) := by decide +kernel
theorem dL_isLent_41 : decode cL_isLent 41 = .ok (.iload 5, 2) := by decide +kernel
theorem dL_isLent_43 : decode cL_isLent 43 = .ok (.bipush 19, 2) := by decide +kernel
theorem dL_isLent_45 : decode cL_isLent 45 = .ok (.ishr, 1) := by decide +kernel
theorem dL_isLent_46 : decode cL_isLent 46 = .ok (.iconst 2, 1) := by decide +kernel
theorem dL_isLent_47 : decode cL_isLent 47 = .ok (.invokestatic 83, 3) := by decide +kernel
theorem dL_isLent_50 : decode cL_isLent 50 = .ok (.ifCond .ne 8, 3) := by decide +kernel
theorem dL_isLent_53 : decode cL_isLent 53 = .ok (.bipush 51, 2) := by decide +kernel
theorem dL_isLent_55 : decode cL_isLent 55 = .ok (.goto 5, 3) := by decide +kernel
theorem dL_isLent_58 : decode cL_isLent 58 = .ok (.bipush 12, 2) := by decide +kernel
theorem dL_isLent_60 : decode cL_isLent 60 = .ok (.invokestatic 83, 3) := by decide +kernel
theorem dL_isLent_63 : decode cL_isLent 63 = .ok (.istore 9, 2) := by decide +kernel
theorem dL_isLent_65 : decode cL_isLent 65 = .ok (.iload 6, 2) := by decide +kernel
theorem dL_isLent_67 : decode cL_isLent 67 = .ok (.iload 7, 2) := by decide +kernel
theorem dL_isLent_69 : decode cL_isLent 69 = .ok (.if_icmp .ne 46, 3) := by decide +kernel
theorem dL_isLent_72 : decode cL_isLent 72 = .ok (.aload_n 0, 1) := by decide +kernel
theorem dL_isLent_73 : decode cL_isLent 73 = .ok (.iload 6, 2) := by decide +kernel
theorem dL_isLent_75 : decode cL_isLent 75 = .ok (.iload 7, 2) := by decide +kernel
theorem dL_isLent_77 : decode cL_isLent 77 = .ok (.iload 8, 2) := by decide +kernel
theorem dL_isLent_79 : decode cL_isLent 79 = .ok (.iload 9, 2) := by decide +kernel
theorem dL_isLent_81 : decode cL_isLent 81 = .ok (.aload 4, 2) := by decide +kernel
theorem dL_isLent_83 : decode cL_isLent 83 = .ok (.invokestatic 86, 3) := by decide +kernel
theorem dL_isLent_86 : decode cL_isLent 86 = .ok (.iconst 2, 1) := by decide +kernel
theorem dL_isLent_87 : decode cL_isLent 87 = .ok (.if_icmp .ne 26, 3) := by decide +kernel
theorem dL_isLent_90 : decode cL_isLent 90 = .ok (.aload_n 0, 1) := by decide +kernel
theorem dL_isLent_91 : decode cL_isLent 91 = .ok (.iload 6, 2) := by decide +kernel
theorem dL_isLent_93 : decode cL_isLent 93 = .ok (.aload_n 1, 1) := by decide +kernel
theorem dL_isLent_94 : decode cL_isLent 94 = .ok (.iconst 1, 1) := by decide +kernel
theorem dL_isLent_95 : decode cL_isLent 95 = .ok (.iaload, 1) := by decide +kernel
theorem dL_isLent_96 : decode cL_isLent 96 = .ok (.iload 8, 2) := by decide +kernel
theorem dL_isLent_98 : decode cL_isLent 98 = .ok (.bipush 51, 2) := by decide +kernel
theorem dL_isLent_100 : decode cL_isLent 100 = .ok (.aload 4, 2) := by decide +kernel
theorem dL_isLent_102 : decode cL_isLent 102 = .ok (.invokestatic 86, 3) := by decide +kernel
theorem dL_isLent_105 : decode cL_isLent 105 = .ok (.iconst 1, 1) := by decide +kernel
theorem dL_isLent_106 : decode cL_isLent 106 = .ok (.if_icmp .ne 7, 3) := by decide +kernel
theorem dL_isLent_109 : decode cL_isLent 109 = .ok (.iconst 1, 1) := by decide +kernel
theorem dL_isLent_110 : decode cL_isLent 110 = .ok (.goto 4, 3) := by decide +kernel
theorem dL_isLent_113 : decode cL_isLent 113 = .ok (.iconst 0, 1) := by decide +kernel
theorem dL_isLent_114 : decode cL_isLent 114 = .ok (.ireturn, 1) := by decide +kernel
theorem dL_isLent_115 : decode cL_isLent 115 = .ok (.aload_n 2, 1) := by decide +kernel
theorem dL_isLent_116 : decode cL_isLent 116 = .ok (.iconst 5, 1) := by decide +kernel
theorem dL_isLent_117 : decode cL_isLent 117 = .ok (.iload 6, 2) := by decide +kernel
theorem dL_isLent_119 : decode cL_isLent 119 = .ok (.imul, 1) := by decide +kernel
theorem dL_isLent_120 : decode cL_isLent 120 = .ok (.iconst 4, 1) := by decide +kernel
theorem dL_isLent_121 : decode cL_isLent 121 = .ok (.iadd, 1) := by decide +kernel
theorem dL_isLent_122 : decode cL_isLent 122 = .ok (.iaload, 1) := by decide +kernel
theorem dL_isLent_123 : decode cL_isLent 123 = .ok (.ifCond .ne 69, 3) := by decide +kernel
theorem dL_isLent_126 : decode cL_isLent 126 = .ok (.aload_n 2, 1) := by decide +kernel
theorem dL_isLent_127 : decode cL_isLent 127 = .ok (.iconst 5, 1) := by decide +kernel
theorem dL_isLent_128 : decode cL_isLent 128 = .ok (.iload 7, 2) := by decide +kernel
theorem dL_isLent_130 : decode cL_isLent 130 = .ok (.imul, 1) := by decide +kernel
theorem dL_isLent_131 : decode cL_isLent 131 = .ok (.iconst 4, 1) := by decide +kernel
theorem dL_isLent_132 : decode cL_isLent 132 = .ok (.iadd, 1) := by decide +kernel
theorem dL_isLent_133 : decode cL_isLent 133 = .ok (.iaload, 1) := by decide +kernel
theorem dL_isLent_134 : decode cL_isLent 134 = .ok (.ifCond .ne 58, 3) := by decide +kernel
theorem dL_isLent_137 : decode cL_isLent 137 = .ok (.aload_n 2, 1) := by decide +kernel
theorem dL_isLent_138 : decode cL_isLent 138 = .ok (.iconst 5, 1) := by decide +kernel
theorem dL_isLent_139 : decode cL_isLent 139 = .ok (.iload 6, 2) := by decide +kernel
theorem dL_isLent_141 : decode cL_isLent 141 = .ok (.imul, 1) := by decide +kernel
theorem dL_isLent_142 : decode cL_isLent 142 = .ok (.iconst 1, 1) := by decide +kernel
theorem dL_isLent_143 : decode cL_isLent 143 = .ok (.iadd, 1) := by decide +kernel
theorem dL_isLent_144 : decode cL_isLent 144 = .ok (.iaload, 1) := by decide +kernel
theorem dL_isLent_145 : decode cL_isLent 145 = .ok (.iload 8, 2) := by decide +kernel
theorem dL_isLent_147 : decode cL_isLent 147 = .ok (.if_icmp .lt 45, 3) := by decide +kernel
theorem dL_isLent_150 : decode cL_isLent 150 = .ok (.aload_n 2, 1) := by decide +kernel
theorem dL_isLent_151 : decode cL_isLent 151 = .ok (.iconst 5, 1) := by decide +kernel
theorem dL_isLent_152 : decode cL_isLent 152 = .ok (.iload 7, 2) := by decide +kernel
theorem dL_isLent_154 : decode cL_isLent 154 = .ok (.imul, 1) := by decide +kernel
theorem dL_isLent_155 : decode cL_isLent 155 = .ok (.iconst 1, 1) := by decide +kernel
theorem dL_isLent_156 : decode cL_isLent 156 = .ok (.iadd, 1) := by decide +kernel
theorem dL_isLent_157 : decode cL_isLent 157 = .ok (.iaload, 1) := by decide +kernel
theorem dL_isLent_158 : decode cL_isLent 158 = .ok (.iload 8, 2) := by decide +kernel
theorem dL_isLent_160 : decode cL_isLent 160 = .ok (.iadd, 1) := by decide +kernel
theorem dL_isLent_161 : decode cL_isLent 161 = .ok (.iload 8, 2) := by decide +kernel
theorem dL_isLent_163 : decode cL_isLent 163 = .ok (.iload 6, 2) := by decide +kernel
theorem dL_isLent_165 : decode cL_isLent 165 = .ok (.iload 7, 2) := by decide +kernel
theorem dL_isLent_167 : decode cL_isLent 167 = .ok (.invokestatic 42, 3) := by decide +kernel
theorem dL_isLent_170 : decode cL_isLent 170 = .ok (.isub, 1) := by decide +kernel
theorem dL_isLent_171 : decode cL_isLent 171 = .ok (.aload_n 2, 1) := by decide +kernel
theorem dL_isLent_172 : decode cL_isLent 172 = .ok (.iconst 5, 1) := by decide +kernel
theorem dL_isLent_173 : decode cL_isLent 173 = .ok (.iload 7, 2) := by decide +kernel
theorem dL_isLent_175 : decode cL_isLent 175 = .ok (.imul, 1) := by decide +kernel
theorem dL_isLent_176 : decode cL_isLent 176 = .ok (.iaload, 1) := by decide +kernel
theorem dL_isLent_177 : decode cL_isLent 177 = .ok (.if_icmp .gt 15, 3) := by decide +kernel
theorem dL_isLent_180 : decode cL_isLent 180 = .ok (.aload_n 1, 1) := by decide +kernel
theorem dL_isLent_181 : decode cL_isLent 181 = .ok (.iconst 2, 1) := by decide +kernel
theorem dL_isLent_182 : decode cL_isLent 182 = .ok (.iaload, 1) := by decide +kernel
theorem dL_isLent_183 : decode cL_isLent 183 = .ok (.bipush 12, 2) := by decide +kernel
theorem dL_isLent_185 : decode cL_isLent 185 = .ok (.if_icmp .ge 7, 3) := by decide +kernel
theorem dL_isLent_188 : decode cL_isLent 188 = .ok (.iconst 1, 1) := by decide +kernel
theorem dL_isLent_189 : decode cL_isLent 189 = .ok (.goto 4, 3) := by decide +kernel
theorem dL_isLent_192 : decode cL_isLent 192 = .ok (.iconst 0, 1) := by decide +kernel
theorem dL_isLent_193 : decode cL_isLent 193 = .ok (.istore 10, 2) := by decide +kernel
theorem dL_isLent_195 : decode cL_isLent 195 = .ok (.iload 10, 2) := by decide +kernel
theorem dL_isLent_197 : decode cL_isLent 197 = .ok (.ifCond .ne 62, 3) := by decide +kernel
theorem dL_isLent_200 : decode cL_isLent 200 = .ok (.aload_n 0, 1) := by decide +kernel
theorem dL_isLent_201 : decode cL_isLent 201 = .ok (.iload 6, 2) := by decide +kernel
theorem dL_isLent_203 : decode cL_isLent 203 = .ok (.iload 7, 2) := by decide +kernel
theorem dL_isLent_205 : decode cL_isLent 205 = .ok (.iload 8, 2) := by decide +kernel
theorem dL_isLent_207 : decode cL_isLent 207 = .ok (.iload 9, 2) := by decide +kernel
theorem dL_isLent_209 : decode cL_isLent 209 = .ok (.aload 4, 2) := by decide +kernel
theorem dL_isLent_211 : decode cL_isLent 211 = .ok (.invokestatic 86, 3) := by decide +kernel
theorem dL_isLent_214 : decode cL_isLent 214 = .ok (.iconst 3, 1) := by decide +kernel
theorem dL_isLent_215 : decode cL_isLent 215 = .ok (.if_icmp .ne 42, 3) := by decide +kernel
theorem dL_isLent_218 : decode cL_isLent 218 = .ok (.aload_n 0, 1) := by decide +kernel
theorem dL_isLent_219 : decode cL_isLent 219 = .ok (.iload 6, 2) := by decide +kernel
theorem dL_isLent_221 : decode cL_isLent 221 = .ok (.iload 7, 2) := by decide +kernel
theorem dL_isLent_223 : decode cL_isLent 223 = .ok (.iconst 0, 1) := by decide +kernel
theorem dL_isLent_224 : decode cL_isLent 224 = .ok (.iload 9, 2) := by decide +kernel
theorem dL_isLent_226 : decode cL_isLent 226 = .ok (.aload 4, 2) := by decide +kernel
theorem dL_isLent_228 : decode cL_isLent 228 = .ok (.invokestatic 86, 3) := by decide +kernel
theorem dL_isLent_231 : decode cL_isLent 231 = .ok (.iconst 2, 1) := by decide +kernel
theorem dL_isLent_232 : decode cL_isLent 232 = .ok (.if_icmp .ne 25, 3) := by decide +kernel
theorem dL_isLent_235 : decode cL_isLent 235 = .ok (.aload_n 0, 1) := by decide +kernel
theorem dL_isLent_236 : decode cL_isLent 236 = .ok (.iload 6, 2) := by decide +kernel
theorem dL_isLent_238 : decode cL_isLent 238 = .ok (.iload 7, 2) := by decide +kernel
theorem dL_isLent_240 : decode cL_isLent 240 = .ok (.iload 8, 2) := by decide +kernel
theorem dL_isLent_242 : decode cL_isLent 242 = .ok (.bipush 51, 2) := by decide +kernel
theorem dL_isLent_244 : decode cL_isLent 244 = .ok (.aload 4, 2) := by decide +kernel
theorem dL_isLent_246 : decode cL_isLent 246 = .ok (.invokestatic 86, 3) := by decide +kernel
theorem dL_isLent_249 : decode cL_isLent 249 = .ok (.iconst 2, 1) := by decide +kernel
theorem dL_isLent_250 : decode cL_isLent 250 = .ok (.if_icmp .ne 7, 3) := by decide +kernel
theorem dL_isLent_253 : decode cL_isLent 253 = .ok (.iconst 1, 1) := by decide +kernel
theorem dL_isLent_254 : decode cL_isLent 254 = .ok (.goto 4, 3) := by decide +kernel
theorem dL_isLent_257 : decode cL_isLent 257 = .ok (.iconst 0, 1) := by decide +kernel
theorem dL_isLent_258 : decode cL_isLent 258 = .ok (.ireturn, 1) := by decide +kernel
theorem dL_isLent_259 : decode cL_isLent 259 = .ok (.aload_n 1, 1) := by decide +kernel
theorem dL_isLent_260 : decode cL_isLent 260 = .ok (.aload_n 2, 1) := by decide +kernel
theorem dL_isLent_261 : decode cL_isLent 261 = .ok (.aload_n 3, 1) := by decide +kernel
theorem dL_isLent_262 : decode cL_isLent 262 = .ok (.iload 6, 2) := by decide +kernel
theorem dL_isLent_264 : decode cL_isLent 264 = .ok (.iload 7, 2) := by decide +kernel
theorem dL_isLent_266 : decode cL_isLent 266 = .ok (.iload 8, 2) := by decide +kernel
theorem dL_isLent_268 : decode cL_isLent 268 = .ok (.iload 9, 2) := by decide +kernel
theorem dL_isLent_270 : decode cL_isLent 270 = .ok (.invokestatic 67, 3) := by decide +kernel
theorem dL_isLent_273 : decode cL_isLent 273 = .ok (.istore 11, 2) := by decide +kernel
theorem dL_isLent_275 : decode cL_isLent 275 = .ok (.aload_n 0, 1) := by decide +kernel
theorem dL_isLent_276 : decode cL_isLent 276 = .ok (.iload 6, 2) := by decide +kernel
theorem dL_isLent_278 : decode cL_isLent 278 = .ok (.iload 7, 2) := by decide +kernel
theorem dL_isLent_280 : decode cL_isLent 280 = .ok (.iload 8, 2) := by decide +kernel
theorem dL_isLent_282 : decode cL_isLent 282 = .ok (.iload 9, 2) := by decide +kernel
theorem dL_isLent_284 : decode cL_isLent 284 = .ok (.aload 4, 2) := by decide +kernel
theorem dL_isLent_286 : decode cL_isLent 286 = .ok (.invokestatic 86, 3) := by decide +kernel
theorem dL_isLent_289 : decode cL_isLent 289 = .ok (.ifCond .ne 16, 3) := by decide +kernel
theorem dL_isLent_292 : decode cL_isLent 292 = .ok (.aload 4, 2) := by decide +kernel
theorem dL_isLent_294 : decode cL_isLent 294 = .ok (.iconst 0, 1) := by decide +kernel
theorem dL_isLent_295 : decode cL_isLent 295 = .ok (.iaload, 1) := by decide +kernel
theorem dL_isLent_296 : decode cL_isLent 296 = .ok (.iload 11, 2) := by decide +kernel
theorem dL_isLent_298 : decode cL_isLent 298 = .ok (.if_icmp .ne 7, 3) := by decide +kernel
theorem dL_isLent_301 : decode cL_isLent 301 = .ok (.iconst 1, 1) := by decide +kernel
theorem dL_isLent_302 : decode cL_isLent 302 = .ok (.goto 4, 3) := by decide +kernel
theorem dL_isLent_305 : decode cL_isLent 305 = .ok (.iconst 0, 1) := by decide +kernel
theorem dL_isLent_306 : decode cL_isLent 306 = .ok (.ireturn, 1) := by decide +kernel
theorem dL_isRepaid_0 : decode cL_isRepaid 0 = .ok (.aload_n 1, 1) := by decide +kernel
theorem dL_isRepaid_1 : decode cL_isRepaid 1 = .ok (.iconst 2, 1) := by decide +kernel
theorem dL_isRepaid_2 : decode cL_isRepaid 2 = .ok (.iaload, 1) := by decide +kernel
theorem dL_isRepaid_3 : decode cL_isRepaid 3 = .ok (.ifCond .ne 21, 3) := by decide +kernel
theorem dL_isRepaid_6 : decode cL_isRepaid 6 = .ok (.aload_n 0, 1) := by decide +kernel
theorem dL_isRepaid_7 : decode cL_isRepaid 7 = .ok (.iconst 0, 1) := by decide +kernel
theorem dL_isRepaid_8 : decode cL_isRepaid 8 = .ok (.iconst 1, 1) := by decide +kernel
theorem dL_isRepaid_9 : decode cL_isRepaid 9 = .ok (.aload 4, 2) := by decide +kernel
theorem dL_isRepaid_11 : decode cL_isRepaid 11 = .ok (.invokestatic 89, 3) := by decide +kernel
theorem dL_isRepaid_14 : decode cL_isRepaid 14 = .ok (.iconst 1, 1) := by decide +kernel
theorem dL_isRepaid_15 : decode cL_isRepaid 15 = .ok (.if_icmp .ne 7, 3) := by decide +kernel
theorem dL_isRepaid_18 : decode cL_isRepaid 18 = .ok (.iconst 1, 1) := by decide +kernel
theorem dL_isRepaid_19 : decode cL_isRepaid 19 = .ok (.goto 4, 3) := by decide +kernel
theorem dL_isRepaid_22 : decode cL_isRepaid 22 = .ok (.iconst 0, 1) := by decide +kernel
theorem dL_isRepaid_23 : decode cL_isRepaid 23 = .ok (.ireturn, 1) := by decide +kernel
theorem dL_isRepaid_24 : decode cL_isRepaid 24 = .ok (.iload 5, 2) := by decide +kernel
theorem dL_isRepaid_26 : decode cL_isRepaid 26 = .ok (.aload_n 1, 1) := by decide +kernel
theorem dL_isRepaid_27 : decode cL_isRepaid 27 = .ok (.iconst 2, 1) := by decide +kernel
theorem dL_isRepaid_28 : decode cL_isRepaid 28 = .ok (.iaload, 1) := by decide +kernel
theorem dL_isRepaid_29 : decode cL_isRepaid 29 = .ok (.invokestatic 83, 3) := by decide +kernel
theorem dL_isRepaid_32 : decode cL_isRepaid 32 = .ok (.istore 6, 2) := by decide +kernel
theorem dL_isRepaid_34 : decode cL_isRepaid 34 = .ok (.aload_n 3, 1) := by decide +kernel
theorem dL_isRepaid_35 : decode cL_isRepaid 35 = .ok (.iconst 5, 1) := by decide +kernel
theorem dL_isRepaid_36 : decode cL_isRepaid 36 = .ok (.iload 6, 2) := by decide +kernel
theorem dL_isRepaid_38 : decode cL_isRepaid 38 = .ok (.imul, 1) := by decide +kernel
theorem dL_isRepaid_39 : decode cL_isRepaid 39 = .ok (.iconst 1, 1) := by decide +kernel
theorem dL_isRepaid_40 : decode cL_isRepaid 40 = .ok (.iadd, 1) := by decide +kernel
theorem dL_isRepaid_41 : decode cL_isRepaid 41 = .ok (.iaload, 1) := by decide +kernel
theorem dL_isRepaid_42 : decode cL_isRepaid 42 = .ok (.istore 7, 2) := by decide +kernel
theorem dL_isRepaid_44 : decode cL_isRepaid 44 = .ok (.aload_n 3, 1) := by decide +kernel
theorem dL_isRepaid_45 : decode cL_isRepaid 45 = .ok (.iconst 5, 1) := by decide +kernel
theorem dL_isRepaid_46 : decode cL_isRepaid 46 = .ok (.iload 6, 2) := by decide +kernel
theorem dL_isRepaid_48 : decode cL_isRepaid 48 = .ok (.imul, 1) := by decide +kernel
theorem dL_isRepaid_49 : decode cL_isRepaid 49 = .ok (.iaload, 1) := by decide +kernel
theorem dL_isRepaid_50 : decode cL_isRepaid 50 = .ok (.istore 8, 2) := by decide +kernel
theorem dL_isRepaid_52 : decode cL_isRepaid 52 = .ok (.aload_n 3, 1) := by decide +kernel
theorem dL_isRepaid_53 : decode cL_isRepaid 53 = .ok (.iconst 5, 1) := by decide +kernel
theorem dL_isRepaid_54 : decode cL_isRepaid 54 = .ok (.iload 6, 2) := by decide +kernel
theorem dL_isRepaid_56 : decode cL_isRepaid 56 = .ok (.imul, 1) := by decide +kernel
theorem dL_isRepaid_57 : decode cL_isRepaid 57 = .ok (.iconst 2, 1) := by decide +kernel
theorem dL_isRepaid_58 : decode cL_isRepaid 58 = .ok (.iadd, 1) := by decide +kernel
theorem dL_isRepaid_59 : decode cL_isRepaid 59 = .ok (.iaload, 1) := by decide +kernel
theorem dL_isRepaid_60 : decode cL_isRepaid 60 = .ok (.istore 9, 2) := by decide +kernel
theorem dL_isRepaid_62 : decode cL_isRepaid 62 = .ok (.iload 5, 2) := by decide +kernel
theorem dL_isRepaid_64 : decode cL_isRepaid 64 = .ok (.iconst 4, 1) := by decide +kernel
theorem dL_isRepaid_65 : decode cL_isRepaid 65 = .ok (.ishr, 1) := by decide +kernel
theorem dL_isRepaid_66 : decode cL_isRepaid 66 = .ok (.iconst 3, 1) := by decide +kernel
theorem dL_isRepaid_67 : decode cL_isRepaid 67 = .ok (.invokestatic 83, 3) := by decide +kernel
theorem dL_isRepaid_70 : decode cL_isRepaid 70 = .ok (.ifCond .ne 20, 3) := by decide +kernel
theorem dL_isRepaid_73 : decode cL_isRepaid 73 = .ok (.iload 9, 2) := by decide +kernel
theorem dL_isRepaid_75 : decode cL_isRepaid 75 = .ok (.bipush 100, 2) := by decide +kernel
theorem dL_isRepaid_77 : decode cL_isRepaid 77 = .ok (.if_icmp .ge 8, 3) := by decide +kernel
theorem dL_isRepaid_80 : decode cL_isRepaid 80 = .ok (.iload 9, 2) := by decide +kernel
theorem dL_isRepaid_82 : decode cL_isRepaid 82 = .ok (.goto 20, 3) := by decide +kernel
theorem dL_isRepaid_85 : decode cL_isRepaid 85 = .ok (.bipush 99, 2) := by decide +kernel
theorem dL_isRepaid_87 : decode cL_isRepaid 87 = .ok (.goto 15, 3) := by decide +kernel
theorem dL_isRepaid_90 : decode cL_isRepaid 90 = .ok (.iconst 1, 1) := by decide +kernel
theorem dL_isRepaid_91 : decode cL_isRepaid 91 = .ok (.iload 5, 2) := by decide +kernel
theorem dL_isRepaid_93 : decode cL_isRepaid 93 = .ok (.bipush 6, 2) := by decide +kernel
theorem dL_isRepaid_95 : decode cL_isRepaid 95 = .ok (.ishr, 1) := by decide +kernel
theorem dL_isRepaid_96 : decode cL_isRepaid 96 = .ok (.bipush 30, 2) := by decide +kernel
theorem dL_isRepaid_98 : decode cL_isRepaid 98 = .ok (.invokestatic 83, 3) := by decide +kernel
theorem dL_isRepaid_101 : decode cL_isRepaid 101 = .ok (.iadd, 1) := by decide +kernel
theorem dL_isRepaid_102 : decode cL_isRepaid 102 = .ok (.istore 10, 2) := by decide +kernel
theorem dL_isRepaid_104 : decode cL_isRepaid 104 = .ok (.iload 9, 2) := by decide +kernel
theorem dL_isRepaid_106 : decode cL_isRepaid 106 = .ok (.iload 10, 2) := by decide +kernel
theorem dL_isRepaid_108 : decode cL_isRepaid 108 = .ok (.if_icmp .lt 50, 3) := by decide +kernel
theorem dL_isRepaid_111 : decode cL_isRepaid 111 = .ok (.aload_n 2, 1) := by decide +kernel
theorem dL_isRepaid_112 : decode cL_isRepaid 112 = .ok (.iconst 5, 1) := by decide +kernel
theorem dL_isRepaid_113 : decode cL_isRepaid 113 = .ok (.iload 7, 2) := by decide +kernel
theorem dL_isRepaid_115 : decode cL_isRepaid 115 = .ok (.imul, 1) := by decide +kernel
theorem dL_isRepaid_116 : decode cL_isRepaid 116 = .ok (.iconst 1, 1) := by decide +kernel
theorem dL_isRepaid_117 : decode cL_isRepaid 117 = .ok (.iadd, 1) := by decide +kernel
theorem dL_isRepaid_118 : decode cL_isRepaid 118 = .ok (.iaload, 1) := by decide +kernel
theorem dL_isRepaid_119 : decode cL_isRepaid 119 = .ok (.iload 10, 2) := by decide +kernel
theorem dL_isRepaid_121 : decode cL_isRepaid 121 = .ok (.if_icmp .lt 37, 3) := by decide +kernel
theorem dL_isRepaid_124 : decode cL_isRepaid 124 = .ok (.aload_n 2, 1) := by decide +kernel
theorem dL_isRepaid_125 : decode cL_isRepaid 125 = .ok (.iconst 5, 1) := by decide +kernel
theorem dL_isRepaid_126 : decode cL_isRepaid 126 = .ok (.iload 8, 2) := by decide +kernel
theorem dL_isRepaid_128 : decode cL_isRepaid 128 = .ok (.imul, 1) := by decide +kernel
theorem dL_isRepaid_129 : decode cL_isRepaid 129 = .ok (.iconst 1, 1) := by decide +kernel
theorem dL_isRepaid_130 : decode cL_isRepaid 130 = .ok (.iadd, 1) := by decide +kernel
theorem dL_isRepaid_131 : decode cL_isRepaid 131 = .ok (.iaload, 1) := by decide +kernel
theorem dL_isRepaid_132 : decode cL_isRepaid 132 = .ok (.iload 10, 2) := by decide +kernel
theorem dL_isRepaid_134 : decode cL_isRepaid 134 = .ok (.iadd, 1) := by decide +kernel
theorem dL_isRepaid_135 : decode cL_isRepaid 135 = .ok (.iload 10, 2) := by decide +kernel
theorem dL_isRepaid_137 : decode cL_isRepaid 137 = .ok (.iload 7, 2) := by decide +kernel
theorem dL_isRepaid_139 : decode cL_isRepaid 139 = .ok (.iload 8, 2) := by decide +kernel
theorem dL_isRepaid_141 : decode cL_isRepaid 141 = .ok (.invokestatic 42, 3) := by decide +kernel
theorem dL_isRepaid_144 : decode cL_isRepaid 144 = .ok (.isub, 1) := by decide +kernel
theorem dL_isRepaid_145 : decode cL_isRepaid 145 = .ok (.aload_n 2, 1) := by decide +kernel
theorem dL_isRepaid_146 : decode cL_isRepaid 146 = .ok (.iconst 5, 1) := by decide +kernel
theorem dL_isRepaid_147 : decode cL_isRepaid 147 = .ok (.iload 8, 2) := by decide +kernel
theorem dL_isRepaid_149 : decode cL_isRepaid 149 = .ok (.imul, 1) := by decide +kernel
theorem dL_isRepaid_150 : decode cL_isRepaid 150 = .ok (.iaload, 1) := by decide +kernel
theorem dL_isRepaid_151 : decode cL_isRepaid 151 = .ok (.if_icmp .gt 7, 3) := by decide +kernel
theorem dL_isRepaid_154 : decode cL_isRepaid 154 = .ok (.iconst 1, 1) := by decide +kernel
theorem dL_isRepaid_155 : decode cL_isRepaid 155 = .ok (.goto 4, 3) := by decide +kernel
theorem dL_isRepaid_158 : decode cL_isRepaid 158 = .ok (.iconst 0, 1) := by decide +kernel
theorem dL_isRepaid_159 : decode cL_isRepaid 159 = .ok (.istore 11, 2) := by decide +kernel
theorem dL_isRepaid_161 : decode cL_isRepaid 161 = .ok (.iload 11, 2) := by decide +kernel
theorem dL_isRepaid_163 : decode cL_isRepaid 163 = .ok (.ifCond .ne 51, 3) := by decide +kernel
theorem dL_isRepaid_166 : decode cL_isRepaid 166 = .ok (.aload_n 0, 1) := by decide +kernel
theorem dL_isRepaid_167 : decode cL_isRepaid 167 = .ok (.iload 6, 2) := by decide +kernel
theorem dL_isRepaid_169 : decode cL_isRepaid 169 = .ok (.iload 10, 2) := by decide +kernel
theorem dL_isRepaid_171 : decode cL_isRepaid 171 = .ok (.aload 4, 2) := by decide +kernel
theorem dL_isRepaid_173 : decode cL_isRepaid 173 = .ok (.invokestatic 89, 3) := by decide +kernel
theorem dL_isRepaid_176 : decode cL_isRepaid 176 = .ok (.iconst 3, 1) := by decide +kernel
theorem dL_isRepaid_177 : decode cL_isRepaid 177 = .ok (.if_icmp .ne 35, 3) := by decide +kernel
theorem dL_isRepaid_180 : decode cL_isRepaid 180 = .ok (.aload_n 0, 1) := by decide +kernel
theorem dL_isRepaid_181 : decode cL_isRepaid 181 = .ok (.iload 6, 2) := by decide +kernel
theorem dL_isRepaid_183 : decode cL_isRepaid 183 = .ok (.bipush 100, 2) := by decide +kernel
theorem dL_isRepaid_185 : decode cL_isRepaid 185 = .ok (.aload 4, 2) := by decide +kernel
theorem dL_isRepaid_187 : decode cL_isRepaid 187 = .ok (.invokestatic 89, 3) := by decide +kernel
theorem dL_isRepaid_190 : decode cL_isRepaid 190 = .ok (.iconst 2, 1) := by decide +kernel
theorem dL_isRepaid_191 : decode cL_isRepaid 191 = .ok (.if_icmp .ne 21, 3) := by decide +kernel
theorem dL_isRepaid_194 : decode cL_isRepaid 194 = .ok (.aload_n 0, 1) := by decide +kernel
theorem dL_isRepaid_195 : decode cL_isRepaid 195 = .ok (.aload_n 1, 1) := by decide +kernel
theorem dL_isRepaid_196 : decode cL_isRepaid 196 = .ok (.iconst 2, 1) := by decide +kernel
theorem dL_isRepaid_197 : decode cL_isRepaid 197 = .ok (.iaload, 1) := by decide +kernel
theorem dL_isRepaid_198 : decode cL_isRepaid 198 = .ok (.iconst 0, 1) := by decide +kernel
theorem dL_isRepaid_199 : decode cL_isRepaid 199 = .ok (.aload 4, 2) := by decide +kernel
theorem dL_isRepaid_201 : decode cL_isRepaid 201 = .ok (.invokestatic 89, 3) := by decide +kernel
theorem dL_isRepaid_204 : decode cL_isRepaid 204 = .ok (.iconst 1, 1) := by decide +kernel
theorem dL_isRepaid_205 : decode cL_isRepaid 205 = .ok (.if_icmp .ne 7, 3) := by decide +kernel
theorem dL_isRepaid_208 : decode cL_isRepaid 208 = .ok (.iconst 1, 1) := by decide +kernel
theorem dL_isRepaid_209 : decode cL_isRepaid 209 = .ok (.goto 4, 3) := by decide +kernel
theorem dL_isRepaid_212 : decode cL_isRepaid 212 = .ok (.iconst 0, 1) := by decide +kernel
theorem dL_isRepaid_213 : decode cL_isRepaid 213 = .ok (.ireturn, 1) := by decide +kernel
theorem dL_isRepaid_214 : decode cL_isRepaid 214 = .ok (.aload_n 1, 1) := by decide +kernel
theorem dL_isRepaid_215 : decode cL_isRepaid 215 = .ok (.aload_n 2, 1) := by decide +kernel
theorem dL_isRepaid_216 : decode cL_isRepaid 216 = .ok (.iload 10, 2) := by decide +kernel
theorem dL_isRepaid_218 : decode cL_isRepaid 218 = .ok (.iload 7, 2) := by decide +kernel
theorem dL_isRepaid_220 : decode cL_isRepaid 220 = .ok (.iload 8, 2) := by decide +kernel
theorem dL_isRepaid_222 : decode cL_isRepaid 222 = .ok (.invokestatic 47, 3) := by decide +kernel
theorem dL_isRepaid_225 : decode cL_isRepaid 225 = .ok (.pop, 1) := by decide +kernel
theorem dL_isRepaid_226 : decode cL_isRepaid 226 = .ok (.aload_n 3, 1) := by decide +kernel
theorem dL_isRepaid_227 : decode cL_isRepaid 227 = .ok (.iconst 5, 1) := by decide +kernel
theorem dL_isRepaid_228 : decode cL_isRepaid 228 = .ok (.iload 6, 2) := by decide +kernel
theorem dL_isRepaid_230 : decode cL_isRepaid 230 = .ok (.imul, 1) := by decide +kernel
theorem dL_isRepaid_231 : decode cL_isRepaid 231 = .ok (.iconst 2, 1) := by decide +kernel
theorem dL_isRepaid_232 : decode cL_isRepaid 232 = .ok (.iadd, 1) := by decide +kernel
theorem dL_isRepaid_233 : decode cL_isRepaid 233 = .ok (.dup2, 1) := by decide +kernel
theorem dL_isRepaid_234 : decode cL_isRepaid 234 = .ok (.iaload, 1) := by decide +kernel
theorem dL_isRepaid_235 : decode cL_isRepaid 235 = .ok (.iload 10, 2) := by decide +kernel
theorem dL_isRepaid_237 : decode cL_isRepaid 237 = .ok (.isub, 1) := by decide +kernel
theorem dL_isRepaid_238 : decode cL_isRepaid 238 = .ok (.iastore, 1) := by decide +kernel
theorem dL_isRepaid_239 : decode cL_isRepaid 239 = .ok (.aload_n 1, 1) := by decide +kernel
theorem dL_isRepaid_240 : decode cL_isRepaid 240 = .ok (.aload_n 3, 1) := by decide +kernel
theorem dL_isRepaid_241 : decode cL_isRepaid 241 = .ok (.invokestatic 55, 3) := by decide +kernel
theorem dL_isRepaid_244 : decode cL_isRepaid 244 = .ok (.aload_n 0, 1) := by decide +kernel
theorem dL_isRepaid_245 : decode cL_isRepaid 245 = .ok (.iload 6, 2) := by decide +kernel
theorem dL_isRepaid_247 : decode cL_isRepaid 247 = .ok (.iload 10, 2) := by decide +kernel
theorem dL_isRepaid_249 : decode cL_isRepaid 249 = .ok (.aload 4, 2) := by decide +kernel
theorem dL_isRepaid_251 : decode cL_isRepaid 251 = .ok (.invokestatic 89, 3) := by decide +kernel
theorem dL_isRepaid_254 : decode cL_isRepaid 254 = .ok (.ifCond .ne 19, 3) := by decide +kernel
theorem dL_isRepaid_257 : decode cL_isRepaid 257 = .ok (.aload 4, 2) := by decide +kernel
theorem dL_isRepaid_259 : decode cL_isRepaid 259 = .ok (.iconst 0, 1) := by decide +kernel
theorem dL_isRepaid_260 : decode cL_isRepaid 260 = .ok (.iaload, 1) := by decide +kernel
theorem dL_isRepaid_261 : decode cL_isRepaid 261 = .ok (.iload 9, 2) := by decide +kernel
theorem dL_isRepaid_263 : decode cL_isRepaid 263 = .ok (.iload 10, 2) := by decide +kernel
theorem dL_isRepaid_265 : decode cL_isRepaid 265 = .ok (.isub, 1) := by decide +kernel
theorem dL_isRepaid_266 : decode cL_isRepaid 266 = .ok (.if_icmp .ne 7, 3) := by decide +kernel
theorem dL_isRepaid_269 : decode cL_isRepaid 269 = .ok (.iconst 1, 1) := by decide +kernel
theorem dL_isRepaid_270 : decode cL_isRepaid 270 = .ok (.goto 4, 3) := by decide +kernel
theorem dL_isRepaid_273 : decode cL_isRepaid 273 = .ok (.iconst 0, 1) := by decide +kernel
theorem dL_isRepaid_274 : decode cL_isRepaid 274 = .ok (.ireturn, 1) := by decide +kernel
theorem dL_isCharged_0 : decode cL_isCharged 0 = .ok (.iconst 1, 1) := by decide +kernel
theorem dL_isCharged_1 : decode cL_isCharged 1 = .ok (.iload 4, 2) := by decide +kernel
theorem dL_isCharged_3 : decode cL_isCharged 3 = .ok (.iload 4, 2) := by decide +kernel
theorem dL_isCharged_5 : decode cL_isCharged 5 = .ok (.bipush 8, 2) := by decide +kernel
theorem dL_isCharged_7 : decode cL_isCharged 7 = .ok (.ishr, 1) := by decide +kernel
theorem dL_isCharged_8 : decode cL_isCharged 8 = .ok (.iconst 3, 1) := by decide +kernel
theorem dL_isCharged_9 : decode cL_isCharged 9 = .ok (.invokestatic 83, 3) := by decide +kernel
theorem dL_isCharged_12 : decode cL_isCharged 12 = .ok (.ifCond .ne 8, 3) := by decide +kernel
theorem dL_isCharged_15 : decode cL_isCharged 15 = .ok (.bipush 99, 2) := by decide +kernel
theorem dL_isCharged_17 : decode cL_isCharged 17 = .ok (.goto 5, 3) := by decide +kernel
theorem dL_isCharged_20 : decode cL_isCharged 20 = .ok (.bipush 20, 2) := by decide +kernel
theorem dL_isCharged_22 : decode cL_isCharged 22 = .ok (.invokestatic 83, 3) := by decide +kernel
theorem dL_isCharged_25 : decode cL_isCharged 25 = .ok (.iadd, 1) := by decide +kernel
theorem dL_isCharged_26 : decode cL_isCharged 26 = .ok (.istore 5, 2) := by decide +kernel
theorem dL_isCharged_28 : decode cL_isCharged 28 = .ok (.iconst 0, 1) := by decide +kernel
theorem dL_isCharged_29 : decode cL_isCharged 29 = .ok (.istore 6, 2) := by decide +kernel
theorem dL_isCharged_31 : decode cL_isCharged 31 = .ok (.iconst 0, 1) := by decide +kernel
theorem dL_isCharged_32 : decode cL_isCharged 32 = .ok (.istore 7, 2) := by decide +kernel
theorem dL_isCharged_34 : decode cL_isCharged 34 = .ok (.iload 7, 2) := by decide +kernel
theorem dL_isCharged_36 : decode cL_isCharged 36 = .ok (.aload_n 1, 1) := by decide +kernel
theorem dL_isCharged_37 : decode cL_isCharged 37 = .ok (.iconst 1, 1) := by decide +kernel
theorem dL_isCharged_38 : decode cL_isCharged 38 = .ok (.iaload, 1) := by decide +kernel
theorem dL_isCharged_39 : decode cL_isCharged 39 = .ok (.if_icmp .ge 87, 3) := by decide +kernel
theorem dL_isCharged_42 : decode cL_isCharged 42 = .ok (.aload_n 2, 1) := by decide +kernel
theorem dL_isCharged_43 : decode cL_isCharged 43 = .ok (.iconst 5, 1) := by decide +kernel
theorem dL_isCharged_44 : decode cL_isCharged 44 = .ok (.iload 7, 2) := by decide +kernel
theorem dL_isCharged_46 : decode cL_isCharged 46 = .ok (.imul, 1) := by decide +kernel
theorem dL_isCharged_47 : decode cL_isCharged 47 = .ok (.iconst 4, 1) := by decide +kernel
theorem dL_isCharged_48 : decode cL_isCharged 48 = .ok (.iadd, 1) := by decide +kernel
theorem dL_isCharged_49 : decode cL_isCharged 49 = .ok (.iaload, 1) := by decide +kernel
theorem dL_isCharged_50 : decode cL_isCharged 50 = .ok (.ifCond .ne 70, 3) := by decide +kernel
theorem dL_isCharged_53 : decode cL_isCharged 53 = .ok (.aload_n 2, 1) := by decide +kernel
theorem dL_isCharged_54 : decode cL_isCharged 54 = .ok (.iconst 5, 1) := by decide +kernel
theorem dL_isCharged_55 : decode cL_isCharged 55 = .ok (.iload 7, 2) := by decide +kernel
theorem dL_isCharged_57 : decode cL_isCharged 57 = .ok (.imul, 1) := by decide +kernel
theorem dL_isCharged_58 : decode cL_isCharged 58 = .ok (.iconst 1, 1) := by decide +kernel
theorem dL_isCharged_59 : decode cL_isCharged 59 = .ok (.iadd, 1) := by decide +kernel
theorem dL_isCharged_60 : decode cL_isCharged 60 = .ok (.iaload, 1) := by decide +kernel
theorem dL_isCharged_61 : decode cL_isCharged 61 = .ok (.iload 5, 2) := by decide +kernel
theorem dL_isCharged_63 : decode cL_isCharged 63 = .ok (.iadd, 1) := by decide +kernel
theorem dL_isCharged_64 : decode cL_isCharged 64 = .ok (.istore 8, 2) := by decide +kernel
theorem dL_isCharged_66 : decode cL_isCharged 66 = .ok (.aload_n 1, 1) := by decide +kernel
theorem dL_isCharged_67 : decode cL_isCharged 67 = .ok (.iconst 3, 1) := by decide +kernel
theorem dL_isCharged_68 : decode cL_isCharged 68 = .ok (.dup2, 1) := by decide +kernel
theorem dL_isCharged_69 : decode cL_isCharged 69 = .ok (.iaload, 1) := by decide +kernel
theorem dL_isCharged_70 : decode cL_isCharged 70 = .ok (.iload 5, 2) := by decide +kernel
theorem dL_isCharged_72 : decode cL_isCharged 72 = .ok (.iadd, 1) := by decide +kernel
theorem dL_isCharged_73 : decode cL_isCharged 73 = .ok (.iastore, 1) := by decide +kernel
theorem dL_isCharged_74 : decode cL_isCharged 74 = .ok (.aload_n 2, 1) := by decide +kernel
theorem dL_isCharged_75 : decode cL_isCharged 75 = .ok (.iconst 5, 1) := by decide +kernel
theorem dL_isCharged_76 : decode cL_isCharged 76 = .ok (.iload 7, 2) := by decide +kernel
theorem dL_isCharged_78 : decode cL_isCharged 78 = .ok (.imul, 1) := by decide +kernel
theorem dL_isCharged_79 : decode cL_isCharged 79 = .ok (.iconst 1, 1) := by decide +kernel
theorem dL_isCharged_80 : decode cL_isCharged 80 = .ok (.iadd, 1) := by decide +kernel
theorem dL_isCharged_81 : decode cL_isCharged 81 = .ok (.iload 8, 2) := by decide +kernel
theorem dL_isCharged_83 : decode cL_isCharged 83 = .ok (.aload_n 2, 1) := by decide +kernel
theorem dL_isCharged_84 : decode cL_isCharged 84 = .ok (.iconst 5, 1) := by decide +kernel
theorem dL_isCharged_85 : decode cL_isCharged 85 = .ok (.iload 7, 2) := by decide +kernel
theorem dL_isCharged_87 : decode cL_isCharged 87 = .ok (.imul, 1) := by decide +kernel
theorem dL_isCharged_88 : decode cL_isCharged 88 = .ok (.iaload, 1) := by decide +kernel
theorem dL_isCharged_89 : decode cL_isCharged 89 = .ok (.if_icmp .le 12, 3) := by decide +kernel
theorem dL_isCharged_92 : decode cL_isCharged 92 = .ok (.aload_n 2, 1) := by decide +kernel
theorem dL_isCharged_93 : decode cL_isCharged 93 = .ok (.iconst 5, 1) := by decide +kernel
theorem dL_isCharged_94 : decode cL_isCharged 94 = .ok (.iload 7, 2) := by decide +kernel
theorem dL_isCharged_96 : decode cL_isCharged 96 = .ok (.imul, 1) := by decide +kernel
theorem dL_isCharged_97 : decode cL_isCharged 97 = .ok (.iaload, 1) := by decide +kernel
theorem dL_isCharged_98 : decode cL_isCharged 98 = .ok (.goto 5, 3) := by decide +kernel
theorem dL_isCharged_101 : decode cL_isCharged 101 = .ok (.iload 8, 2) := by decide +kernel
theorem dL_isCharged_103 : decode cL_isCharged 103 = .ok (.iastore, 1) := by decide +kernel
theorem dL_isCharged_104 : decode cL_isCharged 104 = .ok (.iload 6, 2) := by decide +kernel
theorem dL_isCharged_106 : decode cL_isCharged 106 = .ok (.iload 8, 2) := by decide +kernel
theorem dL_isCharged_108 : decode cL_isCharged 108 = .ok (.aload_n 2, 1) := by decide +kernel
theorem dL_isCharged_109 : decode cL_isCharged 109 = .ok (.iconst 5, 1) := by decide +kernel
theorem dL_isCharged_110 : decode cL_isCharged 110 = .ok (.iload 7, 2) := by decide +kernel
theorem dL_isCharged_112 : decode cL_isCharged 112 = .ok (.imul, 1) := by decide +kernel
theorem dL_isCharged_113 : decode cL_isCharged 113 = .ok (.iconst 1, 1) := by decide +kernel
theorem dL_isCharged_114 : decode cL_isCharged 114 = .ok (.iadd, 1) := by decide +kernel
theorem dL_isCharged_115 : decode cL_isCharged 115 = .ok (.iaload, 1) := by decide +kernel
theorem dL_isCharged_116 : decode cL_isCharged 116 = .ok (.isub, 1) := by decide +kernel
theorem dL_isCharged_117 : decode cL_isCharged 117 = .ok (.iadd, 1) := by decide +kernel
theorem dL_isCharged_118 : decode cL_isCharged 118 = .ok (.istore 6, 2) := by decide +kernel
theorem dL_isCharged_120 : decode cL_isCharged 120 = .ok (.iinc 7 1, 3) := by decide +kernel
theorem dL_isCharged_123 : decode cL_isCharged 123 = .ok (.goto (-89), 3) := by decide +kernel
theorem dL_isCharged_126 : decode cL_isCharged 126 = .ok (.aload_n 1, 1) := by decide +kernel
theorem dL_isCharged_127 : decode cL_isCharged 127 = .ok (.iconst 5, 1) := by decide +kernel
theorem dL_isCharged_128 : decode cL_isCharged 128 = .ok (.dup2, 1) := by decide +kernel
theorem dL_isCharged_129 : decode cL_isCharged 129 = .ok (.iaload, 1) := by decide +kernel
theorem dL_isCharged_130 : decode cL_isCharged 130 = .ok (.iload 6, 2) := by decide +kernel
theorem dL_isCharged_132 : decode cL_isCharged 132 = .ok (.iadd, 1) := by decide +kernel
theorem dL_isCharged_133 : decode cL_isCharged 133 = .ok (.iastore, 1) := by decide +kernel
theorem dL_isCharged_134 : decode cL_isCharged 134 = .ok (.aload_n 0, 1) := by decide +kernel
theorem dL_isCharged_135 : decode cL_isCharged 135 = .ok (.iload 5, 2) := by decide +kernel
theorem dL_isCharged_137 : decode cL_isCharged 137 = .ok (.aload_n 3, 1) := by decide +kernel
theorem dL_isCharged_138 : decode cL_isCharged 138 = .ok (.invokestatic 92, 3) := by decide +kernel
theorem dL_isCharged_141 : decode cL_isCharged 141 = .ok (.ifCond .ne 36, 3) := by decide +kernel
theorem dL_isCharged_144 : decode cL_isCharged 144 = .ok (.aload_n 3, 1) := by decide +kernel
theorem dL_isCharged_145 : decode cL_isCharged 145 = .ok (.iconst 0, 1) := by decide +kernel
theorem dL_isCharged_146 : decode cL_isCharged 146 = .ok (.iaload, 1) := by decide +kernel
theorem dL_isCharged_147 : decode cL_isCharged 147 = .ok (.iload 6, 2) := by decide +kernel
theorem dL_isCharged_149 : decode cL_isCharged 149 = .ok (.if_icmp .ne 28, 3) := by decide +kernel
theorem dL_isCharged_152 : decode cL_isCharged 152 = .ok (.aload_n 0, 1) := by decide +kernel
theorem dL_isCharged_153 : decode cL_isCharged 153 = .ok (.iconst 0, 1) := by decide +kernel
theorem dL_isCharged_154 : decode cL_isCharged 154 = .ok (.aload_n 3, 1) := by decide +kernel
theorem dL_isCharged_155 : decode cL_isCharged 155 = .ok (.invokestatic 92, 3) := by decide +kernel
theorem dL_isCharged_158 : decode cL_isCharged 158 = .ok (.iconst 1, 1) := by decide +kernel
theorem dL_isCharged_159 : decode cL_isCharged 159 = .ok (.if_icmp .ne 18, 3) := by decide +kernel
theorem dL_isCharged_162 : decode cL_isCharged 162 = .ok (.aload_n 0, 1) := by decide +kernel
theorem dL_isCharged_163 : decode cL_isCharged 163 = .ok (.bipush 100, 2) := by decide +kernel
theorem dL_isCharged_165 : decode cL_isCharged 165 = .ok (.aload_n 3, 1) := by decide +kernel
theorem dL_isCharged_166 : decode cL_isCharged 166 = .ok (.invokestatic 92, 3) := by decide +kernel
theorem dL_isCharged_169 : decode cL_isCharged 169 = .ok (.iconst 1, 1) := by decide +kernel
theorem dL_isCharged_170 : decode cL_isCharged 170 = .ok (.if_icmp .ne 7, 3) := by decide +kernel
theorem dL_isCharged_173 : decode cL_isCharged 173 = .ok (.iconst 1, 1) := by decide +kernel
theorem dL_isCharged_174 : decode cL_isCharged 174 = .ok (.goto 4, 3) := by decide +kernel
theorem dL_isCharged_177 : decode cL_isCharged 177 = .ok (.iconst 0, 1) := by decide +kernel
theorem dL_isCharged_178 : decode cL_isCharged 178 = .ok (.ireturn, 1) := by decide +kernel
theorem dL_isDrawn_0 : decode cL_isDrawn 0 = .ok (.iconst 1, 1) := by decide +kernel
theorem dL_isDrawn_1 : decode cL_isDrawn 1 = .ok (.iload 8, 2) := by decide +kernel
theorem dL_isDrawn_3 : decode cL_isDrawn 3 = .ok (.iload 8, 2) := by decide +kernel
theorem dL_isDrawn_5 : decode cL_isDrawn 5 = .ok (.bipush 8, 2) := by decide +kernel
theorem dL_isDrawn_7 : decode cL_isDrawn 7 = .ok (.ishr, 1) := by decide +kernel
theorem dL_isDrawn_8 : decode cL_isDrawn 8 = .ok (.iconst 3, 1) := by decide +kernel
theorem dL_isDrawn_9 : decode cL_isDrawn 9 = .ok (.invokestatic 83, 3) := by decide +kernel
theorem dL_isDrawn_12 : decode cL_isDrawn 12 = .ok (.ifCond .ne 8, 3) := by decide +kernel
theorem dL_isDrawn_15 : decode cL_isDrawn 15 = .ok (.bipush 60, 2) := by decide +kernel
theorem dL_isDrawn_17 : decode cL_isDrawn 17 = .ok (.goto 5, 3) := by decide +kernel
theorem dL_isDrawn_20 : decode cL_isDrawn 20 = .ok (.bipush 8, 2) := by decide +kernel
theorem dL_isDrawn_22 : decode cL_isDrawn 22 = .ok (.invokestatic 83, 3) := by decide +kernel
theorem dL_isDrawn_25 : decode cL_isDrawn 25 = .ok (.iadd, 1) := by decide +kernel
theorem dL_isDrawn_26 : decode cL_isDrawn 26 = .ok (.istore 9, 2) := by decide +kernel
theorem dL_isDrawn_28 : decode cL_isDrawn 28 = .ok (.iconst 0, 1) := by decide +kernel
theorem dL_isDrawn_29 : decode cL_isDrawn 29 = .ok (.istore 10, 2) := by decide +kernel
theorem dL_isDrawn_31 : decode cL_isDrawn 31 = .ok (.iconst 0, 1) := by decide +kernel
theorem dL_isDrawn_32 : decode cL_isDrawn 32 = .ok (.istore 11, 2) := by decide +kernel
theorem dL_isDrawn_34 : decode cL_isDrawn 34 = .ok (.iload 11, 2) := by decide +kernel
theorem dL_isDrawn_36 : decode cL_isDrawn 36 = .ok (.bipush 7, 2) := by decide +kernel
theorem dL_isDrawn_38 : decode cL_isDrawn 38 = .ok (.if_icmp .ge 18, 3) := by decide +kernel
theorem dL_isDrawn_41 : decode cL_isDrawn 41 = .ok (.aload 4, 2) := by decide +kernel
theorem dL_isDrawn_43 : decode cL_isDrawn 43 = .ok (.iload 11, 2) := by decide +kernel
theorem dL_isDrawn_45 : decode cL_isDrawn 45 = .ok (.aload_n 1, 1) := by decide +kernel
theorem dL_isDrawn_46 : decode cL_isDrawn 46 = .ok (.iload 11, 2) := by decide +kernel
theorem dL_isDrawn_48 : decode cL_isDrawn 48 = .ok (.iaload, 1) := by decide +kernel
theorem dL_isDrawn_49 : decode cL_isDrawn 49 = .ok (.iastore, 1) := by decide +kernel
theorem dL_isDrawn_50 : decode cL_isDrawn 50 = .ok (.iinc 11 1, 3) := by decide +kernel
theorem dL_isDrawn_53 : decode cL_isDrawn 53 = .ok (.goto (-19), 3) := by decide +kernel
theorem dL_isDrawn_56 : decode cL_isDrawn 56 = .ok (.iconst 0, 1) := by decide +kernel
theorem dL_isDrawn_57 : decode cL_isDrawn 57 = .ok (.istore 11, 2) := by decide +kernel
theorem dL_isDrawn_59 : decode cL_isDrawn 59 = .ok (.iload 11, 2) := by decide +kernel
theorem dL_isDrawn_61 : decode cL_isDrawn 61 = .ok (.bipush 30, 2) := by decide +kernel
theorem dL_isDrawn_63 : decode cL_isDrawn 63 = .ok (.if_icmp .ge 18, 3) := by decide +kernel
theorem dL_isDrawn_66 : decode cL_isDrawn 66 = .ok (.aload 5, 2) := by decide +kernel
theorem dL_isDrawn_68 : decode cL_isDrawn 68 = .ok (.iload 11, 2) := by decide +kernel
theorem dL_isDrawn_70 : decode cL_isDrawn 70 = .ok (.aload_n 2, 1) := by decide +kernel
theorem dL_isDrawn_71 : decode cL_isDrawn 71 = .ok (.iload 11, 2) := by decide +kernel
theorem dL_isDrawn_73 : decode cL_isDrawn 73 = .ok (.iaload, 1) := by decide +kernel
theorem dL_isDrawn_74 : decode cL_isDrawn 74 = .ok (.iastore, 1) := by decide +kernel
theorem dL_isDrawn_75 : decode cL_isDrawn 75 = .ok (.iinc 11 1, 3) := by decide +kernel
theorem dL_isDrawn_78 : decode cL_isDrawn 78 = .ok (.goto (-19), 3) := by decide +kernel
theorem dL_isDrawn_81 : decode cL_isDrawn 81 = .ok (.iconst 0, 1) := by decide +kernel
theorem dL_isDrawn_82 : decode cL_isDrawn 82 = .ok (.istore 11, 2) := by decide +kernel
theorem dL_isDrawn_84 : decode cL_isDrawn 84 = .ok (.iload 11, 2) := by decide +kernel
theorem dL_isDrawn_86 : decode cL_isDrawn 86 = .ok (.bipush 60, 2) := by decide +kernel
theorem dL_isDrawn_88 : decode cL_isDrawn 88 = .ok (.if_icmp .ge 18, 3) := by decide +kernel
theorem dL_isDrawn_91 : decode cL_isDrawn 91 = .ok (.aload 6, 2) := by decide +kernel
theorem dL_isDrawn_93 : decode cL_isDrawn 93 = .ok (.iload 11, 2) := by decide +kernel
theorem dL_isDrawn_95 : decode cL_isDrawn 95 = .ok (.aload_n 3, 1) := by decide +kernel
theorem dL_isDrawn_96 : decode cL_isDrawn 96 = .ok (.iload 11, 2) := by decide +kernel
theorem dL_isDrawn_98 : decode cL_isDrawn 98 = .ok (.iaload, 1) := by decide +kernel
theorem dL_isDrawn_99 : decode cL_isDrawn 99 = .ok (.iastore, 1) := by decide +kernel
theorem dL_isDrawn_100 : decode cL_isDrawn 100 = .ok (.iinc 11 1, 3) := by decide +kernel
theorem dL_isDrawn_103 : decode cL_isDrawn 103 = .ok (.goto (-19), 3) := by decide +kernel
theorem dL_isDrawn_106 : decode cL_isDrawn 106 = .ok (.iconst 0, 1) := by decide +kernel
theorem dL_isDrawn_107 : decode cL_isDrawn 107 = .ok (.istore 11, 2) := by decide +kernel
theorem dL_isDrawn_109 : decode cL_isDrawn 109 = .ok (.iload 11, 2) := by decide +kernel
theorem dL_isDrawn_111 : decode cL_isDrawn 111 = .ok (.aload_n 1, 1) := by decide +kernel
theorem dL_isDrawn_112 : decode cL_isDrawn 112 = .ok (.iconst 1, 1) := by decide +kernel
theorem dL_isDrawn_113 : decode cL_isDrawn 113 = .ok (.iaload, 1) := by decide +kernel
theorem dL_isDrawn_114 : decode cL_isDrawn 114 = .ok (.if_icmp .ge 24, 3) := by decide +kernel
theorem dL_isDrawn_117 : decode cL_isDrawn 117 = .ok (.iload 10, 2) := by decide +kernel
theorem dL_isDrawn_119 : decode cL_isDrawn 119 = .ok (.iconst 1, 1) := by decide +kernel
theorem dL_isDrawn_120 : decode cL_isDrawn 120 = .ok (.aload_n 2, 1) := by decide +kernel
theorem dL_isDrawn_121 : decode cL_isDrawn 121 = .ok (.iconst 5, 1) := by decide +kernel
theorem dL_isDrawn_122 : decode cL_isDrawn 122 = .ok (.iload 11, 2) := by decide +kernel
theorem dL_isDrawn_124 : decode cL_isDrawn 124 = .ok (.imul, 1) := by decide +kernel
theorem dL_isDrawn_125 : decode cL_isDrawn 125 = .ok (.iconst 4, 1) := by decide +kernel
theorem dL_isDrawn_126 : decode cL_isDrawn 126 = .ok (.iadd, 1) := by decide +kernel
theorem dL_isDrawn_127 : decode cL_isDrawn 127 = .ok (.iaload, 1) := by decide +kernel
theorem dL_isDrawn_128 : decode cL_isDrawn 128 = .ok (.isub, 1) := by decide +kernel
theorem dL_isDrawn_129 : decode cL_isDrawn 129 = .ok (.iadd, 1) := by decide +kernel
theorem dL_isDrawn_130 : decode cL_isDrawn 130 = .ok (.istore 10, 2) := by decide +kernel
theorem dL_isDrawn_132 : decode cL_isDrawn 132 = .ok (.iinc 11 1, 3) := by decide +kernel
theorem dL_isDrawn_135 : decode cL_isDrawn 135 = .ok (.goto (-26), 3) := by decide +kernel
theorem dL_isDrawn_138 : decode cL_isDrawn 138 = .ok (.iload 10, 2) := by decide +kernel
theorem dL_isDrawn_140 : decode cL_isDrawn 140 = .ok (.ifCond .eq 17, 3) := by decide +kernel
theorem dL_isDrawn_143 : decode cL_isDrawn 143 = .ok (.aload 4, 2) := by decide +kernel
theorem dL_isDrawn_145 : decode cL_isDrawn 145 = .ok (.aload 5, 2) := by decide +kernel
theorem dL_isDrawn_147 : decode cL_isDrawn 147 = .ok (.aload 6, 2) := by decide +kernel
theorem dL_isDrawn_149 : decode cL_isDrawn 149 = .ok (.iload 9, 2) := by decide +kernel
theorem dL_isDrawn_151 : decode cL_isDrawn 151 = .ok (.invokestatic 95, 3) := by decide +kernel
theorem dL_isDrawn_154 : decode cL_isDrawn 154 = .ok (.ifCond .ne 32, 3) := by decide +kernel
theorem dL_isDrawn_157 : decode cL_isDrawn 157 = .ok (.aload_n 0, 1) := by decide +kernel
theorem dL_isDrawn_158 : decode cL_isDrawn 158 = .ok (.iload 9, 2) := by decide +kernel
theorem dL_isDrawn_160 : decode cL_isDrawn 160 = .ok (.aload 7, 2) := by decide +kernel
theorem dL_isDrawn_162 : decode cL_isDrawn 162 = .ok (.invokestatic 99, 3) := by decide +kernel
theorem dL_isDrawn_165 : decode cL_isDrawn 165 = .ok (.iconst 2, 1) := by decide +kernel
theorem dL_isDrawn_166 : decode cL_isDrawn 166 = .ok (.if_icmp .ne 18, 3) := by decide +kernel
theorem dL_isDrawn_169 : decode cL_isDrawn 169 = .ok (.aload_n 0, 1) := by decide +kernel
theorem dL_isDrawn_170 : decode cL_isDrawn 170 = .ok (.iconst 0, 1) := by decide +kernel
theorem dL_isDrawn_171 : decode cL_isDrawn 171 = .ok (.aload 7, 2) := by decide +kernel
theorem dL_isDrawn_173 : decode cL_isDrawn 173 = .ok (.invokestatic 99, 3) := by decide +kernel
theorem dL_isDrawn_176 : decode cL_isDrawn 176 = .ok (.iconst 1, 1) := by decide +kernel
theorem dL_isDrawn_177 : decode cL_isDrawn 177 = .ok (.if_icmp .ne 7, 3) := by decide +kernel
theorem dL_isDrawn_180 : decode cL_isDrawn 180 = .ok (.iconst 1, 1) := by decide +kernel
theorem dL_isDrawn_181 : decode cL_isDrawn 181 = .ok (.goto 4, 3) := by decide +kernel
theorem dL_isDrawn_184 : decode cL_isDrawn 184 = .ok (.iconst 0, 1) := by decide +kernel
theorem dL_isDrawn_185 : decode cL_isDrawn 185 = .ok (.ireturn, 1) := by decide +kernel
theorem dL_isDrawn_186 : decode cL_isDrawn 186 = .ok (.iconst 0, 1) := by decide +kernel
theorem dL_isDrawn_187 : decode cL_isDrawn 187 = .ok (.istore 11, 2) := by decide +kernel
theorem dL_isDrawn_189 : decode cL_isDrawn 189 = .ok (.iload 11, 2) := by decide +kernel
theorem dL_isDrawn_191 : decode cL_isDrawn 191 = .ok (.bipush 7, 2) := by decide +kernel
theorem dL_isDrawn_193 : decode cL_isDrawn 193 = .ok (.if_icmp .ge 18, 3) := by decide +kernel
theorem dL_isDrawn_196 : decode cL_isDrawn 196 = .ok (.aload_n 1, 1) := by decide +kernel
theorem dL_isDrawn_197 : decode cL_isDrawn 197 = .ok (.iload 11, 2) := by decide +kernel
theorem dL_isDrawn_199 : decode cL_isDrawn 199 = .ok (.aload 4, 2) := by decide +kernel
theorem dL_isDrawn_201 : decode cL_isDrawn 201 = .ok (.iload 11, 2) := by decide +kernel
theorem dL_isDrawn_203 : decode cL_isDrawn 203 = .ok (.iaload, 1) := by decide +kernel
theorem dL_isDrawn_204 : decode cL_isDrawn 204 = .ok (.iastore, 1) := by decide +kernel
theorem dL_isDrawn_205 : decode cL_isDrawn 205 = .ok (.iinc 11 1, 3) := by decide +kernel
theorem dL_isDrawn_208 : decode cL_isDrawn 208 = .ok (.goto (-19), 3) := by decide +kernel
theorem dL_isDrawn_211 : decode cL_isDrawn 211 = .ok (.iconst 0, 1) := by decide +kernel
theorem dL_isDrawn_212 : decode cL_isDrawn 212 = .ok (.istore 11, 2) := by decide +kernel
theorem dL_isDrawn_214 : decode cL_isDrawn 214 = .ok (.iload 11, 2) := by decide +kernel
theorem dL_isDrawn_216 : decode cL_isDrawn 216 = .ok (.bipush 60, 2) := by decide +kernel
theorem dL_isDrawn_218 : decode cL_isDrawn 218 = .ok (.if_icmp .ge 18, 3) := by decide +kernel
theorem dL_isDrawn_221 : decode cL_isDrawn 221 = .ok (.aload_n 3, 1) := by decide +kernel
theorem dL_isDrawn_222 : decode cL_isDrawn 222 = .ok (.iload 11, 2) := by decide +kernel
theorem dL_isDrawn_224 : decode cL_isDrawn 224 = .ok (.aload 6, 2) := by decide +kernel
theorem dL_isDrawn_226 : decode cL_isDrawn 226 = .ok (.iload 11, 2) := by decide +kernel
theorem dL_isDrawn_228 : decode cL_isDrawn 228 = .ok (.iaload, 1) := by decide +kernel
theorem dL_isDrawn_229 : decode cL_isDrawn 229 = .ok (.iastore, 1) := by decide +kernel
theorem dL_isDrawn_230 : decode cL_isDrawn 230 = .ok (.iinc 11 1, 3) := by decide +kernel
theorem dL_isDrawn_233 : decode cL_isDrawn 233 = .ok (.goto (-19), 3) := by decide +kernel
theorem dL_isDrawn_236 : decode cL_isDrawn 236 = .ok (.iconst 0, 1) := by decide +kernel
theorem dL_isDrawn_237 : decode cL_isDrawn 237 = .ok (.istore 11, 2) := by decide +kernel
theorem dL_isDrawn_239 : decode cL_isDrawn 239 = .ok (.iload 11, 2) := by decide +kernel
theorem dL_isDrawn_241 : decode cL_isDrawn 241 = .ok (.bipush 30, 2) := by decide +kernel
theorem dL_isDrawn_243 : decode cL_isDrawn 243 = .ok (.if_icmp .ge 18, 3) := by decide +kernel
theorem dL_isDrawn_246 : decode cL_isDrawn 246 = .ok (.aload_n 2, 1) := by decide +kernel
theorem dL_isDrawn_247 : decode cL_isDrawn 247 = .ok (.iload 11, 2) := by decide +kernel
theorem dL_isDrawn_249 : decode cL_isDrawn 249 = .ok (.aload 5, 2) := by decide +kernel
theorem dL_isDrawn_251 : decode cL_isDrawn 251 = .ok (.iload 11, 2) := by decide +kernel
theorem dL_isDrawn_253 : decode cL_isDrawn 253 = .ok (.iaload, 1) := by decide +kernel
theorem dL_isDrawn_254 : decode cL_isDrawn 254 = .ok (.iastore, 1) := by decide +kernel
theorem dL_isDrawn_255 : decode cL_isDrawn 255 = .ok (.iinc 11 1, 3) := by decide +kernel
theorem dL_isDrawn_258 : decode cL_isDrawn 258 = .ok (.goto (-19), 3) := by decide +kernel
theorem dL_isDrawn_261 : decode cL_isDrawn 261 = .ok (.iconst 0, 1) := by decide +kernel
theorem dL_isDrawn_262 : decode cL_isDrawn 262 = .ok (.istore 11, 2) := by decide +kernel
theorem dL_isDrawn_264 : decode cL_isDrawn 264 = .ok (.iload 11, 2) := by decide +kernel
theorem dL_isDrawn_266 : decode cL_isDrawn 266 = .ok (.aload_n 1, 1) := by decide +kernel
theorem dL_isDrawn_267 : decode cL_isDrawn 267 = .ok (.iconst 1, 1) := by decide +kernel
theorem dL_isDrawn_268 : decode cL_isDrawn 268 = .ok (.iaload, 1) := by decide +kernel
theorem dL_isDrawn_269 : decode cL_isDrawn 269 = .ok (.if_icmp .ge 37, 3) := by decide +kernel
theorem dL_isDrawn_272 : decode cL_isDrawn 272 = .ok (.aload_n 2, 1) := by decide +kernel
theorem dL_isDrawn_273 : decode cL_isDrawn 273 = .ok (.iconst 5, 1) := by decide +kernel
theorem dL_isDrawn_274 : decode cL_isDrawn 274 = .ok (.iload 11, 2) := by decide +kernel
theorem dL_isDrawn_276 : decode cL_isDrawn 276 = .ok (.imul, 1) := by decide +kernel
theorem dL_isDrawn_277 : decode cL_isDrawn 277 = .ok (.iconst 1, 1) := by decide +kernel
theorem dL_isDrawn_278 : decode cL_isDrawn 278 = .ok (.iadd, 1) := by decide +kernel
theorem dL_isDrawn_279 : decode cL_isDrawn 279 = .ok (.dup2, 1) := by decide +kernel
theorem dL_isDrawn_280 : decode cL_isDrawn 280 = .ok (.iaload, 1) := by decide +kernel
theorem dL_isDrawn_281 : decode cL_isDrawn 281 = .ok (.aload_n 2, 1) := by decide +kernel
theorem dL_isDrawn_282 : decode cL_isDrawn 282 = .ok (.iconst 5, 1) := by decide +kernel
theorem dL_isDrawn_283 : decode cL_isDrawn 283 = .ok (.iload 11, 2) := by decide +kernel
theorem dL_isDrawn_285 : decode cL_isDrawn 285 = .ok (.imul, 1) := by decide +kernel
theorem dL_isDrawn_286 : decode cL_isDrawn 286 = .ok (.iconst 4, 1) := by decide +kernel
theorem dL_isDrawn_287 : decode cL_isDrawn 287 = .ok (.iadd, 1) := by decide +kernel
theorem dL_isDrawn_288 : decode cL_isDrawn 288 = .ok (.iaload, 1) := by decide +kernel
theorem dL_isDrawn_289 : decode cL_isDrawn 289 = .ok (.ifCond .ne 8, 3) := by decide +kernel
theorem dL_isDrawn_292 : decode cL_isDrawn 292 = .ok (.iload 9, 2) := by decide +kernel
theorem dL_isDrawn_294 : decode cL_isDrawn 294 = .ok (.goto 4, 3) := by decide +kernel
theorem dL_isDrawn_297 : decode cL_isDrawn 297 = .ok (.iconst 0, 1) := by decide +kernel
theorem dL_isDrawn_298 : decode cL_isDrawn 298 = .ok (.isub, 1) := by decide +kernel
theorem dL_isDrawn_299 : decode cL_isDrawn 299 = .ok (.iastore, 1) := by decide +kernel
theorem dL_isDrawn_300 : decode cL_isDrawn 300 = .ok (.iinc 11 1, 3) := by decide +kernel
theorem dL_isDrawn_303 : decode cL_isDrawn 303 = .ok (.goto (-39), 3) := by decide +kernel
theorem dL_isDrawn_306 : decode cL_isDrawn 306 = .ok (.aload_n 1, 1) := by decide +kernel
theorem dL_isDrawn_307 : decode cL_isDrawn 307 = .ok (.iconst 4, 1) := by decide +kernel
theorem dL_isDrawn_308 : decode cL_isDrawn 308 = .ok (.dup2, 1) := by decide +kernel
theorem dL_isDrawn_309 : decode cL_isDrawn 309 = .ok (.iaload, 1) := by decide +kernel
theorem dL_isDrawn_310 : decode cL_isDrawn 310 = .ok (.iload 9, 2) := by decide +kernel
theorem dL_isDrawn_312 : decode cL_isDrawn 312 = .ok (.iload 10, 2) := by decide +kernel
theorem dL_isDrawn_314 : decode cL_isDrawn 314 = .ok (.imul, 1) := by decide +kernel
theorem dL_isDrawn_315 : decode cL_isDrawn 315 = .ok (.iadd, 1) := by decide +kernel
theorem dL_isDrawn_316 : decode cL_isDrawn 316 = .ok (.iastore, 1) := by decide +kernel
theorem dL_isDrawn_317 : decode cL_isDrawn 317 = .ok (.aload_n 0, 1) := by decide +kernel
theorem dL_isDrawn_318 : decode cL_isDrawn 318 = .ok (.iload 9, 2) := by decide +kernel
theorem dL_isDrawn_320 : decode cL_isDrawn 320 = .ok (.aload 7, 2) := by decide +kernel
theorem dL_isDrawn_322 : decode cL_isDrawn 322 = .ok (.invokestatic 99, 3) := by decide +kernel
theorem dL_isDrawn_325 : decode cL_isDrawn 325 = .ok (.ifCond .ne 19, 3) := by decide +kernel
theorem dL_isDrawn_328 : decode cL_isDrawn 328 = .ok (.aload 7, 2) := by decide +kernel
