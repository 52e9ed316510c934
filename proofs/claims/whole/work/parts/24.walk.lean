/-! decode rows and regions (by program): X12_factorValue X12_held X12_aimsOf X12_handOf X12_isGood X12_isFeasible X12_isAllowed X12_isBetter X12_print X12_prints X12_check X12_giveAll X12_tree X12_breaksAlways X12_firstGiven X12_nextGiven X12_isPoint X12_isBound X12_trees X12_searched -/
theorem d_X12_factorValue_0 : decode prog_14_method_70_code 0 = .ok (.aload_n 0, 1) := by decide +kernel
theorem d_X12_factorValue_1 : decode prog_14_method_70_code 1 = .ok (.getfield 31, 3) := by decide +kernel
theorem d_X12_factorValue_4 : decode prog_14_method_70_code 4 = .ok (.aload_n 0, 1) := by decide +kernel
theorem d_X12_factorValue_5 : decode prog_14_method_70_code 5 = .ok (.getfield 472, 3) := by decide +kernel
theorem d_X12_factorValue_8 : decode prog_14_method_70_code 8 = .ok (.iaload, 1) := by decide +kernel
theorem d_X12_factorValue_9 : decode prog_14_method_70_code 9 = .ok (.istore_n 1, 1) := by decide +kernel
theorem d_X12_factorValue_10 : decode prog_14_method_70_code 10 = .ok (.iload_n 1, 1) := by decide +kernel
theorem d_X12_factorValue_11 : decode prog_14_method_70_code 11 = .ok (.iconst 2, 1) := by decide +kernel
theorem d_X12_factorValue_12 : decode prog_14_method_70_code 12 = .ok (.if_icmp .ne 26, 3) := by decide +kernel
theorem d_X12_factorValue_15 : decode prog_14_method_70_code 15 = .ok (.aload_n 0, 1) := by decide +kernel
theorem d_X12_factorValue_16 : decode prog_14_method_70_code 16 = .ok (.dup, 1) := by decide +kernel
theorem d_X12_factorValue_17 : decode prog_14_method_70_code 17 = .ok (.getfield 472, 3) := by decide +kernel
theorem d_X12_factorValue_20 : decode prog_14_method_70_code 20 = .ok (.iconst 1, 1) := by decide +kernel
theorem d_X12_factorValue_21 : decode prog_14_method_70_code 21 = .ok (.iadd, 1) := by decide +kernel
theorem d_X12_factorValue_22 : decode prog_14_method_70_code 22 = .ok (.putfield 472, 3) := by decide +kernel
theorem d_X12_factorValue_25 : decode prog_14_method_70_code 25 = .ok (.aload_n 0, 1) := by decide +kernel
theorem d_X12_factorValue_26 : decode prog_14_method_70_code 26 = .ok (.getfield 34, 3) := by decide +kernel
theorem d_X12_factorValue_29 : decode prog_14_method_70_code 29 = .ok (.aload_n 0, 1) := by decide +kernel
theorem d_X12_factorValue_30 : decode prog_14_method_70_code 30 = .ok (.getfield 472, 3) := by decide +kernel
theorem d_X12_factorValue_33 : decode prog_14_method_70_code 33 = .ok (.iconst 1, 1) := by decide +kernel
theorem d_X12_factorValue_34 : decode prog_14_method_70_code 34 = .ok (.isub, 1) := by decide +kernel
theorem d_X12_factorValue_35 : decode prog_14_method_70_code 35 = .ok (.iaload, 1) := by decide +kernel
theorem d_X12_factorValue_36 : decode prog_14_method_70_code 36 = .ok (.i2l, 1) := by decide +kernel
theorem d_X12_factorValue_37 : decode prog_14_method_70_code 37 = .ok (.lreturn, 1) := by decide +kernel
theorem d_X12_factorValue_38 : decode prog_14_method_70_code 38 = .ok (.iload_n 1, 1) := by decide +kernel
theorem d_X12_factorValue_39 : decode prog_14_method_70_code 39 = .ok (.iconst 1, 1) := by decide +kernel
theorem d_X12_factorValue_40 : decode prog_14_method_70_code 40 = .ok (.if_icmp .ne 8, 3) := by decide +kernel
theorem d_X12_factorValue_43 : decode prog_14_method_70_code 43 = .ok (.aload_n 0, 1) := by decide +kernel
theorem d_X12_factorValue_44 : decode prog_14_method_70_code 44 = .ok (.invokevirtual 486, 3) := by decide +kernel
theorem d_X12_factorValue_47 : decode prog_14_method_70_code 47 = .ok (.lreturn, 1) := by decide +kernel
theorem d_X12_factorValue_48 : decode prog_14_method_70_code 48 = .ok (.aload_n 0, 1) := by decide +kernel
theorem d_X12_factorValue_49 : decode prog_14_method_70_code 49 = .ok (.dup, 1) := by decide +kernel
theorem d_X12_factorValue_50 : decode prog_14_method_70_code 50 = .ok (.getfield 472, 3) := by decide +kernel
theorem d_X12_factorValue_53 : decode prog_14_method_70_code 53 = .ok (.iconst 1, 1) := by decide +kernel
theorem d_X12_factorValue_54 : decode prog_14_method_70_code 54 = .ok (.iadd, 1) := by decide +kernel
theorem d_X12_factorValue_55 : decode prog_14_method_70_code 55 = .ok (.putfield 472, 3) := by decide +kernel
theorem d_X12_factorValue_58 : decode prog_14_method_70_code 58 = .ok (.iload_n 1, 1) := by decide +kernel
theorem d_X12_factorValue_59 : decode prog_14_method_70_code 59 = .ok (.bipush 45, 2) := by decide +kernel
theorem d_X12_factorValue_61 : decode prog_14_method_70_code 61 = .ok (.if_icmp .ne 12, 3) := by decide +kernel
theorem d_X12_factorValue_64 : decode prog_14_method_70_code 64 = .ok (.aload_n 0, 1) := by decide +kernel
theorem d_X12_factorValue_65 : decode prog_14_method_70_code 65 = .ok (.invokevirtual 483, 3) := by decide +kernel
theorem d_X12_factorValue_68 : decode prog_14_method_70_code 68 = .ok (.lneg, 1) := by decide +kernel
theorem d_X12_factorValue_69 : decode prog_14_method_70_code 69 = .ok (.invokestatic 479, 3) := by decide +kernel
theorem d_X12_factorValue_72 : decode prog_14_method_70_code 72 = .ok (.lreturn, 1) := by decide +kernel
theorem d_X12_factorValue_73 : decode prog_14_method_70_code 73 = .ok (.iload_n 1, 1) := by decide +kernel
theorem d_X12_factorValue_74 : decode prog_14_method_70_code 74 = .ok (.bipush 91, 2) := by decide +kernel
theorem d_X12_factorValue_76 : decode prog_14_method_70_code 76 = .ok (.if_icmp .ne 30, 3) := by decide +kernel
theorem d_X12_factorValue_79 : decode prog_14_method_70_code 79 = .ok (.aload_n 0, 1) := by decide +kernel
theorem d_X12_factorValue_80 : decode prog_14_method_70_code 80 = .ok (.invokevirtual 489, 3) := by decide +kernel
theorem d_X12_factorValue_83 : decode prog_14_method_70_code 83 = .ok (.lconst 0, 1) := by decide +kernel
theorem d_X12_factorValue_84 : decode prog_14_method_70_code 84 = .ok (.lcmp, 1) := by decide +kernel
theorem d_X12_factorValue_85 : decode prog_14_method_70_code 85 = .ok (.ifCond .ne 7, 3) := by decide +kernel
theorem d_X12_factorValue_88 : decode prog_14_method_70_code 88 = .ok (.lconst 1, 1) := by decide +kernel
theorem d_X12_factorValue_89 : decode prog_14_method_70_code 89 = .ok (.goto 4, 3) := by decide +kernel
theorem d_X12_factorValue_92 : decode prog_14_method_70_code 92 = .ok (.lconst 0, 1) := by decide +kernel
theorem d_X12_factorValue_93 : decode prog_14_method_70_code 93 = .ok (.lstore_n 2, 1) := by decide +kernel
theorem d_X12_factorValue_94 : decode prog_14_method_70_code 94 = .ok (.aload_n 0, 1) := by decide +kernel
theorem d_X12_factorValue_95 : decode prog_14_method_70_code 95 = .ok (.dup, 1) := by decide +kernel
theorem d_X12_factorValue_96 : decode prog_14_method_70_code 96 = .ok (.getfield 472, 3) := by decide +kernel
theorem d_X12_factorValue_99 : decode prog_14_method_70_code 99 = .ok (.iconst 1, 1) := by decide +kernel
theorem d_X12_factorValue_100 : decode prog_14_method_70_code 100 = .ok (.iadd, 1) := by decide +kernel
theorem d_X12_factorValue_101 : decode prog_14_method_70_code 101 = .ok (.putfield 472, 3) := by decide +kernel
theorem d_X12_factorValue_104 : decode prog_14_method_70_code 104 = .ok (.lload_n 2, 1) := by decide +kernel
theorem d_X12_factorValue_105 : decode prog_14_method_70_code 105 = .ok (.lreturn, 1) := by decide +kernel
theorem d_X12_factorValue_106 : decode prog_14_method_70_code 106 = .ok (.aload_n 0, 1) := by decide +kernel
theorem d_X12_factorValue_107 : decode prog_14_method_70_code 107 = .ok (.dup, 1) := by decide +kernel
theorem d_X12_factorValue_108 : decode prog_14_method_70_code 108 = .ok (.getfield 472, 3) := by decide +kernel
theorem d_X12_factorValue_111 : decode prog_14_method_70_code 111 = .ok (.iload_n 1, 1) := by decide +kernel
theorem d_X12_factorValue_112 : decode prog_14_method_70_code 112 = .ok (.bipush 40, 2) := by decide +kernel
theorem d_X12_factorValue_114 : decode prog_14_method_70_code 114 = .ok (.if_icmp .ne 7, 3) := by decide +kernel
theorem d_X12_factorValue_117 : decode prog_14_method_70_code 117 = .ok (.iconst 0, 1) := by decide +kernel
theorem d_X12_factorValue_118 : decode prog_14_method_70_code 118 = .ok (.goto 4, 3) := by decide +kernel
theorem d_X12_factorValue_121 : decode prog_14_method_70_code 121 = .ok (.iconst 1, 1) := by decide +kernel
theorem d_X12_factorValue_122 : decode prog_14_method_70_code 122 = .ok (.iadd, 1) := by decide +kernel
theorem d_X12_factorValue_123 : decode prog_14_method_70_code 123 = .ok (.putfield 472, 3) := by decide +kernel
theorem d_X12_factorValue_126 : decode prog_14_method_70_code 126 = .ok (.aload_n 0, 1) := by decide +kernel
theorem d_X12_factorValue_127 : decode prog_14_method_70_code 127 = .ok (.invokevirtual 492, 3) := by decide +kernel
theorem d_X12_factorValue_130 : decode prog_14_method_70_code 130 = .ok (.lstore_n 2, 1) := by decide +kernel
theorem d_X12_factorValue_131 : decode prog_14_method_70_code 131 = .ok (.aload_n 0, 1) := by decide +kernel
theorem d_X12_factorValue_132 : decode prog_14_method_70_code 132 = .ok (.getfield 31, 3) := by decide +kernel
theorem d_X12_factorValue_135 : decode prog_14_method_70_code 135 = .ok (.aload_n 0, 1) := by decide +kernel
theorem d_X12_factorValue_136 : decode prog_14_method_70_code 136 = .ok (.getfield 472, 3) := by decide +kernel
theorem d_X12_factorValue_139 : decode prog_14_method_70_code 139 = .ok (.iaload, 1) := by decide +kernel
theorem d_X12_factorValue_140 : decode prog_14_method_70_code 140 = .ok (.bipush 44, 2) := by decide +kernel
theorem d_X12_factorValue_142 : decode prog_14_method_70_code 142 = .ok (.if_icmp .ne 59, 3) := by decide +kernel
theorem d_X12_factorValue_145 : decode prog_14_method_70_code 145 = .ok (.aload_n 0, 1) := by decide +kernel
theorem d_X12_factorValue_146 : decode prog_14_method_70_code 146 = .ok (.dup, 1) := by decide +kernel
theorem d_X12_factorValue_147 : decode prog_14_method_70_code 147 = .ok (.getfield 472, 3) := by decide +kernel
theorem d_X12_factorValue_150 : decode prog_14_method_70_code 150 = .ok (.iconst 1, 1) := by decide +kernel
theorem d_X12_factorValue_151 : decode prog_14_method_70_code 151 = .ok (.iadd, 1) := by decide +kernel
theorem d_X12_factorValue_152 : decode prog_14_method_70_code 152 = .ok (.putfield 472, 3) := by decide +kernel
theorem d_X12_factorValue_155 : decode prog_14_method_70_code 155 = .ok (.aload_n 0, 1) := by decide +kernel
theorem d_X12_factorValue_156 : decode prog_14_method_70_code 156 = .ok (.invokevirtual 492, 3) := by decide +kernel
theorem d_X12_factorValue_159 : decode prog_14_method_70_code 159 = .ok (.lstore 4, 2) := by decide +kernel
theorem d_X12_factorValue_161 : decode prog_14_method_70_code 161 = .ok (.iload_n 1, 1) := by decide +kernel
theorem d_X12_factorValue_162 : decode prog_14_method_70_code 162 = .ok (.sipush 314, 3) := by decide +kernel
theorem d_X12_factorValue_165 : decode prog_14_method_70_code 165 = .ok (.if_icmp .ne 19, 3) := by decide +kernel
theorem d_X12_factorValue_168 : decode prog_14_method_70_code 168 = .ok (.lload 4, 2) := by decide +kernel
theorem d_X12_factorValue_170 : decode prog_14_method_70_code 170 = .ok (.lload_n 2, 1) := by decide +kernel
theorem d_X12_factorValue_171 : decode prog_14_method_70_code 171 = .ok (.lcmp, 1) := by decide +kernel
theorem d_X12_factorValue_172 : decode prog_14_method_70_code 172 = .ok (.ifCond .ge 8, 3) := by decide +kernel
theorem d_X12_factorValue_175 : decode prog_14_method_70_code 175 = .ok (.lload 4, 2) := by decide +kernel
theorem d_X12_factorValue_177 : decode prog_14_method_70_code 177 = .ok (.goto 20, 3) := by decide +kernel
theorem d_X12_factorValue_180 : decode prog_14_method_70_code 180 = .ok (.lload_n 2, 1) := by decide +kernel
theorem d_X12_factorValue_181 : decode prog_14_method_70_code 181 = .ok (.goto 16, 3) := by decide +kernel
theorem d_X12_factorValue_184 : decode prog_14_method_70_code 184 = .ok (.lload 4, 2) := by decide +kernel
theorem d_X12_factorValue_186 : decode prog_14_method_70_code 186 = .ok (.lload_n 2, 1) := by decide +kernel
theorem d_X12_factorValue_187 : decode prog_14_method_70_code 187 = .ok (.lcmp, 1) := by decide +kernel
theorem d_X12_factorValue_188 : decode prog_14_method_70_code 188 = .ok (.ifCond .le 8, 3) := by decide +kernel
theorem d_X12_factorValue_191 : decode prog_14_method_70_code 191 = .ok (.lload 4, 2) := by decide +kernel
theorem d_X12_factorValue_193 : decode prog_14_method_70_code 193 = .ok (.goto 4, 3) := by decide +kernel
theorem d_X12_factorValue_196 : decode prog_14_method_70_code 196 = .ok (.lload_n 2, 1) := by decide +kernel
theorem d_X12_factorValue_197 : decode prog_14_method_70_code 197 = .ok (.lstore_n 2, 1) := by decide +kernel
theorem d_X12_factorValue_198 : decode prog_14_method_70_code 198 = .ok (.goto (-67), 3) := by decide +kernel
theorem d_X12_factorValue_201 : decode prog_14_method_70_code 201 = .ok (.iload_n 1, 1) := by decide +kernel
theorem d_X12_factorValue_202 : decode prog_14_method_70_code 202 = .ok (.sipush 313, 3) := by decide +kernel
theorem d_X12_factorValue_205 : decode prog_14_method_70_code 205 = .ok (.if_icmp .ne 21, 3) := by decide +kernel
theorem d_X12_factorValue_208 : decode prog_14_method_70_code 208 = .ok (.lload_n 2, 1) := by decide +kernel
theorem d_X12_factorValue_209 : decode prog_14_method_70_code 209 = .ok (.lconst 0, 1) := by decide +kernel
theorem d_X12_factorValue_210 : decode prog_14_method_70_code 210 = .ok (.lcmp, 1) := by decide +kernel
theorem d_X12_factorValue_211 : decode prog_14_method_70_code 211 = .ok (.ifCond .ge 8, 3) := by decide +kernel
theorem d_X12_factorValue_214 : decode prog_14_method_70_code 214 = .ok (.lload_n 2, 1) := by decide +kernel
theorem d_X12_factorValue_215 : decode prog_14_method_70_code 215 = .ok (.lneg, 1) := by decide +kernel
theorem d_X12_factorValue_216 : decode prog_14_method_70_code 216 = .ok (.goto 4, 3) := by decide +kernel
theorem d_X12_factorValue_219 : decode prog_14_method_70_code 219 = .ok (.lload_n 2, 1) := by decide +kernel
theorem d_X12_factorValue_220 : decode prog_14_method_70_code 220 = .ok (.invokestatic 479, 3) := by decide +kernel
theorem d_X12_factorValue_223 : decode prog_14_method_70_code 223 = .ok (.goto 4, 3) := by decide +kernel
theorem d_X12_factorValue_226 : decode prog_14_method_70_code 226 = .ok (.lload_n 2, 1) := by decide +kernel
theorem d_X12_factorValue_227 : decode prog_14_method_70_code 227 = .ok (.lstore_n 2, 1) := by decide +kernel
theorem d_X12_factorValue_228 : decode prog_14_method_70_code 228 = .ok (.iload_n 1, 1) := by decide +kernel
theorem d_X12_factorValue_229 : decode prog_14_method_70_code 229 = .ok (.sipush 316, 3) := by decide +kernel
theorem d_X12_factorValue_232 : decode prog_14_method_70_code 232 = .ok (.if_icmp .ne 65, 3) := by decide +kernel
theorem d_X12_factorValue_235 : decode prog_14_method_70_code 235 = .ok (.lload_n 2, 1) := by decide +kernel
theorem d_X12_factorValue_236 : decode prog_14_method_70_code 236 = .ok (.lstore 4, 2) := by decide +kernel
theorem d_X12_factorValue_238 : decode prog_14_method_70_code 238 = .ok (.lconst 0, 1) := by decide +kernel
theorem d_X12_factorValue_239 : decode prog_14_method_70_code 239 = .ok (.lstore_n 2, 1) := by decide +kernel
theorem d_X12_factorValue_240 : decode prog_14_method_70_code 240 = .ok (.lconst 0, 1) := by decide +kernel
theorem d_X12_factorValue_241 : decode prog_14_method_70_code 241 = .ok (.lstore 6, 2) := by decide +kernel
theorem d_X12_factorValue_243 : decode prog_14_method_70_code 243 = .ok (.aload_n 0, 1) := by decide +kernel
theorem d_X12_factorValue_244 : decode prog_14_method_70_code 244 = .ok (.getfield 31, 3) := by decide +kernel
theorem d_X12_factorValue_247 : decode prog_14_method_70_code 247 = .ok (.aload_n 0, 1) := by decide +kernel
theorem d_X12_factorValue_248 : decode prog_14_method_70_code 248 = .ok (.getfield 472, 3) := by decide +kernel
theorem d_X12_factorValue_251 : decode prog_14_method_70_code 251 = .ok (.iaload, 1) := by decide +kernel
theorem d_X12_factorValue_252 : decode prog_14_method_70_code 252 = .ok (.bipush 41, 2) := by decide +kernel
theorem d_X12_factorValue_254 : decode prog_14_method_70_code 254 = .ok (.if_icmp .eq 43, 3) := by decide +kernel
theorem d_X12_factorValue_257 : decode prog_14_method_70_code 257 = .ok (.aload_n 0, 1) := by decide +kernel
theorem d_X12_factorValue_258 : decode prog_14_method_70_code 258 = .ok (.dup, 1) := by decide +kernel
theorem d_X12_factorValue_259 : decode prog_14_method_70_code 259 = .ok (.getfield 472, 3) := by decide +kernel
theorem d_X12_factorValue_262 : decode prog_14_method_70_code 262 = .ok (.iconst 1, 1) := by decide +kernel
theorem d_X12_factorValue_263 : decode prog_14_method_70_code 263 = .ok (.iadd, 1) := by decide +kernel
theorem d_X12_factorValue_264 : decode prog_14_method_70_code 264 = .ok (.putfield 472, 3) := by decide +kernel
theorem d_X12_factorValue_267 : decode prog_14_method_70_code 267 = .ok (.aload_n 0, 1) := by decide +kernel
theorem d_X12_factorValue_268 : decode prog_14_method_70_code 268 = .ok (.invokevirtual 495, 3) := by decide +kernel
theorem d_X12_factorValue_271 : decode prog_14_method_70_code 271 = .ok (.lstore 8, 2) := by decide +kernel
theorem d_X12_factorValue_273 : decode prog_14_method_70_code 273 = .ok (.lload 6, 2) := by decide +kernel
theorem d_X12_factorValue_275 : decode prog_14_method_70_code 275 = .ok (.lload 4, 2) := by decide +kernel
theorem d_X12_factorValue_277 : decode prog_14_method_70_code 277 = .ok (.lcmp, 1) := by decide +kernel
theorem d_X12_factorValue_278 : decode prog_14_method_70_code 278 = .ok (.ifCond .ne 8, 3) := by decide +kernel
theorem d_X12_factorValue_281 : decode prog_14_method_70_code 281 = .ok (.lload 8, 2) := by decide +kernel
theorem d_X12_factorValue_283 : decode prog_14_method_70_code 283 = .ok (.goto 4, 3) := by decide +kernel
theorem d_X12_factorValue_286 : decode prog_14_method_70_code 286 = .ok (.lload_n 2, 1) := by decide +kernel
theorem d_X12_factorValue_287 : decode prog_14_method_70_code 287 = .ok (.lstore_n 2, 1) := by decide +kernel
theorem d_X12_factorValue_288 : decode prog_14_method_70_code 288 = .ok (.lload 6, 2) := by decide +kernel
theorem d_X12_factorValue_290 : decode prog_14_method_70_code 290 = .ok (.lconst 1, 1) := by decide +kernel
theorem d_X12_factorValue_291 : decode prog_14_method_70_code 291 = .ok (.ladd, 1) := by decide +kernel
theorem d_X12_factorValue_292 : decode prog_14_method_70_code 292 = .ok (.lstore 6, 2) := by decide +kernel
theorem d_X12_factorValue_294 : decode prog_14_method_70_code 294 = .ok (.goto (-51), 3) := by decide +kernel
theorem d_X12_factorValue_297 : decode prog_14_method_70_code 297 = .ok (.aload_n 0, 1) := by decide +kernel
theorem d_X12_factorValue_298 : decode prog_14_method_70_code 298 = .ok (.dup, 1) := by decide +kernel
theorem d_X12_factorValue_299 : decode prog_14_method_70_code 299 = .ok (.getfield 472, 3) := by decide +kernel
theorem d_X12_factorValue_302 : decode prog_14_method_70_code 302 = .ok (.iconst 1, 1) := by decide +kernel
theorem d_X12_factorValue_303 : decode prog_14_method_70_code 303 = .ok (.iadd, 1) := by decide +kernel
theorem d_X12_factorValue_304 : decode prog_14_method_70_code 304 = .ok (.putfield 472, 3) := by decide +kernel
theorem d_X12_factorValue_307 : decode prog_14_method_70_code 307 = .ok (.lload_n 2, 1) := by decide +kernel
theorem d_X12_factorValue_308 : decode prog_14_method_70_code 308 = .ok (.lreturn, 1) := by decide +kernel
theorem v_X12_factorValue_0 {E : EE} {d : Nat} {Q : Option AV → AH → Prop} {x0 : Nat} {G : AH} (h0 : 0 < d) (h : isO E G x0 12 ∧ (isO E G (gR G x0 8) 14 ∧ (vp_in (gI G x0 54) (gN G (gR G x0 8)) ∧ ((¬ (gI G (gR G x0 8) (Int32.toNatClampNeg (gI G x0 54))) = 2 → (¬ (gI G (gR G x0 8) (Int32.toNatClampNeg (gI G x0 54))) = 1 → (¬ (gI G (gR G x0 8) (Int32.toNatClampNeg (gI G x0 54))) = 45 → (¬ (gI G (gR G x0 8) (Int32.toNatClampNeg (gI G x0 54))) = 91 → (¬ (gI G (gR G x0 8) (Int32.toNatClampNeg (gI G x0 54))) = 40 → wp E d M_X12_factorValue 122 [some (vr x0), some (vi (gI G (gR G x0 8) (Int32.toNatClampNeg (gI G x0 54)))), none, none, none, none, none, none, none, none] [vi 1, vi (gI (sI G x0 54 ((gI G x0 54) + 1)) x0 54), vr x0] (sI G x0 54 ((gI G x0 54) + 1)) Q) ∧ ((gI G (gR G x0 8) (Int32.toNatClampNeg (gI G x0 54))) = 40 → wp E d M_X12_factorValue 122 [some (vr x0), some (vi (gI G (gR G x0 8) (Int32.toNatClampNeg (gI G x0 54)))), none, none, none, none, none, none, none, none] [vi 0, vi (gI (sI G x0 54 ((gI G x0 54) + 1)) x0 54), vr x0] (sI G x0 54 ((gI G x0 54) + 1)) Q)) ∧ ((gI G (gR G x0 8) (Int32.toNatClampNeg (gI G x0 54))) = 91 → wpJ E (d - 1) M_X12_testValue [vr x0] (sI G x0 54 ((gI G x0 54) + 1)) (fun r4 G5 => (¬ r4 = 0 → wp E d M_X12_factorValue 93 [some (vr x0), some (vi (gI G (gR G x0 8) (Int32.toNatClampNeg (gI G x0 54)))), none, none, none, none, none, none, none, none] [vj 0] G5 Q) ∧ (r4 = 0 → wp E d M_X12_factorValue 93 [some (vr x0), some (vi (gI G (gR G x0 8) (Int32.toNatClampNeg (gI G x0 54)))), none, none, none, none, none, none, none, none] [vj 1] G5 Q)))) ∧ ((gI G (gR G x0 8) (Int32.toNatClampNeg (gI G x0 54))) = 45 → wpJ E (d - 1) M_X12_factorValue [vr x0] (sI G x0 54 ((gI G x0 54) + 1)) (fun r6 G7 => wpJ E (d - 1) M_X12_held [vj (-r6)] G7 (fun r8 G9 => Q (some (vj r8)) G9)))) ∧ ((gI G (gR G x0 8) (Int32.toNatClampNeg (gI G x0 54))) = 1 → wpJ E (d - 1) M_X12_nameValue [vr x0] G (fun r10 G11 => Q (some (vj r10)) G11))) ∧ ((gI G (gR G x0 8) (Int32.toNatClampNeg (gI G x0 54))) = 2 → isO E G (gR G x0 9) 14 ∧ (vp_in ((gI (sI G x0 54 ((gI G x0 54) + 1)) x0 54) - 1) (gN G (gR G x0 9)) ∧ (Q (some (vj (Int32.toInt64 (gI (sI G x0 54 ((gI G x0 54) + 1)) (gR G x0 9) (Int32.toNatClampNeg ((gI (sI G x0 54 ((gI G x0 54) + 1)) x0 54) - 1)))))) (sI G x0 54 ((gI G x0 54) + 1))))))))) : wp E d M_X12_factorValue 0 [some (vr x0), none, none, none, none, none, none, none, none, none] [] G Q := by
  refine wp_aload_n (pc := 0) d_X12_factorValue_0 rfl ?_
  obtain ⟨ho1, h⟩ := h
  refine wp_getR (pc := 1) d_X12_factorValue_1 fl_X12_31 (fun _ _ _ => rfl) ho1 ?_
  refine wp_aload_n (pc := 4) d_X12_factorValue_4 rfl ?_
  refine wp_getI (pc := 5) d_X12_factorValue_5 fl_X12_472 (fun _ _ _ => rfl) ho1 ?_
  obtain ⟨ho2, h⟩ := h
  obtain ⟨hi3, h⟩ := h
  refine wp_iald (pc := 8) d_X12_factorValue_8 ho2 hi3 ?_
  refine wp_istore_n (pc := 9) (lv' := [some (vr _), some (vi _), none, none, none, none, none, none, none, none]) d_X12_factorValue_9 (by decide) rfl ?_
  refine wp_iload_n (pc := 10) d_X12_factorValue_10 rfl ?_
  refine wp_iconst (pc := 11) (v := 2) d_X12_factorValue_11 rfl ?_
  refine wp_icmp_ne (pc := 12) (tgt := 38) d_X12_factorValue_12 (by decide) (fun hc => ?_) (fun hc => ?_)
  · have h := h.1 hc
    refine wp_iload_n (pc := 38) d_X12_factorValue_38 rfl ?_
    refine wp_iconst (pc := 39) (v := 1) d_X12_factorValue_39 rfl ?_
    refine wp_icmp_ne (pc := 40) (tgt := 48) d_X12_factorValue_40 (by decide) (fun hc => ?_) (fun hc => ?_)
    · have h := h.1 hc
      refine wp_aload_n (pc := 48) d_X12_factorValue_48 rfl ?_
      refine wp_dup (pc := 49) d_X12_factorValue_49 (c1_r _) ?_
      refine wp_getI (pc := 50) d_X12_factorValue_50 fl_X12_472 (fun _ _ _ => rfl) ho1 ?_
      refine wp_iconst (pc := 53) (v := 1) d_X12_factorValue_53 rfl ?_
      refine wp_iadd (pc := 54) d_X12_factorValue_54 ?_
      refine wp_putI (pc := 55) d_X12_factorValue_55 fl_X12_472 (fun _ _ _ => rfl) (Or.inl rfl) ho1 (okI_int _) ?_
      refine wp_iload_n (pc := 58) d_X12_factorValue_58 rfl ?_
      refine wp_bipush (pc := 59) (v := 45) d_X12_factorValue_59 rfl ?_
      refine wp_icmp_ne (pc := 61) (tgt := 73) d_X12_factorValue_61 (by decide) (fun hc => ?_) (fun hc => ?_)
      · have h := h.1 hc
        refine wp_iload_n (pc := 73) d_X12_factorValue_73 rfl ?_
        refine wp_bipush (pc := 74) (v := 91) d_X12_factorValue_74 rfl ?_
        refine wp_icmp_ne (pc := 76) (tgt := 106) d_X12_factorValue_76 (by decide) (fun hc => ?_) (fun hc => ?_)
        · have h := h.1 hc
          refine wp_aload_n (pc := 106) d_X12_factorValue_106 rfl ?_
          refine wp_dup (pc := 107) d_X12_factorValue_107 (c1_r _) ?_
          refine wp_getI (pc := 108) d_X12_factorValue_108 fl_X12_472 (fun _ _ _ => rfl) ho1 ?_
          refine wp_iload_n (pc := 111) d_X12_factorValue_111 rfl ?_
          refine wp_bipush (pc := 112) (v := 40) d_X12_factorValue_112 rfl ?_
          refine wp_icmp_ne (pc := 114) (tgt := 121) d_X12_factorValue_114 (by decide) (fun hc => ?_) (fun hc => ?_)
          · have h := h.1 hc
            refine wp_iconst (pc := 121) (v := 1) d_X12_factorValue_121 rfl ?_
            refine wp_sub ?_ h
            exact ⟨rfl, ⟨rfl, trivial⟩⟩
          · have h := h.2 hc
            refine wp_iconst (pc := 117) (v := 0) d_X12_factorValue_117 rfl ?_
            refine wp_goto (pc := 118) (tgt := 122) d_X12_factorValue_118 (by decide) ?_
            refine wp_sub ?_ h
            exact ⟨rfl, ⟨rfl, trivial⟩⟩
        · have h := h.2 hc
          refine wp_aload_n (pc := 79) d_X12_factorValue_79 rfl ?_
          refine wp_invV (pc := 80) (N := M_X12_testValue) (As := []) (rest := []) (r := (cn_12, ct_12, 95)) d_X12_factorValue_80 ml_X12_489 mk_X12_testValue mv_X12_testValue h0 ho1 rfl rfl (Nat.le_of_ble_eq_true rfl) ?_
          refine wpM.mono h (fun rr G5 hr => ?_)
          obtain ⟨r4, rfl, h⟩ := hr
          show wp E d M_X12_factorValue 83 [some (vr _), some (vi _), none, none, none, none, none, none, none, none] [vj _] G5 Q
          refine wp_lconst (pc := 83) (v := 0) d_X12_factorValue_83 rfl ?_
          refine wp_lcmp_ne (pc := 84) (tgt := 92) d_X12_factorValue_84 d_X12_factorValue_85 (by decide) (fun hc => ?_) (fun hc => ?_)
          · have h := h.1 hc
            refine wp_lconst (pc := 92) (v := 0) d_X12_factorValue_92 rfl ?_
            refine wp_sub ?_ h
            exact ⟨rfl, ⟨rfl, trivial⟩⟩
          · have h := h.2 hc
            refine wp_lconst (pc := 88) (v := 1) d_X12_factorValue_88 rfl ?_
            refine wp_goto (pc := 89) (tgt := 93) d_X12_factorValue_89 (by decide) ?_
            refine wp_sub ?_ h
            exact ⟨rfl, ⟨rfl, trivial⟩⟩
      · have h := h.2 hc
        refine wp_aload_n (pc := 64) d_X12_factorValue_64 rfl ?_
        refine wp_invV (pc := 65) (N := M_X12_factorValue) (As := []) (rest := []) (r := (cn_12, ct_12, 95)) d_X12_factorValue_65 ml_X12_483 mk_X12_factorValue mv_X12_factorValue h0 ho1 rfl rfl (Nat.le_of_ble_eq_true rfl) ?_
        refine wpM.mono h (fun rr G7 hr => ?_)
        obtain ⟨r6, rfl, h⟩ := hr
        show wp E d M_X12_factorValue 68 [some (vr _), some (vi _), none, none, none, none, none, none, none, none] [vj _] G7 Q
        refine wp_lneg (pc := 68) d_X12_factorValue_68 ?_
        refine wp_invS (pc := 69) (N := M_X12_held) (As := [vj _]) (rest := []) d_X12_factorValue_69 ml_X12_479 mk_X12_held ms_X12_held h0 (Nat.le_of_ble_eq_true rfl) ?_
        refine wpM.mono h (fun rr G9 hr => ?_)
        obtain ⟨r8, rfl, h⟩ := hr
        show wp E d M_X12_factorValue 72 [some (vr _), some (vi _), none, none, none, none, none, none, none, none] [vj _] G9 Q
        exact wp_lret (pc := 72) d_X12_factorValue_72 rfl h
    · have h := h.2 hc
      refine wp_aload_n (pc := 43) d_X12_factorValue_43 rfl ?_
      refine wp_invV (pc := 44) (N := M_X12_nameValue) (As := []) (rest := []) (r := (cn_12, ct_12, 95)) d_X12_factorValue_44 ml_X12_486 mk_X12_nameValue mv_X12_nameValue h0 ho1 rfl rfl (Nat.le_of_ble_eq_true rfl) ?_
      refine wpM.mono h (fun rr G11 hr => ?_)
      obtain ⟨r10, rfl, h⟩ := hr
      show wp E d M_X12_factorValue 47 [some (vr _), some (vi _), none, none, none, none, none, none, none, none] [vj _] G11 Q
      exact wp_lret (pc := 47) d_X12_factorValue_47 rfl h
  · have h := h.2 hc
    refine wp_aload_n (pc := 15) d_X12_factorValue_15 rfl ?_
    refine wp_dup (pc := 16) d_X12_factorValue_16 (c1_r _) ?_
    refine wp_getI (pc := 17) d_X12_factorValue_17 fl_X12_472 (fun _ _ _ => rfl) ho1 ?_
    refine wp_iconst (pc := 20) (v := 1) d_X12_factorValue_20 rfl ?_
    refine wp_iadd (pc := 21) d_X12_factorValue_21 ?_
    refine wp_putI (pc := 22) d_X12_factorValue_22 fl_X12_472 (fun _ _ _ => rfl) (Or.inl rfl) ho1 (okI_int _) ?_
    refine wp_aload_n (pc := 25) d_X12_factorValue_25 rfl ?_
    refine wp_getR (pc := 26) d_X12_factorValue_26 fl_X12_34 (fun _ _ _ => rfl) ho1 ?_
    show wp E d M_X12_factorValue 29 [some (vr x0), some (vi (gI G (gR G x0 8) (Int32.toNatClampNeg (gI G x0 54)))), none, none, none, none, none, none, none, none] [vr (gR G x0 9)] (sI G x0 54 ((gI G x0 54) + 1)) Q
    refine wp_aload_n (pc := 29) d_X12_factorValue_29 rfl ?_
    refine wp_getI (pc := 30) d_X12_factorValue_30 fl_X12_472 (fun _ _ _ => rfl) ho1 ?_
    refine wp_iconst (pc := 33) (v := 1) d_X12_factorValue_33 rfl ?_
    refine wp_isub (pc := 34) d_X12_factorValue_34 ?_
    obtain ⟨ho12, h⟩ := h
    obtain ⟨hi13, h⟩ := h
    refine wp_iald (pc := 35) d_X12_factorValue_35 ho12 hi13 ?_
    refine wp_i2l (pc := 36) d_X12_factorValue_36 ?_
    exact wp_lret (pc := 37) d_X12_factorValue_37 rfl h
theorem v_X12_factorValue_93 {E : EE} {d : Nat} {Q : Option AV → AH → Prop} {x0 : Nat} {x1 : Int32} {t0 : Int64} {G : AH} (h : isO E G x0 12 ∧ (Q (some (vj t0)) (sI G x0 54 ((gI G x0 54) + 1)))) : wp E d M_X12_factorValue 93 [some (vr x0), some (vi x1), none, none, none, none, none, none, none, none] [vj t0] G Q := by
  refine wp_lstore_n (pc := 93) (lv' := [some (vr _), some (vi _), some (vj _), none, none, none, none, none, none, none]) d_X12_factorValue_93 (by decide) rfl ?_
  refine wp_aload_n (pc := 94) d_X12_factorValue_94 rfl ?_
  refine wp_dup (pc := 95) d_X12_factorValue_95 (c1_r _) ?_
  obtain ⟨ho1, h⟩ := h
  refine wp_getI (pc := 96) d_X12_factorValue_96 fl_X12_472 (fun _ _ _ => rfl) ho1 ?_
  refine wp_iconst (pc := 99) (v := 1) d_X12_factorValue_99 rfl ?_
  refine wp_iadd (pc := 100) d_X12_factorValue_100 ?_
  refine wp_putI (pc := 101) d_X12_factorValue_101 fl_X12_472 (fun _ _ _ => rfl) (Or.inl rfl) ho1 (okI_int _) ?_
  refine wp_lload_n (pc := 104) d_X12_factorValue_104 rfl ?_
  exact wp_lret (pc := 105) d_X12_factorValue_105 rfl h
theorem v_X12_factorValue_122 {E : EE} {d : Nat} {Q : Option AV → AH → Prop} {x0 : Nat} {x1 : Int32} {t0 : Nat} {t1 : Int32} {t2 : Int32} {G : AH} (h0 : 0 < d) (h : isO E G t0 12 ∧ (isO E G x0 12 ∧ (wpJ E (d - 1) M_X12_sumValue [vr x0] (sI G t0 54 (t1 + t2)) (fun r2 G3 => wp E d M_X12_factorValue 131 [some (vr x0), some (vi x1), some (vj r2), none, none, none, none, none, none, none] [] G3 Q)))) : wp E d M_X12_factorValue 122 [some (vr x0), some (vi x1), none, none, none, none, none, none, none, none] [vi t2, vi t1, vr t0] G Q := by
  refine wp_iadd (pc := 122) d_X12_factorValue_122 ?_
  obtain ⟨ho1, h⟩ := h
  refine wp_putI (pc := 123) d_X12_factorValue_123 fl_X12_472 (fun _ _ _ => rfl) (Or.inl rfl) ho1 (okI_int _) ?_
  refine wp_aload_n (pc := 126) d_X12_factorValue_126 rfl ?_
  obtain ⟨ho4, h⟩ := h
  refine wp_invV (pc := 127) (N := M_X12_sumValue) (As := []) (rest := []) (r := (cn_12, ct_12, 95)) d_X12_factorValue_127 ml_X12_492 mk_X12_sumValue mv_X12_sumValue h0 ho4 rfl rfl (Nat.le_of_ble_eq_true rfl) ?_
  refine wpM.mono h (fun rr G3 hr => ?_)
  obtain ⟨r2, rfl, h⟩ := hr
  show wp E d M_X12_factorValue 130 [some (vr _), some (vi _), none, none, none, none, none, none, none, none] [vj _] G3 Q
  refine wp_lstore_n (pc := 130) (lv' := [some (vr _), some (vi _), some (vj _), none, none, none, none, none, none, none]) d_X12_factorValue_130 (by decide) rfl ?_
  refine wp_sub ?_ h
  exact ⟨rfl, ⟨rfl, ⟨rfl, trivial⟩⟩⟩
theorem v_X12_factorValue_131 {E : EE} {d : Nat} {Q : Option AV → AH → Prop} {x0 : Nat} {x1 : Int32} {x2 : Int64} {G : AH} (h0 : 0 < d) (h : isO E G x0 12 ∧ (isO E G (gR G x0 8) 14 ∧ (vp_in (gI G x0 54) (gN G (gR G x0 8)) ∧ ((¬ (gI G (gR G x0 8) (Int32.toNatClampNeg (gI G x0 54))) = 44 → (¬ x1 = 313 → wp E d M_X12_factorValue 227 [some (vr x0), some (vi x1), some (vj x2), none, none, none, none, none, none, none] [vj x2] G Q) ∧ (x1 = 313 → (0 ≤ x2 → wp E d M_X12_factorValue 220 [some (vr x0), some (vi x1), some (vj x2), none, none, none, none, none, none, none] [vj x2] G Q) ∧ (¬ (0 ≤ x2) → wp E d M_X12_factorValue 220 [some (vr x0), some (vi x1), some (vj x2), none, none, none, none, none, none, none] [vj (-x2)] G Q))) ∧ ((gI G (gR G x0 8) (Int32.toNatClampNeg (gI G x0 54))) = 44 → wpJ E (d - 1) M_X12_sumValue [vr x0] (sI G x0 54 ((gI G x0 54) + 1)) (fun r4 G5 => (¬ x1 = 314 → (r4 ≤ x2 → wp E d M_X12_factorValue 197 [some (vr x0), some (vi x1), some (vj x2), none, some (vj r4), none, none, none, none, none] [vj x2] G5 Q) ∧ (¬ (r4 ≤ x2) → wp E d M_X12_factorValue 197 [some (vr x0), some (vi x1), some (vj x2), none, some (vj r4), none, none, none, none, none] [vj r4] G5 Q)) ∧ (x1 = 314 → (x2 ≤ r4 → wp E d M_X12_factorValue 197 [some (vr x0), some (vi x1), some (vj x2), none, some (vj r4), none, none, none, none, none] [vj x2] G5 Q) ∧ (¬ (x2 ≤ r4) → wp E d M_X12_factorValue 197 [some (vr x0), some (vi x1), some (vj x2), none, some (vj r4), none, none, none, none, none] [vj r4] G5 Q)))))))) : wp E d M_X12_factorValue 131 [some (vr x0), some (vi x1), some (vj x2), none, none, none, none, none, none, none] [] G Q := by
  refine wp_aload_n (pc := 131) d_X12_factorValue_131 rfl ?_
  obtain ⟨ho1, h⟩ := h
  refine wp_getR (pc := 132) d_X12_factorValue_132 fl_X12_31 (fun _ _ _ => rfl) ho1 ?_
  refine wp_aload_n (pc := 135) d_X12_factorValue_135 rfl ?_
  refine wp_getI (pc := 136) d_X12_factorValue_136 fl_X12_472 (fun _ _ _ => rfl) ho1 ?_
  obtain ⟨ho2, h⟩ := h
  obtain ⟨hi3, h⟩ := h
  refine wp_iald (pc := 139) d_X12_factorValue_139 ho2 hi3 ?_
  refine wp_bipush (pc := 140) (v := 44) d_X12_factorValue_140 rfl ?_
  refine wp_icmp_ne (pc := 142) (tgt := 201) d_X12_factorValue_142 (by decide) (fun hc => ?_) (fun hc => ?_)
  · have h := h.1 hc
    refine wp_iload_n (pc := 201) d_X12_factorValue_201 rfl ?_
    refine wp_sipush (pc := 202) (v := 313) d_X12_factorValue_202 rfl ?_
    refine wp_icmp_ne (pc := 205) (tgt := 226) d_X12_factorValue_205 (by decide) (fun hc => ?_) (fun hc => ?_)
    · have h := h.1 hc
      refine wp_lload_n (pc := 226) d_X12_factorValue_226 rfl ?_
      refine wp_sub ?_ h
      exact ⟨rfl, ⟨rfl, ⟨rfl, trivial⟩⟩⟩
    · have h := h.2 hc
      refine wp_lload_n (pc := 208) d_X12_factorValue_208 rfl ?_
      refine wp_lconst (pc := 209) (v := 0) d_X12_factorValue_209 rfl ?_
      refine wp_lcmp_ge (pc := 210) (tgt := 219) d_X12_factorValue_210 d_X12_factorValue_211 (by decide) (fun hc => ?_) (fun hc => ?_)
      · have h := h.1 hc
        refine wp_lload_n (pc := 219) d_X12_factorValue_219 rfl ?_
        refine wp_sub ?_ h
        exact ⟨rfl, ⟨rfl, ⟨rfl, trivial⟩⟩⟩
      · have h := h.2 hc
        refine wp_lload_n (pc := 214) d_X12_factorValue_214 rfl ?_
        refine wp_lneg (pc := 215) d_X12_factorValue_215 ?_
        refine wp_goto (pc := 216) (tgt := 220) d_X12_factorValue_216 (by decide) ?_
        refine wp_sub ?_ h
        exact ⟨rfl, ⟨rfl, ⟨rfl, trivial⟩⟩⟩
  · have h := h.2 hc
    refine wp_aload_n (pc := 145) d_X12_factorValue_145 rfl ?_
    refine wp_dup (pc := 146) d_X12_factorValue_146 (c1_r _) ?_
    refine wp_getI (pc := 147) d_X12_factorValue_147 fl_X12_472 (fun _ _ _ => rfl) ho1 ?_
    refine wp_iconst (pc := 150) (v := 1) d_X12_factorValue_150 rfl ?_
    refine wp_iadd (pc := 151) d_X12_factorValue_151 ?_
    refine wp_putI (pc := 152) d_X12_factorValue_152 fl_X12_472 (fun _ _ _ => rfl) (Or.inl rfl) ho1 (okI_int _) ?_
    refine wp_aload_n (pc := 155) d_X12_factorValue_155 rfl ?_
    refine wp_invV (pc := 156) (N := M_X12_sumValue) (As := []) (rest := []) (r := (cn_12, ct_12, 95)) d_X12_factorValue_156 ml_X12_492 mk_X12_sumValue mv_X12_sumValue h0 ho1 rfl rfl (Nat.le_of_ble_eq_true rfl) ?_
    refine wpM.mono h (fun rr G5 hr => ?_)
    obtain ⟨r4, rfl, h⟩ := hr
    show wp E d M_X12_factorValue 159 [some (vr _), some (vi _), some (vj _), none, none, none, none, none, none, none] [vj _] G5 Q
    refine wp_lstore (pc := 159) (lv' := [some (vr _), some (vi _), some (vj _), none, some (vj _), none, none, none, none, none]) d_X12_factorValue_159 (by decide) rfl ?_
    refine wp_iload_n (pc := 161) d_X12_factorValue_161 rfl ?_
    refine wp_sipush (pc := 162) (v := 314) d_X12_factorValue_162 rfl ?_
    refine wp_icmp_ne (pc := 165) (tgt := 184) d_X12_factorValue_165 (by decide) (fun hc => ?_) (fun hc => ?_)
    · have h := h.1 hc
      refine wp_lload (pc := 184) d_X12_factorValue_184 rfl ?_
      refine wp_lload_n (pc := 186) d_X12_factorValue_186 rfl ?_
      refine wp_lcmp_le (pc := 187) (tgt := 196) d_X12_factorValue_187 d_X12_factorValue_188 (by decide) (fun hc => ?_) (fun hc => ?_)
      · have h := h.1 hc
        refine wp_lload_n (pc := 196) d_X12_factorValue_196 rfl ?_
        refine wp_sub ?_ h
        exact ⟨rfl, ⟨rfl, ⟨rfl, ⟨rfl, trivial⟩⟩⟩⟩
      · have h := h.2 hc
        refine wp_lload (pc := 191) d_X12_factorValue_191 rfl ?_
        refine wp_goto (pc := 193) (tgt := 197) d_X12_factorValue_193 (by decide) ?_
        refine wp_sub ?_ h
        exact ⟨rfl, ⟨rfl, ⟨rfl, ⟨rfl, trivial⟩⟩⟩⟩
    · have h := h.2 hc
      refine wp_lload (pc := 168) d_X12_factorValue_168 rfl ?_
      refine wp_lload_n (pc := 170) d_X12_factorValue_170 rfl ?_
      refine wp_lcmp_ge (pc := 171) (tgt := 180) d_X12_factorValue_171 d_X12_factorValue_172 (by decide) (fun hc => ?_) (fun hc => ?_)
      · have h := h.1 hc
        refine wp_lload_n (pc := 180) d_X12_factorValue_180 rfl ?_
        refine wp_goto (pc := 181) (tgt := 197) d_X12_factorValue_181 (by decide) ?_
        refine wp_sub ?_ h
        exact ⟨rfl, ⟨rfl, ⟨rfl, ⟨rfl, trivial⟩⟩⟩⟩
      · have h := h.2 hc
        refine wp_lload (pc := 175) d_X12_factorValue_175 rfl ?_
        refine wp_goto (pc := 177) (tgt := 197) d_X12_factorValue_177 (by decide) ?_
        refine wp_sub ?_ h
        exact ⟨rfl, ⟨rfl, ⟨rfl, ⟨rfl, trivial⟩⟩⟩⟩
theorem v_X12_factorValue_197 {E : EE} {d : Nat} {Q : Option AV → AH → Prop} {x0 : Nat} {x1 : Int32} {x2 : Int64} {x4 : Int64} {t0 : Int64} {G : AH} (h : wp E d M_X12_factorValue 131 [some (vr x0), some (vi x1), some (vj t0), none, none, none, none, none, none, none] [] G Q) : wp E d M_X12_factorValue 197 [some (vr x0), some (vi x1), some (vj x2), none, some (vj x4), none, none, none, none, none] [vj t0] G Q := by
  refine wp_lstore_n (pc := 197) (lv' := [some (vr _), some (vi _), some (vj _), none, some (vj _), none, none, none, none, none]) d_X12_factorValue_197 (by decide) rfl ?_
  refine wp_goto (pc := 198) (tgt := 131) d_X12_factorValue_198 (by decide) ?_
  refine wp_sub ?_ h
  exact ⟨rfl, ⟨rfl, ⟨rfl, trivial⟩⟩⟩
theorem v_X12_factorValue_220 {E : EE} {d : Nat} {Q : Option AV → AH → Prop} {x0 : Nat} {x1 : Int32} {x2 : Int64} {t0 : Int64} {G : AH} (h0 : 0 < d) (h : wpJ E (d - 1) M_X12_held [vj t0] G (fun r1 G2 => wp E d M_X12_factorValue 227 [some (vr x0), some (vi x1), some (vj x2), none, none, none, none, none, none, none] [vj r1] G2 Q)) : wp E d M_X12_factorValue 220 [some (vr x0), some (vi x1), some (vj x2), none, none, none, none, none, none, none] [vj t0] G Q := by
  refine wp_invS (pc := 220) (N := M_X12_held) (As := [vj _]) (rest := []) d_X12_factorValue_220 ml_X12_479 mk_X12_held ms_X12_held h0 (Nat.le_of_ble_eq_true rfl) ?_
  refine wpM.mono h (fun rr G2 hr => ?_)
  obtain ⟨r1, rfl, h⟩ := hr
  show wp E d M_X12_factorValue 223 [some (vr _), some (vi _), some (vj _), none, none, none, none, none, none, none] [vj _] G2 Q
  refine wp_goto (pc := 223) (tgt := 227) d_X12_factorValue_223 (by decide) ?_
  refine wp_sub ?_ h
  exact ⟨rfl, ⟨rfl, ⟨rfl, trivial⟩⟩⟩
theorem v_X12_factorValue_227 {E : EE} {d : Nat} {Q : Option AV → AH → Prop} {x0 : Nat} {x1 : Int32} {x2 : Int64} {t0 : Int64} {G : AH} (h : (¬ x1 = 316 → wp E d M_X12_factorValue 297 [some (vr x0), some (vi x1), some (vj t0), none, none, none, none, none, none, none] [] G Q) ∧ (x1 = 316 → wp E d M_X12_factorValue 243 [some (vr x0), some (vi x1), some (vj 0), none, some (vj t0), none, some (vj 0), none, none, none] [] G Q)) : wp E d M_X12_factorValue 227 [some (vr x0), some (vi x1), some (vj x2), none, none, none, none, none, none, none] [vj t0] G Q := by
  refine wp_lstore_n (pc := 227) (lv' := [some (vr _), some (vi _), some (vj _), none, none, none, none, none, none, none]) d_X12_factorValue_227 (by decide) rfl ?_
  refine wp_iload_n (pc := 228) d_X12_factorValue_228 rfl ?_
  refine wp_sipush (pc := 229) (v := 316) d_X12_factorValue_229 rfl ?_
  refine wp_icmp_ne (pc := 232) (tgt := 297) d_X12_factorValue_232 (by decide) (fun hc => ?_) (fun hc => ?_)
  · have h := h.1 hc
    refine wp_sub ?_ h
    exact ⟨rfl, ⟨rfl, ⟨rfl, trivial⟩⟩⟩
  · have h := h.2 hc
    refine wp_lload_n (pc := 235) d_X12_factorValue_235 rfl ?_
    refine wp_lstore (pc := 236) (lv' := [some (vr _), some (vi _), some (vj _), none, some (vj _), none, none, none, none, none]) d_X12_factorValue_236 (by decide) rfl ?_
    refine wp_lconst (pc := 238) (v := 0) d_X12_factorValue_238 rfl ?_
    refine wp_lstore_n (pc := 239) (lv' := [some (vr _), some (vi _), some (vj _), none, some (vj _), none, none, none, none, none]) d_X12_factorValue_239 (by decide) rfl ?_
    refine wp_lconst (pc := 240) (v := 0) d_X12_factorValue_240 rfl ?_
    refine wp_lstore (pc := 241) (lv' := [some (vr _), some (vi _), some (vj _), none, some (vj _), none, some (vj _), none, none, none]) d_X12_factorValue_241 (by decide) rfl ?_
    refine wp_sub ?_ h
    exact ⟨rfl, ⟨rfl, ⟨rfl, ⟨rfl, ⟨rfl, trivial⟩⟩⟩⟩⟩
theorem v_X12_factorValue_243 {E : EE} {d : Nat} {Q : Option AV → AH → Prop} {x0 : Nat} {x1 : Int32} {x2 : Int64} {x4 : Int64} {x6 : Int64} {G : AH} (h0 : 0 < d) (h : isO E G x0 12 ∧ (isO E G (gR G x0 8) 14 ∧ (vp_in (gI G x0 54) (gN G (gR G x0 8)) ∧ (((gI G (gR G x0 8) (Int32.toNatClampNeg (gI G x0 54))) = 41 → wp E d M_X12_factorValue 297 [some (vr x0), some (vi x1), some (vj x2), none, none, none, none, none, none, none] [] G Q) ∧ (¬ ((gI G (gR G x0 8) (Int32.toNatClampNeg (gI G x0 54))) = 41) → wpJ E (d - 1) M_X12_intValue [vr x0] (sI G x0 54 ((gI G x0 54) + 1)) (fun r4 G5 => (¬ x6 = x4 → wp E d M_X12_factorValue 287 [some (vr x0), some (vi x1), some (vj x2), none, some (vj x4), none, some (vj x6), none, some (vj r4), none] [vj x2] G5 Q) ∧ (x6 = x4 → wp E d M_X12_factorValue 287 [some (vr x0), some (vi x1), some (vj x2), none, some (vj x4), none, some (vj x6), none, some (vj r4), none] [vj r4] G5 Q))))))) : wp E d M_X12_factorValue 243 [some (vr x0), some (vi x1), some (vj x2), none, some (vj x4), none, some (vj x6), none, none, none] [] G Q := by
  refine wp_aload_n (pc := 243) d_X12_factorValue_243 rfl ?_
  obtain ⟨ho1, h⟩ := h
  refine wp_getR (pc := 244) d_X12_factorValue_244 fl_X12_31 (fun _ _ _ => rfl) ho1 ?_
  refine wp_aload_n (pc := 247) d_X12_factorValue_247 rfl ?_
  refine wp_getI (pc := 248) d_X12_factorValue_248 fl_X12_472 (fun _ _ _ => rfl) ho1 ?_
  obtain ⟨ho2, h⟩ := h
  obtain ⟨hi3, h⟩ := h
  refine wp_iald (pc := 251) d_X12_factorValue_251 ho2 hi3 ?_
  refine wp_bipush (pc := 252) (v := 41) d_X12_factorValue_252 rfl ?_
  refine wp_icmp_eq (pc := 254) (tgt := 297) d_X12_factorValue_254 (by decide) (fun hc => ?_) (fun hc => ?_)
  · have h := h.1 hc
    refine wp_sub ?_ h
    exact ⟨rfl, ⟨rfl, ⟨rfl, trivial⟩⟩⟩
  · have h := h.2 hc
    refine wp_aload_n (pc := 257) d_X12_factorValue_257 rfl ?_
    refine wp_dup (pc := 258) d_X12_factorValue_258 (c1_r _) ?_
    refine wp_getI (pc := 259) d_X12_factorValue_259 fl_X12_472 (fun _ _ _ => rfl) ho1 ?_
    refine wp_iconst (pc := 262) (v := 1) d_X12_factorValue_262 rfl ?_
    refine wp_iadd (pc := 263) d_X12_factorValue_263 ?_
    refine wp_putI (pc := 264) d_X12_factorValue_264 fl_X12_472 (fun _ _ _ => rfl) (Or.inl rfl) ho1 (okI_int _) ?_
    refine wp_aload_n (pc := 267) d_X12_factorValue_267 rfl ?_
    refine wp_invV (pc := 268) (N := M_X12_intValue) (As := []) (rest := []) (r := (cn_12, ct_12, 95)) d_X12_factorValue_268 ml_X12_495 mk_X12_intValue mv_X12_intValue h0 ho1 rfl rfl (Nat.le_of_ble_eq_true rfl) ?_
    refine wpM.mono h (fun rr G5 hr => ?_)
    obtain ⟨r4, rfl, h⟩ := hr
    show wp E d M_X12_factorValue 271 [some (vr _), some (vi _), some (vj _), none, some (vj _), none, some (vj _), none, none, none] [vj _] G5 Q
    refine wp_lstore (pc := 271) (lv' := [some (vr _), some (vi _), some (vj _), none, some (vj _), none, some (vj _), none, some (vj _), none]) d_X12_factorValue_271 (by decide) rfl ?_
    refine wp_lload (pc := 273) d_X12_factorValue_273 rfl ?_
    refine wp_lload (pc := 275) d_X12_factorValue_275 rfl ?_
    refine wp_lcmp_ne (pc := 277) (tgt := 286) d_X12_factorValue_277 d_X12_factorValue_278 (by decide) (fun hc => ?_) (fun hc => ?_)
    · have h := h.1 hc
      refine wp_lload_n (pc := 286) d_X12_factorValue_286 rfl ?_
      refine wp_sub ?_ h
      exact ⟨rfl, ⟨rfl, ⟨rfl, ⟨rfl, ⟨rfl, ⟨rfl, trivial⟩⟩⟩⟩⟩⟩
    · have h := h.2 hc
      refine wp_lload (pc := 281) d_X12_factorValue_281 rfl ?_
      refine wp_goto (pc := 283) (tgt := 287) d_X12_factorValue_283 (by decide) ?_
      refine wp_sub ?_ h
      exact ⟨rfl, ⟨rfl, ⟨rfl, ⟨rfl, ⟨rfl, ⟨rfl, trivial⟩⟩⟩⟩⟩⟩
theorem v_X12_factorValue_287 {E : EE} {d : Nat} {Q : Option AV → AH → Prop} {x0 : Nat} {x1 : Int32} {x2 : Int64} {x4 : Int64} {x6 : Int64} {x8 : Int64} {t0 : Int64} {G : AH} (h : wp E d M_X12_factorValue 243 [some (vr x0), some (vi x1), some (vj t0), none, some (vj x4), none, some (vj (x6 + 1)), none, none, none] [] G Q) : wp E d M_X12_factorValue 287 [some (vr x0), some (vi x1), some (vj x2), none, some (vj x4), none, some (vj x6), none, some (vj x8), none] [vj t0] G Q := by
  refine wp_lstore_n (pc := 287) (lv' := [some (vr _), some (vi _), some (vj _), none, some (vj _), none, some (vj _), none, some (vj _), none]) d_X12_factorValue_287 (by decide) rfl ?_
  refine wp_lload (pc := 288) d_X12_factorValue_288 rfl ?_
  refine wp_lconst (pc := 290) (v := 1) d_X12_factorValue_290 rfl ?_
  refine wp_ladd (pc := 291) d_X12_factorValue_291 ?_
  refine wp_lstore (pc := 292) (lv' := [some (vr _), some (vi _), some (vj _), none, some (vj _), none, some (vj _), none, some (vj _), none]) d_X12_factorValue_292 (by decide) rfl ?_
  refine wp_goto (pc := 294) (tgt := 243) d_X12_factorValue_294 (by decide) ?_
  refine wp_sub ?_ h
  exact ⟨rfl, ⟨rfl, ⟨rfl, ⟨rfl, ⟨rfl, trivial⟩⟩⟩⟩⟩
theorem v_X12_factorValue_297 {E : EE} {d : Nat} {Q : Option AV → AH → Prop} {x0 : Nat} {x1 : Int32} {x2 : Int64} {G : AH} (h : isO E G x0 12 ∧ (Q (some (vj x2)) (sI G x0 54 ((gI G x0 54) + 1)))) : wp E d M_X12_factorValue 297 [some (vr x0), some (vi x1), some (vj x2), none, none, none, none, none, none, none] [] G Q := by
  refine wp_aload_n (pc := 297) d_X12_factorValue_297 rfl ?_
  refine wp_dup (pc := 298) d_X12_factorValue_298 (c1_r _) ?_
  obtain ⟨ho1, h⟩ := h
  refine wp_getI (pc := 299) d_X12_factorValue_299 fl_X12_472 (fun _ _ _ => rfl) ho1 ?_
  refine wp_iconst (pc := 302) (v := 1) d_X12_factorValue_302 rfl ?_
  refine wp_iadd (pc := 303) d_X12_factorValue_303 ?_
  refine wp_putI (pc := 304) d_X12_factorValue_304 fl_X12_472 (fun _ _ _ => rfl) (Or.inl rfl) ho1 (okI_int _) ?_
  refine wp_lload_n (pc := 307) d_X12_factorValue_307 rfl ?_
  exact wp_lret (pc := 308) d_X12_factorValue_308 rfl h
theorem d_X12_held_0 : decode prog_14_method_65_code 0 = .ok (.lload_n 0, 1) := by decide +kernel
theorem d_X12_held_1 : decode prog_14_method_65_code 1 = .ok (.ldc2_w 468, 3) := by decide +kernel
theorem d_X12_held_4 : decode prog_14_method_65_code 4 = .ok (.lcmp, 1) := by decide +kernel
theorem d_X12_held_5 : decode prog_14_method_65_code 5 = .ok (.ifCond .ge 9, 3) := by decide +kernel
theorem d_X12_held_8 : decode prog_14_method_65_code 8 = .ok (.ldc2_w 468, 3) := by decide +kernel
theorem d_X12_held_11 : decode prog_14_method_65_code 11 = .ok (.goto 18, 3) := by decide +kernel
theorem d_X12_held_14 : decode prog_14_method_65_code 14 = .ok (.lload_n 0, 1) := by decide +kernel
theorem d_X12_held_15 : decode prog_14_method_65_code 15 = .ok (.ldc2_w 470, 3) := by decide +kernel
theorem d_X12_held_18 : decode prog_14_method_65_code 18 = .ok (.lcmp, 1) := by decide +kernel
theorem d_X12_held_19 : decode prog_14_method_65_code 19 = .ok (.ifCond .le 9, 3) := by decide +kernel
theorem d_X12_held_22 : decode prog_14_method_65_code 22 = .ok (.ldc2_w 470, 3) := by decide +kernel
theorem d_X12_held_25 : decode prog_14_method_65_code 25 = .ok (.goto 4, 3) := by decide +kernel
theorem d_X12_held_28 : decode prog_14_method_65_code 28 = .ok (.lload_n 0, 1) := by decide +kernel
theorem d_X12_held_29 : decode prog_14_method_65_code 29 = .ok (.lreturn, 1) := by decide +kernel
theorem v_X12_held_0 {E : EE} {d : Nat} {Q : Option AV → AH → Prop} {x0 : Int64} {G : AH} (h : ((-1000000) ≤ x0 → (x0 ≤ 1000000 → Q (some (vj x0)) G) ∧ (¬ (x0 ≤ 1000000) → Q (some (vj 1000000)) G)) ∧ (¬ ((-1000000) ≤ x0) → Q (some (vj (-1000000))) G)) : wp E d M_X12_held 0 [some (vj x0), none] [] G Q := by
  refine wp_lload_n (pc := 0) d_X12_held_0 rfl ?_
  refine wp_ldc2 (pc := 1) (v := (-1000000)) d_X12_held_1 cj_X12_468 ?_
  refine wp_lcmp_ge (pc := 4) (tgt := 14) d_X12_held_4 d_X12_held_5 (by decide) (fun hc => ?_) (fun hc => ?_)
  · have h := h.1 hc
    refine wp_lload_n (pc := 14) d_X12_held_14 rfl ?_
    refine wp_ldc2 (pc := 15) (v := 1000000) d_X12_held_15 cj_X12_470 ?_
    refine wp_lcmp_le (pc := 18) (tgt := 28) d_X12_held_18 d_X12_held_19 (by decide) (fun hc => ?_) (fun hc => ?_)
    · have h := h.1 hc
      refine wp_lload_n (pc := 28) d_X12_held_28 rfl ?_
      exact wp_lret (pc := 29) d_X12_held_29 rfl h
    · have h := h.2 hc
      refine wp_ldc2 (pc := 22) (v := 1000000) d_X12_held_22 cj_X12_470 ?_
      refine wp_goto (pc := 25) (tgt := 29) d_X12_held_25 (by decide) ?_
      exact wp_lret (pc := 29) d_X12_held_29 rfl h
  · have h := h.2 hc
    refine wp_ldc2 (pc := 8) (v := (-1000000)) d_X12_held_8 cj_X12_468 ?_
    refine wp_goto (pc := 11) (tgt := 29) d_X12_held_11 (by decide) ?_
    exact wp_lret (pc := 29) d_X12_held_29 rfl h
theorem d_X12_aimsOf_0 : decode prog_14_method_56_code 0 = .ok (.aload_n 0, 1) := by decide +kernel
theorem d_X12_aimsOf_1 : decode prog_14_method_56_code 1 = .ok (.getfield 58, 3) := by decide +kernel
theorem d_X12_aimsOf_4 : decode prog_14_method_56_code 4 = .ok (.iconst 4, 1) := by decide +kernel
theorem d_X12_aimsOf_5 : decode prog_14_method_56_code 5 = .ok (.iload_n 1, 1) := by decide +kernel
theorem d_X12_aimsOf_6 : decode prog_14_method_56_code 6 = .ok (.imul, 1) := by decide +kernel
theorem d_X12_aimsOf_7 : decode prog_14_method_56_code 7 = .ok (.iconst 3, 1) := by decide +kernel
theorem d_X12_aimsOf_8 : decode prog_14_method_56_code 8 = .ok (.iadd, 1) := by decide +kernel
theorem d_X12_aimsOf_9 : decode prog_14_method_56_code 9 = .ok (.iaload, 1) := by decide +kernel
theorem d_X12_aimsOf_10 : decode prog_14_method_56_code 10 = .ok (.ireturn, 1) := by decide +kernel
theorem v_X12_aimsOf_0 {E : EE} {d : Nat} {Q : Option AV → AH → Prop} {x0 : Nat} {x1 : Int32} {G : AH} (h : isO E G x0 12 ∧ (isO E G (gR G x0 17) 14 ∧ (vp_in ((4 * x1) + 3) (gN G (gR G x0 17)) ∧ (Q (some (vi (gI G (gR G x0 17) (Int32.toNatClampNeg ((4 * x1) + 3))))) G)))) : wp E d M_X12_aimsOf 0 [some (vr x0), some (vi x1)] [] G Q := by
  refine wp_aload_n (pc := 0) d_X12_aimsOf_0 rfl ?_
  obtain ⟨ho1, h⟩ := h
  refine wp_getR (pc := 1) d_X12_aimsOf_1 fl_X12_58 (fun _ _ _ => rfl) ho1 ?_
  refine wp_iconst (pc := 4) (v := 4) d_X12_aimsOf_4 rfl ?_
  refine wp_iload_n (pc := 5) d_X12_aimsOf_5 rfl ?_
  refine wp_imul (pc := 6) d_X12_aimsOf_6 ?_
  refine wp_iconst (pc := 7) (v := 3) d_X12_aimsOf_7 rfl ?_
  refine wp_iadd (pc := 8) d_X12_aimsOf_8 ?_
  obtain ⟨ho2, h⟩ := h
  obtain ⟨hi3, h⟩ := h
  refine wp_iald (pc := 9) d_X12_aimsOf_9 ho2 hi3 ?_
  exact wp_iret (pc := 10) d_X12_aimsOf_10 rfl h
theorem d_X12_handOf_0 : decode prog_14_method_85_code 0 = .ok (.iconst 0, 1) := by decide +kernel
theorem d_X12_handOf_1 : decode prog_14_method_85_code 1 = .ok (.istore_n 2, 1) := by decide +kernel
theorem d_X12_handOf_2 : decode prog_14_method_85_code 2 = .ok (.iconst 0, 1) := by decide +kernel
theorem d_X12_handOf_3 : decode prog_14_method_85_code 3 = .ok (.istore_n 3, 1) := by decide +kernel
theorem d_X12_handOf_4 : decode prog_14_method_85_code 4 = .ok (.iload_n 3, 1) := by decide +kernel
theorem d_X12_handOf_5 : decode prog_14_method_85_code 5 = .ok (.aload_n 0, 1) := by decide +kernel
theorem d_X12_handOf_6 : decode prog_14_method_85_code 6 = .ok (.iload_n 1, 1) := by decide +kernel
theorem d_X12_handOf_7 : decode prog_14_method_85_code 7 = .ok (.invokevirtual 456, 3) := by decide +kernel
theorem d_X12_handOf_10 : decode prog_14_method_85_code 10 = .ok (.if_icmp .ge 35, 3) := by decide +kernel
theorem d_X12_handOf_13 : decode prog_14_method_85_code 13 = .ok (.iload_n 2, 1) := by decide +kernel
theorem d_X12_handOf_14 : decode prog_14_method_85_code 14 = .ok (.aload_n 0, 1) := by decide +kernel
theorem d_X12_handOf_15 : decode prog_14_method_85_code 15 = .ok (.getfield 73, 3) := by decide +kernel
theorem d_X12_handOf_18 : decode prog_14_method_85_code 18 = .ok (.bipush 12, 2) := by decide +kernel
theorem d_X12_handOf_20 : decode prog_14_method_85_code 20 = .ok (.iload_n 1, 1) := by decide +kernel
theorem d_X12_handOf_21 : decode prog_14_method_85_code 21 = .ok (.imul, 1) := by decide +kernel
theorem d_X12_handOf_22 : decode prog_14_method_85_code 22 = .ok (.iload_n 3, 1) := by decide +kernel
theorem d_X12_handOf_23 : decode prog_14_method_85_code 23 = .ok (.iadd, 1) := by decide +kernel
theorem d_X12_handOf_24 : decode prog_14_method_85_code 24 = .ok (.iaload, 1) := by decide +kernel
theorem d_X12_handOf_25 : decode prog_14_method_85_code 25 = .ok (.aload_n 0, 1) := by decide +kernel
theorem d_X12_handOf_26 : decode prog_14_method_85_code 26 = .ok (.getfield 67, 3) := by decide +kernel
theorem d_X12_handOf_29 : decode prog_14_method_85_code 29 = .ok (.bipush 12, 2) := by decide +kernel
theorem d_X12_handOf_31 : decode prog_14_method_85_code 31 = .ok (.iload_n 1, 1) := by decide +kernel
theorem d_X12_handOf_32 : decode prog_14_method_85_code 32 = .ok (.imul, 1) := by decide +kernel
theorem d_X12_handOf_33 : decode prog_14_method_85_code 33 = .ok (.iload_n 3, 1) := by decide +kernel
theorem d_X12_handOf_34 : decode prog_14_method_85_code 34 = .ok (.iadd, 1) := by decide +kernel
theorem d_X12_handOf_35 : decode prog_14_method_85_code 35 = .ok (.iaload, 1) := by decide +kernel
theorem d_X12_handOf_36 : decode prog_14_method_85_code 36 = .ok (.imul, 1) := by decide +kernel
theorem d_X12_handOf_37 : decode prog_14_method_85_code 37 = .ok (.iadd, 1) := by decide +kernel
theorem d_X12_handOf_38 : decode prog_14_method_85_code 38 = .ok (.istore_n 2, 1) := by decide +kernel
theorem d_X12_handOf_39 : decode prog_14_method_85_code 39 = .ok (.iinc 3 1, 3) := by decide +kernel
theorem d_X12_handOf_42 : decode prog_14_method_85_code 42 = .ok (.goto (-38), 3) := by decide +kernel
theorem d_X12_handOf_45 : decode prog_14_method_85_code 45 = .ok (.iload_n 2, 1) := by decide +kernel
theorem d_X12_handOf_46 : decode prog_14_method_85_code 46 = .ok (.ireturn, 1) := by decide +kernel
theorem v_X12_handOf_0 {E : EE} {d : Nat} {Q : Option AV → AH → Prop} {x0 : Nat} {x1 : Int32} {G : AH} (h : wp E d M_X12_handOf 4 [some (vr x0), some (vi x1), some (vi 0), some (vi 0)] [] G Q) : wp E d M_X12_handOf 0 [some (vr x0), some (vi x1), none, none] [] G Q := by
  refine wp_iconst (pc := 0) (v := 0) d_X12_handOf_0 rfl ?_
  refine wp_istore_n (pc := 1) (lv' := [some (vr _), some (vi _), some (vi _), none]) d_X12_handOf_1 (by decide) rfl ?_
  refine wp_iconst (pc := 2) (v := 0) d_X12_handOf_2 rfl ?_
  refine wp_istore_n (pc := 3) (lv' := [some (vr _), some (vi _), some (vi _), some (vi _)]) d_X12_handOf_3 (by decide) rfl ?_
  refine wp_sub ?_ h
  exact ⟨rfl, ⟨rfl, ⟨rfl, ⟨rfl, trivial⟩⟩⟩⟩
theorem v_X12_handOf_4 {E : EE} {d : Nat} {Q : Option AV → AH → Prop} {x0 : Nat} {x1 : Int32} {x2 : Int32} {x3 : Int32} {G : AH} (h0 : 0 < d) (h : isO E G x0 12 ∧ (wpI E (d - 1) M_X12_vars [vr x0, vi x1] G (fun r1 G2 => (r1 ≤ x3 → Q (some (vi x2)) G2) ∧ (¬ (r1 ≤ x3) → isO E G2 x0 12 ∧ (isO E G2 (gR G2 x0 22) 14 ∧ (vp_in ((12 * x1) + x3) (gN G2 (gR G2 x0 22)) ∧ (isO E G2 (gR G2 x0 20) 14 ∧ (vp_in ((12 * x1) + x3) (gN G2 (gR G2 x0 20)) ∧ (wp E d M_X12_handOf 4 [some (vr x0), some (vi x1), some (vi (x2 + ((gI G2 (gR G2 x0 22) (Int32.toNatClampNeg ((12 * x1) + x3))) * (gI G2 (gR G2 x0 20) (Int32.toNatClampNeg ((12 * x1) + x3)))))), some (vi (x3 + 1))] [] G2 Q))))))))) : wp E d M_X12_handOf 4 [some (vr x0), some (vi x1), some (vi x2), some (vi x3)] [] G Q := by
  refine wp_iload_n (pc := 4) d_X12_handOf_4 rfl ?_
  refine wp_aload_n (pc := 5) d_X12_handOf_5 rfl ?_
  refine wp_iload_n (pc := 6) d_X12_handOf_6 rfl ?_
  obtain ⟨ho8, h⟩ := h
  refine wp_invV (pc := 7) (N := M_X12_vars) (As := [vi _]) (rest := [vi _]) (r := (cn_12, ct_12, 95)) d_X12_handOf_7 ml_X12_456 mk_X12_vars mv_X12_vars h0 ho8 rfl rfl (Nat.le_of_ble_eq_true rfl) ?_
  refine wpM.mono h (fun rr G2 hr => ?_)
  obtain ⟨r1, rfl, h⟩ := hr
  show wp E d M_X12_handOf 10 [some (vr _), some (vi _), some (vi _), some (vi _)] [vi _, vi _] G2 Q
  refine wp_icmp_ge (pc := 10) (tgt := 45) d_X12_handOf_10 (by decide) (fun hc => ?_) (fun hc => ?_)
  · have h := h.1 hc
    refine wp_iload_n (pc := 45) d_X12_handOf_45 rfl ?_
    exact wp_iret (pc := 46) d_X12_handOf_46 rfl h
  · have h := h.2 hc
    refine wp_iload_n (pc := 13) d_X12_handOf_13 rfl ?_
    refine wp_aload_n (pc := 14) d_X12_handOf_14 rfl ?_
    obtain ⟨ho3, h⟩ := h
    refine wp_getR (pc := 15) d_X12_handOf_15 fl_X12_73 (fun _ _ _ => rfl) ho3 ?_
    refine wp_bipush (pc := 18) (v := 12) d_X12_handOf_18 rfl ?_
    refine wp_iload_n (pc := 20) d_X12_handOf_20 rfl ?_
    refine wp_imul (pc := 21) d_X12_handOf_21 ?_
    refine wp_iload_n (pc := 22) d_X12_handOf_22 rfl ?_
    refine wp_iadd (pc := 23) d_X12_handOf_23 ?_
    obtain ⟨ho4, h⟩ := h
    obtain ⟨hi5, h⟩ := h
    refine wp_iald (pc := 24) d_X12_handOf_24 ho4 hi5 ?_
    refine wp_aload_n (pc := 25) d_X12_handOf_25 rfl ?_
    refine wp_getR (pc := 26) d_X12_handOf_26 fl_X12_67 (fun _ _ _ => rfl) ho3 ?_
    refine wp_bipush (pc := 29) (v := 12) d_X12_handOf_29 rfl ?_
    refine wp_iload_n (pc := 31) d_X12_handOf_31 rfl ?_
    refine wp_imul (pc := 32) d_X12_handOf_32 ?_
    refine wp_iload_n (pc := 33) d_X12_handOf_33 rfl ?_
    refine wp_iadd (pc := 34) d_X12_handOf_34 ?_
    obtain ⟨ho6, h⟩ := h
    obtain ⟨hi7, h⟩ := h
    refine wp_iald (pc := 35) d_X12_handOf_35 ho6 hi7 ?_
    refine wp_imul (pc := 36) d_X12_handOf_36 ?_
    refine wp_iadd (pc := 37) d_X12_handOf_37 ?_
    refine wp_istore_n (pc := 38) (lv' := [some (vr _), some (vi _), some (vi _), some (vi _)]) d_X12_handOf_38 (by decide) rfl ?_
    refine wp_iinc (pc := 39) (v := 1) (lv' := [some (vr _), some (vi _), some (vi _), some (vi _)]) d_X12_handOf_39 (by decide) rfl rfl rfl ?_
    refine wp_goto (pc := 42) (tgt := 4) d_X12_handOf_42 (by decide) ?_
    refine wp_sub ?_ h
    exact ⟨rfl, ⟨rfl, ⟨rfl, ⟨rfl, trivial⟩⟩⟩⟩
theorem d_X12_isGood_0 : decode prog_14_method_93_code 0 = .ok (.aload_n 0, 1) := by decide +kernel
theorem d_X12_isGood_1 : decode prog_14_method_93_code 1 = .ok (.iload_n 2, 1) := by decide +kernel
theorem d_X12_isGood_2 : decode prog_14_method_93_code 2 = .ok (.invokevirtual 556, 3) := by decide +kernel
theorem d_X12_isGood_5 : decode prog_14_method_93_code 5 = .ok (.ifCond .eq 16, 3) := by decide +kernel
theorem d_X12_isGood_8 : decode prog_14_method_93_code 8 = .ok (.aload_n 0, 1) := by decide +kernel
theorem d_X12_isGood_9 : decode prog_14_method_93_code 9 = .ok (.iload_n 1, 1) := by decide +kernel
theorem d_X12_isGood_10 : decode prog_14_method_93_code 10 = .ok (.iload_n 2, 1) := by decide +kernel
theorem d_X12_isGood_11 : decode prog_14_method_93_code 11 = .ok (.invokevirtual 559, 3) := by decide +kernel
theorem d_X12_isGood_14 : decode prog_14_method_93_code 14 = .ok (.ifCond .eq 7, 3) := by decide +kernel
theorem d_X12_isGood_17 : decode prog_14_method_93_code 17 = .ok (.iconst 1, 1) := by decide +kernel
theorem d_X12_isGood_18 : decode prog_14_method_93_code 18 = .ok (.goto 4, 3) := by decide +kernel
theorem d_X12_isGood_21 : decode prog_14_method_93_code 21 = .ok (.iconst 0, 1) := by decide +kernel
theorem d_X12_isGood_22 : decode prog_14_method_93_code 22 = .ok (.ireturn, 1) := by decide +kernel
theorem v_X12_isGood_0 {E : EE} {d : Nat} {Q : Option AV → AH → Prop} {x0 : Nat} {x1 : Int32} {x2 : Int32} {G : AH} (h0 : 0 < d) (h : isO E G x0 12 ∧ (wpI E (d - 1) M_X12_isFeasible [vr x0, vi x2] G (fun r1 G2 => (r1 = 0 → Q (some (vi 0)) G2) ∧ (¬ (r1 = 0) → isO E G2 x0 12 ∧ (wpI E (d - 1) M_X12_isAllowed [vr x0, vi x1, vi x2] G2 (fun r3 G4 => (r3 = 0 → Q (some (vi 0)) G4) ∧ (¬ (r3 = 0) → Q (some (vi 1)) G4))))))) : wp E d M_X12_isGood 0 [some (vr x0), some (vi x1), some (vi x2)] [] G Q := by
  refine wp_aload_n (pc := 0) d_X12_isGood_0 rfl ?_
  refine wp_iload_n (pc := 1) d_X12_isGood_1 rfl ?_
  obtain ⟨ho6, h⟩ := h
  refine wp_invV (pc := 2) (N := M_X12_isFeasible) (As := [vi _]) (rest := []) (r := (cn_12, ct_12, 95)) d_X12_isGood_2 ml_X12_556 mk_X12_isFeasible mv_X12_isFeasible h0 ho6 rfl rfl (Nat.le_of_ble_eq_true rfl) ?_
  refine wpM.mono h (fun rr G2 hr => ?_)
  obtain ⟨r1, rfl, h⟩ := hr
  show wp E d M_X12_isGood 5 [some (vr _), some (vi _), some (vi _)] [vi _] G2 Q
  refine wp_if_eq (pc := 5) (tgt := 21) d_X12_isGood_5 (by decide) (fun hc => ?_) (fun hc => ?_)
  · have h := h.1 hc
    refine wp_iconst (pc := 21) (v := 0) d_X12_isGood_21 rfl ?_
    exact wp_zret (pc := 22) d_X12_isGood_22 rfl rfl h
  · have h := h.2 hc
    refine wp_aload_n (pc := 8) d_X12_isGood_8 rfl ?_
    refine wp_iload_n (pc := 9) d_X12_isGood_9 rfl ?_
    refine wp_iload_n (pc := 10) d_X12_isGood_10 rfl ?_
    obtain ⟨ho5, h⟩ := h
    refine wp_invV (pc := 11) (N := M_X12_isAllowed) (As := [vi _, vi _]) (rest := []) (r := (cn_12, ct_12, 95)) d_X12_isGood_11 ml_X12_559 mk_X12_isAllowed mv_X12_isAllowed h0 ho5 rfl rfl (Nat.le_of_ble_eq_true rfl) ?_
    refine wpM.mono h (fun rr G4 hr => ?_)
    obtain ⟨r3, rfl, h⟩ := hr
    show wp E d M_X12_isGood 14 [some (vr _), some (vi _), some (vi _)] [vi _] G4 Q
    refine wp_if_eq (pc := 14) (tgt := 21) d_X12_isGood_14 (by decide) (fun hc => ?_) (fun hc => ?_)
    · have h := h.1 hc
      refine wp_iconst (pc := 21) (v := 0) d_X12_isGood_21 rfl ?_
      exact wp_zret (pc := 22) d_X12_isGood_22 rfl rfl h
    · have h := h.2 hc
      refine wp_iconst (pc := 17) (v := 1) d_X12_isGood_17 rfl ?_
      refine wp_goto (pc := 18) (tgt := 22) d_X12_isGood_18 (by decide) ?_
      exact wp_zret (pc := 22) d_X12_isGood_22 rfl rfl h
theorem d_X12_isFeasible_0 : decode prog_14_method_92_code 0 = .ok (.aload_n 0, 1) := by decide +kernel
theorem d_X12_isFeasible_1 : decode prog_14_method_92_code 1 = .ok (.getfield 159, 3) := by decide +kernel
theorem d_X12_isFeasible_4 : decode prog_14_method_92_code 4 = .ok (.iload_n 1, 1) := by decide +kernel
theorem d_X12_isFeasible_5 : decode prog_14_method_92_code 5 = .ok (.laload, 1) := by decide +kernel
theorem d_X12_isFeasible_6 : decode prog_14_method_92_code 6 = .ok (.lconst 0, 1) := by decide +kernel
theorem d_X12_isFeasible_7 : decode prog_14_method_92_code 7 = .ok (.lcmp, 1) := by decide +kernel
theorem d_X12_isFeasible_8 : decode prog_14_method_92_code 8 = .ok (.ifCond .ne 7, 3) := by decide +kernel
theorem d_X12_isFeasible_11 : decode prog_14_method_92_code 11 = .ok (.iconst 1, 1) := by decide +kernel
theorem d_X12_isFeasible_12 : decode prog_14_method_92_code 12 = .ok (.goto 4, 3) := by decide +kernel
theorem d_X12_isFeasible_15 : decode prog_14_method_92_code 15 = .ok (.iconst 0, 1) := by decide +kernel
theorem d_X12_isFeasible_16 : decode prog_14_method_92_code 16 = .ok (.ireturn, 1) := by decide +kernel
theorem v_X12_isFeasible_0 {E : EE} {d : Nat} {Q : Option AV → AH → Prop} {x0 : Nat} {x1 : Int32} {G : AH} (h : isO E G x0 12 ∧ (isO E G (gR G x0 66) 15 ∧ (vp_in x1 (gN G (gR G x0 66)) ∧ ((¬ (gJ G (gR G x0 66) (Int32.toNatClampNeg x1)) = 0 → Q (some (vi 0)) G) ∧ ((gJ G (gR G x0 66) (Int32.toNatClampNeg x1)) = 0 → Q (some (vi 1)) G))))) : wp E d M_X12_isFeasible 0 [some (vr x0), some (vi x1)] [] G Q := by
  refine wp_aload_n (pc := 0) d_X12_isFeasible_0 rfl ?_
  obtain ⟨ho1, h⟩ := h
  refine wp_getR (pc := 1) d_X12_isFeasible_1 fl_X12_159 (fun _ _ _ => rfl) ho1 ?_
  refine wp_iload_n (pc := 4) d_X12_isFeasible_4 rfl ?_
  obtain ⟨ho2, h⟩ := h
  obtain ⟨hi3, h⟩ := h
  refine wp_lald (pc := 5) d_X12_isFeasible_5 ho2 hi3 ?_
  refine wp_lconst (pc := 6) (v := 0) d_X12_isFeasible_6 rfl ?_
  refine wp_lcmp_ne (pc := 7) (tgt := 15) d_X12_isFeasible_7 d_X12_isFeasible_8 (by decide) (fun hc => ?_) (fun hc => ?_)
  · have h := h.1 hc
    refine wp_iconst (pc := 15) (v := 0) d_X12_isFeasible_15 rfl ?_
    exact wp_zret (pc := 16) d_X12_isFeasible_16 rfl rfl h
  · have h := h.2 hc
    refine wp_iconst (pc := 11) (v := 1) d_X12_isFeasible_11 rfl ?_
    refine wp_goto (pc := 12) (tgt := 16) d_X12_isFeasible_12 (by decide) ?_
    exact wp_zret (pc := 16) d_X12_isFeasible_16 rfl rfl h
theorem d_X12_isAllowed_0 : decode prog_14_method_91_code 0 = .ok (.iconst 1, 1) := by decide +kernel
theorem d_X12_isAllowed_1 : decode prog_14_method_91_code 1 = .ok (.istore_n 3, 1) := by decide +kernel
theorem d_X12_isAllowed_2 : decode prog_14_method_91_code 2 = .ok (.iconst 0, 1) := by decide +kernel
theorem d_X12_isAllowed_3 : decode prog_14_method_91_code 3 = .ok (.istore 4, 2) := by decide +kernel
theorem d_X12_isAllowed_5 : decode prog_14_method_91_code 5 = .ok (.iload_n 3, 1) := by decide +kernel
theorem d_X12_isAllowed_6 : decode prog_14_method_91_code 6 = .ok (.ifCond .eq 63, 3) := by decide +kernel
theorem d_X12_isAllowed_9 : decode prog_14_method_91_code 9 = .ok (.iload 4, 2) := by decide +kernel
theorem d_X12_isAllowed_11 : decode prog_14_method_91_code 11 = .ok (.aload_n 0, 1) := by decide +kernel
theorem d_X12_isAllowed_12 : decode prog_14_method_91_code 12 = .ok (.iload_n 1, 1) := by decide +kernel
theorem d_X12_isAllowed_13 : decode prog_14_method_91_code 13 = .ok (.invokevirtual 456, 3) := by decide +kernel
theorem d_X12_isAllowed_16 : decode prog_14_method_91_code 16 = .ok (.if_icmp .ge 53, 3) := by decide +kernel
theorem d_X12_isAllowed_19 : decode prog_14_method_91_code 19 = .ok (.aload_n 0, 1) := by decide +kernel
theorem d_X12_isAllowed_20 : decode prog_14_method_91_code 20 = .ok (.getfield 79, 3) := by decide +kernel
theorem d_X12_isAllowed_23 : decode prog_14_method_91_code 23 = .ok (.bipush 12, 2) := by decide +kernel
theorem d_X12_isAllowed_25 : decode prog_14_method_91_code 25 = .ok (.iload_n 1, 1) := by decide +kernel
theorem d_X12_isAllowed_26 : decode prog_14_method_91_code 26 = .ok (.imul, 1) := by decide +kernel
theorem d_X12_isAllowed_27 : decode prog_14_method_91_code 27 = .ok (.iload 4, 2) := by decide +kernel
theorem d_X12_isAllowed_29 : decode prog_14_method_91_code 29 = .ok (.iadd, 1) := by decide +kernel
theorem d_X12_isAllowed_30 : decode prog_14_method_91_code 30 = .ok (.baload, 1) := by decide +kernel
theorem d_X12_isAllowed_31 : decode prog_14_method_91_code 31 = .ok (.ifCond .eq 26, 3) := by decide +kernel
theorem d_X12_isAllowed_34 : decode prog_14_method_91_code 34 = .ok (.aload_n 0, 1) := by decide +kernel
theorem d_X12_isAllowed_35 : decode prog_14_method_91_code 35 = .ok (.iload_n 1, 1) := by decide +kernel
theorem d_X12_isAllowed_36 : decode prog_14_method_91_code 36 = .ok (.iload_n 2, 1) := by decide +kernel
theorem d_X12_isAllowed_37 : decode prog_14_method_91_code 37 = .ok (.iload 4, 2) := by decide +kernel
theorem d_X12_isAllowed_39 : decode prog_14_method_91_code 39 = .ok (.invokevirtual 537, 3) := by decide +kernel
theorem d_X12_isAllowed_42 : decode prog_14_method_91_code 42 = .ok (.aload_n 0, 1) := by decide +kernel
theorem d_X12_isAllowed_43 : decode prog_14_method_91_code 43 = .ok (.getfield 73, 3) := by decide +kernel
theorem d_X12_isAllowed_46 : decode prog_14_method_91_code 46 = .ok (.bipush 12, 2) := by decide +kernel
theorem d_X12_isAllowed_48 : decode prog_14_method_91_code 48 = .ok (.iload_n 1, 1) := by decide +kernel
theorem d_X12_isAllowed_49 : decode prog_14_method_91_code 49 = .ok (.imul, 1) := by decide +kernel
theorem d_X12_isAllowed_50 : decode prog_14_method_91_code 50 = .ok (.iload 4, 2) := by decide +kernel
theorem d_X12_isAllowed_52 : decode prog_14_method_91_code 52 = .ok (.iadd, 1) := by decide +kernel
theorem d_X12_isAllowed_53 : decode prog_14_method_91_code 53 = .ok (.iaload, 1) := by decide +kernel
theorem d_X12_isAllowed_54 : decode prog_14_method_91_code 54 = .ok (.if_icmp .ne 7, 3) := by decide +kernel
theorem d_X12_isAllowed_57 : decode prog_14_method_91_code 57 = .ok (.iconst 1, 1) := by decide +kernel
theorem d_X12_isAllowed_58 : decode prog_14_method_91_code 58 = .ok (.goto 4, 3) := by decide +kernel
theorem d_X12_isAllowed_61 : decode prog_14_method_91_code 61 = .ok (.iconst 0, 1) := by decide +kernel
theorem d_X12_isAllowed_62 : decode prog_14_method_91_code 62 = .ok (.istore_n 3, 1) := by decide +kernel
theorem d_X12_isAllowed_63 : decode prog_14_method_91_code 63 = .ok (.iinc 4 1, 3) := by decide +kernel
theorem d_X12_isAllowed_66 : decode prog_14_method_91_code 66 = .ok (.goto (-61), 3) := by decide +kernel
theorem d_X12_isAllowed_69 : decode prog_14_method_91_code 69 = .ok (.iload_n 3, 1) := by decide +kernel
theorem d_X12_isAllowed_70 : decode prog_14_method_91_code 70 = .ok (.ireturn, 1) := by decide +kernel
theorem v_X12_isAllowed_0 {E : EE} {d : Nat} {Q : Option AV → AH → Prop} {x0 : Nat} {x1 : Int32} {x2 : Int32} {G : AH} (h : wp E d M_X12_isAllowed 5 [some (vr x0), some (vi x1), some (vi x2), some (vi 1), some (vi 0)] [] G Q) : wp E d M_X12_isAllowed 0 [some (vr x0), some (vi x1), some (vi x2), none, none] [] G Q := by
  refine wp_iconst (pc := 0) (v := 1) d_X12_isAllowed_0 rfl ?_
  refine wp_istore_n (pc := 1) (lv' := [some (vr _), some (vi _), some (vi _), some (vi _), none]) d_X12_isAllowed_1 (by decide) rfl ?_
  refine wp_iconst (pc := 2) (v := 0) d_X12_isAllowed_2 rfl ?_
  refine wp_istore (pc := 3) (lv' := [some (vr _), some (vi _), some (vi _), some (vi _), some (vi _)]) d_X12_isAllowed_3 (by decide) rfl ?_
  refine wp_sub ?_ h
  exact ⟨rfl, ⟨rfl, ⟨rfl, ⟨rfl, ⟨rfl, trivial⟩⟩⟩⟩⟩
theorem v_X12_isAllowed_5 {E : EE} {d : Nat} {Q : Option AV → AH → Prop} {x0 : Nat} {x1 : Int32} {x2 : Int32} {x3 : Int32} {x4 : Int32} {G : AH} (h0 : 0 < d) (h : (x3 = 0 → okI .boolean x3 ∧ Q (some (vi x3)) G) ∧ (¬ (x3 = 0) → isO E G x0 12 ∧ (wpI E (d - 1) M_X12_vars [vr x0, vi x1] G (fun r1 G2 => (r1 ≤ x4 → okI .boolean x3 ∧ Q (some (vi x3)) G2) ∧ (¬ (r1 ≤ x4) → isO E G2 x0 12 ∧ (isO E G2 (gR G2 x0 24) 16 ∧ (vp_in ((12 * x1) + x4) (gN G2 (gR G2 x0 24)) ∧ (((gI G2 (gR G2 x0 24) (Int32.toNatClampNeg ((12 * x1) + x4))) = 0 → wp E d M_X12_isAllowed 57 [some (vr x0), some (vi x1), some (vi x2), some (vi x3), some (vi x4)] [] G2 Q) ∧ (¬ ((gI G2 (gR G2 x0 24) (Int32.toNatClampNeg ((12 * x1) + x4))) = 0) → wpI E (d - 1) M_X12_place [vr x0, vi x1, vi x2, vi x4] G2 (fun r6 G7 => isO E G7 x0 12 ∧ (isO E G7 (gR G7 x0 22) 14 ∧ (vp_in ((12 * x1) + x4) (gN G7 (gR G7 x0 22)) ∧ ((¬ r6 = (gI G7 (gR G7 x0 22) (Int32.toNatClampNeg ((12 * x1) + x4))) → wp E d M_X12_isAllowed 62 [some (vr x0), some (vi x1), some (vi x2), some (vi x3), some (vi x4)] [vi 0] G7 Q) ∧ (r6 = (gI G7 (gR G7 x0 22) (Int32.toNatClampNeg ((12 * x1) + x4))) → wp E d M_X12_isAllowed 57 [some (vr x0), some (vi x1), some (vi x2), some (vi x3), some (vi x4)] [] G7 Q)))))))))))))) : wp E d M_X12_isAllowed 5 [some (vr x0), some (vi x1), some (vi x2), some (vi x3), some (vi x4)] [] G Q := by
  refine wp_iload_n (pc := 5) d_X12_isAllowed_5 rfl ?_
  refine wp_if_eq (pc := 6) (tgt := 69) d_X12_isAllowed_6 (by decide) (fun hc => ?_) (fun hc => ?_)
  · have h := h.1 hc
    refine wp_iload_n (pc := 69) d_X12_isAllowed_69 rfl ?_
    exact wp_zret (pc := 70) d_X12_isAllowed_70 rfl h.1.1 h.2
  · have h := h.2 hc
    refine wp_iload (pc := 9) d_X12_isAllowed_9 rfl ?_
    refine wp_aload_n (pc := 11) d_X12_isAllowed_11 rfl ?_
    refine wp_iload_n (pc := 12) d_X12_isAllowed_12 rfl ?_
    obtain ⟨ho11, h⟩ := h
    refine wp_invV (pc := 13) (N := M_X12_vars) (As := [vi _]) (rest := [vi _]) (r := (cn_12, ct_12, 95)) d_X12_isAllowed_13 ml_X12_456 mk_X12_vars mv_X12_vars h0 ho11 rfl rfl (Nat.le_of_ble_eq_true rfl) ?_
    refine wpM.mono h (fun rr G2 hr => ?_)
    obtain ⟨r1, rfl, h⟩ := hr
    show wp E d M_X12_isAllowed 16 [some (vr _), some (vi _), some (vi _), some (vi _), some (vi _)] [vi _, vi _] G2 Q
    refine wp_icmp_ge (pc := 16) (tgt := 69) d_X12_isAllowed_16 (by decide) (fun hc => ?_) (fun hc => ?_)
    · have h := h.1 hc
      refine wp_iload_n (pc := 69) d_X12_isAllowed_69 rfl ?_
      exact wp_zret (pc := 70) d_X12_isAllowed_70 rfl h.1.1 h.2
    · have h := h.2 hc
      refine wp_aload_n (pc := 19) d_X12_isAllowed_19 rfl ?_
      obtain ⟨ho3, h⟩ := h
      refine wp_getR (pc := 20) d_X12_isAllowed_20 fl_X12_79 (fun _ _ _ => rfl) ho3 ?_
      refine wp_bipush (pc := 23) (v := 12) d_X12_isAllowed_23 rfl ?_
      refine wp_iload_n (pc := 25) d_X12_isAllowed_25 rfl ?_
      refine wp_imul (pc := 26) d_X12_isAllowed_26 ?_
      refine wp_iload (pc := 27) d_X12_isAllowed_27 rfl ?_
      refine wp_iadd (pc := 29) d_X12_isAllowed_29 ?_
      obtain ⟨ho4, h⟩ := h
      obtain ⟨hi5, h⟩ := h
      refine wp_zald (pc := 30) d_X12_isAllowed_30 ho4 hi5 ?_
      refine wp_if_eq (pc := 31) (tgt := 57) d_X12_isAllowed_31 (by decide) (fun hc => ?_) (fun hc => ?_)
      · have h := h.1 hc
        refine wp_sub ?_ h
        exact ⟨rfl, ⟨rfl, ⟨rfl, ⟨rfl, ⟨rfl, trivial⟩⟩⟩⟩⟩
      · have h := h.2 hc
        refine wp_aload_n (pc := 34) d_X12_isAllowed_34 rfl ?_
        refine wp_iload_n (pc := 35) d_X12_isAllowed_35 rfl ?_
        refine wp_iload_n (pc := 36) d_X12_isAllowed_36 rfl ?_
        refine wp_iload (pc := 37) d_X12_isAllowed_37 rfl ?_
        refine wp_invV (pc := 39) (N := M_X12_place) (As := [vi _, vi _, vi _]) (rest := []) (r := (cn_12, ct_12, 95)) d_X12_isAllowed_39 ml_X12_537 mk_X12_place mv_X12_place h0 ho3 rfl rfl (Nat.le_of_ble_eq_true rfl) ?_
        refine wpM.mono h (fun rr G7 hr => ?_)
        obtain ⟨r6, rfl, h⟩ := hr
        show wp E d M_X12_isAllowed 42 [some (vr _), some (vi _), some (vi _), some (vi _), some (vi _)] [vi _] G7 Q
        refine wp_aload_n (pc := 42) d_X12_isAllowed_42 rfl ?_
        obtain ⟨ho8, h⟩ := h
        refine wp_getR (pc := 43) d_X12_isAllowed_43 fl_X12_73 (fun _ _ _ => rfl) ho8 ?_
        refine wp_bipush (pc := 46) (v := 12) d_X12_isAllowed_46 rfl ?_
        refine wp_iload_n (pc := 48) d_X12_isAllowed_48 rfl ?_
        refine wp_imul (pc := 49) d_X12_isAllowed_49 ?_
        refine wp_iload (pc := 50) d_X12_isAllowed_50 rfl ?_
        refine wp_iadd (pc := 52) d_X12_isAllowed_52 ?_
        obtain ⟨ho9, h⟩ := h
        obtain ⟨hi10, h⟩ := h
        refine wp_iald (pc := 53) d_X12_isAllowed_53 ho9 hi10 ?_
        refine wp_icmp_ne (pc := 54) (tgt := 61) d_X12_isAllowed_54 (by decide) (fun hc => ?_) (fun hc => ?_)
        · have h := h.1 hc
          refine wp_iconst (pc := 61) (v := 0) d_X12_isAllowed_61 rfl ?_
          refine wp_sub ?_ h
          exact ⟨rfl, ⟨rfl, ⟨rfl, ⟨rfl, ⟨rfl, trivial⟩⟩⟩⟩⟩
        · have h := h.2 hc
          refine wp_sub ?_ h
          exact ⟨rfl, ⟨rfl, ⟨rfl, ⟨rfl, ⟨rfl, trivial⟩⟩⟩⟩⟩
theorem v_X12_isAllowed_57 {E : EE} {d : Nat} {Q : Option AV → AH → Prop} {x0 : Nat} {x1 : Int32} {x2 : Int32} {x3 : Int32} {x4 : Int32} {G : AH} (h : wp E d M_X12_isAllowed 62 [some (vr x0), some (vi x1), some (vi x2), some (vi x3), some (vi x4)] [vi 1] G Q) : wp E d M_X12_isAllowed 57 [some (vr x0), some (vi x1), some (vi x2), some (vi x3), some (vi x4)] [] G Q := by
  refine wp_iconst (pc := 57) (v := 1) d_X12_isAllowed_57 rfl ?_
  refine wp_goto (pc := 58) (tgt := 62) d_X12_isAllowed_58 (by decide) ?_
  refine wp_sub ?_ h
  exact ⟨rfl, ⟨rfl, ⟨rfl, ⟨rfl, ⟨rfl, trivial⟩⟩⟩⟩⟩
theorem v_X12_isAllowed_62 {E : EE} {d : Nat} {Q : Option AV → AH → Prop} {x0 : Nat} {x1 : Int32} {x2 : Int32} {x3 : Int32} {x4 : Int32} {t0 : Int32} {G : AH} (h : wp E d M_X12_isAllowed 5 [some (vr x0), some (vi x1), some (vi x2), some (vi t0), some (vi (x4 + 1))] [] G Q) : wp E d M_X12_isAllowed 62 [some (vr x0), some (vi x1), some (vi x2), some (vi x3), some (vi x4)] [vi t0] G Q := by
  refine wp_istore_n (pc := 62) (lv' := [some (vr _), some (vi _), some (vi _), some (vi _), some (vi _)]) d_X12_isAllowed_62 (by decide) rfl ?_
  refine wp_iinc (pc := 63) (v := 1) (lv' := [some (vr _), some (vi _), some (vi _), some (vi _), some (vi _)]) d_X12_isAllowed_63 (by decide) rfl rfl rfl ?_
  refine wp_goto (pc := 66) (tgt := 5) d_X12_isAllowed_66 (by decide) ?_
  refine wp_sub ?_ h
  exact ⟨rfl, ⟨rfl, ⟨rfl, ⟨rfl, ⟨rfl, trivial⟩⟩⟩⟩⟩
theorem d_X12_isBetter_0 : decode prog_14_method_94_code 0 = .ok (.iconst 0, 1) := by decide +kernel
theorem d_X12_isBetter_1 : decode prog_14_method_94_code 1 = .ok (.istore_n 3, 1) := by decide +kernel
theorem d_X12_isBetter_2 : decode prog_14_method_94_code 2 = .ok (.iload_n 3, 1) := by decide +kernel
theorem d_X12_isBetter_3 : decode prog_14_method_94_code 3 = .ok (.iconst 3, 1) := by decide +kernel
theorem d_X12_isBetter_4 : decode prog_14_method_94_code 4 = .ok (.if_icmp .ge 71, 3) := by decide +kernel
theorem d_X12_isBetter_7 : decode prog_14_method_94_code 7 = .ok (.aload_n 0, 1) := by decide +kernel
theorem d_X12_isBetter_8 : decode prog_14_method_94_code 8 = .ok (.getfield 159, 3) := by decide +kernel
theorem d_X12_isBetter_11 : decode prog_14_method_94_code 11 = .ok (.sipush 20000, 3) := by decide +kernel
theorem d_X12_isBetter_14 : decode prog_14_method_94_code 14 = .ok (.iload_n 3, 1) := by decide +kernel
theorem d_X12_isBetter_15 : decode prog_14_method_94_code 15 = .ok (.imul, 1) := by decide +kernel
theorem d_X12_isBetter_16 : decode prog_14_method_94_code 16 = .ok (.iload_n 1, 1) := by decide +kernel
theorem d_X12_isBetter_17 : decode prog_14_method_94_code 17 = .ok (.iadd, 1) := by decide +kernel
theorem d_X12_isBetter_18 : decode prog_14_method_94_code 18 = .ok (.laload, 1) := by decide +kernel
theorem d_X12_isBetter_19 : decode prog_14_method_94_code 19 = .ok (.aload_n 0, 1) := by decide +kernel
theorem d_X12_isBetter_20 : decode prog_14_method_94_code 20 = .ok (.getfield 159, 3) := by decide +kernel
theorem d_X12_isBetter_23 : decode prog_14_method_94_code 23 = .ok (.sipush 20000, 3) := by decide +kernel
theorem d_X12_isBetter_26 : decode prog_14_method_94_code 26 = .ok (.iload_n 3, 1) := by decide +kernel
theorem d_X12_isBetter_27 : decode prog_14_method_94_code 27 = .ok (.imul, 1) := by decide +kernel
theorem d_X12_isBetter_28 : decode prog_14_method_94_code 28 = .ok (.iload_n 2, 1) := by decide +kernel
theorem d_X12_isBetter_29 : decode prog_14_method_94_code 29 = .ok (.iadd, 1) := by decide +kernel
theorem d_X12_isBetter_30 : decode prog_14_method_94_code 30 = .ok (.laload, 1) := by decide +kernel
theorem d_X12_isBetter_31 : decode prog_14_method_94_code 31 = .ok (.lcmp, 1) := by decide +kernel
theorem d_X12_isBetter_32 : decode prog_14_method_94_code 32 = .ok (.ifCond .eq 37, 3) := by decide +kernel
theorem d_X12_isBetter_35 : decode prog_14_method_94_code 35 = .ok (.aload_n 0, 1) := by decide +kernel
theorem d_X12_isBetter_36 : decode prog_14_method_94_code 36 = .ok (.getfield 159, 3) := by decide +kernel
theorem d_X12_isBetter_39 : decode prog_14_method_94_code 39 = .ok (.sipush 20000, 3) := by decide +kernel
theorem d_X12_isBetter_42 : decode prog_14_method_94_code 42 = .ok (.iload_n 3, 1) := by decide +kernel
theorem d_X12_isBetter_43 : decode prog_14_method_94_code 43 = .ok (.imul, 1) := by decide +kernel
theorem d_X12_isBetter_44 : decode prog_14_method_94_code 44 = .ok (.iload_n 1, 1) := by decide +kernel
theorem d_X12_isBetter_45 : decode prog_14_method_94_code 45 = .ok (.iadd, 1) := by decide +kernel
theorem d_X12_isBetter_46 : decode prog_14_method_94_code 46 = .ok (.laload, 1) := by decide +kernel
theorem d_X12_isBetter_47 : decode prog_14_method_94_code 47 = .ok (.aload_n 0, 1) := by decide +kernel
theorem d_X12_isBetter_48 : decode prog_14_method_94_code 48 = .ok (.getfield 159, 3) := by decide +kernel
theorem d_X12_isBetter_51 : decode prog_14_method_94_code 51 = .ok (.sipush 20000, 3) := by decide +kernel
theorem d_X12_isBetter_54 : decode prog_14_method_94_code 54 = .ok (.iload_n 3, 1) := by decide +kernel
theorem d_X12_isBetter_55 : decode prog_14_method_94_code 55 = .ok (.imul, 1) := by decide +kernel
theorem d_X12_isBetter_56 : decode prog_14_method_94_code 56 = .ok (.iload_n 2, 1) := by decide +kernel
theorem d_X12_isBetter_57 : decode prog_14_method_94_code 57 = .ok (.iadd, 1) := by decide +kernel
theorem d_X12_isBetter_58 : decode prog_14_method_94_code 58 = .ok (.laload, 1) := by decide +kernel
theorem d_X12_isBetter_59 : decode prog_14_method_94_code 59 = .ok (.lcmp, 1) := by decide +kernel
theorem d_X12_isBetter_60 : decode prog_14_method_94_code 60 = .ok (.ifCond .ge 7, 3) := by decide +kernel
theorem d_X12_isBetter_63 : decode prog_14_method_94_code 63 = .ok (.iconst 1, 1) := by decide +kernel
theorem d_X12_isBetter_64 : decode prog_14_method_94_code 64 = .ok (.goto 4, 3) := by decide +kernel
theorem d_X12_isBetter_67 : decode prog_14_method_94_code 67 = .ok (.iconst 0, 1) := by decide +kernel
theorem d_X12_isBetter_68 : decode prog_14_method_94_code 68 = .ok (.ireturn, 1) := by decide +kernel
theorem d_X12_isBetter_69 : decode prog_14_method_94_code 69 = .ok (.iinc 3 1, 3) := by decide +kernel
theorem d_X12_isBetter_72 : decode prog_14_method_94_code 72 = .ok (.goto (-70), 3) := by decide +kernel
theorem d_X12_isBetter_75 : decode prog_14_method_94_code 75 = .ok (.iconst 0, 1) := by decide +kernel
theorem d_X12_isBetter_76 : decode prog_14_method_94_code 76 = .ok (.ireturn, 1) := by decide +kernel
theorem v_X12_isBetter_0 {E : EE} {d : Nat} {Q : Option AV → AH → Prop} {x0 : Nat} {x1 : Int32} {x2 : Int32} {G : AH} (h : wp E d M_X12_isBetter 2 [some (vr x0), some (vi x1), some (vi x2), some (vi 0)] [] G Q) : wp E d M_X12_isBetter 0 [some (vr x0), some (vi x1), some (vi x2), none] [] G Q := by
  refine wp_iconst (pc := 0) (v := 0) d_X12_isBetter_0 rfl ?_
  refine wp_istore_n (pc := 1) (lv' := [some (vr _), some (vi _), some (vi _), some (vi _)]) d_X12_isBetter_1 (by decide) rfl ?_
  refine wp_sub ?_ h
  exact ⟨rfl, ⟨rfl, ⟨rfl, ⟨rfl, trivial⟩⟩⟩⟩
theorem v_X12_isBetter_2 {E : EE} {d : Nat} {Q : Option AV → AH → Prop} {x0 : Nat} {x1 : Int32} {x2 : Int32} {x3 : Int32} {G : AH} (h : (3 ≤ x3 → Q (some (vi 0)) G) ∧ (¬ (3 ≤ x3) → isO E G x0 12 ∧ (isO E G (gR G x0 66) 15 ∧ (vp_in ((20000 * x3) + x1) (gN G (gR G x0 66)) ∧ (vp_in ((20000 * x3) + x2) (gN G (gR G x0 66)) ∧ (((gJ G (gR G x0 66) (Int32.toNatClampNeg ((20000 * x3) + x1))) = (gJ G (gR G x0 66) (Int32.toNatClampNeg ((20000 * x3) + x2))) → wp E d M_X12_isBetter 2 [some (vr x0), some (vi x1), some (vi x2), some (vi (x3 + 1))] [] G Q) ∧ (¬ ((gJ G (gR G x0 66) (Int32.toNatClampNeg ((20000 * x3) + x1))) = (gJ G (gR G x0 66) (Int32.toNatClampNeg ((20000 * x3) + x2)))) → vp_in ((20000 * x3) + x1) (gN G (gR G x0 66)) ∧ (vp_in ((20000 * x3) + x2) (gN G (gR G x0 66)) ∧ (((gJ G (gR G x0 66) (Int32.toNatClampNeg ((20000 * x3) + x2))) ≤ (gJ G (gR G x0 66) (Int32.toNatClampNeg ((20000 * x3) + x1))) → Q (some (vi 0)) G) ∧ (¬ ((gJ G (gR G x0 66) (Int32.toNatClampNeg ((20000 * x3) + x2))) ≤ (gJ G (gR G x0 66) (Int32.toNatClampNeg ((20000 * x3) + x1)))) → Q (some (vi 1)) G)))))))))) : wp E d M_X12_isBetter 2 [some (vr x0), some (vi x1), some (vi x2), some (vi x3)] [] G Q := by
  refine wp_iload_n (pc := 2) d_X12_isBetter_2 rfl ?_
  refine wp_iconst (pc := 3) (v := 3) d_X12_isBetter_3 rfl ?_
  refine wp_icmp_ge (pc := 4) (tgt := 75) d_X12_isBetter_4 (by decide) (fun hc => ?_) (fun hc => ?_)
  · have h := h.1 hc
    refine wp_iconst (pc := 75) (v := 0) d_X12_isBetter_75 rfl ?_
    exact wp_zret (pc := 76) d_X12_isBetter_76 rfl rfl h
  · have h := h.2 hc
    refine wp_aload_n (pc := 7) d_X12_isBetter_7 rfl ?_
    obtain ⟨ho1, h⟩ := h
    refine wp_getR (pc := 8) d_X12_isBetter_8 fl_X12_159 (fun _ _ _ => rfl) ho1 ?_
    refine wp_sipush (pc := 11) (v := 20000) d_X12_isBetter_11 rfl ?_
    refine wp_iload_n (pc := 14) d_X12_isBetter_14 rfl ?_
    refine wp_imul (pc := 15) d_X12_isBetter_15 ?_
    refine wp_iload_n (pc := 16) d_X12_isBetter_16 rfl ?_
    refine wp_iadd (pc := 17) d_X12_isBetter_17 ?_
    obtain ⟨ho2, h⟩ := h
    obtain ⟨hi3, h⟩ := h
    refine wp_lald (pc := 18) d_X12_isBetter_18 ho2 hi3 ?_
    refine wp_aload_n (pc := 19) d_X12_isBetter_19 rfl ?_
    refine wp_getR (pc := 20) d_X12_isBetter_20 fl_X12_159 (fun _ _ _ => rfl) ho1 ?_
    refine wp_sipush (pc := 23) (v := 20000) d_X12_isBetter_23 rfl ?_
    refine wp_iload_n (pc := 26) d_X12_isBetter_26 rfl ?_
    refine wp_imul (pc := 27) d_X12_isBetter_27 ?_
    refine wp_iload_n (pc := 28) d_X12_isBetter_28 rfl ?_
    refine wp_iadd (pc := 29) d_X12_isBetter_29 ?_
    obtain ⟨hi4, h⟩ := h
    refine wp_lald (pc := 30) d_X12_isBetter_30 ho2 hi4 ?_
    refine wp_lcmp_eq (pc := 31) (tgt := 69) d_X12_isBetter_31 d_X12_isBetter_32 (by decide) (fun hc => ?_) (fun hc => ?_)
    · have h := h.1 hc
      refine wp_iinc (pc := 69) (v := 1) (lv' := [some (vr _), some (vi _), some (vi _), some (vi _)]) d_X12_isBetter_69 (by decide) rfl rfl rfl ?_
      refine wp_goto (pc := 72) (tgt := 2) d_X12_isBetter_72 (by decide) ?_
      refine wp_sub ?_ h
      exact ⟨rfl, ⟨rfl, ⟨rfl, ⟨rfl, trivial⟩⟩⟩⟩
    · have h := h.2 hc
      refine wp_aload_n (pc := 35) d_X12_isBetter_35 rfl ?_
      refine wp_getR (pc := 36) d_X12_isBetter_36 fl_X12_159 (fun _ _ _ => rfl) ho1 ?_
      refine wp_sipush (pc := 39) (v := 20000) d_X12_isBetter_39 rfl ?_
      refine wp_iload_n (pc := 42) d_X12_isBetter_42 rfl ?_
      refine wp_imul (pc := 43) d_X12_isBetter_43 ?_
      refine wp_iload_n (pc := 44) d_X12_isBetter_44 rfl ?_
      refine wp_iadd (pc := 45) d_X12_isBetter_45 ?_
      obtain ⟨hi5, h⟩ := h
      refine wp_lald (pc := 46) d_X12_isBetter_46 ho2 hi5 ?_
      refine wp_aload_n (pc := 47) d_X12_isBetter_47 rfl ?_
      refine wp_getR (pc := 48) d_X12_isBetter_48 fl_X12_159 (fun _ _ _ => rfl) ho1 ?_
      refine wp_sipush (pc := 51) (v := 20000) d_X12_isBetter_51 rfl ?_
      refine wp_iload_n (pc := 54) d_X12_isBetter_54 rfl ?_
      refine wp_imul (pc := 55) d_X12_isBetter_55 ?_
      refine wp_iload_n (pc := 56) d_X12_isBetter_56 rfl ?_
      refine wp_iadd (pc := 57) d_X12_isBetter_57 ?_
      obtain ⟨hi6, h⟩ := h
      refine wp_lald (pc := 58) d_X12_isBetter_58 ho2 hi6 ?_
      refine wp_lcmp_ge (pc := 59) (tgt := 67) d_X12_isBetter_59 d_X12_isBetter_60 (by decide) (fun hc => ?_) (fun hc => ?_)
      · have h := h.1 hc
        refine wp_iconst (pc := 67) (v := 0) d_X12_isBetter_67 rfl ?_
        exact wp_zret (pc := 68) d_X12_isBetter_68 rfl rfl h
      · have h := h.2 hc
        refine wp_iconst (pc := 63) (v := 1) d_X12_isBetter_63 rfl ?_
        refine wp_goto (pc := 64) (tgt := 68) d_X12_isBetter_64 (by decide) ?_
        exact wp_zret (pc := 68) d_X12_isBetter_68 rfl rfl h
theorem d_X12_print_0 : decode prog_14_method_166_code 0 = .ok (.iload_n 2, 1) := by decide +kernel
theorem d_X12_print_1 : decode prog_14_method_166_code 1 = .ok (.istore_n 3, 1) := by decide +kernel
theorem d_X12_print_2 : decode prog_14_method_166_code 2 = .ok (.iload_n 3, 1) := by decide +kernel
theorem d_X12_print_3 : decode prog_14_method_166_code 3 = .ok (.aload_n 0, 1) := by decide +kernel
theorem d_X12_print_4 : decode prog_14_method_166_code 4 = .ok (.iload_n 1, 1) := by decide +kernel
theorem d_X12_print_5 : decode prog_14_method_166_code 5 = .ok (.invokevirtual 456, 3) := by decide +kernel
theorem d_X12_print_8 : decode prog_14_method_166_code 8 = .ok (.if_icmp .ge 23, 3) := by decide +kernel
theorem d_X12_print_11 : decode prog_14_method_166_code 11 = .ok (.aload_n 0, 1) := by decide +kernel
theorem d_X12_print_12 : decode prog_14_method_166_code 12 = .ok (.getfield 79, 3) := by decide +kernel
theorem d_X12_print_15 : decode prog_14_method_166_code 15 = .ok (.bipush 12, 2) := by decide +kernel
theorem d_X12_print_17 : decode prog_14_method_166_code 17 = .ok (.iload_n 1, 1) := by decide +kernel
theorem d_X12_print_18 : decode prog_14_method_166_code 18 = .ok (.imul, 1) := by decide +kernel
theorem d_X12_print_19 : decode prog_14_method_166_code 19 = .ok (.iload_n 3, 1) := by decide +kernel
theorem d_X12_print_20 : decode prog_14_method_166_code 20 = .ok (.iadd, 1) := by decide +kernel
theorem d_X12_print_21 : decode prog_14_method_166_code 21 = .ok (.baload, 1) := by decide +kernel
theorem d_X12_print_22 : decode prog_14_method_166_code 22 = .ok (.ifCond .eq 9, 3) := by decide +kernel
theorem d_X12_print_25 : decode prog_14_method_166_code 25 = .ok (.iinc 3 1, 3) := by decide +kernel
theorem d_X12_print_28 : decode prog_14_method_166_code 28 = .ok (.goto (-26), 3) := by decide +kernel
theorem d_X12_print_31 : decode prog_14_method_166_code 31 = .ok (.iload_n 3, 1) := by decide +kernel
theorem d_X12_print_32 : decode prog_14_method_166_code 32 = .ok (.aload_n 0, 1) := by decide +kernel
theorem d_X12_print_33 : decode prog_14_method_166_code 33 = .ok (.iload_n 1, 1) := by decide +kernel
theorem d_X12_print_34 : decode prog_14_method_166_code 34 = .ok (.invokevirtual 456, 3) := by decide +kernel
theorem d_X12_print_37 : decode prog_14_method_166_code 37 = .ok (.if_icmp .ne 10, 3) := by decide +kernel
theorem d_X12_print_40 : decode prog_14_method_166_code 40 = .ok (.aload_n 0, 1) := by decide +kernel
theorem d_X12_print_41 : decode prog_14_method_166_code 41 = .ok (.bipush 46, 2) := by decide +kernel
theorem d_X12_print_43 : decode prog_14_method_166_code 43 = .ok (.invokevirtual 702, 3) := by decide +kernel
theorem d_X12_print_46 : decode prog_14_method_166_code 46 = .ok (.return_, 1) := by decide +kernel
theorem d_X12_print_47 : decode prog_14_method_166_code 47 = .ok (.bipush 96, 2) := by decide +kernel
theorem d_X12_print_49 : decode prog_14_method_166_code 49 = .ok (.iload_n 1, 1) := by decide +kernel
theorem d_X12_print_50 : decode prog_14_method_166_code 50 = .ok (.imul, 1) := by decide +kernel
theorem d_X12_print_51 : decode prog_14_method_166_code 51 = .ok (.bipush 24, 2) := by decide +kernel
theorem d_X12_print_53 : decode prog_14_method_166_code 53 = .ok (.iadd, 1) := by decide +kernel
theorem d_X12_print_54 : decode prog_14_method_166_code 54 = .ok (.iload_n 3, 1) := by decide +kernel
theorem d_X12_print_55 : decode prog_14_method_166_code 55 = .ok (.iadd, 1) := by decide +kernel
theorem d_X12_print_56 : decode prog_14_method_166_code 56 = .ok (.istore 4, 2) := by decide +kernel
theorem d_X12_print_58 : decode prog_14_method_166_code 58 = .ok (.iconst 0, 1) := by decide +kernel
theorem d_X12_print_59 : decode prog_14_method_166_code 59 = .ok (.istore 5, 2) := by decide +kernel
theorem d_X12_print_61 : decode prog_14_method_166_code 61 = .ok (.iload 5, 2) := by decide +kernel
theorem d_X12_print_63 : decode prog_14_method_166_code 63 = .ok (.aload_n 0, 1) := by decide +kernel
theorem d_X12_print_64 : decode prog_14_method_166_code 64 = .ok (.getfield 55, 3) := by decide +kernel
theorem d_X12_print_67 : decode prog_14_method_166_code 67 = .ok (.iload 4, 2) := by decide +kernel
theorem d_X12_print_69 : decode prog_14_method_166_code 69 = .ok (.iaload, 1) := by decide +kernel
theorem d_X12_print_70 : decode prog_14_method_166_code 70 = .ok (.if_icmp .ge 34, 3) := by decide +kernel
theorem d_X12_print_73 : decode prog_14_method_166_code 73 = .ok (.aload_n 0, 1) := by decide +kernel
theorem d_X12_print_74 : decode prog_14_method_166_code 74 = .ok (.aload_n 0, 1) := by decide +kernel
theorem d_X12_print_75 : decode prog_14_method_166_code 75 = .ok (.getfield 24, 3) := by decide +kernel
theorem d_X12_print_78 : decode prog_14_method_166_code 78 = .ok (.sipush 20000, 3) := by decide +kernel
theorem d_X12_print_81 : decode prog_14_method_166_code 81 = .ok (.iload_n 1, 1) := by decide +kernel
theorem d_X12_print_82 : decode prog_14_method_166_code 82 = .ok (.imul, 1) := by decide +kernel
theorem d_X12_print_83 : decode prog_14_method_166_code 83 = .ok (.aload_n 0, 1) := by decide +kernel
theorem d_X12_print_84 : decode prog_14_method_166_code 84 = .ok (.getfield 52, 3) := by decide +kernel
theorem d_X12_print_87 : decode prog_14_method_166_code 87 = .ok (.iload 4, 2) := by decide +kernel
theorem d_X12_print_89 : decode prog_14_method_166_code 89 = .ok (.iaload, 1) := by decide +kernel
theorem d_X12_print_90 : decode prog_14_method_166_code 90 = .ok (.iadd, 1) := by decide +kernel
theorem d_X12_print_91 : decode prog_14_method_166_code 91 = .ok (.iload 5, 2) := by decide +kernel
theorem d_X12_print_93 : decode prog_14_method_166_code 93 = .ok (.iadd, 1) := by decide +kernel
theorem d_X12_print_94 : decode prog_14_method_166_code 94 = .ok (.baload, 1) := by decide +kernel
theorem d_X12_print_95 : decode prog_14_method_166_code 95 = .ok (.invokevirtual 702, 3) := by decide +kernel
theorem d_X12_print_98 : decode prog_14_method_166_code 98 = .ok (.iinc 5 1, 3) := by decide +kernel
theorem d_X12_print_101 : decode prog_14_method_166_code 101 = .ok (.goto (-40), 3) := by decide +kernel
theorem d_X12_print_104 : decode prog_14_method_166_code 104 = .ok (.aload_n 0, 1) := by decide +kernel
theorem d_X12_print_105 : decode prog_14_method_166_code 105 = .ok (.bipush 40, 2) := by decide +kernel
theorem d_X12_print_107 : decode prog_14_method_166_code 107 = .ok (.invokevirtual 702, 3) := by decide +kernel
theorem d_X12_print_110 : decode prog_14_method_166_code 110 = .ok (.iconst 0, 1) := by decide +kernel
theorem d_X12_print_111 : decode prog_14_method_166_code 111 = .ok (.istore 5, 2) := by decide +kernel
theorem d_X12_print_113 : decode prog_14_method_166_code 113 = .ok (.iload 5, 2) := by decide +kernel
theorem d_X12_print_115 : decode prog_14_method_166_code 115 = .ok (.aload_n 0, 1) := by decide +kernel
theorem d_X12_print_116 : decode prog_14_method_166_code 116 = .ok (.getfield 64, 3) := by decide +kernel
theorem d_X12_print_119 : decode prog_14_method_166_code 119 = .ok (.bipush 12, 2) := by decide +kernel
theorem d_X12_print_121 : decode prog_14_method_166_code 121 = .ok (.iload_n 1, 1) := by decide +kernel
theorem d_X12_print_122 : decode prog_14_method_166_code 122 = .ok (.imul, 1) := by decide +kernel
theorem d_X12_print_123 : decode prog_14_method_166_code 123 = .ok (.iload_n 3, 1) := by decide +kernel
theorem d_X12_print_124 : decode prog_14_method_166_code 124 = .ok (.iadd, 1) := by decide +kernel
theorem d_X12_print_125 : decode prog_14_method_166_code 125 = .ok (.iaload, 1) := by decide +kernel
theorem d_X12_print_126 : decode prog_14_method_166_code 126 = .ok (.if_icmp .ge 38, 3) := by decide +kernel
theorem d_X12_print_129 : decode prog_14_method_166_code 129 = .ok (.aload_n 0, 1) := by decide +kernel
theorem d_X12_print_130 : decode prog_14_method_166_code 130 = .ok (.getfield 699, 3) := by decide +kernel
theorem d_X12_print_133 : decode prog_14_method_166_code 133 = .ok (.sipush 20000, 3) := by decide +kernel
theorem d_X12_print_136 : decode prog_14_method_166_code 136 = .ok (.if_icmp .gt 28, 3) := by decide +kernel
theorem d_X12_print_139 : decode prog_14_method_166_code 139 = .ok (.iload 5, 2) := by decide +kernel
theorem d_X12_print_141 : decode prog_14_method_166_code 141 = .ok (.ifCond .le 9, 3) := by decide +kernel
theorem d_X12_print_144 : decode prog_14_method_166_code 144 = .ok (.aload_n 0, 1) := by decide +kernel
theorem d_X12_print_145 : decode prog_14_method_166_code 145 = .ok (.bipush 44, 2) := by decide +kernel
theorem d_X12_print_147 : decode prog_14_method_166_code 147 = .ok (.invokevirtual 702, 3) := by decide +kernel
theorem d_X12_print_150 : decode prog_14_method_166_code 150 = .ok (.aload_n 0, 1) := by decide +kernel
theorem d_X12_print_151 : decode prog_14_method_166_code 151 = .ok (.iload_n 1, 1) := by decide +kernel
theorem d_X12_print_152 : decode prog_14_method_166_code 152 = .ok (.iload_n 3, 1) := by decide +kernel
theorem d_X12_print_153 : decode prog_14_method_166_code 153 = .ok (.iconst 1, 1) := by decide +kernel
theorem d_X12_print_154 : decode prog_14_method_166_code 154 = .ok (.iadd, 1) := by decide +kernel
theorem d_X12_print_155 : decode prog_14_method_166_code 155 = .ok (.invokevirtual 705, 3) := by decide +kernel
theorem d_X12_print_158 : decode prog_14_method_166_code 158 = .ok (.iinc 5 1, 3) := by decide +kernel
theorem d_X12_print_161 : decode prog_14_method_166_code 161 = .ok (.goto (-48), 3) := by decide +kernel
theorem d_X12_print_164 : decode prog_14_method_166_code 164 = .ok (.aload_n 0, 1) := by decide +kernel
theorem d_X12_print_165 : decode prog_14_method_166_code 165 = .ok (.bipush 41, 2) := by decide +kernel
theorem d_X12_print_167 : decode prog_14_method_166_code 167 = .ok (.invokevirtual 702, 3) := by decide +kernel
theorem d_X12_print_170 : decode prog_14_method_166_code 170 = .ok (.return_, 1) := by decide +kernel
theorem v_X12_print_0 {E : EE} {d : Nat} {Q : Option AV → AH → Prop} {x0 : Nat} {x1 : Int32} {x2 : Int32} {G : AH} (h : wp E d M_X12_print 2 [some (vr x0), some (vi x1), some (vi x2), some (vi x2), none, none] [] G Q) : wp E d M_X12_print 0 [some (vr x0), some (vi x1), some (vi x2), none, none, none] [] G Q := by
  refine wp_iload_n (pc := 0) d_X12_print_0 rfl ?_
  refine wp_istore_n (pc := 1) (lv' := [some (vr _), some (vi _), some (vi _), some (vi _), none, none]) d_X12_print_1 (by decide) rfl ?_
  refine wp_sub ?_ h
  exact ⟨rfl, ⟨rfl, ⟨rfl, ⟨rfl, trivial⟩⟩⟩⟩
theorem v_X12_print_2 {E : EE} {d : Nat} {Q : Option AV → AH → Prop} {x0 : Nat} {x1 : Int32} {x2 : Int32} {x3 : Int32} {G : AH} (h0 : 0 < d) (h : isO E G x0 12 ∧ (wpI E (d - 1) M_X12_vars [vr x0, vi x1] G (fun r1 G2 => (r1 ≤ x3 → wp E d M_X12_print 31 [some (vr x0), some (vi x1), some (vi x2), some (vi x3), none, none] [] G2 Q) ∧ (¬ (r1 ≤ x3) → isO E G2 x0 12 ∧ (isO E G2 (gR G2 x0 24) 16 ∧ (vp_in ((12 * x1) + x3) (gN G2 (gR G2 x0 24)) ∧ (((gI G2 (gR G2 x0 24) (Int32.toNatClampNeg ((12 * x1) + x3))) = 0 → wp E d M_X12_print 31 [some (vr x0), some (vi x1), some (vi x2), some (vi x3), none, none] [] G2 Q) ∧ (¬ ((gI G2 (gR G2 x0 24) (Int32.toNatClampNeg ((12 * x1) + x3))) = 0) → wp E d M_X12_print 2 [some (vr x0), some (vi x1), some (vi x2), some (vi (x3 + 1)), none, none] [] G2 Q)))))))) : wp E d M_X12_print 2 [some (vr x0), some (vi x1), some (vi x2), some (vi x3), none, none] [] G Q := by
  refine wp_iload_n (pc := 2) d_X12_print_2 rfl ?_
  refine wp_aload_n (pc := 3) d_X12_print_3 rfl ?_
  refine wp_iload_n (pc := 4) d_X12_print_4 rfl ?_
  obtain ⟨ho6, h⟩ := h
  refine wp_invV (pc := 5) (N := M_X12_vars) (As := [vi _]) (rest := [vi _]) (r := (cn_12, ct_12, 95)) d_X12_print_5 ml_X12_456 mk_X12_vars mv_X12_vars h0 ho6 rfl rfl (Nat.le_of_ble_eq_true rfl) ?_
  refine wpM.mono h (fun rr G2 hr => ?_)
  obtain ⟨r1, rfl, h⟩ := hr
  show wp E d M_X12_print 8 [some (vr _), some (vi _), some (vi _), some (vi _), none, none] [vi _, vi _] G2 Q
  refine wp_icmp_ge (pc := 8) (tgt := 31) d_X12_print_8 (by decide) (fun hc => ?_) (fun hc => ?_)
  · have h := h.1 hc
    refine wp_sub ?_ h
    exact ⟨rfl, ⟨rfl, ⟨rfl, ⟨rfl, trivial⟩⟩⟩⟩
  · have h := h.2 hc
    refine wp_aload_n (pc := 11) d_X12_print_11 rfl ?_
    obtain ⟨ho3, h⟩ := h
    refine wp_getR (pc := 12) d_X12_print_12 fl_X12_79 (fun _ _ _ => rfl) ho3 ?_
    refine wp_bipush (pc := 15) (v := 12) d_X12_print_15 rfl ?_
    refine wp_iload_n (pc := 17) d_X12_print_17 rfl ?_
    refine wp_imul (pc := 18) d_X12_print_18 ?_
    refine wp_iload_n (pc := 19) d_X12_print_19 rfl ?_
    refine wp_iadd (pc := 20) d_X12_print_20 ?_
    obtain ⟨ho4, h⟩ := h
    obtain ⟨hi5, h⟩ := h
    refine wp_zald (pc := 21) d_X12_print_21 ho4 hi5 ?_
    refine wp_if_eq (pc := 22) (tgt := 31) d_X12_print_22 (by decide) (fun hc => ?_) (fun hc => ?_)
    · have h := h.1 hc
      refine wp_sub ?_ h
      exact ⟨rfl, ⟨rfl, ⟨rfl, ⟨rfl, trivial⟩⟩⟩⟩
    · have h := h.2 hc
      refine wp_iinc (pc := 25) (v := 1) (lv' := [some (vr _), some (vi _), some (vi _), some (vi _), none, none]) d_X12_print_25 (by decide) rfl rfl rfl ?_
      refine wp_goto (pc := 28) (tgt := 2) d_X12_print_28 (by decide) ?_
      refine wp_sub ?_ h
      exact ⟨rfl, ⟨rfl, ⟨rfl, ⟨rfl, trivial⟩⟩⟩⟩
theorem v_X12_print_31 {E : EE} {d : Nat} {Q : Option AV → AH → Prop} {x0 : Nat} {x1 : Int32} {x2 : Int32} {x3 : Int32} {G : AH} (h0 : 0 < d) (h : isO E G x0 12 ∧ (wpI E (d - 1) M_X12_vars [vr x0, vi x1] G (fun r1 G2 => (¬ x3 = r1 → wp E d M_X12_print 61 [some (vr x0), some (vi x1), some (vi x2), some (vi x3), some (vi (((96 * x1) + 24) + x3)), some (vi 0)] [] G2 Q) ∧ (x3 = r1 → isO E G2 x0 12 ∧ (wpV E (d - 1) M_X12_prints [vr x0, vi 46] G2 (fun G3 => Q none G3)))))) : wp E d M_X12_print 31 [some (vr x0), some (vi x1), some (vi x2), some (vi x3), none, none] [] G Q := by
  refine wp_iload_n (pc := 31) d_X12_print_31 rfl ?_
  refine wp_aload_n (pc := 32) d_X12_print_32 rfl ?_
  refine wp_iload_n (pc := 33) d_X12_print_33 rfl ?_
  obtain ⟨ho5, h⟩ := h
  refine wp_invV (pc := 34) (N := M_X12_vars) (As := [vi _]) (rest := [vi _]) (r := (cn_12, ct_12, 95)) d_X12_print_34 ml_X12_456 mk_X12_vars mv_X12_vars h0 ho5 rfl rfl (Nat.le_of_ble_eq_true rfl) ?_
  refine wpM.mono h (fun rr G2 hr => ?_)
  obtain ⟨r1, rfl, h⟩ := hr
  show wp E d M_X12_print 37 [some (vr _), some (vi _), some (vi _), some (vi _), none, none] [vi _, vi _] G2 Q
  refine wp_icmp_ne (pc := 37) (tgt := 47) d_X12_print_37 (by decide) (fun hc => ?_) (fun hc => ?_)
  · have h := h.1 hc
    refine wp_bipush (pc := 47) (v := 96) d_X12_print_47 rfl ?_
    refine wp_iload_n (pc := 49) d_X12_print_49 rfl ?_
    refine wp_imul (pc := 50) d_X12_print_50 ?_
    refine wp_bipush (pc := 51) (v := 24) d_X12_print_51 rfl ?_
    refine wp_iadd (pc := 53) d_X12_print_53 ?_
    refine wp_iload_n (pc := 54) d_X12_print_54 rfl ?_
    refine wp_iadd (pc := 55) d_X12_print_55 ?_
    refine wp_istore (pc := 56) (lv' := [some (vr _), some (vi _), some (vi _), some (vi _), some (vi _), none]) d_X12_print_56 (by decide) rfl ?_
    refine wp_iconst (pc := 58) (v := 0) d_X12_print_58 rfl ?_
    refine wp_istore (pc := 59) (lv' := [some (vr _), some (vi _), some (vi _), some (vi _), some (vi _), some (vi _)]) d_X12_print_59 (by decide) rfl ?_
    refine wp_sub ?_ h
    exact ⟨rfl, ⟨rfl, ⟨rfl, ⟨rfl, ⟨rfl, ⟨rfl, trivial⟩⟩⟩⟩⟩⟩
  · have h := h.2 hc
    refine wp_aload_n (pc := 40) d_X12_print_40 rfl ?_
    refine wp_bipush (pc := 41) (v := 46) d_X12_print_41 rfl ?_
    obtain ⟨ho4, h⟩ := h
    refine wp_invV (pc := 43) (N := M_X12_prints) (As := [vi _]) (rest := []) (r := (cn_12, ct_12, 95)) d_X12_print_43 ml_X12_702 mk_X12_prints mv_X12_prints h0 ho4 rfl rfl (Nat.le_of_ble_eq_true rfl) ?_
    refine wpM.mono h (fun rr G3 hr => ?_)
    obtain ⟨rfl, h⟩ := hr
    show wp E d M_X12_print 46 [some (vr _), some (vi _), some (vi _), some (vi _), none, none] [] G3 Q
    exact wp_vret (pc := 46) d_X12_print_46 rfl h
theorem v_X12_print_61 {E : EE} {d : Nat} {Q : Option AV → AH → Prop} {x0 : Nat} {x1 : Int32} {x2 : Int32} {x3 : Int32} {x4 : Int32} {x5 : Int32} {G : AH} (h0 : 0 < d) (h : isO E G x0 12 ∧ (isO E G (gR G x0 16) 14 ∧ (vp_in x4 (gN G (gR G x0 16)) ∧ (((gI G (gR G x0 16) (Int32.toNatClampNeg x4)) ≤ x5 → wpV E (d - 1) M_X12_prints [vr x0, vi 40] G (fun G4 => wp E d M_X12_print 113 [some (vr x0), some (vi x1), some (vi x2), some (vi x3), some (vi x4), some (vi 0)] [] G4 Q)) ∧ (¬ ((gI G (gR G x0 16) (Int32.toNatClampNeg x4)) ≤ x5) → isO E G (gR G x0 15) 14 ∧ (vp_in x4 (gN G (gR G x0 15)) ∧ (isO E G (gR G x0 6) 13 ∧ (vp_in (((20000 * x1) + (gI G (gR G x0 15) (Int32.toNatClampNeg x4))) + x5) (gN G (gR G x0 6)) ∧ (wpV E (d - 1) M_X12_prints [vr x0, vi (gI G (gR G x0 6) (Int32.toNatClampNeg (((20000 * x1) + (gI G (gR G x0 15) (Int32.toNatClampNeg x4))) + x5)))] G (fun G9 => wp E d M_X12_print 61 [some (vr x0), some (vi x1), some (vi x2), some (vi x3), some (vi x4), some (vi (x5 + 1))] [] G9 Q)))))))))) : wp E d M_X12_print 61 [some (vr x0), some (vi x1), some (vi x2), some (vi x3), some (vi x4), some (vi x5)] [] G Q := by
  refine wp_iload (pc := 61) d_X12_print_61 rfl ?_
  refine wp_aload_n (pc := 63) d_X12_print_63 rfl ?_
  obtain ⟨ho1, h⟩ := h
  refine wp_getR (pc := 64) d_X12_print_64 fl_X12_55 (fun _ _ _ => rfl) ho1 ?_
  refine wp_iload (pc := 67) d_X12_print_67 rfl ?_
  obtain ⟨ho2, h⟩ := h
  obtain ⟨hi3, h⟩ := h
  refine wp_iald (pc := 69) d_X12_print_69 ho2 hi3 ?_
  refine wp_icmp_ge (pc := 70) (tgt := 104) d_X12_print_70 (by decide) (fun hc => ?_) (fun hc => ?_)
  · have h := h.1 hc
    refine wp_aload_n (pc := 104) d_X12_print_104 rfl ?_
    refine wp_bipush (pc := 105) (v := 40) d_X12_print_105 rfl ?_
    refine wp_invV (pc := 107) (N := M_X12_prints) (As := [vi _]) (rest := []) (r := (cn_12, ct_12, 95)) d_X12_print_107 ml_X12_702 mk_X12_prints mv_X12_prints h0 ho1 rfl rfl (Nat.le_of_ble_eq_true rfl) ?_
    refine wpM.mono h (fun rr G4 hr => ?_)
    obtain ⟨rfl, h⟩ := hr
    show wp E d M_X12_print 110 [some (vr _), some (vi _), some (vi _), some (vi _), some (vi _), some (vi _)] [] G4 Q
    refine wp_iconst (pc := 110) (v := 0) d_X12_print_110 rfl ?_
    refine wp_istore (pc := 111) (lv' := [some (vr _), some (vi _), some (vi _), some (vi _), some (vi _), some (vi _)]) d_X12_print_111 (by decide) rfl ?_
    refine wp_sub ?_ h
    exact ⟨rfl, ⟨rfl, ⟨rfl, ⟨rfl, ⟨rfl, ⟨rfl, trivial⟩⟩⟩⟩⟩⟩
  · have h := h.2 hc
    refine wp_aload_n (pc := 73) d_X12_print_73 rfl ?_
    refine wp_aload_n (pc := 74) d_X12_print_74 rfl ?_
    refine wp_getR (pc := 75) d_X12_print_75 fl_X12_24 (fun _ _ _ => rfl) ho1 ?_
    refine wp_sipush (pc := 78) (v := 20000) d_X12_print_78 rfl ?_
    refine wp_iload_n (pc := 81) d_X12_print_81 rfl ?_
    refine wp_imul (pc := 82) d_X12_print_82 ?_
    refine wp_aload_n (pc := 83) d_X12_print_83 rfl ?_
    refine wp_getR (pc := 84) d_X12_print_84 fl_X12_52 (fun _ _ _ => rfl) ho1 ?_
    refine wp_iload (pc := 87) d_X12_print_87 rfl ?_
    obtain ⟨ho5, h⟩ := h
    obtain ⟨hi6, h⟩ := h
    refine wp_iald (pc := 89) d_X12_print_89 ho5 hi6 ?_
    refine wp_iadd (pc := 90) d_X12_print_90 ?_
    refine wp_iload (pc := 91) d_X12_print_91 rfl ?_
    refine wp_iadd (pc := 93) d_X12_print_93 ?_
    obtain ⟨ho7, h⟩ := h
    obtain ⟨hi8, h⟩ := h
    refine wp_bald (pc := 94) d_X12_print_94 ho7 hi8 ?_
    refine wp_invV (pc := 95) (N := M_X12_prints) (As := [vi _]) (rest := []) (r := (cn_12, ct_12, 95)) d_X12_print_95 ml_X12_702 mk_X12_prints mv_X12_prints h0 ho1 rfl rfl (Nat.le_of_ble_eq_true rfl) ?_
    refine wpM.mono h (fun rr G9 hr => ?_)
    obtain ⟨rfl, h⟩ := hr
    show wp E d M_X12_print 98 [some (vr _), some (vi _), some (vi _), some (vi _), some (vi _), some (vi _)] [] G9 Q
    refine wp_iinc (pc := 98) (v := 1) (lv' := [some (vr _), some (vi _), some (vi _), some (vi _), some (vi _), some (vi _)]) d_X12_print_98 (by decide) rfl rfl rfl ?_
    refine wp_goto (pc := 101) (tgt := 61) d_X12_print_101 (by decide) ?_
    refine wp_sub ?_ h
    exact ⟨rfl, ⟨rfl, ⟨rfl, ⟨rfl, ⟨rfl, ⟨rfl, trivial⟩⟩⟩⟩⟩⟩
theorem v_X12_print_113 {E : EE} {d : Nat} {Q : Option AV → AH → Prop} {x0 : Nat} {x1 : Int32} {x2 : Int32} {x3 : Int32} {x4 : Int32} {x5 : Int32} {G : AH} (h0 : 0 < d) (h : isO E G x0 12 ∧ (isO E G (gR G x0 19) 14 ∧ (vp_in ((12 * x1) + x3) (gN G (gR G x0 19)) ∧ (((gI G (gR G x0 19) (Int32.toNatClampNeg ((12 * x1) + x3))) ≤ x5 → wp E d M_X12_print 164 [some (vr x0), some (vi x1), some (vi x2), some (vi x3), some (vi x4), some (vi x5)] [] G Q) ∧ (¬ ((gI G (gR G x0 19) (Int32.toNatClampNeg ((12 * x1) + x3))) ≤ x5) → (20000 < (gI G x0 84) → wp E d M_X12_print 164 [some (vr x0), some (vi x1), some (vi x2), some (vi x3), some (vi x4), some (vi x5)] [] G Q) ∧ (¬ (20000 < (gI G x0 84)) → (x5 ≤ 0 → wp E d M_X12_print 150 [some (vr x0), some (vi x1), some (vi x2), some (vi x3), some (vi x4), some (vi x5)] [] G Q) ∧ (¬ (x5 ≤ 0) → wpV E (d - 1) M_X12_prints [vr x0, vi 44] G (fun G4 => wp E d M_X12_print 150 [some (vr x0), some (vi x1), some (vi x2), some (vi x3), some (vi x4), some (vi x5)] [] G4 Q)))))))) : wp E d M_X12_print 113 [some (vr x0), some (vi x1), some (vi x2), some (vi x3), some (vi x4), some (vi x5)] [] G Q := by
  refine wp_iload (pc := 113) d_X12_print_113 rfl ?_
  refine wp_aload_n (pc := 115) d_X12_print_115 rfl ?_
  obtain ⟨ho1, h⟩ := h
  refine wp_getR (pc := 116) d_X12_print_116 fl_X12_64 (fun _ _ _ => rfl) ho1 ?_
  refine wp_bipush (pc := 119) (v := 12) d_X12_print_119 rfl ?_
  refine wp_iload_n (pc := 121) d_X12_print_121 rfl ?_
  refine wp_imul (pc := 122) d_X12_print_122 ?_
  refine wp_iload_n (pc := 123) d_X12_print_123 rfl ?_
  refine wp_iadd (pc := 124) d_X12_print_124 ?_
  obtain ⟨ho2, h⟩ := h
  obtain ⟨hi3, h⟩ := h
  refine wp_iald (pc := 125) d_X12_print_125 ho2 hi3 ?_
  refine wp_icmp_ge (pc := 126) (tgt := 164) d_X12_print_126 (by decide) (fun hc => ?_) (fun hc => ?_)
  · have h := h.1 hc
    refine wp_sub ?_ h
    exact ⟨rfl, ⟨rfl, ⟨rfl, ⟨rfl, ⟨rfl, ⟨rfl, trivial⟩⟩⟩⟩⟩⟩
  · have h := h.2 hc
    refine wp_aload_n (pc := 129) d_X12_print_129 rfl ?_
    refine wp_getI (pc := 130) d_X12_print_130 fl_X12_699 (fun _ _ _ => rfl) ho1 ?_
    refine wp_sipush (pc := 133) (v := 20000) d_X12_print_133 rfl ?_
    refine wp_icmp_gt (pc := 136) (tgt := 164) d_X12_print_136 (by decide) (fun hc => ?_) (fun hc => ?_)
    · have h := h.1 hc
      refine wp_sub ?_ h
      exact ⟨rfl, ⟨rfl, ⟨rfl, ⟨rfl, ⟨rfl, ⟨rfl, trivial⟩⟩⟩⟩⟩⟩
    · have h := h.2 hc
      refine wp_iload (pc := 139) d_X12_print_139 rfl ?_
      refine wp_if_le (pc := 141) (tgt := 150) d_X12_print_141 (by decide) (fun hc => ?_) (fun hc => ?_)
      · have h := h.1 hc
        refine wp_sub ?_ h
        exact ⟨rfl, ⟨rfl, ⟨rfl, ⟨rfl, ⟨rfl, ⟨rfl, trivial⟩⟩⟩⟩⟩⟩
      · have h := h.2 hc
        refine wp_aload_n (pc := 144) d_X12_print_144 rfl ?_
        refine wp_bipush (pc := 145) (v := 44) d_X12_print_145 rfl ?_
        refine wp_invV (pc := 147) (N := M_X12_prints) (As := [vi _]) (rest := []) (r := (cn_12, ct_12, 95)) d_X12_print_147 ml_X12_702 mk_X12_prints mv_X12_prints h0 ho1 rfl rfl (Nat.le_of_ble_eq_true rfl) ?_
        refine wpM.mono h (fun rr G4 hr => ?_)
        obtain ⟨rfl, h⟩ := hr
        show wp E d M_X12_print 150 [some (vr _), some (vi _), some (vi _), some (vi _), some (vi _), some (vi _)] [] G4 Q
        refine wp_sub ?_ h
        exact ⟨rfl, ⟨rfl, ⟨rfl, ⟨rfl, ⟨rfl, ⟨rfl, trivial⟩⟩⟩⟩⟩⟩
theorem v_X12_print_150 {E : EE} {d : Nat} {Q : Option AV → AH → Prop} {x0 : Nat} {x1 : Int32} {x2 : Int32} {x3 : Int32} {x4 : Int32} {x5 : Int32} {G : AH} (h0 : 0 < d) (h : isO E G x0 12 ∧ (wpV E (d - 1) M_X12_print [vr x0, vi x1, vi (x3 + 1)] G (fun G1 => wp E d M_X12_print 113 [some (vr x0), some (vi x1), some (vi x2), some (vi x3), some (vi x4), some (vi (x5 + 1))] [] G1 Q))) : wp E d M_X12_print 150 [some (vr x0), some (vi x1), some (vi x2), some (vi x3), some (vi x4), some (vi x5)] [] G Q := by
  refine wp_aload_n (pc := 150) d_X12_print_150 rfl ?_
  refine wp_iload_n (pc := 151) d_X12_print_151 rfl ?_
  refine wp_iload_n (pc := 152) d_X12_print_152 rfl ?_
  refine wp_iconst (pc := 153) (v := 1) d_X12_print_153 rfl ?_
  refine wp_iadd (pc := 154) d_X12_print_154 ?_
  obtain ⟨ho2, h⟩ := h
  refine wp_invV (pc := 155) (N := M_X12_print) (As := [vi _, vi _]) (rest := []) (r := (cn_12, ct_12, 95)) d_X12_print_155 ml_X12_705 mk_X12_print mv_X12_print h0 ho2 rfl rfl (Nat.le_of_ble_eq_true rfl) ?_
  refine wpM.mono h (fun rr G1 hr => ?_)
  obtain ⟨rfl, h⟩ := hr
  show wp E d M_X12_print 158 [some (vr _), some (vi _), some (vi _), some (vi _), some (vi _), some (vi _)] [] G1 Q
  refine wp_iinc (pc := 158) (v := 1) (lv' := [some (vr _), some (vi _), some (vi _), some (vi _), some (vi _), some (vi _)]) d_X12_print_158 (by decide) rfl rfl rfl ?_
  refine wp_goto (pc := 161) (tgt := 113) d_X12_print_161 (by decide) ?_
  refine wp_sub ?_ h
  exact ⟨rfl, ⟨rfl, ⟨rfl, ⟨rfl, ⟨rfl, ⟨rfl, trivial⟩⟩⟩⟩⟩⟩
theorem v_X12_print_164 {E : EE} {d : Nat} {Q : Option AV → AH → Prop} {x0 : Nat} {x1 : Int32} {x2 : Int32} {x3 : Int32} {x4 : Int32} {x5 : Int32} {G : AH} (h0 : 0 < d) (h : isO E G x0 12 ∧ (wpV E (d - 1) M_X12_prints [vr x0, vi 41] G (fun G1 => Q none G1))) : wp E d M_X12_print 164 [some (vr x0), some (vi x1), some (vi x2), some (vi x3), some (vi x4), some (vi x5)] [] G Q := by
  refine wp_aload_n (pc := 164) d_X12_print_164 rfl ?_
  refine wp_bipush (pc := 165) (v := 41) d_X12_print_165 rfl ?_
  obtain ⟨ho2, h⟩ := h
  refine wp_invV (pc := 167) (N := M_X12_prints) (As := [vi _]) (rest := []) (r := (cn_12, ct_12, 95)) d_X12_print_167 ml_X12_702 mk_X12_prints mv_X12_prints h0 ho2 rfl rfl (Nat.le_of_ble_eq_true rfl) ?_
  refine wpM.mono h (fun rr G1 hr => ?_)
  obtain ⟨rfl, h⟩ := hr
  show wp E d M_X12_print 170 [some (vr _), some (vi _), some (vi _), some (vi _), some (vi _), some (vi _)] [] G1 Q
  exact wp_vret (pc := 170) d_X12_print_170 rfl h
theorem d_X12_prints_0 : decode prog_14_method_165_code 0 = .ok (.aload_n 0, 1) := by decide +kernel
theorem d_X12_prints_1 : decode prog_14_method_165_code 1 = .ok (.getfield 699, 3) := by decide +kernel
theorem d_X12_prints_4 : decode prog_14_method_165_code 4 = .ok (.sipush 20000, 3) := by decide +kernel
theorem d_X12_prints_7 : decode prog_14_method_165_code 7 = .ok (.if_icmp .gt 24, 3) := by decide +kernel
theorem d_X12_prints_10 : decode prog_14_method_165_code 10 = .ok (.aload_n 0, 1) := by decide +kernel
theorem d_X12_prints_11 : decode prog_14_method_165_code 11 = .ok (.getfield 202, 3) := by decide +kernel
theorem d_X12_prints_14 : decode prog_14_method_165_code 14 = .ok (.aload_n 0, 1) := by decide +kernel
theorem d_X12_prints_15 : decode prog_14_method_165_code 15 = .ok (.getfield 699, 3) := by decide +kernel
theorem d_X12_prints_18 : decode prog_14_method_165_code 18 = .ok (.iload_n 1, 1) := by decide +kernel
theorem d_X12_prints_19 : decode prog_14_method_165_code 19 = .ok (.i2b, 1) := by decide +kernel
theorem d_X12_prints_20 : decode prog_14_method_165_code 20 = .ok (.bastore, 1) := by decide +kernel
theorem d_X12_prints_21 : decode prog_14_method_165_code 21 = .ok (.aload_n 0, 1) := by decide +kernel
theorem d_X12_prints_22 : decode prog_14_method_165_code 22 = .ok (.dup, 1) := by decide +kernel
theorem d_X12_prints_23 : decode prog_14_method_165_code 23 = .ok (.getfield 699, 3) := by decide +kernel
theorem d_X12_prints_26 : decode prog_14_method_165_code 26 = .ok (.iconst 1, 1) := by decide +kernel
theorem d_X12_prints_27 : decode prog_14_method_165_code 27 = .ok (.iadd, 1) := by decide +kernel
theorem d_X12_prints_28 : decode prog_14_method_165_code 28 = .ok (.putfield 699, 3) := by decide +kernel
theorem d_X12_prints_31 : decode prog_14_method_165_code 31 = .ok (.return_, 1) := by decide +kernel
theorem v_X12_prints_0 {E : EE} {d : Nat} {Q : Option AV → AH → Prop} {x0 : Nat} {x1 : Int32} {G : AH} (h : isO E G x0 12 ∧ ((20000 < (gI G x0 84) → Q none G) ∧ (¬ (20000 < (gI G x0 84)) → isO E G (gR G x0 87) 13 ∧ (vp_in (gI G x0 84) (gN G (gR G x0 87)) ∧ (∀ G4 : AH, G4 = sI G (gR G x0 87) (Int32.toNatClampNeg (gI G x0 84)) (i2b (i2b x1)) → ∀ G6 : AH, G6 = sI G4 x0 84 ((gI G4 x0 84) + 1) → Q none G6))))) : wp E d M_X12_prints 0 [some (vr x0), some (vi x1)] [] G Q := by
  refine wp_aload_n (pc := 0) d_X12_prints_0 rfl ?_
  obtain ⟨ho1, h⟩ := h
  refine wp_getI (pc := 1) d_X12_prints_1 fl_X12_699 (fun _ _ _ => rfl) ho1 ?_
  refine wp_sipush (pc := 4) (v := 20000) d_X12_prints_4 rfl ?_
  refine wp_icmp_gt (pc := 7) (tgt := 31) d_X12_prints_7 (by decide) (fun hc => ?_) (fun hc => ?_)
  · have h := h.1 hc
    exact wp_vret (pc := 31) d_X12_prints_31 rfl h
  · have h := h.2 hc
    refine wp_aload_n (pc := 10) d_X12_prints_10 rfl ?_
    refine wp_getR (pc := 11) d_X12_prints_11 fl_X12_202 (fun _ _ _ => rfl) ho1 ?_
    refine wp_aload_n (pc := 14) d_X12_prints_14 rfl ?_
    refine wp_getI (pc := 15) d_X12_prints_15 fl_X12_699 (fun _ _ _ => rfl) ho1 ?_
    refine wp_iload_n (pc := 18) d_X12_prints_18 rfl ?_
    refine wp_i2b (pc := 19) d_X12_prints_19 ?_
    obtain ⟨ho2, h⟩ := h
    obtain ⟨hi3, h⟩ := h
    refine wp_bast (pc := 20) d_X12_prints_20 ho2 hi3 ?_
    refine wp_nm (fun G4 eG4 => ?_)
    have h := h G4 eG4
    have ho5 := isO_sI eG4 ho1
    refine wp_aload_n (pc := 21) d_X12_prints_21 rfl ?_
    refine wp_dup (pc := 22) d_X12_prints_22 (c1_r _) ?_
    refine wp_getI (pc := 23) d_X12_prints_23 fl_X12_699 (fun _ _ _ => rfl) ho5 ?_
    refine wp_iconst (pc := 26) (v := 1) d_X12_prints_26 rfl ?_
    refine wp_iadd (pc := 27) d_X12_prints_27 ?_
    refine wp_putI (pc := 28) d_X12_prints_28 fl_X12_699 (fun _ _ _ => rfl) (Or.inl rfl) ho5 (okI_int _) ?_
    refine wp_nm (fun G6 eG6 => ?_)
    have h := h G6 eG6
    have ho7 := isO_sI eG6 ho5
    exact wp_vret (pc := 31) d_X12_prints_31 rfl h
theorem d_X12_check_0 : decode prog_14_method_164_code 0 = .ok (.aload_n 0, 1) := by decide +kernel
theorem d_X12_check_1 : decode prog_14_method_164_code 1 = .ok (.iload_n 1, 1) := by decide +kernel
theorem d_X12_check_2 : decode prog_14_method_164_code 2 = .ok (.invokevirtual 453, 3) := by decide +kernel
theorem d_X12_check_5 : decode prog_14_method_164_code 5 = .ok (.ifCond .ne 6, 3) := by decide +kernel
theorem d_X12_check_8 : decode prog_14_method_164_code 8 = .ok (.ldc 220, 2) := by decide +kernel
theorem d_X12_check_10 : decode prog_14_method_164_code 10 = .ok (.ireturn, 1) := by decide +kernel
theorem d_X12_check_11 : decode prog_14_method_164_code 11 = .ok (.aload_n 0, 1) := by decide +kernel
theorem d_X12_check_12 : decode prog_14_method_164_code 12 = .ok (.iload_n 1, 1) := by decide +kernel
theorem d_X12_check_13 : decode prog_14_method_164_code 13 = .ok (.invokevirtual 571, 3) := by decide +kernel
theorem d_X12_check_16 : decode prog_14_method_164_code 16 = .ok (.aload_n 0, 1) := by decide +kernel
theorem d_X12_check_17 : decode prog_14_method_164_code 17 = .ok (.iload_n 1, 1) := by decide +kernel
theorem d_X12_check_18 : decode prog_14_method_164_code 18 = .ok (.invokevirtual 696, 3) := by decide +kernel
theorem d_X12_check_21 : decode prog_14_method_164_code 21 = .ok (.aload_n 0, 1) := by decide +kernel
theorem d_X12_check_22 : decode prog_14_method_164_code 22 = .ok (.iconst 1, 1) := by decide +kernel
theorem d_X12_check_23 : decode prog_14_method_164_code 23 = .ok (.putfield 224, 3) := by decide +kernel
theorem d_X12_check_26 : decode prog_14_method_164_code 26 = .ok (.aload_n 0, 1) := by decide +kernel
theorem d_X12_check_27 : decode prog_14_method_164_code 27 = .ok (.aload_n 0, 1) := by decide +kernel
theorem d_X12_check_28 : decode prog_14_method_164_code 28 = .ok (.getfield 217, 3) := by decide +kernel
theorem d_X12_check_31 : decode prog_14_method_164_code 31 = .ok (.putfield 221, 3) := by decide +kernel
theorem d_X12_check_34 : decode prog_14_method_164_code 34 = .ok (.aload_n 0, 1) := by decide +kernel
theorem d_X12_check_35 : decode prog_14_method_164_code 35 = .ok (.iconst 0, 1) := by decide +kernel
theorem d_X12_check_36 : decode prog_14_method_164_code 36 = .ok (.putfield 231, 3) := by decide +kernel
theorem d_X12_check_39 : decode prog_14_method_164_code 39 = .ok (.aload_n 0, 1) := by decide +kernel
theorem d_X12_check_40 : decode prog_14_method_164_code 40 = .ok (.iconst 0, 1) := by decide +kernel
theorem d_X12_check_41 : decode prog_14_method_164_code 41 = .ok (.putfield 311, 3) := by decide +kernel
theorem d_X12_check_44 : decode prog_14_method_164_code 44 = .ok (.aload_n 0, 1) := by decide +kernel
theorem d_X12_check_45 : decode prog_14_method_164_code 45 = .ok (.invokevirtual 324, 3) := by decide +kernel
theorem d_X12_check_48 : decode prog_14_method_164_code 48 = .ok (.aload_n 0, 1) := by decide +kernel
theorem d_X12_check_49 : decode prog_14_method_164_code 49 = .ok (.iload_n 1, 1) := by decide +kernel
theorem d_X12_check_50 : decode prog_14_method_164_code 50 = .ok (.invokevirtual 693, 3) := by decide +kernel
theorem d_X12_check_53 : decode prog_14_method_164_code 53 = .ok (.aload_n 0, 1) := by decide +kernel
theorem d_X12_check_54 : decode prog_14_method_164_code 54 = .ok (.getfield 311, 3) := by decide +kernel
theorem d_X12_check_57 : decode prog_14_method_164_code 57 = .ok (.ifCond .ne 14, 3) := by decide +kernel
theorem d_X12_check_60 : decode prog_14_method_164_code 60 = .ok (.aload_n 0, 1) := by decide +kernel
theorem d_X12_check_61 : decode prog_14_method_164_code 61 = .ok (.getfield 292, 3) := by decide +kernel
theorem d_X12_check_64 : decode prog_14_method_164_code 64 = .ok (.ifCond .eq 7, 3) := by decide +kernel
theorem d_X12_check_67 : decode prog_14_method_164_code 67 = .ok (.aload_n 0, 1) := by decide +kernel
theorem d_X12_check_68 : decode prog_14_method_164_code 68 = .ok (.invokevirtual 327, 3) := by decide +kernel
theorem d_X12_check_71 : decode prog_14_method_164_code 71 = .ok (.aload_n 0, 1) := by decide +kernel
theorem d_X12_check_72 : decode prog_14_method_164_code 72 = .ok (.aload_n 0, 1) := by decide +kernel
theorem d_X12_check_73 : decode prog_14_method_164_code 73 = .ok (.getfield 311, 3) := by decide +kernel
theorem d_X12_check_76 : decode prog_14_method_164_code 76 = .ok (.putfield 450, 3) := by decide +kernel
theorem d_X12_check_79 : decode prog_14_method_164_code 79 = .ok (.aload_n 0, 1) := by decide +kernel
theorem d_X12_check_80 : decode prog_14_method_164_code 80 = .ok (.getfield 311, 3) := by decide +kernel
theorem d_X12_check_83 : decode prog_14_method_164_code 83 = .ok (.ifCond .ne 7, 3) := by decide +kernel
theorem d_X12_check_86 : decode prog_14_method_164_code 86 = .ok (.iconst 0, 1) := by decide +kernel
theorem d_X12_check_87 : decode prog_14_method_164_code 87 = .ok (.goto 9, 3) := by decide +kernel
theorem d_X12_check_90 : decode prog_14_method_164_code 90 = .ok (.iconst (-1), 1) := by decide +kernel
theorem d_X12_check_91 : decode prog_14_method_164_code 91 = .ok (.aload_n 0, 1) := by decide +kernel
theorem d_X12_check_92 : decode prog_14_method_164_code 92 = .ok (.getfield 314, 3) := by decide +kernel
theorem d_X12_check_95 : decode prog_14_method_164_code 95 = .ok (.isub, 1) := by decide +kernel
theorem d_X12_check_96 : decode prog_14_method_164_code 96 = .ok (.ireturn, 1) := by decide +kernel
theorem v_X12_check_0 {E : EE} {d : Nat} {Q : Option AV → AH → Prop} {x0 : Nat} {x1 : Int32} {G : AH} (h0 : 0 < d) (h : isO E G x0 12 ∧ (wpI E (d - 1) M_X12_isProblem [vr x0, vi x1] G (fun r1 G2 => (¬ r1 = 0 → isO E G2 x0 12 ∧ (wpV E (d - 1) M_X12_know [vr x0, vi x1] G2 (fun G3 => isO E G3 x0 12 ∧ (wpV E (d - 1) M_X12_giveAll [vr x0, vi x1] G3 (fun G4 => isO E G4 x0 12 ∧ (∀ G6 : AH, G6 = sI G4 x0 37 1 → ∀ G8 : AH, G8 = sI G6 x0 39 (gI G6 x0 1) → ∀ G10 : AH, G10 = sI G8 x0 40 0 → ∀ G12 : AH, G12 = sI G10 x0 45 0 → wpV E (d - 1) M_X12_next [vr x0] G12 (fun G14 => isO E G14 x0 12 ∧ (wpV E (d - 1) M_X12_tree [vr x0, vi x1] G14 (fun G15 => isO E G15 x0 12 ∧ ((¬ (gI G15 x0 45) = 0 → wp E d M_X12_check 71 [some (vr x0), some (vi x1)] [] G15 Q) ∧ ((gI G15 x0 45) = 0 → ((gI G15 x0 41) = 0 → wp E d M_X12_check 71 [some (vr x0), some (vi x1)] [] G15 Q) ∧ (¬ ((gI G15 x0 41) = 0) → wpV E (d - 1) M_X12_failHere [vr x0] G15 (fun G17 => wp E d M_X12_check 71 [some (vr x0), some (vi x1)] [] G17 Q))))))))))))) ∧ (r1 = 0 → Q (some (vi (-100000))) G2)))) : wp E d M_X12_check 0 [some (vr x0), some (vi x1)] [] G Q := by
  refine wp_aload_n (pc := 0) d_X12_check_0 rfl ?_
  refine wp_iload_n (pc := 1) d_X12_check_1 rfl ?_
  obtain ⟨ho21, h⟩ := h
  refine wp_invV (pc := 2) (N := M_X12_isProblem) (As := [vi _]) (rest := []) (r := (cn_12, ct_12, 95)) d_X12_check_2 ml_X12_453 mk_X12_isProblem mv_X12_isProblem h0 ho21 rfl rfl (Nat.le_of_ble_eq_true rfl) ?_
  refine wpM.mono h (fun rr G2 hr => ?_)
  obtain ⟨r1, rfl, h⟩ := hr
  show wp E d M_X12_check 5 [some (vr _), some (vi _)] [vi _] G2 Q
  refine wp_if_ne (pc := 5) (tgt := 11) d_X12_check_5 (by decide) (fun hc => ?_) (fun hc => ?_)
  · have h := h.1 hc
    refine wp_aload_n (pc := 11) d_X12_check_11 rfl ?_
    refine wp_iload_n (pc := 12) d_X12_check_12 rfl ?_
    obtain ⟨ho20, h⟩ := h
    refine wp_invV (pc := 13) (N := M_X12_know) (As := [vi _]) (rest := []) (r := (cn_12, ct_12, 95)) d_X12_check_13 ml_X12_571 mk_X12_know mv_X12_know h0 ho20 rfl rfl (Nat.le_of_ble_eq_true rfl) ?_
    refine wpM.mono h (fun rr G3 hr => ?_)
    obtain ⟨rfl, h⟩ := hr
    show wp E d M_X12_check 16 [some (vr _), some (vi _)] [] G3 Q
    refine wp_aload_n (pc := 16) d_X12_check_16 rfl ?_
    refine wp_iload_n (pc := 17) d_X12_check_17 rfl ?_
    obtain ⟨ho19, h⟩ := h
    refine wp_invV (pc := 18) (N := M_X12_giveAll) (As := [vi _]) (rest := []) (r := (cn_12, ct_12, 95)) d_X12_check_18 ml_X12_696 mk_X12_giveAll mv_X12_giveAll h0 ho19 rfl rfl (Nat.le_of_ble_eq_true rfl) ?_
    refine wpM.mono h (fun rr G4 hr => ?_)
    obtain ⟨rfl, h⟩ := hr
    show wp E d M_X12_check 21 [some (vr _), some (vi _)] [] G4 Q
    refine wp_aload_n (pc := 21) d_X12_check_21 rfl ?_
    refine wp_iconst (pc := 22) (v := 1) d_X12_check_22 rfl ?_
    obtain ⟨ho5, h⟩ := h
    refine wp_putI (pc := 23) d_X12_check_23 fl_X12_224 (fun _ _ _ => rfl) (Or.inl rfl) ho5 okI_z1 ?_
    refine wp_nm (fun G6 eG6 => ?_)
    have h := h G6 eG6
    have ho7 := isO_sI eG6 ho5
    refine wp_aload_n (pc := 26) d_X12_check_26 rfl ?_
    refine wp_aload_n (pc := 27) d_X12_check_27 rfl ?_
    refine wp_getI (pc := 28) d_X12_check_28 fl_X12_217 (fun _ _ _ => rfl) ho7 ?_
    refine wp_putI (pc := 31) d_X12_check_31 fl_X12_221 (fun _ _ _ => rfl) (Or.inl rfl) ho7 (okI_int _) ?_
    refine wp_nm (fun G8 eG8 => ?_)
    have h := h G8 eG8
    have ho9 := isO_sI eG8 ho7
    refine wp_aload_n (pc := 34) d_X12_check_34 rfl ?_
    refine wp_iconst (pc := 35) (v := 0) d_X12_check_35 rfl ?_
    refine wp_putI (pc := 36) d_X12_check_36 fl_X12_231 (fun _ _ _ => rfl) (Or.inl rfl) ho9 (okI_int _) ?_
    refine wp_nm (fun G10 eG10 => ?_)
    have h := h G10 eG10
    have ho11 := isO_sI eG10 ho9
    refine wp_aload_n (pc := 39) d_X12_check_39 rfl ?_
    refine wp_iconst (pc := 40) (v := 0) d_X12_check_40 rfl ?_
    refine wp_putI (pc := 41) d_X12_check_41 fl_X12_311 (fun _ _ _ => rfl) (Or.inl rfl) ho11 (okI_int _) ?_
    refine wp_nm (fun G12 eG12 => ?_)
    have h := h G12 eG12
    have ho13 := isO_sI eG12 ho11
    refine wp_aload_n (pc := 44) d_X12_check_44 rfl ?_
    refine wp_invV (pc := 45) (N := M_X12_next) (As := []) (rest := []) (r := (cn_12, ct_12, 95)) d_X12_check_45 ml_X12_324 mk_X12_next mv_X12_next h0 ho13 rfl rfl (Nat.le_of_ble_eq_true rfl) ?_
    refine wpM.mono h (fun rr G14 hr => ?_)
    obtain ⟨rfl, h⟩ := hr
    show wp E d M_X12_check 48 [some (vr _), some (vi _)] [] G14 Q
    refine wp_aload_n (pc := 48) d_X12_check_48 rfl ?_
    refine wp_iload_n (pc := 49) d_X12_check_49 rfl ?_
    obtain ⟨ho18, h⟩ := h
    refine wp_invV (pc := 50) (N := M_X12_tree) (As := [vi _]) (rest := []) (r := (cn_12, ct_12, 95)) d_X12_check_50 ml_X12_693 mk_X12_tree mv_X12_tree h0 ho18 rfl rfl (Nat.le_of_ble_eq_true rfl) ?_
    refine wpM.mono h (fun rr G15 hr => ?_)
    obtain ⟨rfl, h⟩ := hr
    show wp E d M_X12_check 53 [some (vr _), some (vi _)] [] G15 Q
    refine wp_aload_n (pc := 53) d_X12_check_53 rfl ?_
    obtain ⟨ho16, h⟩ := h
    refine wp_getI (pc := 54) d_X12_check_54 fl_X12_311 (fun _ _ _ => rfl) ho16 ?_
    refine wp_if_ne (pc := 57) (tgt := 71) d_X12_check_57 (by decide) (fun hc => ?_) (fun hc => ?_)
    · have h := h.1 hc
      refine wp_sub ?_ h
      exact ⟨rfl, ⟨rfl, trivial⟩⟩
    · have h := h.2 hc
      refine wp_aload_n (pc := 60) d_X12_check_60 rfl ?_
      refine wp_getI (pc := 61) d_X12_check_61 fl_X12_292 (fun _ _ _ => rfl) ho16 ?_
      refine wp_if_eq (pc := 64) (tgt := 71) d_X12_check_64 (by decide) (fun hc => ?_) (fun hc => ?_)
      · have h := h.1 hc
        refine wp_sub ?_ h
        exact ⟨rfl, ⟨rfl, trivial⟩⟩
      · have h := h.2 hc
        refine wp_aload_n (pc := 67) d_X12_check_67 rfl ?_
        refine wp_invV (pc := 68) (N := M_X12_failHere) (As := []) (rest := []) (r := (cn_12, ct_12, 95)) d_X12_check_68 ml_X12_327 mk_X12_failHere mv_X12_failHere h0 ho16 rfl rfl (Nat.le_of_ble_eq_true rfl) ?_
        refine wpM.mono h (fun rr G17 hr => ?_)
        obtain ⟨rfl, h⟩ := hr
        show wp E d M_X12_check 71 [some (vr _), some (vi _)] [] G17 Q
        refine wp_sub ?_ h
        exact ⟨rfl, ⟨rfl, trivial⟩⟩
  · have h := h.2 hc
    refine wp_ldc (pc := 8) (v := (-100000)) d_X12_check_8 ci_X12_220 ?_
    exact wp_iret (pc := 10) d_X12_check_10 rfl h
theorem v_X12_check_71 {E : EE} {d : Nat} {Q : Option AV → AH → Prop} {x0 : Nat} {x1 : Int32} {G : AH} (h : isO E G x0 12 ∧ ((¬ (gI (sI G x0 4 (gI G x0 45)) x0 45) = 0 → Q (some (vi ((-1) - (gI (sI G x0 4 (gI G x0 45)) x0 46)))) (sI G x0 4 (gI G x0 45))) ∧ ((gI (sI G x0 4 (gI G x0 45)) x0 45) = 0 → Q (some (vi 0)) (sI G x0 4 (gI G x0 45))))) : wp E d M_X12_check 71 [some (vr x0), some (vi x1)] [] G Q := by
  refine wp_aload_n (pc := 71) d_X12_check_71 rfl ?_
  refine wp_aload_n (pc := 72) d_X12_check_72 rfl ?_
  obtain ⟨ho1, h⟩ := h
  refine wp_getI (pc := 73) d_X12_check_73 fl_X12_311 (fun _ _ _ => rfl) ho1 ?_
  refine wp_putI (pc := 76) d_X12_check_76 fl_X12_450 (fun _ _ _ => rfl) (Or.inl rfl) ho1 (okI_int _) ?_
  refine wp_aload_n (pc := 79) d_X12_check_79 rfl ?_
  refine wp_getI (pc := 80) d_X12_check_80 fl_X12_311 (fun _ _ _ => rfl) ho1 ?_
  refine wp_if_ne (pc := 83) (tgt := 90) d_X12_check_83 (by decide) (fun hc => ?_) (fun hc => ?_)
  · have h := h.1 hc
    refine wp_iconst (pc := 90) (v := (-1)) d_X12_check_90 rfl ?_
    refine wp_aload_n (pc := 91) d_X12_check_91 rfl ?_
    refine wp_getI (pc := 92) d_X12_check_92 fl_X12_314 (fun _ _ _ => rfl) ho1 ?_
    refine wp_isub (pc := 95) d_X12_check_95 ?_
    exact wp_iret (pc := 96) d_X12_check_96 rfl h
  · have h := h.2 hc
    refine wp_iconst (pc := 86) (v := 0) d_X12_check_86 rfl ?_
    refine wp_goto (pc := 87) (tgt := 96) d_X12_check_87 (by decide) ?_
    exact wp_iret (pc := 96) d_X12_check_96 rfl h
theorem d_X12_giveAll_0 : decode prog_14_method_163_code 0 = .ok (.iconst 0, 1) := by decide +kernel
theorem d_X12_giveAll_1 : decode prog_14_method_163_code 1 = .ok (.istore_n 2, 1) := by decide +kernel
theorem d_X12_giveAll_2 : decode prog_14_method_163_code 2 = .ok (.iload_n 2, 1) := by decide +kernel
theorem d_X12_giveAll_3 : decode prog_14_method_163_code 3 = .ok (.aload_n 0, 1) := by decide +kernel
theorem d_X12_giveAll_4 : decode prog_14_method_163_code 4 = .ok (.iload_n 1, 1) := by decide +kernel
theorem d_X12_giveAll_5 : decode prog_14_method_163_code 5 = .ok (.invokevirtual 456, 3) := by decide +kernel
theorem d_X12_giveAll_8 : decode prog_14_method_163_code 8 = .ok (.if_icmp .ge 44, 3) := by decide +kernel
theorem d_X12_giveAll_11 : decode prog_14_method_163_code 11 = .ok (.aload_n 0, 1) := by decide +kernel
theorem d_X12_giveAll_12 : decode prog_14_method_163_code 12 = .ok (.getfield 193, 3) := by decide +kernel
theorem d_X12_giveAll_15 : decode prog_14_method_163_code 15 = .ok (.iload_n 2, 1) := by decide +kernel
theorem d_X12_giveAll_16 : decode prog_14_method_163_code 16 = .ok (.aload_n 0, 1) := by decide +kernel
theorem d_X12_giveAll_17 : decode prog_14_method_163_code 17 = .ok (.getfield 79, 3) := by decide +kernel
theorem d_X12_giveAll_20 : decode prog_14_method_163_code 20 = .ok (.bipush 12, 2) := by decide +kernel
theorem d_X12_giveAll_22 : decode prog_14_method_163_code 22 = .ok (.iload_n 1, 1) := by decide +kernel
theorem d_X12_giveAll_23 : decode prog_14_method_163_code 23 = .ok (.imul, 1) := by decide +kernel
theorem d_X12_giveAll_24 : decode prog_14_method_163_code 24 = .ok (.iload_n 2, 1) := by decide +kernel
theorem d_X12_giveAll_25 : decode prog_14_method_163_code 25 = .ok (.iadd, 1) := by decide +kernel
theorem d_X12_giveAll_26 : decode prog_14_method_163_code 26 = .ok (.baload, 1) := by decide +kernel
theorem d_X12_giveAll_27 : decode prog_14_method_163_code 27 = .ok (.ifCond .eq 17, 3) := by decide +kernel
theorem d_X12_giveAll_30 : decode prog_14_method_163_code 30 = .ok (.aload_n 0, 1) := by decide +kernel
theorem d_X12_giveAll_31 : decode prog_14_method_163_code 31 = .ok (.getfield 73, 3) := by decide +kernel
theorem d_X12_giveAll_34 : decode prog_14_method_163_code 34 = .ok (.bipush 12, 2) := by decide +kernel
theorem d_X12_giveAll_36 : decode prog_14_method_163_code 36 = .ok (.iload_n 1, 1) := by decide +kernel
theorem d_X12_giveAll_37 : decode prog_14_method_163_code 37 = .ok (.imul, 1) := by decide +kernel
theorem d_X12_giveAll_38 : decode prog_14_method_163_code 38 = .ok (.iload_n 2, 1) := by decide +kernel
theorem d_X12_giveAll_39 : decode prog_14_method_163_code 39 = .ok (.iadd, 1) := by decide +kernel
theorem d_X12_giveAll_40 : decode prog_14_method_163_code 40 = .ok (.iaload, 1) := by decide +kernel
theorem d_X12_giveAll_41 : decode prog_14_method_163_code 41 = .ok (.goto 4, 3) := by decide +kernel
theorem d_X12_giveAll_44 : decode prog_14_method_163_code 44 = .ok (.iconst (-1), 1) := by decide +kernel
theorem d_X12_giveAll_45 : decode prog_14_method_163_code 45 = .ok (.iastore, 1) := by decide +kernel
theorem d_X12_giveAll_46 : decode prog_14_method_163_code 46 = .ok (.iinc 2 1, 3) := by decide +kernel
theorem d_X12_giveAll_49 : decode prog_14_method_163_code 49 = .ok (.goto (-47), 3) := by decide +kernel
theorem d_X12_giveAll_52 : decode prog_14_method_163_code 52 = .ok (.return_, 1) := by decide +kernel
theorem v_X12_giveAll_0 {E : EE} {d : Nat} {Q : Option AV → AH → Prop} {x0 : Nat} {x1 : Int32} {G : AH} (h : wp E d M_X12_giveAll 2 [some (vr x0), some (vi x1), some (vi 0)] [] G Q) : wp E d M_X12_giveAll 0 [some (vr x0), some (vi x1), none] [] G Q := by
  refine wp_iconst (pc := 0) (v := 0) d_X12_giveAll_0 rfl ?_
  refine wp_istore_n (pc := 1) (lv' := [some (vr _), some (vi _), some (vi _)]) d_X12_giveAll_1 (by decide) rfl ?_
  refine wp_sub ?_ h
  exact ⟨rfl, ⟨rfl, ⟨rfl, trivial⟩⟩⟩
theorem v_X12_giveAll_2 {E : EE} {d : Nat} {Q : Option AV → AH → Prop} {x0 : Nat} {x1 : Int32} {x2 : Int32} {G : AH} (h0 : 0 < d) (h : isO E G x0 12 ∧ (wpI E (d - 1) M_X12_vars [vr x0, vi x1] G (fun r1 G2 => (r1 ≤ x2 → Q none G2) ∧ (¬ (r1 ≤ x2) → isO E G2 x0 12 ∧ (isO E G2 (gR G2 x0 24) 16 ∧ (vp_in ((12 * x1) + x2) (gN G2 (gR G2 x0 24)) ∧ (((gI G2 (gR G2 x0 24) (Int32.toNatClampNeg ((12 * x1) + x2))) = 0 → wp E d M_X12_giveAll 45 [some (vr x0), some (vi x1), some (vi x2)] [vi (-1), vi x2, vr (gR G2 x0 83)] G2 Q) ∧ (¬ ((gI G2 (gR G2 x0 24) (Int32.toNatClampNeg ((12 * x1) + x2))) = 0) → isO E G2 (gR G2 x0 22) 14 ∧ (vp_in ((12 * x1) + x2) (gN G2 (gR G2 x0 22)) ∧ (wp E d M_X12_giveAll 45 [some (vr x0), some (vi x1), some (vi x2)] [vi (gI G2 (gR G2 x0 22) (Int32.toNatClampNeg ((12 * x1) + x2))), vi x2, vr (gR G2 x0 83)] G2 Q)))))))))) : wp E d M_X12_giveAll 2 [some (vr x0), some (vi x1), some (vi x2)] [] G Q := by
  refine wp_iload_n (pc := 2) d_X12_giveAll_2 rfl ?_
  refine wp_aload_n (pc := 3) d_X12_giveAll_3 rfl ?_
  refine wp_iload_n (pc := 4) d_X12_giveAll_4 rfl ?_
  obtain ⟨ho8, h⟩ := h
  refine wp_invV (pc := 5) (N := M_X12_vars) (As := [vi _]) (rest := [vi _]) (r := (cn_12, ct_12, 95)) d_X12_giveAll_5 ml_X12_456 mk_X12_vars mv_X12_vars h0 ho8 rfl rfl (Nat.le_of_ble_eq_true rfl) ?_
  refine wpM.mono h (fun rr G2 hr => ?_)
  obtain ⟨r1, rfl, h⟩ := hr
  show wp E d M_X12_giveAll 8 [some (vr _), some (vi _), some (vi _)] [vi _, vi _] G2 Q
  refine wp_icmp_ge (pc := 8) (tgt := 52) d_X12_giveAll_8 (by decide) (fun hc => ?_) (fun hc => ?_)
  · have h := h.1 hc
    exact wp_vret (pc := 52) d_X12_giveAll_52 rfl h
  · have h := h.2 hc
    refine wp_aload_n (pc := 11) d_X12_giveAll_11 rfl ?_
    obtain ⟨ho3, h⟩ := h
    refine wp_getR (pc := 12) d_X12_giveAll_12 fl_X12_193 (fun _ _ _ => rfl) ho3 ?_
    refine wp_iload_n (pc := 15) d_X12_giveAll_15 rfl ?_
    refine wp_aload_n (pc := 16) d_X12_giveAll_16 rfl ?_
    refine wp_getR (pc := 17) d_X12_giveAll_17 fl_X12_79 (fun _ _ _ => rfl) ho3 ?_
    refine wp_bipush (pc := 20) (v := 12) d_X12_giveAll_20 rfl ?_
    refine wp_iload_n (pc := 22) d_X12_giveAll_22 rfl ?_
    refine wp_imul (pc := 23) d_X12_giveAll_23 ?_
    refine wp_iload_n (pc := 24) d_X12_giveAll_24 rfl ?_
    refine wp_iadd (pc := 25) d_X12_giveAll_25 ?_
    obtain ⟨ho4, h⟩ := h
    obtain ⟨hi5, h⟩ := h
    refine wp_zald (pc := 26) d_X12_giveAll_26 ho4 hi5 ?_
    refine wp_if_eq (pc := 27) (tgt := 44) d_X12_giveAll_27 (by decide) (fun hc => ?_) (fun hc => ?_)
    · have h := h.1 hc
      refine wp_iconst (pc := 44) (v := (-1)) d_X12_giveAll_44 rfl ?_
      refine wp_sub ?_ h
      exact ⟨rfl, ⟨rfl, ⟨rfl, trivial⟩⟩⟩
    · have h := h.2 hc
      refine wp_aload_n (pc := 30) d_X12_giveAll_30 rfl ?_
      refine wp_getR (pc := 31) d_X12_giveAll_31 fl_X12_73 (fun _ _ _ => rfl) ho3 ?_
      refine wp_bipush (pc := 34) (v := 12) d_X12_giveAll_34 rfl ?_
      refine wp_iload_n (pc := 36) d_X12_giveAll_36 rfl ?_
      refine wp_imul (pc := 37) d_X12_giveAll_37 ?_
      refine wp_iload_n (pc := 38) d_X12_giveAll_38 rfl ?_
      refine wp_iadd (pc := 39) d_X12_giveAll_39 ?_
      obtain ⟨ho6, h⟩ := h
      obtain ⟨hi7, h⟩ := h
      refine wp_iald (pc := 40) d_X12_giveAll_40 ho6 hi7 ?_
      refine wp_goto (pc := 41) (tgt := 45) d_X12_giveAll_41 (by decide) ?_
      refine wp_sub ?_ h
      exact ⟨rfl, ⟨rfl, ⟨rfl, trivial⟩⟩⟩
theorem v_X12_giveAll_45 {E : EE} {d : Nat} {Q : Option AV → AH → Prop} {x0 : Nat} {x1 : Int32} {x2 : Int32} {t0 : Nat} {t1 : Int32} {t2 : Int32} {G : AH} (h : isO E G t0 14 ∧ (vp_in t1 (gN G t0) ∧ (wp E d M_X12_giveAll 2 [some (vr x0), some (vi x1), some (vi (x2 + 1))] [] (sI G t0 (Int32.toNatClampNeg t1) t2) Q))) : wp E d M_X12_giveAll 45 [some (vr x0), some (vi x1), some (vi x2)] [vi t2, vi t1, vr t0] G Q := by
  obtain ⟨ho1, h⟩ := h
  obtain ⟨hi2, h⟩ := h
  refine wp_iast (pc := 45) d_X12_giveAll_45 ho1 hi2 ?_
  refine wp_iinc (pc := 46) (v := 1) (lv' := [some (vr _), some (vi _), some (vi _)]) d_X12_giveAll_46 (by decide) rfl rfl rfl ?_
  refine wp_goto (pc := 49) (tgt := 2) d_X12_giveAll_49 (by decide) ?_
  refine wp_sub ?_ h
  exact ⟨rfl, ⟨rfl, ⟨rfl, trivial⟩⟩⟩
theorem d_X12_tree_0 : decode prog_14_method_161_code 0 = .ok (.aload_n 0, 1) := by decide +kernel
theorem d_X12_tree_1 : decode prog_14_method_161_code 1 = .ok (.getfield 311, 3) := by decide +kernel
theorem d_X12_tree_4 : decode prog_14_method_161_code 4 = .ok (.ifCond .eq 4, 3) := by decide +kernel
theorem d_X12_tree_7 : decode prog_14_method_161_code 7 = .ok (.return_, 1) := by decide +kernel
theorem d_X12_tree_8 : decode prog_14_method_161_code 8 = .ok (.aload_n 0, 1) := by decide +kernel
theorem d_X12_tree_9 : decode prog_14_method_161_code 9 = .ok (.getfield 241, 3) := by decide +kernel
theorem d_X12_tree_12 : decode prog_14_method_161_code 12 = .ok (.istore_n 2, 1) := by decide +kernel
theorem d_X12_tree_13 : decode prog_14_method_161_code 13 = .ok (.aload_n 0, 1) := by decide +kernel
theorem d_X12_tree_14 : decode prog_14_method_161_code 14 = .ok (.getfield 292, 3) := by decide +kernel
theorem d_X12_tree_17 : decode prog_14_method_161_code 17 = .ok (.bipush 33, 2) := by decide +kernel
theorem d_X12_tree_19 : decode prog_14_method_161_code 19 = .ok (.if_icmp .ne 95, 3) := by decide +kernel
theorem d_X12_tree_22 : decode prog_14_method_161_code 22 = .ok (.aload_n 0, 1) := by decide +kernel
theorem d_X12_tree_23 : decode prog_14_method_161_code 23 = .ok (.invokevirtual 324, 3) := by decide +kernel
theorem d_X12_tree_26 : decode prog_14_method_161_code 26 = .ok (.aload_n 0, 1) := by decide +kernel
theorem d_X12_tree_27 : decode prog_14_method_161_code 27 = .ok (.getfield 292, 3) := by decide +kernel
theorem d_X12_tree_30 : decode prog_14_method_161_code 30 = .ok (.iconst 1, 1) := by decide +kernel
theorem d_X12_tree_31 : decode prog_14_method_161_code 31 = .ok (.if_icmp .eq 8, 3) := by decide +kernel
theorem d_X12_tree_34 : decode prog_14_method_161_code 34 = .ok (.aload_n 0, 1) := by decide +kernel
theorem d_X12_tree_35 : decode prog_14_method_161_code 35 = .ok (.invokevirtual 327, 3) := by decide +kernel
theorem d_X12_tree_38 : decode prog_14_method_161_code 38 = .ok (.return_, 1) := by decide +kernel
theorem d_X12_tree_39 : decode prog_14_method_161_code 39 = .ok (.aload_n 0, 1) := by decide +kernel
theorem d_X12_tree_40 : decode prog_14_method_161_code 40 = .ok (.iload_n 1, 1) := by decide +kernel
theorem d_X12_tree_41 : decode prog_14_method_161_code 41 = .ok (.invokevirtual 341, 3) := by decide +kernel
theorem d_X12_tree_44 : decode prog_14_method_161_code 44 = .ok (.istore_n 3, 1) := by decide +kernel
theorem d_X12_tree_45 : decode prog_14_method_161_code 45 = .ok (.iload_n 3, 1) := by decide +kernel
theorem d_X12_tree_46 : decode prog_14_method_161_code 46 = .ok (.sipush 200, 3) := by decide +kernel
theorem d_X12_tree_49 : decode prog_14_method_161_code 49 = .ok (.if_icmp .lt 28, 3) := by decide +kernel
theorem d_X12_tree_52 : decode prog_14_method_161_code 52 = .ok (.iload_n 3, 1) := by decide +kernel
theorem d_X12_tree_53 : decode prog_14_method_161_code 53 = .ok (.sipush 300, 3) := by decide +kernel
theorem d_X12_tree_56 : decode prog_14_method_161_code 56 = .ok (.if_icmp .ge 21, 3) := by decide +kernel
theorem d_X12_tree_59 : decode prog_14_method_161_code 59 = .ok (.aload_n 0, 1) := by decide +kernel
theorem d_X12_tree_60 : decode prog_14_method_161_code 60 = .ok (.getfield 88, 3) := by decide +kernel
theorem d_X12_tree_63 : decode prog_14_method_161_code 63 = .ok (.bipush 24, 2) := by decide +kernel
theorem d_X12_tree_65 : decode prog_14_method_161_code 65 = .ok (.iload_n 1, 1) := by decide +kernel
theorem d_X12_tree_66 : decode prog_14_method_161_code 66 = .ok (.imul, 1) := by decide +kernel
theorem d_X12_tree_67 : decode prog_14_method_161_code 67 = .ok (.iload_n 3, 1) := by decide +kernel
theorem d_X12_tree_68 : decode prog_14_method_161_code 68 = .ok (.iadd, 1) := by decide +kernel
theorem d_X12_tree_69 : decode prog_14_method_161_code 69 = .ok (.sipush 200, 3) := by decide +kernel
theorem d_X12_tree_72 : decode prog_14_method_161_code 72 = .ok (.isub, 1) := by decide +kernel
theorem d_X12_tree_73 : decode prog_14_method_161_code 73 = .ok (.iaload, 1) := by decide +kernel
theorem d_X12_tree_74 : decode prog_14_method_161_code 74 = .ok (.ifCond .eq 13, 3) := by decide +kernel
theorem d_X12_tree_77 : decode prog_14_method_161_code 77 = .ok (.aload_n 0, 1) := by decide +kernel
theorem d_X12_tree_78 : decode prog_14_method_161_code 78 = .ok (.iconst 4, 1) := by decide +kernel
theorem d_X12_tree_79 : decode prog_14_method_161_code 79 = .ok (.aload_n 0, 1) := by decide +kernel
theorem d_X12_tree_80 : decode prog_14_method_161_code 80 = .ok (.getfield 241, 3) := by decide +kernel
theorem d_X12_tree_83 : decode prog_14_method_161_code 83 = .ok (.invokevirtual 317, 3) := by decide +kernel
theorem d_X12_tree_86 : decode prog_14_method_161_code 86 = .ok (.return_, 1) := by decide +kernel
theorem d_X12_tree_87 : decode prog_14_method_161_code 87 = .ok (.aload_n 0, 1) := by decide +kernel
theorem d_X12_tree_88 : decode prog_14_method_161_code 88 = .ok (.iload_n 1, 1) := by decide +kernel
theorem d_X12_tree_89 : decode prog_14_method_161_code 89 = .ok (.iload_n 3, 1) := by decide +kernel
theorem d_X12_tree_90 : decode prog_14_method_161_code 90 = .ok (.sipush 200, 3) := by decide +kernel
theorem d_X12_tree_93 : decode prog_14_method_161_code 93 = .ok (.isub, 1) := by decide +kernel
theorem d_X12_tree_94 : decode prog_14_method_161_code 94 = .ok (.invokevirtual 681, 3) := by decide +kernel
theorem d_X12_tree_97 : decode prog_14_method_161_code 97 = .ok (.ifCond .ne 10, 3) := by decide +kernel
theorem d_X12_tree_100 : decode prog_14_method_161_code 100 = .ok (.aload_n 0, 1) := by decide +kernel
theorem d_X12_tree_101 : decode prog_14_method_161_code 101 = .ok (.bipush 8, 2) := by decide +kernel
theorem d_X12_tree_103 : decode prog_14_method_161_code 103 = .ok (.iload_n 2, 1) := by decide +kernel
theorem d_X12_tree_104 : decode prog_14_method_161_code 104 = .ok (.invokevirtual 317, 3) := by decide +kernel
theorem d_X12_tree_107 : decode prog_14_method_161_code 107 = .ok (.aload_n 0, 1) := by decide +kernel
theorem d_X12_tree_108 : decode prog_14_method_161_code 108 = .ok (.invokevirtual 324, 3) := by decide +kernel
theorem d_X12_tree_111 : decode prog_14_method_161_code 111 = .ok (.goto 132, 3) := by decide +kernel
theorem d_X12_tree_114 : decode prog_14_method_161_code 114 = .ok (.aload_n 0, 1) := by decide +kernel
theorem d_X12_tree_115 : decode prog_14_method_161_code 115 = .ok (.getfield 292, 3) := by decide +kernel
theorem d_X12_tree_118 : decode prog_14_method_161_code 118 = .ok (.bipush 46, 2) := by decide +kernel
theorem d_X12_tree_120 : decode prog_14_method_161_code 120 = .ok (.if_icmp .eq 12, 3) := by decide +kernel
theorem d_X12_tree_123 : decode prog_14_method_161_code 123 = .ok (.aload_n 0, 1) := by decide +kernel
theorem d_X12_tree_124 : decode prog_14_method_161_code 124 = .ok (.getfield 292, 3) := by decide +kernel
theorem d_X12_tree_127 : decode prog_14_method_161_code 127 = .ok (.bipush 60, 2) := by decide +kernel
theorem d_X12_tree_129 : decode prog_14_method_161_code 129 = .ok (.if_icmp .ne 45, 3) := by decide +kernel
theorem d_X12_tree_132 : decode prog_14_method_161_code 132 = .ok (.aload_n 0, 1) := by decide +kernel
theorem d_X12_tree_133 : decode prog_14_method_161_code 133 = .ok (.getfield 292, 3) := by decide +kernel
theorem d_X12_tree_136 : decode prog_14_method_161_code 136 = .ok (.bipush 46, 2) := by decide +kernel
theorem d_X12_tree_138 : decode prog_14_method_161_code 138 = .ok (.if_icmp .ne 14, 3) := by decide +kernel
theorem d_X12_tree_141 : decode prog_14_method_161_code 141 = .ok (.aload_n 0, 1) := by decide +kernel
theorem d_X12_tree_142 : decode prog_14_method_161_code 142 = .ok (.iload_n 1, 1) := by decide +kernel
theorem d_X12_tree_143 : decode prog_14_method_161_code 143 = .ok (.invokevirtual 684, 3) := by decide +kernel
theorem d_X12_tree_146 : decode prog_14_method_161_code 146 = .ok (.ifCond .ne 21, 3) := by decide +kernel
theorem d_X12_tree_149 : decode prog_14_method_161_code 149 = .ok (.goto 11, 3) := by decide +kernel
theorem d_X12_tree_152 : decode prog_14_method_161_code 152 = .ok (.aload_n 0, 1) := by decide +kernel
theorem d_X12_tree_153 : decode prog_14_method_161_code 153 = .ok (.iload_n 1, 1) := by decide +kernel
theorem d_X12_tree_154 : decode prog_14_method_161_code 154 = .ok (.invokevirtual 687, 3) := by decide +kernel
theorem d_X12_tree_157 : decode prog_14_method_161_code 157 = .ok (.ifCond .ne 10, 3) := by decide +kernel
theorem d_X12_tree_160 : decode prog_14_method_161_code 160 = .ok (.aload_n 0, 1) := by decide +kernel
theorem d_X12_tree_161 : decode prog_14_method_161_code 161 = .ok (.bipush 8, 2) := by decide +kernel
theorem d_X12_tree_163 : decode prog_14_method_161_code 163 = .ok (.iload_n 2, 1) := by decide +kernel
theorem d_X12_tree_164 : decode prog_14_method_161_code 164 = .ok (.invokevirtual 317, 3) := by decide +kernel
theorem d_X12_tree_167 : decode prog_14_method_161_code 167 = .ok (.aload_n 0, 1) := by decide +kernel
theorem d_X12_tree_168 : decode prog_14_method_161_code 168 = .ok (.invokevirtual 324, 3) := by decide +kernel
theorem d_X12_tree_171 : decode prog_14_method_161_code 171 = .ok (.goto 72, 3) := by decide +kernel
theorem d_X12_tree_174 : decode prog_14_method_161_code 174 = .ok (.aload_n 0, 1) := by decide +kernel
theorem d_X12_tree_175 : decode prog_14_method_161_code 175 = .ok (.getfield 292, 3) := by decide +kernel
theorem d_X12_tree_178 : decode prog_14_method_161_code 178 = .ok (.iconst 1, 1) := by decide +kernel
theorem d_X12_tree_179 : decode prog_14_method_161_code 179 = .ok (.if_icmp .ne 60, 3) := by decide +kernel
theorem d_X12_tree_182 : decode prog_14_method_161_code 182 = .ok (.aload_n 0, 1) := by decide +kernel
theorem d_X12_tree_183 : decode prog_14_method_161_code 183 = .ok (.iload_n 1, 1) := by decide +kernel
theorem d_X12_tree_184 : decode prog_14_method_161_code 184 = .ok (.invokevirtual 341, 3) := by decide +kernel
theorem d_X12_tree_187 : decode prog_14_method_161_code 187 = .ok (.istore_n 3, 1) := by decide +kernel
theorem d_X12_tree_188 : decode prog_14_method_161_code 188 = .ok (.iload_n 3, 1) := by decide +kernel
theorem d_X12_tree_189 : decode prog_14_method_161_code 189 = .ok (.bipush 100, 2) := by decide +kernel
theorem d_X12_tree_191 : decode prog_14_method_161_code 191 = .ok (.if_icmp .lt 22, 3) := by decide +kernel
theorem d_X12_tree_194 : decode prog_14_method_161_code 194 = .ok (.iload_n 3, 1) := by decide +kernel
theorem d_X12_tree_195 : decode prog_14_method_161_code 195 = .ok (.sipush 200, 3) := by decide +kernel
theorem d_X12_tree_198 : decode prog_14_method_161_code 198 = .ok (.if_icmp .ge 15, 3) := by decide +kernel
theorem d_X12_tree_201 : decode prog_14_method_161_code 201 = .ok (.aload_n 0, 1) := by decide +kernel
theorem d_X12_tree_202 : decode prog_14_method_161_code 202 = .ok (.getfield 193, 3) := by decide +kernel
theorem d_X12_tree_205 : decode prog_14_method_161_code 205 = .ok (.iload_n 3, 1) := by decide +kernel
theorem d_X12_tree_206 : decode prog_14_method_161_code 206 = .ok (.bipush 100, 2) := by decide +kernel
theorem d_X12_tree_208 : decode prog_14_method_161_code 208 = .ok (.isub, 1) := by decide +kernel
theorem d_X12_tree_209 : decode prog_14_method_161_code 209 = .ok (.iaload, 1) := by decide +kernel
theorem d_X12_tree_210 : decode prog_14_method_161_code 210 = .ok (.ifCond .lt 13, 3) := by decide +kernel
theorem d_X12_tree_213 : decode prog_14_method_161_code 213 = .ok (.aload_n 0, 1) := by decide +kernel
theorem d_X12_tree_214 : decode prog_14_method_161_code 214 = .ok (.iconst 4, 1) := by decide +kernel
theorem d_X12_tree_215 : decode prog_14_method_161_code 215 = .ok (.aload_n 0, 1) := by decide +kernel
theorem d_X12_tree_216 : decode prog_14_method_161_code 216 = .ok (.getfield 241, 3) := by decide +kernel
theorem d_X12_tree_219 : decode prog_14_method_161_code 219 = .ok (.invokevirtual 317, 3) := by decide +kernel
theorem d_X12_tree_222 : decode prog_14_method_161_code 222 = .ok (.return_, 1) := by decide +kernel
theorem d_X12_tree_223 : decode prog_14_method_161_code 223 = .ok (.aload_n 0, 1) := by decide +kernel
theorem d_X12_tree_224 : decode prog_14_method_161_code 224 = .ok (.invokevirtual 324, 3) := by decide +kernel
theorem d_X12_tree_227 : decode prog_14_method_161_code 227 = .ok (.aload_n 0, 1) := by decide +kernel
theorem d_X12_tree_228 : decode prog_14_method_161_code 228 = .ok (.iload_n 1, 1) := by decide +kernel
theorem d_X12_tree_229 : decode prog_14_method_161_code 229 = .ok (.iload_n 3, 1) := by decide +kernel
theorem d_X12_tree_230 : decode prog_14_method_161_code 230 = .ok (.bipush 100, 2) := by decide +kernel
theorem d_X12_tree_232 : decode prog_14_method_161_code 232 = .ok (.isub, 1) := by decide +kernel
theorem d_X12_tree_233 : decode prog_14_method_161_code 233 = .ok (.invokevirtual 690, 3) := by decide +kernel
theorem d_X12_tree_236 : decode prog_14_method_161_code 236 = .ok (.goto 7, 3) := by decide +kernel
theorem d_X12_tree_239 : decode prog_14_method_161_code 239 = .ok (.aload_n 0, 1) := by decide +kernel
theorem d_X12_tree_240 : decode prog_14_method_161_code 240 = .ok (.invokevirtual 327, 3) := by decide +kernel
theorem d_X12_tree_243 : decode prog_14_method_161_code 243 = .ok (.return_, 1) := by decide +kernel
theorem v_X12_tree_0 {E : EE} {d : Nat} {Q : Option AV → AH → Prop} {x0 : Nat} {x1 : Int32} {G : AH} (h0 : 0 < d) (h : isO E G x0 12 ∧ (((gI G x0 45) = 0 → (¬ (gI G x0 41) = 33 → ((gI G x0 41) = 46 → wp E d M_X12_tree 132 [some (vr x0), some (vi x1), some (vi (gI G x0 43)), none] [] G Q) ∧ (¬ ((gI G x0 41) = 46) → (¬ (gI G x0 41) = 60 → (¬ (gI G x0 41) = 1 → wpV E (d - 1) M_X12_failHere [vr x0] G (fun G2 => Q none G2)) ∧ ((gI G x0 41) = 1 → wpI E (d - 1) M_X12_meaning [vr x0, vi x1] G (fun r3 G4 => (r3 < 100 → wp E d M_X12_tree 213 [some (vr x0), some (vi x1), some (vi (gI G x0 43)), some (vi r3)] [] G4 Q) ∧ (¬ (r3 < 100) → (200 ≤ r3 → wp E d M_X12_tree 213 [some (vr x0), some (vi x1), some (vi (gI G x0 43)), some (vi r3)] [] G4 Q) ∧ (¬ (200 ≤ r3) → isO E G4 x0 12 ∧ (isO E G4 (gR G4 x0 83) 14 ∧ (vp_in (r3 - 100) (gN G4 (gR G4 x0 83)) ∧ (((gI G4 (gR G4 x0 83) (Int32.toNatClampNeg (r3 - 100))) < 0 → wpV E (d - 1) M_X12_next [vr x0] G4 (fun G8 => isO E G8 x0 12 ∧ (wpV E (d - 1) M_X12_trees [vr x0, vi x1, vi (r3 - 100)] G8 (fun G9 => Q none G9)))) ∧ (¬ ((gI G4 (gR G4 x0 83) (Int32.toNatClampNeg (r3 - 100))) < 0) → wp E d M_X12_tree 213 [some (vr x0), some (vi x1), some (vi (gI G x0 43)), some (vi r3)] [] G4 Q))))))))) ∧ ((gI G x0 41) = 60 → wp E d M_X12_tree 132 [some (vr x0), some (vi x1), some (vi (gI G x0 43)), none] [] G Q))) ∧ ((gI G x0 41) = 33 → wpV E (d - 1) M_X12_next [vr x0] G (fun G11 => isO E G11 x0 12 ∧ (((gI G11 x0 41) = 1 → wpI E (d - 1) M_X12_meaning [vr x0, vi x1] G11 (fun r13 G14 => (r13 < 200 → wp E d M_X12_tree 77 [some (vr x0), some (vi x1), some (vi (gI G x0 43)), some (vi r13)] [] G14 Q) ∧ (¬ (r13 < 200) → (300 ≤ r13 → wp E d M_X12_tree 77 [some (vr x0), some (vi x1), some (vi (gI G x0 43)), some (vi r13)] [] G14 Q) ∧ (¬ (300 ≤ r13) → isO E G14 x0 12 ∧ (isO E G14 (gR G14 x0 27) 14 ∧ (vp_in (((24 * x1) + r13) - 200) (gN G14 (gR G14 x0 27)) ∧ (((gI G14 (gR G14 x0 27) (Int32.toNatClampNeg (((24 * x1) + r13) - 200))) = 0 → wpI E (d - 1) M_X12_breaksAlways [vr x0, vi x1, vi (r13 - 200)] G14 (fun r18 G19 => (¬ r18 = 0 → wp E d M_X12_tree 107 [some (vr x0), some (vi x1), some (vi (gI G x0 43)), some (vi r13)] [] G19 Q) ∧ (r18 = 0 → isO E G19 x0 12 ∧ (wpV E (d - 1) M_X12_fail [vr x0, vi 8, vi (gI G x0 43)] G19 (fun G20 => wp E d M_X12_tree 107 [some (vr x0), some (vi x1), some (vi (gI G x0 43)), some (vi r13)] [] G20 Q))))) ∧ (¬ ((gI G14 (gR G14 x0 27) (Int32.toNatClampNeg (((24 * x1) + r13) - 200))) = 0) → wp E d M_X12_tree 77 [some (vr x0), some (vi x1), some (vi (gI G x0 43)), some (vi r13)] [] G14 Q)))))))) ∧ (¬ ((gI G11 x0 41) = 1) → wpV E (d - 1) M_X12_failHere [vr x0] G11 (fun G22 => Q none G22)))))) ∧ (¬ ((gI G x0 45) = 0) → Q none G))) : wp E d M_X12_tree 0 [some (vr x0), some (vi x1), none, none] [] G Q := by
  refine wp_aload_n (pc := 0) d_X12_tree_0 rfl ?_
  obtain ⟨ho1, h⟩ := h
  refine wp_getI (pc := 1) d_X12_tree_1 fl_X12_311 (fun _ _ _ => rfl) ho1 ?_
  refine wp_if_eq (pc := 4) (tgt := 8) d_X12_tree_4 (by decide) (fun hc => ?_) (fun hc => ?_)
  · have h := h.1 hc
    refine wp_aload_n (pc := 8) d_X12_tree_8 rfl ?_
    refine wp_getI (pc := 9) d_X12_tree_9 fl_X12_241 (fun _ _ _ => rfl) ho1 ?_
    refine wp_istore_n (pc := 12) (lv' := [some (vr _), some (vi _), some (vi _), none]) d_X12_tree_12 (by decide) rfl ?_
    refine wp_aload_n (pc := 13) d_X12_tree_13 rfl ?_
    refine wp_getI (pc := 14) d_X12_tree_14 fl_X12_292 (fun _ _ _ => rfl) ho1 ?_
    refine wp_bipush (pc := 17) (v := 33) d_X12_tree_17 rfl ?_
    refine wp_icmp_ne (pc := 19) (tgt := 114) d_X12_tree_19 (by decide) (fun hc => ?_) (fun hc => ?_)
    · have h := h.1 hc
      refine wp_aload_n (pc := 114) d_X12_tree_114 rfl ?_
      refine wp_getI (pc := 115) d_X12_tree_115 fl_X12_292 (fun _ _ _ => rfl) ho1 ?_
      refine wp_bipush (pc := 118) (v := 46) d_X12_tree_118 rfl ?_
      refine wp_icmp_eq (pc := 120) (tgt := 132) d_X12_tree_120 (by decide) (fun hc => ?_) (fun hc => ?_)
      · have h := h.1 hc
        refine wp_sub ?_ h
        exact ⟨rfl, ⟨rfl, ⟨rfl, trivial⟩⟩⟩
      · have h := h.2 hc
        refine wp_aload_n (pc := 123) d_X12_tree_123 rfl ?_
        refine wp_getI (pc := 124) d_X12_tree_124 fl_X12_292 (fun _ _ _ => rfl) ho1 ?_
        refine wp_bipush (pc := 127) (v := 60) d_X12_tree_127 rfl ?_
        refine wp_icmp_ne (pc := 129) (tgt := 174) d_X12_tree_129 (by decide) (fun hc => ?_) (fun hc => ?_)
        · have h := h.1 hc
          refine wp_aload_n (pc := 174) d_X12_tree_174 rfl ?_
          refine wp_getI (pc := 175) d_X12_tree_175 fl_X12_292 (fun _ _ _ => rfl) ho1 ?_
          refine wp_iconst (pc := 178) (v := 1) d_X12_tree_178 rfl ?_
          refine wp_icmp_ne (pc := 179) (tgt := 239) d_X12_tree_179 (by decide) (fun hc => ?_) (fun hc => ?_)
          · have h := h.1 hc
            refine wp_aload_n (pc := 239) d_X12_tree_239 rfl ?_
            refine wp_invV (pc := 240) (N := M_X12_failHere) (As := []) (rest := []) (r := (cn_12, ct_12, 95)) d_X12_tree_240 ml_X12_327 mk_X12_failHere mv_X12_failHere h0 ho1 rfl rfl (Nat.le_of_ble_eq_true rfl) ?_
            refine wpM.mono h (fun rr G2 hr => ?_)
            obtain ⟨rfl, h⟩ := hr
            show wp E d M_X12_tree 243 [some (vr _), some (vi _), some (vi _), none] [] G2 Q
            exact wp_vret (pc := 243) d_X12_tree_243 rfl h
          · have h := h.2 hc
            refine wp_aload_n (pc := 182) d_X12_tree_182 rfl ?_
            refine wp_iload_n (pc := 183) d_X12_tree_183 rfl ?_
            refine wp_invV (pc := 184) (N := M_X12_meaning) (As := [vi _]) (rest := []) (r := (cn_12, ct_12, 95)) d_X12_tree_184 ml_X12_341 mk_X12_meaning mv_X12_meaning h0 ho1 rfl rfl (Nat.le_of_ble_eq_true rfl) ?_
            refine wpM.mono h (fun rr G4 hr => ?_)
            obtain ⟨r3, rfl, h⟩ := hr
            show wp E d M_X12_tree 187 [some (vr _), some (vi _), some (vi _), none] [vi _] G4 Q
            refine wp_istore_n (pc := 187) (lv' := [some (vr _), some (vi _), some (vi _), some (vi _)]) d_X12_tree_187 (by decide) rfl ?_
            refine wp_iload_n (pc := 188) d_X12_tree_188 rfl ?_
            refine wp_bipush (pc := 189) (v := 100) d_X12_tree_189 rfl ?_
            refine wp_icmp_lt (pc := 191) (tgt := 213) d_X12_tree_191 (by decide) (fun hc => ?_) (fun hc => ?_)
            · have h := h.1 hc
              refine wp_sub ?_ h
              exact ⟨rfl, ⟨rfl, ⟨rfl, ⟨rfl, trivial⟩⟩⟩⟩
            · have h := h.2 hc
              refine wp_iload_n (pc := 194) d_X12_tree_194 rfl ?_
              refine wp_sipush (pc := 195) (v := 200) d_X12_tree_195 rfl ?_
              refine wp_icmp_ge (pc := 198) (tgt := 213) d_X12_tree_198 (by decide) (fun hc => ?_) (fun hc => ?_)
              · have h := h.1 hc
                refine wp_sub ?_ h
                exact ⟨rfl, ⟨rfl, ⟨rfl, ⟨rfl, trivial⟩⟩⟩⟩
              · have h := h.2 hc
                refine wp_aload_n (pc := 201) d_X12_tree_201 rfl ?_
                obtain ⟨ho5, h⟩ := h
                refine wp_getR (pc := 202) d_X12_tree_202 fl_X12_193 (fun _ _ _ => rfl) ho5 ?_
                refine wp_iload_n (pc := 205) d_X12_tree_205 rfl ?_
                refine wp_bipush (pc := 206) (v := 100) d_X12_tree_206 rfl ?_
                refine wp_isub (pc := 208) d_X12_tree_208 ?_
                obtain ⟨ho6, h⟩ := h
                obtain ⟨hi7, h⟩ := h
                refine wp_iald (pc := 209) d_X12_tree_209 ho6 hi7 ?_
                refine wp_if_lt (pc := 210) (tgt := 223) d_X12_tree_210 (by decide) (fun hc => ?_) (fun hc => ?_)
                · have h := h.1 hc
                  refine wp_aload_n (pc := 223) d_X12_tree_223 rfl ?_
                  refine wp_invV (pc := 224) (N := M_X12_next) (As := []) (rest := []) (r := (cn_12, ct_12, 95)) d_X12_tree_224 ml_X12_324 mk_X12_next mv_X12_next h0 ho5 rfl rfl (Nat.le_of_ble_eq_true rfl) ?_
                  refine wpM.mono h (fun rr G8 hr => ?_)
                  obtain ⟨rfl, h⟩ := hr
                  show wp E d M_X12_tree 227 [some (vr _), some (vi _), some (vi _), some (vi _)] [] G8 Q
                  refine wp_aload_n (pc := 227) d_X12_tree_227 rfl ?_
                  refine wp_iload_n (pc := 228) d_X12_tree_228 rfl ?_
                  refine wp_iload_n (pc := 229) d_X12_tree_229 rfl ?_
                  refine wp_bipush (pc := 230) (v := 100) d_X12_tree_230 rfl ?_
                  refine wp_isub (pc := 232) d_X12_tree_232 ?_
                  obtain ⟨ho10, h⟩ := h
                  refine wp_invV (pc := 233) (N := M_X12_trees) (As := [vi _, vi _]) (rest := []) (r := (cn_12, ct_12, 95)) d_X12_tree_233 ml_X12_690 mk_X12_trees mv_X12_trees h0 ho10 rfl rfl (Nat.le_of_ble_eq_true rfl) ?_
                  refine wpM.mono h (fun rr G9 hr => ?_)
                  obtain ⟨rfl, h⟩ := hr
                  show wp E d M_X12_tree 236 [some (vr _), some (vi _), some (vi _), some (vi _)] [] G9 Q
                  refine wp_goto (pc := 236) (tgt := 243) d_X12_tree_236 (by decide) ?_
                  exact wp_vret (pc := 243) d_X12_tree_243 rfl h
                · have h := h.2 hc
                  refine wp_sub ?_ h
                  exact ⟨rfl, ⟨rfl, ⟨rfl, ⟨rfl, trivial⟩⟩⟩⟩
        · have h := h.2 hc
          refine wp_sub ?_ h
          exact ⟨rfl, ⟨rfl, ⟨rfl, trivial⟩⟩⟩
    · have h := h.2 hc
      refine wp_aload_n (pc := 22) d_X12_tree_22 rfl ?_
      refine wp_invV (pc := 23) (N := M_X12_next) (As := []) (rest := []) (r := (cn_12, ct_12, 95)) d_X12_tree_23 ml_X12_324 mk_X12_next mv_X12_next h0 ho1 rfl rfl (Nat.le_of_ble_eq_true rfl) ?_
      refine wpM.mono h (fun rr G11 hr => ?_)
      obtain ⟨rfl, h⟩ := hr
      show wp E d M_X12_tree 26 [some (vr _), some (vi _), some (vi _), none] [] G11 Q
      refine wp_aload_n (pc := 26) d_X12_tree_26 rfl ?_
      obtain ⟨ho12, h⟩ := h
      refine wp_getI (pc := 27) d_X12_tree_27 fl_X12_292 (fun _ _ _ => rfl) ho12 ?_
      refine wp_iconst (pc := 30) (v := 1) d_X12_tree_30 rfl ?_
      refine wp_icmp_eq (pc := 31) (tgt := 39) d_X12_tree_31 (by decide) (fun hc => ?_) (fun hc => ?_)
      · have h := h.1 hc
        refine wp_aload_n (pc := 39) d_X12_tree_39 rfl ?_
        refine wp_iload_n (pc := 40) d_X12_tree_40 rfl ?_
        refine wp_invV (pc := 41) (N := M_X12_meaning) (As := [vi _]) (rest := []) (r := (cn_12, ct_12, 95)) d_X12_tree_41 ml_X12_341 mk_X12_meaning mv_X12_meaning h0 ho12 rfl rfl (Nat.le_of_ble_eq_true rfl) ?_
        refine wpM.mono h (fun rr G14 hr => ?_)
        obtain ⟨r13, rfl, h⟩ := hr
        show wp E d M_X12_tree 44 [some (vr _), some (vi _), some (vi _), none] [vi _] G14 Q
        refine wp_istore_n (pc := 44) (lv' := [some (vr _), some (vi _), some (vi _), some (vi _)]) d_X12_tree_44 (by decide) rfl ?_
        refine wp_iload_n (pc := 45) d_X12_tree_45 rfl ?_
        refine wp_sipush (pc := 46) (v := 200) d_X12_tree_46 rfl ?_
        refine wp_icmp_lt (pc := 49) (tgt := 77) d_X12_tree_49 (by decide) (fun hc => ?_) (fun hc => ?_)
        · have h := h.1 hc
          refine wp_sub ?_ h
          exact ⟨rfl, ⟨rfl, ⟨rfl, ⟨rfl, trivial⟩⟩⟩⟩
        · have h := h.2 hc
          refine wp_iload_n (pc := 52) d_X12_tree_52 rfl ?_
          refine wp_sipush (pc := 53) (v := 300) d_X12_tree_53 rfl ?_
          refine wp_icmp_ge (pc := 56) (tgt := 77) d_X12_tree_56 (by decide) (fun hc => ?_) (fun hc => ?_)
          · have h := h.1 hc
            refine wp_sub ?_ h
            exact ⟨rfl, ⟨rfl, ⟨rfl, ⟨rfl, trivial⟩⟩⟩⟩
          · have h := h.2 hc
            refine wp_aload_n (pc := 59) d_X12_tree_59 rfl ?_
            obtain ⟨ho15, h⟩ := h
            refine wp_getR (pc := 60) d_X12_tree_60 fl_X12_88 (fun _ _ _ => rfl) ho15 ?_
            refine wp_bipush (pc := 63) (v := 24) d_X12_tree_63 rfl ?_
            refine wp_iload_n (pc := 65) d_X12_tree_65 rfl ?_
            refine wp_imul (pc := 66) d_X12_tree_66 ?_
            refine wp_iload_n (pc := 67) d_X12_tree_67 rfl ?_
            refine wp_iadd (pc := 68) d_X12_tree_68 ?_
            refine wp_sipush (pc := 69) (v := 200) d_X12_tree_69 rfl ?_
            refine wp_isub (pc := 72) d_X12_tree_72 ?_
            obtain ⟨ho16, h⟩ := h
            obtain ⟨hi17, h⟩ := h
            refine wp_iald (pc := 73) d_X12_tree_73 ho16 hi17 ?_
            refine wp_if_eq (pc := 74) (tgt := 87) d_X12_tree_74 (by decide) (fun hc => ?_) (fun hc => ?_)
            · have h := h.1 hc
              refine wp_aload_n (pc := 87) d_X12_tree_87 rfl ?_
              refine wp_iload_n (pc := 88) d_X12_tree_88 rfl ?_
              refine wp_iload_n (pc := 89) d_X12_tree_89 rfl ?_
              refine wp_sipush (pc := 90) (v := 200) d_X12_tree_90 rfl ?_
              refine wp_isub (pc := 93) d_X12_tree_93 ?_
              refine wp_invV (pc := 94) (N := M_X12_breaksAlways) (As := [vi _, vi _]) (rest := []) (r := (cn_12, ct_12, 95)) d_X12_tree_94 ml_X12_681 mk_X12_breaksAlways mv_X12_breaksAlways h0 ho15 rfl rfl (Nat.le_of_ble_eq_true rfl) ?_
              refine wpM.mono h (fun rr G19 hr => ?_)
              obtain ⟨r18, rfl, h⟩ := hr
              show wp E d M_X12_tree 97 [some (vr _), some (vi _), some (vi _), some (vi _)] [vi _] G19 Q
              refine wp_if_ne (pc := 97) (tgt := 107) d_X12_tree_97 (by decide) (fun hc => ?_) (fun hc => ?_)
              · have h := h.1 hc
                refine wp_sub ?_ h
                exact ⟨rfl, ⟨rfl, ⟨rfl, ⟨rfl, trivial⟩⟩⟩⟩
              · have h := h.2 hc
                refine wp_aload_n (pc := 100) d_X12_tree_100 rfl ?_
                refine wp_bipush (pc := 101) (v := 8) d_X12_tree_101 rfl ?_
                refine wp_iload_n (pc := 103) d_X12_tree_103 rfl ?_
                obtain ⟨ho21, h⟩ := h
                refine wp_invV (pc := 104) (N := M_X12_fail) (As := [vi _, vi _]) (rest := []) (r := (cn_12, ct_12, 95)) d_X12_tree_104 ml_X12_317 mk_X12_fail mv_X12_fail h0 ho21 rfl rfl (Nat.le_of_ble_eq_true rfl) ?_
                refine wpM.mono h (fun rr G20 hr => ?_)
                obtain ⟨rfl, h⟩ := hr
                show wp E d M_X12_tree 107 [some (vr _), some (vi _), some (vi _), some (vi _)] [] G20 Q
                refine wp_sub ?_ h
                exact ⟨rfl, ⟨rfl, ⟨rfl, ⟨rfl, trivial⟩⟩⟩⟩
            · have h := h.2 hc
              refine wp_sub ?_ h
              exact ⟨rfl, ⟨rfl, ⟨rfl, ⟨rfl, trivial⟩⟩⟩⟩
      · have h := h.2 hc
        refine wp_aload_n (pc := 34) d_X12_tree_34 rfl ?_
        refine wp_invV (pc := 35) (N := M_X12_failHere) (As := []) (rest := []) (r := (cn_12, ct_12, 95)) d_X12_tree_35 ml_X12_327 mk_X12_failHere mv_X12_failHere h0 ho12 rfl rfl (Nat.le_of_ble_eq_true rfl) ?_
        refine wpM.mono h (fun rr G22 hr => ?_)
        obtain ⟨rfl, h⟩ := hr
        show wp E d M_X12_tree 38 [some (vr _), some (vi _), some (vi _), none] [] G22 Q
        exact wp_vret (pc := 38) d_X12_tree_38 rfl h
  · have h := h.2 hc
    exact wp_vret (pc := 7) d_X12_tree_7 rfl h
theorem v_X12_tree_77 {E : EE} {d : Nat} {Q : Option AV → AH → Prop} {x0 : Nat} {x1 : Int32} {x2 : Int32} {x3 : Int32} {G : AH} (h0 : 0 < d) (h : isO E G x0 12 ∧ (wpV E (d - 1) M_X12_fail [vr x0, vi 4, vi (gI G x0 43)] G (fun G2 => Q none G2))) : wp E d M_X12_tree 77 [some (vr x0), some (vi x1), some (vi x2), some (vi x3)] [] G Q := by
  refine wp_aload_n (pc := 77) d_X12_tree_77 rfl ?_
  refine wp_iconst (pc := 78) (v := 4) d_X12_tree_78 rfl ?_
  refine wp_aload_n (pc := 79) d_X12_tree_79 rfl ?_
  obtain ⟨ho1, h⟩ := h
  refine wp_getI (pc := 80) d_X12_tree_80 fl_X12_241 (fun _ _ _ => rfl) ho1 ?_
  refine wp_invV (pc := 83) (N := M_X12_fail) (As := [vi _, vi _]) (rest := []) (r := (cn_12, ct_12, 95)) d_X12_tree_83 ml_X12_317 mk_X12_fail mv_X12_fail h0 ho1 rfl rfl (Nat.le_of_ble_eq_true rfl) ?_
  refine wpM.mono h (fun rr G2 hr => ?_)
  obtain ⟨rfl, h⟩ := hr
  show wp E d M_X12_tree 86 [some (vr _), some (vi _), some (vi _), some (vi _)] [] G2 Q
  exact wp_vret (pc := 86) d_X12_tree_86 rfl h
theorem v_X12_tree_107 {E : EE} {d : Nat} {Q : Option AV → AH → Prop} {x0 : Nat} {x1 : Int32} {x2 : Int32} {x3 : Int32} {G : AH} (h0 : 0 < d) (h : isO E G x0 12 ∧ (wpV E (d - 1) M_X12_next [vr x0] G (fun G1 => Q none G1))) : wp E d M_X12_tree 107 [some (vr x0), some (vi x1), some (vi x2), some (vi x3)] [] G Q := by
  refine wp_aload_n (pc := 107) d_X12_tree_107 rfl ?_
  obtain ⟨ho2, h⟩ := h
  refine wp_invV (pc := 108) (N := M_X12_next) (As := []) (rest := []) (r := (cn_12, ct_12, 95)) d_X12_tree_108 ml_X12_324 mk_X12_next mv_X12_next h0 ho2 rfl rfl (Nat.le_of_ble_eq_true rfl) ?_
  refine wpM.mono h (fun rr G1 hr => ?_)
  obtain ⟨rfl, h⟩ := hr
  show wp E d M_X12_tree 111 [some (vr _), some (vi _), some (vi _), some (vi _)] [] G1 Q
  refine wp_goto (pc := 111) (tgt := 243) d_X12_tree_111 (by decide) ?_
  exact wp_vret (pc := 243) d_X12_tree_243 rfl h
theorem v_X12_tree_132 {E : EE} {d : Nat} {Q : Option AV → AH → Prop} {x0 : Nat} {x1 : Int32} {x2 : Int32} {G : AH} (h0 : 0 < d) (h : isO E G x0 12 ∧ ((¬ (gI G x0 41) = 46 → wpI E (d - 1) M_X12_isBound [vr x0, vi x1] G (fun r2 G3 => (¬ r2 = 0 → wp E d M_X12_tree 167 [some (vr x0), some (vi x1), some (vi x2), none] [] G3 Q) ∧ (r2 = 0 → wp E d M_X12_tree 160 [some (vr x0), some (vi x1), some (vi x2), none] [] G3 Q))) ∧ ((gI G x0 41) = 46 → wpI E (d - 1) M_X12_isPoint [vr x0, vi x1] G (fun r4 G5 => (¬ r4 = 0 → wp E d M_X12_tree 167 [some (vr x0), some (vi x1), some (vi x2), none] [] G5 Q) ∧ (r4 = 0 → wp E d M_X12_tree 160 [some (vr x0), some (vi x1), some (vi x2), none] [] G5 Q))))) : wp E d M_X12_tree 132 [some (vr x0), some (vi x1), some (vi x2), none] [] G Q := by
  refine wp_aload_n (pc := 132) d_X12_tree_132 rfl ?_
  obtain ⟨ho1, h⟩ := h
  refine wp_getI (pc := 133) d_X12_tree_133 fl_X12_292 (fun _ _ _ => rfl) ho1 ?_
  refine wp_bipush (pc := 136) (v := 46) d_X12_tree_136 rfl ?_
  refine wp_icmp_ne (pc := 138) (tgt := 152) d_X12_tree_138 (by decide) (fun hc => ?_) (fun hc => ?_)
  · have h := h.1 hc
    refine wp_aload_n (pc := 152) d_X12_tree_152 rfl ?_
    refine wp_iload_n (pc := 153) d_X12_tree_153 rfl ?_
    refine wp_invV (pc := 154) (N := M_X12_isBound) (As := [vi _]) (rest := []) (r := (cn_12, ct_12, 95)) d_X12_tree_154 ml_X12_687 mk_X12_isBound mv_X12_isBound h0 ho1 rfl rfl (Nat.le_of_ble_eq_true rfl) ?_
    refine wpM.mono h (fun rr G3 hr => ?_)
    obtain ⟨r2, rfl, h⟩ := hr
    show wp E d M_X12_tree 157 [some (vr _), some (vi _), some (vi _), none] [vi _] G3 Q
    refine wp_if_ne (pc := 157) (tgt := 167) d_X12_tree_157 (by decide) (fun hc => ?_) (fun hc => ?_)
    · have h := h.1 hc
      refine wp_sub ?_ h
      exact ⟨rfl, ⟨rfl, ⟨rfl, trivial⟩⟩⟩
    · have h := h.2 hc
      refine wp_sub ?_ h
      exact ⟨rfl, ⟨rfl, ⟨rfl, trivial⟩⟩⟩
  · have h := h.2 hc
    refine wp_aload_n (pc := 141) d_X12_tree_141 rfl ?_
    refine wp_iload_n (pc := 142) d_X12_tree_142 rfl ?_
    refine wp_invV (pc := 143) (N := M_X12_isPoint) (As := [vi _]) (rest := []) (r := (cn_12, ct_12, 95)) d_X12_tree_143 ml_X12_684 mk_X12_isPoint mv_X12_isPoint h0 ho1 rfl rfl (Nat.le_of_ble_eq_true rfl) ?_
    refine wpM.mono h (fun rr G5 hr => ?_)
    obtain ⟨r4, rfl, h⟩ := hr
    show wp E d M_X12_tree 146 [some (vr _), some (vi _), some (vi _), none] [vi _] G5 Q
    refine wp_if_ne (pc := 146) (tgt := 167) d_X12_tree_146 (by decide) (fun hc => ?_) (fun hc => ?_)
    · have h := h.1 hc
      refine wp_sub ?_ h
      exact ⟨rfl, ⟨rfl, ⟨rfl, trivial⟩⟩⟩
    · have h := h.2 hc
      refine wp_goto (pc := 149) (tgt := 160) d_X12_tree_149 (by decide) ?_
      refine wp_sub ?_ h
      exact ⟨rfl, ⟨rfl, ⟨rfl, trivial⟩⟩⟩
theorem v_X12_tree_160 {E : EE} {d : Nat} {Q : Option AV → AH → Prop} {x0 : Nat} {x1 : Int32} {x2 : Int32} {G : AH} (h0 : 0 < d) (h : isO E G x0 12 ∧ (wpV E (d - 1) M_X12_fail [vr x0, vi 8, vi x2] G (fun G1 => wp E d M_X12_tree 167 [some (vr x0), some (vi x1), some (vi x2), none] [] G1 Q))) : wp E d M_X12_tree 160 [some (vr x0), some (vi x1), some (vi x2), none] [] G Q := by
  refine wp_aload_n (pc := 160) d_X12_tree_160 rfl ?_
  refine wp_bipush (pc := 161) (v := 8) d_X12_tree_161 rfl ?_
  refine wp_iload_n (pc := 163) d_X12_tree_163 rfl ?_
  obtain ⟨ho2, h⟩ := h
  refine wp_invV (pc := 164) (N := M_X12_fail) (As := [vi _, vi _]) (rest := []) (r := (cn_12, ct_12, 95)) d_X12_tree_164 ml_X12_317 mk_X12_fail mv_X12_fail h0 ho2 rfl rfl (Nat.le_of_ble_eq_true rfl) ?_
  refine wpM.mono h (fun rr G1 hr => ?_)
  obtain ⟨rfl, h⟩ := hr
  show wp E d M_X12_tree 167 [some (vr _), some (vi _), some (vi _), none] [] G1 Q
  refine wp_sub ?_ h
  exact ⟨rfl, ⟨rfl, ⟨rfl, trivial⟩⟩⟩
theorem v_X12_tree_167 {E : EE} {d : Nat} {Q : Option AV → AH → Prop} {x0 : Nat} {x1 : Int32} {x2 : Int32} {G : AH} (h0 : 0 < d) (h : isO E G x0 12 ∧ (wpV E (d - 1) M_X12_next [vr x0] G (fun G1 => Q none G1))) : wp E d M_X12_tree 167 [some (vr x0), some (vi x1), some (vi x2), none] [] G Q := by
  refine wp_aload_n (pc := 167) d_X12_tree_167 rfl ?_
  obtain ⟨ho2, h⟩ := h
  refine wp_invV (pc := 168) (N := M_X12_next) (As := []) (rest := []) (r := (cn_12, ct_12, 95)) d_X12_tree_168 ml_X12_324 mk_X12_next mv_X12_next h0 ho2 rfl rfl (Nat.le_of_ble_eq_true rfl) ?_
  refine wpM.mono h (fun rr G1 hr => ?_)
  obtain ⟨rfl, h⟩ := hr
  show wp E d M_X12_tree 171 [some (vr _), some (vi _), some (vi _), none] [] G1 Q
  refine wp_goto (pc := 171) (tgt := 243) d_X12_tree_171 (by decide) ?_
  exact wp_vret (pc := 243) d_X12_tree_243 rfl h
theorem v_X12_tree_213 {E : EE} {d : Nat} {Q : Option AV → AH → Prop} {x0 : Nat} {x1 : Int32} {x2 : Int32} {x3 : Int32} {G : AH} (h0 : 0 < d) (h : isO E G x0 12 ∧ (wpV E (d - 1) M_X12_fail [vr x0, vi 4, vi (gI G x0 43)] G (fun G2 => Q none G2))) : wp E d M_X12_tree 213 [some (vr x0), some (vi x1), some (vi x2), some (vi x3)] [] G Q := by
  refine wp_aload_n (pc := 213) d_X12_tree_213 rfl ?_
  refine wp_iconst (pc := 214) (v := 4) d_X12_tree_214 rfl ?_
  refine wp_aload_n (pc := 215) d_X12_tree_215 rfl ?_
  obtain ⟨ho1, h⟩ := h
  refine wp_getI (pc := 216) d_X12_tree_216 fl_X12_241 (fun _ _ _ => rfl) ho1 ?_
  refine wp_invV (pc := 219) (N := M_X12_fail) (As := [vi _, vi _]) (rest := []) (r := (cn_12, ct_12, 95)) d_X12_tree_219 ml_X12_317 mk_X12_fail mv_X12_fail h0 ho1 rfl rfl (Nat.le_of_ble_eq_true rfl) ?_
  refine wpM.mono h (fun rr G2 hr => ?_)
  obtain ⟨rfl, h⟩ := hr
  show wp E d M_X12_tree 222 [some (vr _), some (vi _), some (vi _), some (vi _)] [] G2 Q
  exact wp_vret (pc := 222) d_X12_tree_222 rfl h
theorem d_X12_breaksAlways_0 : decode prog_14_method_158_code 0 = .ok (.iconst 1, 1) := by decide +kernel
theorem d_X12_breaksAlways_1 : decode prog_14_method_158_code 1 = .ok (.istore_n 3, 1) := by decide +kernel
theorem d_X12_breaksAlways_2 : decode prog_14_method_158_code 2 = .ok (.aload_n 0, 1) := by decide +kernel
theorem d_X12_breaksAlways_3 : decode prog_14_method_158_code 3 = .ok (.iload_n 1, 1) := by decide +kernel
theorem d_X12_breaksAlways_4 : decode prog_14_method_158_code 4 = .ok (.invokevirtual 675, 3) := by decide +kernel
theorem d_X12_breaksAlways_7 : decode prog_14_method_158_code 7 = .ok (.istore 4, 2) := by decide +kernel
theorem d_X12_breaksAlways_9 : decode prog_14_method_158_code 9 = .ok (.iload_n 3, 1) := by decide +kernel
theorem d_X12_breaksAlways_10 : decode prog_14_method_158_code 10 = .ok (.ifCond .eq 42, 3) := by decide +kernel
theorem d_X12_breaksAlways_13 : decode prog_14_method_158_code 13 = .ok (.iload 4, 2) := by decide +kernel
theorem d_X12_breaksAlways_15 : decode prog_14_method_158_code 15 = .ok (.ifCond .lt 37, 3) := by decide +kernel
theorem d_X12_breaksAlways_18 : decode prog_14_method_158_code 18 = .ok (.aload_n 0, 1) := by decide +kernel
theorem d_X12_breaksAlways_19 : decode prog_14_method_158_code 19 = .ok (.getfield 151, 3) := by decide +kernel
theorem d_X12_breaksAlways_22 : decode prog_14_method_158_code 22 = .ok (.sipush 20000, 3) := by decide +kernel
theorem d_X12_breaksAlways_25 : decode prog_14_method_158_code 25 = .ok (.iload_n 2, 1) := by decide +kernel
theorem d_X12_breaksAlways_26 : decode prog_14_method_158_code 26 = .ok (.imul, 1) := by decide +kernel
theorem d_X12_breaksAlways_27 : decode prog_14_method_158_code 27 = .ok (.iload 4, 2) := by decide +kernel
theorem d_X12_breaksAlways_29 : decode prog_14_method_158_code 29 = .ok (.iadd, 1) := by decide +kernel
theorem d_X12_breaksAlways_30 : decode prog_14_method_158_code 30 = .ok (.iaload, 1) := by decide +kernel
theorem d_X12_breaksAlways_31 : decode prog_14_method_158_code 31 = .ok (.ifCond .le 7, 3) := by decide +kernel
theorem d_X12_breaksAlways_34 : decode prog_14_method_158_code 34 = .ok (.iconst 1, 1) := by decide +kernel
theorem d_X12_breaksAlways_35 : decode prog_14_method_158_code 35 = .ok (.goto 4, 3) := by decide +kernel
theorem d_X12_breaksAlways_38 : decode prog_14_method_158_code 38 = .ok (.iconst 0, 1) := by decide +kernel
theorem d_X12_breaksAlways_39 : decode prog_14_method_158_code 39 = .ok (.istore_n 3, 1) := by decide +kernel
theorem d_X12_breaksAlways_40 : decode prog_14_method_158_code 40 = .ok (.aload_n 0, 1) := by decide +kernel
theorem d_X12_breaksAlways_41 : decode prog_14_method_158_code 41 = .ok (.iload_n 1, 1) := by decide +kernel
theorem d_X12_breaksAlways_42 : decode prog_14_method_158_code 42 = .ok (.iload 4, 2) := by decide +kernel
theorem d_X12_breaksAlways_44 : decode prog_14_method_158_code 44 = .ok (.invokevirtual 678, 3) := by decide +kernel
theorem d_X12_breaksAlways_47 : decode prog_14_method_158_code 47 = .ok (.istore 4, 2) := by decide +kernel
theorem d_X12_breaksAlways_49 : decode prog_14_method_158_code 49 = .ok (.goto (-40), 3) := by decide +kernel
theorem d_X12_breaksAlways_52 : decode prog_14_method_158_code 52 = .ok (.iload_n 3, 1) := by decide +kernel
theorem d_X12_breaksAlways_53 : decode prog_14_method_158_code 53 = .ok (.ireturn, 1) := by decide +kernel
theorem v_X12_breaksAlways_0 {E : EE} {d : Nat} {Q : Option AV → AH → Prop} {x0 : Nat} {x1 : Int32} {x2 : Int32} {G : AH} (h0 : 0 < d) (h : isO E G x0 12 ∧ (wpI E (d - 1) M_X12_firstGiven [vr x0, vi x1] G (fun r1 G2 => wp E d M_X12_breaksAlways 9 [some (vr x0), some (vi x1), some (vi x2), some (vi 1), some (vi r1)] [] G2 Q))) : wp E d M_X12_breaksAlways 0 [some (vr x0), some (vi x1), some (vi x2), none, none] [] G Q := by
  refine wp_iconst (pc := 0) (v := 1) d_X12_breaksAlways_0 rfl ?_
  refine wp_istore_n (pc := 1) (lv' := [some (vr _), some (vi _), some (vi _), some (vi _), none]) d_X12_breaksAlways_1 (by decide) rfl ?_
  refine wp_aload_n (pc := 2) d_X12_breaksAlways_2 rfl ?_
  refine wp_iload_n (pc := 3) d_X12_breaksAlways_3 rfl ?_
  obtain ⟨ho3, h⟩ := h
  refine wp_invV (pc := 4) (N := M_X12_firstGiven) (As := [vi _]) (rest := []) (r := (cn_12, ct_12, 95)) d_X12_breaksAlways_4 ml_X12_675 mk_X12_firstGiven mv_X12_firstGiven h0 ho3 rfl rfl (Nat.le_of_ble_eq_true rfl) ?_
  refine wpM.mono h (fun rr G2 hr => ?_)
  obtain ⟨r1, rfl, h⟩ := hr
  show wp E d M_X12_breaksAlways 7 [some (vr _), some (vi _), some (vi _), some (vi _), none] [vi _] G2 Q
  refine wp_istore (pc := 7) (lv' := [some (vr _), some (vi _), some (vi _), some (vi _), some (vi _)]) d_X12_breaksAlways_7 (by decide) rfl ?_
  refine wp_sub ?_ h
  exact ⟨rfl, ⟨rfl, ⟨rfl, ⟨rfl, ⟨rfl, trivial⟩⟩⟩⟩⟩
theorem v_X12_breaksAlways_9 {E : EE} {d : Nat} {Q : Option AV → AH → Prop} {x0 : Nat} {x1 : Int32} {x2 : Int32} {x3 : Int32} {x4 : Int32} {G : AH} (h : (x3 = 0 → okI .boolean x3 ∧ Q (some (vi x3)) G) ∧ (¬ (x3 = 0) → (x4 < 0 → okI .boolean x3 ∧ Q (some (vi x3)) G) ∧ (¬ (x4 < 0) → isO E G x0 12 ∧ (isO E G (gR G x0 64) 14 ∧ (vp_in ((20000 * x2) + x4) (gN G (gR G x0 64)) ∧ (((gI G (gR G x0 64) (Int32.toNatClampNeg ((20000 * x2) + x4))) ≤ 0 → wp E d M_X12_breaksAlways 39 [some (vr x0), some (vi x1), some (vi x2), some (vi x3), some (vi x4)] [vi 0] G Q) ∧ (¬ ((gI G (gR G x0 64) (Int32.toNatClampNeg ((20000 * x2) + x4))) ≤ 0) → wp E d M_X12_breaksAlways 39 [some (vr x0), some (vi x1), some (vi x2), some (vi x3), some (vi x4)] [vi 1] G Q))))))) : wp E d M_X12_breaksAlways 9 [some (vr x0), some (vi x1), some (vi x2), some (vi x3), some (vi x4)] [] G Q := by
  refine wp_iload_n (pc := 9) d_X12_breaksAlways_9 rfl ?_
  refine wp_if_eq (pc := 10) (tgt := 52) d_X12_breaksAlways_10 (by decide) (fun hc => ?_) (fun hc => ?_)
  · have h := h.1 hc
    refine wp_iload_n (pc := 52) d_X12_breaksAlways_52 rfl ?_
    exact wp_zret (pc := 53) d_X12_breaksAlways_53 rfl h.1.1 h.2
  · have h := h.2 hc
    refine wp_iload (pc := 13) d_X12_breaksAlways_13 rfl ?_
    refine wp_if_lt (pc := 15) (tgt := 52) d_X12_breaksAlways_15 (by decide) (fun hc => ?_) (fun hc => ?_)
    · have h := h.1 hc
      refine wp_iload_n (pc := 52) d_X12_breaksAlways_52 rfl ?_
      exact wp_zret (pc := 53) d_X12_breaksAlways_53 rfl h.1.1 h.2
    · have h := h.2 hc
      refine wp_aload_n (pc := 18) d_X12_breaksAlways_18 rfl ?_
      obtain ⟨ho1, h⟩ := h
      refine wp_getR (pc := 19) d_X12_breaksAlways_19 fl_X12_151 (fun _ _ _ => rfl) ho1 ?_
      refine wp_sipush (pc := 22) (v := 20000) d_X12_breaksAlways_22 rfl ?_
      refine wp_iload_n (pc := 25) d_X12_breaksAlways_25 rfl ?_
      refine wp_imul (pc := 26) d_X12_breaksAlways_26 ?_
      refine wp_iload (pc := 27) d_X12_breaksAlways_27 rfl ?_
      refine wp_iadd (pc := 29) d_X12_breaksAlways_29 ?_
      obtain ⟨ho2, h⟩ := h
      obtain ⟨hi3, h⟩ := h
      refine wp_iald (pc := 30) d_X12_breaksAlways_30 ho2 hi3 ?_
      refine wp_if_le (pc := 31) (tgt := 38) d_X12_breaksAlways_31 (by decide) (fun hc => ?_) (fun hc => ?_)
      · have h := h.1 hc
        refine wp_iconst (pc := 38) (v := 0) d_X12_breaksAlways_38 rfl ?_
        refine wp_sub ?_ h
        exact ⟨rfl, ⟨rfl, ⟨rfl, ⟨rfl, ⟨rfl, trivial⟩⟩⟩⟩⟩
      · have h := h.2 hc
        refine wp_iconst (pc := 34) (v := 1) d_X12_breaksAlways_34 rfl ?_
        refine wp_goto (pc := 35) (tgt := 39) d_X12_breaksAlways_35 (by decide) ?_
        refine wp_sub ?_ h
        exact ⟨rfl, ⟨rfl, ⟨rfl, ⟨rfl, ⟨rfl, trivial⟩⟩⟩⟩⟩
theorem v_X12_breaksAlways_39 {E : EE} {d : Nat} {Q : Option AV → AH → Prop} {x0 : Nat} {x1 : Int32} {x2 : Int32} {x3 : Int32} {x4 : Int32} {t0 : Int32} {G : AH} (h0 : 0 < d) (h : isO E G x0 12 ∧ (wpI E (d - 1) M_X12_nextGiven [vr x0, vi x1, vi x4] G (fun r1 G2 => wp E d M_X12_breaksAlways 9 [some (vr x0), some (vi x1), some (vi x2), some (vi t0), some (vi r1)] [] G2 Q))) : wp E d M_X12_breaksAlways 39 [some (vr x0), some (vi x1), some (vi x2), some (vi x3), some (vi x4)] [vi t0] G Q := by
  refine wp_istore_n (pc := 39) (lv' := [some (vr _), some (vi _), some (vi _), some (vi _), some (vi _)]) d_X12_breaksAlways_39 (by decide) rfl ?_
  refine wp_aload_n (pc := 40) d_X12_breaksAlways_40 rfl ?_
  refine wp_iload_n (pc := 41) d_X12_breaksAlways_41 rfl ?_
  refine wp_iload (pc := 42) d_X12_breaksAlways_42 rfl ?_
  obtain ⟨ho3, h⟩ := h
  refine wp_invV (pc := 44) (N := M_X12_nextGiven) (As := [vi _, vi _]) (rest := []) (r := (cn_12, ct_12, 95)) d_X12_breaksAlways_44 ml_X12_678 mk_X12_nextGiven mv_X12_nextGiven h0 ho3 rfl rfl (Nat.le_of_ble_eq_true rfl) ?_
  refine wpM.mono h (fun rr G2 hr => ?_)
  obtain ⟨r1, rfl, h⟩ := hr
  show wp E d M_X12_breaksAlways 47 [some (vr _), some (vi _), some (vi _), some (vi _), some (vi _)] [vi _] G2 Q
  refine wp_istore (pc := 47) (lv' := [some (vr _), some (vi _), some (vi _), some (vi _), some (vi _)]) d_X12_breaksAlways_47 (by decide) rfl ?_
  refine wp_goto (pc := 49) (tgt := 9) d_X12_breaksAlways_49 (by decide) ?_
  refine wp_sub ?_ h
  exact ⟨rfl, ⟨rfl, ⟨rfl, ⟨rfl, ⟨rfl, trivial⟩⟩⟩⟩⟩
theorem d_X12_firstGiven_0 : decode prog_14_method_157_code 0 = .ok (.iconst 0, 1) := by decide +kernel
theorem d_X12_firstGiven_1 : decode prog_14_method_157_code 1 = .ok (.istore_n 2, 1) := by decide +kernel
theorem d_X12_firstGiven_2 : decode prog_14_method_157_code 2 = .ok (.iconst 0, 1) := by decide +kernel
theorem d_X12_firstGiven_3 : decode prog_14_method_157_code 3 = .ok (.istore_n 3, 1) := by decide +kernel
theorem d_X12_firstGiven_4 : decode prog_14_method_157_code 4 = .ok (.iload_n 3, 1) := by decide +kernel
theorem d_X12_firstGiven_5 : decode prog_14_method_157_code 5 = .ok (.aload_n 0, 1) := by decide +kernel
theorem d_X12_firstGiven_6 : decode prog_14_method_157_code 6 = .ok (.iload_n 1, 1) := by decide +kernel
theorem d_X12_firstGiven_7 : decode prog_14_method_157_code 7 = .ok (.invokevirtual 456, 3) := by decide +kernel
theorem d_X12_firstGiven_10 : decode prog_14_method_157_code 10 = .ok (.if_icmp .ge 43, 3) := by decide +kernel
theorem d_X12_firstGiven_13 : decode prog_14_method_157_code 13 = .ok (.iload_n 2, 1) := by decide +kernel
theorem d_X12_firstGiven_14 : decode prog_14_method_157_code 14 = .ok (.aload_n 0, 1) := by decide +kernel
theorem d_X12_firstGiven_15 : decode prog_14_method_157_code 15 = .ok (.getfield 193, 3) := by decide +kernel
theorem d_X12_firstGiven_18 : decode prog_14_method_157_code 18 = .ok (.iload_n 3, 1) := by decide +kernel
theorem d_X12_firstGiven_19 : decode prog_14_method_157_code 19 = .ok (.iaload, 1) := by decide +kernel
theorem d_X12_firstGiven_20 : decode prog_14_method_157_code 20 = .ok (.ifCond .le 24, 3) := by decide +kernel
theorem d_X12_firstGiven_23 : decode prog_14_method_157_code 23 = .ok (.aload_n 0, 1) := by decide +kernel
theorem d_X12_firstGiven_24 : decode prog_14_method_157_code 24 = .ok (.getfield 193, 3) := by decide +kernel
theorem d_X12_firstGiven_27 : decode prog_14_method_157_code 27 = .ok (.iload_n 3, 1) := by decide +kernel
theorem d_X12_firstGiven_28 : decode prog_14_method_157_code 28 = .ok (.iaload, 1) := by decide +kernel
theorem d_X12_firstGiven_29 : decode prog_14_method_157_code 29 = .ok (.aload_n 0, 1) := by decide +kernel
theorem d_X12_firstGiven_30 : decode prog_14_method_157_code 30 = .ok (.getfield 67, 3) := by decide +kernel
theorem d_X12_firstGiven_33 : decode prog_14_method_157_code 33 = .ok (.bipush 12, 2) := by decide +kernel
theorem d_X12_firstGiven_35 : decode prog_14_method_157_code 35 = .ok (.iload_n 1, 1) := by decide +kernel
theorem d_X12_firstGiven_36 : decode prog_14_method_157_code 36 = .ok (.imul, 1) := by decide +kernel
theorem d_X12_firstGiven_37 : decode prog_14_method_157_code 37 = .ok (.iload_n 3, 1) := by decide +kernel
theorem d_X12_firstGiven_38 : decode prog_14_method_157_code 38 = .ok (.iadd, 1) := by decide +kernel
theorem d_X12_firstGiven_39 : decode prog_14_method_157_code 39 = .ok (.iaload, 1) := by decide +kernel
theorem d_X12_firstGiven_40 : decode prog_14_method_157_code 40 = .ok (.imul, 1) := by decide +kernel
theorem d_X12_firstGiven_41 : decode prog_14_method_157_code 41 = .ok (.goto 4, 3) := by decide +kernel
theorem d_X12_firstGiven_44 : decode prog_14_method_157_code 44 = .ok (.iconst 0, 1) := by decide +kernel
theorem d_X12_firstGiven_45 : decode prog_14_method_157_code 45 = .ok (.iadd, 1) := by decide +kernel
theorem d_X12_firstGiven_46 : decode prog_14_method_157_code 46 = .ok (.istore_n 2, 1) := by decide +kernel
theorem d_X12_firstGiven_47 : decode prog_14_method_157_code 47 = .ok (.iinc 3 1, 3) := by decide +kernel
theorem d_X12_firstGiven_50 : decode prog_14_method_157_code 50 = .ok (.goto (-46), 3) := by decide +kernel
theorem d_X12_firstGiven_53 : decode prog_14_method_157_code 53 = .ok (.iload_n 2, 1) := by decide +kernel
theorem d_X12_firstGiven_54 : decode prog_14_method_157_code 54 = .ok (.ireturn, 1) := by decide +kernel
theorem v_X12_firstGiven_0 {E : EE} {d : Nat} {Q : Option AV → AH → Prop} {x0 : Nat} {x1 : Int32} {G : AH} (h : wp E d M_X12_firstGiven 4 [some (vr x0), some (vi x1), some (vi 0), some (vi 0)] [] G Q) : wp E d M_X12_firstGiven 0 [some (vr x0), some (vi x1), none, none] [] G Q := by
  refine wp_iconst (pc := 0) (v := 0) d_X12_firstGiven_0 rfl ?_
  refine wp_istore_n (pc := 1) (lv' := [some (vr _), some (vi _), some (vi _), none]) d_X12_firstGiven_1 (by decide) rfl ?_
  refine wp_iconst (pc := 2) (v := 0) d_X12_firstGiven_2 rfl ?_
  refine wp_istore_n (pc := 3) (lv' := [some (vr _), some (vi _), some (vi _), some (vi _)]) d_X12_firstGiven_3 (by decide) rfl ?_
  refine wp_sub ?_ h
  exact ⟨rfl, ⟨rfl, ⟨rfl, ⟨rfl, trivial⟩⟩⟩⟩
theorem v_X12_firstGiven_4 {E : EE} {d : Nat} {Q : Option AV → AH → Prop} {x0 : Nat} {x1 : Int32} {x2 : Int32} {x3 : Int32} {G : AH} (h0 : 0 < d) (h : isO E G x0 12 ∧ (wpI E (d - 1) M_X12_vars [vr x0, vi x1] G (fun r1 G2 => (r1 ≤ x3 → Q (some (vi x2)) G2) ∧ (¬ (r1 ≤ x3) → isO E G2 x0 12 ∧ (isO E G2 (gR G2 x0 83) 14 ∧ (vp_in x3 (gN G2 (gR G2 x0 83)) ∧ (((gI G2 (gR G2 x0 83) (Int32.toNatClampNeg x3)) ≤ 0 → wp E d M_X12_firstGiven 45 [some (vr x0), some (vi x1), some (vi x2), some (vi x3)] [vi 0, vi x2] G2 Q) ∧ (¬ ((gI G2 (gR G2 x0 83) (Int32.toNatClampNeg x3)) ≤ 0) → vp_in x3 (gN G2 (gR G2 x0 83)) ∧ (isO E G2 (gR G2 x0 20) 14 ∧ (vp_in ((12 * x1) + x3) (gN G2 (gR G2 x0 20)) ∧ (wp E d M_X12_firstGiven 45 [some (vr x0), some (vi x1), some (vi x2), some (vi x3)] [vi ((gI G2 (gR G2 x0 83) (Int32.toNatClampNeg x3)) * (gI G2 (gR G2 x0 20) (Int32.toNatClampNeg ((12 * x1) + x3)))), vi x2] G2 Q))))))))))) : wp E d M_X12_firstGiven 4 [some (vr x0), some (vi x1), some (vi x2), some (vi x3)] [] G Q := by
  refine wp_iload_n (pc := 4) d_X12_firstGiven_4 rfl ?_
  refine wp_aload_n (pc := 5) d_X12_firstGiven_5 rfl ?_
  refine wp_iload_n (pc := 6) d_X12_firstGiven_6 rfl ?_
  obtain ⟨ho9, h⟩ := h
  refine wp_invV (pc := 7) (N := M_X12_vars) (As := [vi _]) (rest := [vi _]) (r := (cn_12, ct_12, 95)) d_X12_firstGiven_7 ml_X12_456 mk_X12_vars mv_X12_vars h0 ho9 rfl rfl (Nat.le_of_ble_eq_true rfl) ?_
  refine wpM.mono h (fun rr G2 hr => ?_)
  obtain ⟨r1, rfl, h⟩ := hr
  show wp E d M_X12_firstGiven 10 [some (vr _), some (vi _), some (vi _), some (vi _)] [vi _, vi _] G2 Q
  refine wp_icmp_ge (pc := 10) (tgt := 53) d_X12_firstGiven_10 (by decide) (fun hc => ?_) (fun hc => ?_)
  · have h := h.1 hc
    refine wp_iload_n (pc := 53) d_X12_firstGiven_53 rfl ?_
    exact wp_iret (pc := 54) d_X12_firstGiven_54 rfl h
  · have h := h.2 hc
    refine wp_iload_n (pc := 13) d_X12_firstGiven_13 rfl ?_
    refine wp_aload_n (pc := 14) d_X12_firstGiven_14 rfl ?_
    obtain ⟨ho3, h⟩ := h
    refine wp_getR (pc := 15) d_X12_firstGiven_15 fl_X12_193 (fun _ _ _ => rfl) ho3 ?_
    refine wp_iload_n (pc := 18) d_X12_firstGiven_18 rfl ?_
    obtain ⟨ho4, h⟩ := h
    obtain ⟨hi5, h⟩ := h
    refine wp_iald (pc := 19) d_X12_firstGiven_19 ho4 hi5 ?_
    refine wp_if_le (pc := 20) (tgt := 44) d_X12_firstGiven_20 (by decide) (fun hc => ?_) (fun hc => ?_)
    · have h := h.1 hc
      refine wp_iconst (pc := 44) (v := 0) d_X12_firstGiven_44 rfl ?_
      refine wp_sub ?_ h
      exact ⟨rfl, ⟨rfl, ⟨rfl, ⟨rfl, trivial⟩⟩⟩⟩
    · have h := h.2 hc
      refine wp_aload_n (pc := 23) d_X12_firstGiven_23 rfl ?_
      refine wp_getR (pc := 24) d_X12_firstGiven_24 fl_X12_193 (fun _ _ _ => rfl) ho3 ?_
      refine wp_iload_n (pc := 27) d_X12_firstGiven_27 rfl ?_
      obtain ⟨hi6, h⟩ := h
      refine wp_iald (pc := 28) d_X12_firstGiven_28 ho4 hi6 ?_
      refine wp_aload_n (pc := 29) d_X12_firstGiven_29 rfl ?_
      refine wp_getR (pc := 30) d_X12_firstGiven_30 fl_X12_67 (fun _ _ _ => rfl) ho3 ?_
      refine wp_bipush (pc := 33) (v := 12) d_X12_firstGiven_33 rfl ?_
      refine wp_iload_n (pc := 35) d_X12_firstGiven_35 rfl ?_
      refine wp_imul (pc := 36) d_X12_firstGiven_36 ?_
      refine wp_iload_n (pc := 37) d_X12_firstGiven_37 rfl ?_
      refine wp_iadd (pc := 38) d_X12_firstGiven_38 ?_
      obtain ⟨ho7, h⟩ := h
      obtain ⟨hi8, h⟩ := h
      refine wp_iald (pc := 39) d_X12_firstGiven_39 ho7 hi8 ?_
      refine wp_imul (pc := 40) d_X12_firstGiven_40 ?_
      refine wp_goto (pc := 41) (tgt := 45) d_X12_firstGiven_41 (by decide) ?_
      refine wp_sub ?_ h
      exact ⟨rfl, ⟨rfl, ⟨rfl, ⟨rfl, trivial⟩⟩⟩⟩
theorem v_X12_firstGiven_45 {E : EE} {d : Nat} {Q : Option AV → AH → Prop} {x0 : Nat} {x1 : Int32} {x2 : Int32} {x3 : Int32} {t0 : Int32} {t1 : Int32} {G : AH} (h : wp E d M_X12_firstGiven 4 [some (vr x0), some (vi x1), some (vi (t0 + t1)), some (vi (x3 + 1))] [] G Q) : wp E d M_X12_firstGiven 45 [some (vr x0), some (vi x1), some (vi x2), some (vi x3)] [vi t1, vi t0] G Q := by
  refine wp_iadd (pc := 45) d_X12_firstGiven_45 ?_
  refine wp_istore_n (pc := 46) (lv' := [some (vr _), some (vi _), some (vi _), some (vi _)]) d_X12_firstGiven_46 (by decide) rfl ?_
  refine wp_iinc (pc := 47) (v := 1) (lv' := [some (vr _), some (vi _), some (vi _), some (vi _)]) d_X12_firstGiven_47 (by decide) rfl rfl rfl ?_
  refine wp_goto (pc := 50) (tgt := 4) d_X12_firstGiven_50 (by decide) ?_
  refine wp_sub ?_ h
  exact ⟨rfl, ⟨rfl, ⟨rfl, ⟨rfl, trivial⟩⟩⟩⟩
theorem d_X12_nextGiven_0 : decode prog_14_method_156_code 0 = .ok (.iload_n 2, 1) := by decide +kernel
theorem d_X12_nextGiven_1 : decode prog_14_method_156_code 1 = .ok (.istore_n 3, 1) := by decide +kernel
theorem d_X12_nextGiven_2 : decode prog_14_method_156_code 2 = .ok (.aload_n 0, 1) := by decide +kernel
theorem d_X12_nextGiven_3 : decode prog_14_method_156_code 3 = .ok (.iload_n 1, 1) := by decide +kernel
theorem d_X12_nextGiven_4 : decode prog_14_method_156_code 4 = .ok (.invokevirtual 456, 3) := by decide +kernel
theorem d_X12_nextGiven_7 : decode prog_14_method_156_code 7 = .ok (.iconst 1, 1) := by decide +kernel
theorem d_X12_nextGiven_8 : decode prog_14_method_156_code 8 = .ok (.isub, 1) := by decide +kernel
theorem d_X12_nextGiven_9 : decode prog_14_method_156_code 9 = .ok (.istore 4, 2) := by decide +kernel
theorem d_X12_nextGiven_11 : decode prog_14_method_156_code 11 = .ok (.iload 4, 2) := by decide +kernel
theorem d_X12_nextGiven_13 : decode prog_14_method_156_code 13 = .ok (.ifCond .lt 84, 3) := by decide +kernel
theorem d_X12_nextGiven_16 : decode prog_14_method_156_code 16 = .ok (.aload_n 0, 1) := by decide +kernel
theorem d_X12_nextGiven_17 : decode prog_14_method_156_code 17 = .ok (.getfield 193, 3) := by decide +kernel
theorem d_X12_nextGiven_20 : decode prog_14_method_156_code 20 = .ok (.iload 4, 2) := by decide +kernel
theorem d_X12_nextGiven_22 : decode prog_14_method_156_code 22 = .ok (.iaload, 1) := by decide +kernel
theorem d_X12_nextGiven_23 : decode prog_14_method_156_code 23 = .ok (.ifCond .lt 6, 3) := by decide +kernel
theorem d_X12_nextGiven_26 : decode prog_14_method_156_code 26 = .ok (.goto 65, 3) := by decide +kernel
theorem d_X12_nextGiven_29 : decode prog_14_method_156_code 29 = .ok (.aload_n 0, 1) := by decide +kernel
theorem d_X12_nextGiven_30 : decode prog_14_method_156_code 30 = .ok (.iload_n 1, 1) := by decide +kernel
theorem d_X12_nextGiven_31 : decode prog_14_method_156_code 31 = .ok (.iload_n 3, 1) := by decide +kernel
theorem d_X12_nextGiven_32 : decode prog_14_method_156_code 32 = .ok (.iload 4, 2) := by decide +kernel
theorem d_X12_nextGiven_34 : decode prog_14_method_156_code 34 = .ok (.invokevirtual 537, 3) := by decide +kernel
theorem d_X12_nextGiven_37 : decode prog_14_method_156_code 37 = .ok (.istore 5, 2) := by decide +kernel
theorem d_X12_nextGiven_39 : decode prog_14_method_156_code 39 = .ok (.iload 5, 2) := by decide +kernel
theorem d_X12_nextGiven_41 : decode prog_14_method_156_code 41 = .ok (.iconst 1, 1) := by decide +kernel
theorem d_X12_nextGiven_42 : decode prog_14_method_156_code 42 = .ok (.iadd, 1) := by decide +kernel
theorem d_X12_nextGiven_43 : decode prog_14_method_156_code 43 = .ok (.aload_n 0, 1) := by decide +kernel
theorem d_X12_nextGiven_44 : decode prog_14_method_156_code 44 = .ok (.getfield 64, 3) := by decide +kernel
theorem d_X12_nextGiven_47 : decode prog_14_method_156_code 47 = .ok (.bipush 12, 2) := by decide +kernel
theorem d_X12_nextGiven_49 : decode prog_14_method_156_code 49 = .ok (.iload_n 1, 1) := by decide +kernel
theorem d_X12_nextGiven_50 : decode prog_14_method_156_code 50 = .ok (.imul, 1) := by decide +kernel
theorem d_X12_nextGiven_51 : decode prog_14_method_156_code 51 = .ok (.iload 4, 2) := by decide +kernel
theorem d_X12_nextGiven_53 : decode prog_14_method_156_code 53 = .ok (.iadd, 1) := by decide +kernel
theorem d_X12_nextGiven_54 : decode prog_14_method_156_code 54 = .ok (.iaload, 1) := by decide +kernel
theorem d_X12_nextGiven_55 : decode prog_14_method_156_code 55 = .ok (.if_icmp .ge 18, 3) := by decide +kernel
theorem d_X12_nextGiven_58 : decode prog_14_method_156_code 58 = .ok (.iload_n 3, 1) := by decide +kernel
theorem d_X12_nextGiven_59 : decode prog_14_method_156_code 59 = .ok (.aload_n 0, 1) := by decide +kernel
theorem d_X12_nextGiven_60 : decode prog_14_method_156_code 60 = .ok (.getfield 67, 3) := by decide +kernel
theorem d_X12_nextGiven_63 : decode prog_14_method_156_code 63 = .ok (.bipush 12, 2) := by decide +kernel
theorem d_X12_nextGiven_65 : decode prog_14_method_156_code 65 = .ok (.iload_n 1, 1) := by decide +kernel
theorem d_X12_nextGiven_66 : decode prog_14_method_156_code 66 = .ok (.imul, 1) := by decide +kernel
theorem d_X12_nextGiven_67 : decode prog_14_method_156_code 67 = .ok (.iload 4, 2) := by decide +kernel
theorem d_X12_nextGiven_69 : decode prog_14_method_156_code 69 = .ok (.iadd, 1) := by decide +kernel
theorem d_X12_nextGiven_70 : decode prog_14_method_156_code 70 = .ok (.iaload, 1) := by decide +kernel
theorem d_X12_nextGiven_71 : decode prog_14_method_156_code 71 = .ok (.iadd, 1) := by decide +kernel
theorem d_X12_nextGiven_72 : decode prog_14_method_156_code 72 = .ok (.ireturn, 1) := by decide +kernel
theorem d_X12_nextGiven_73 : decode prog_14_method_156_code 73 = .ok (.iload_n 3, 1) := by decide +kernel
theorem d_X12_nextGiven_74 : decode prog_14_method_156_code 74 = .ok (.iload 5, 2) := by decide +kernel
theorem d_X12_nextGiven_76 : decode prog_14_method_156_code 76 = .ok (.aload_n 0, 1) := by decide +kernel
theorem d_X12_nextGiven_77 : decode prog_14_method_156_code 77 = .ok (.getfield 67, 3) := by decide +kernel
theorem d_X12_nextGiven_80 : decode prog_14_method_156_code 80 = .ok (.bipush 12, 2) := by decide +kernel
theorem d_X12_nextGiven_82 : decode prog_14_method_156_code 82 = .ok (.iload_n 1, 1) := by decide +kernel
theorem d_X12_nextGiven_83 : decode prog_14_method_156_code 83 = .ok (.imul, 1) := by decide +kernel
theorem d_X12_nextGiven_84 : decode prog_14_method_156_code 84 = .ok (.iload 4, 2) := by decide +kernel
theorem d_X12_nextGiven_86 : decode prog_14_method_156_code 86 = .ok (.iadd, 1) := by decide +kernel
theorem d_X12_nextGiven_87 : decode prog_14_method_156_code 87 = .ok (.iaload, 1) := by decide +kernel
theorem d_X12_nextGiven_88 : decode prog_14_method_156_code 88 = .ok (.imul, 1) := by decide +kernel
theorem d_X12_nextGiven_89 : decode prog_14_method_156_code 89 = .ok (.isub, 1) := by decide +kernel
theorem d_X12_nextGiven_90 : decode prog_14_method_156_code 90 = .ok (.istore_n 3, 1) := by decide +kernel
theorem d_X12_nextGiven_91 : decode prog_14_method_156_code 91 = .ok (.iinc 4 (-1), 3) := by decide +kernel
theorem d_X12_nextGiven_94 : decode prog_14_method_156_code 94 = .ok (.goto (-83), 3) := by decide +kernel
theorem d_X12_nextGiven_97 : decode prog_14_method_156_code 97 = .ok (.iconst (-1), 1) := by decide +kernel
theorem d_X12_nextGiven_98 : decode prog_14_method_156_code 98 = .ok (.ireturn, 1) := by decide +kernel
theorem v_X12_nextGiven_0 {E : EE} {d : Nat} {Q : Option AV → AH → Prop} {x0 : Nat} {x1 : Int32} {x2 : Int32} {G : AH} (h0 : 0 < d) (h : isO E G x0 12 ∧ (wpI E (d - 1) M_X12_vars [vr x0, vi x1] G (fun r1 G2 => wp E d M_X12_nextGiven 11 [some (vr x0), some (vi x1), some (vi x2), some (vi x2), some (vi (r1 - 1)), none] [] G2 Q))) : wp E d M_X12_nextGiven 0 [some (vr x0), some (vi x1), some (vi x2), none, none, none] [] G Q := by
  refine wp_iload_n (pc := 0) d_X12_nextGiven_0 rfl ?_
  refine wp_istore_n (pc := 1) (lv' := [some (vr _), some (vi _), some (vi _), some (vi _), none, none]) d_X12_nextGiven_1 (by decide) rfl ?_
  refine wp_aload_n (pc := 2) d_X12_nextGiven_2 rfl ?_
  refine wp_iload_n (pc := 3) d_X12_nextGiven_3 rfl ?_
  obtain ⟨ho3, h⟩ := h
  refine wp_invV (pc := 4) (N := M_X12_vars) (As := [vi _]) (rest := []) (r := (cn_12, ct_12, 95)) d_X12_nextGiven_4 ml_X12_456 mk_X12_vars mv_X12_vars h0 ho3 rfl rfl (Nat.le_of_ble_eq_true rfl) ?_
  refine wpM.mono h (fun rr G2 hr => ?_)
  obtain ⟨r1, rfl, h⟩ := hr
  show wp E d M_X12_nextGiven 7 [some (vr _), some (vi _), some (vi _), some (vi _), none, none] [vi _] G2 Q
  refine wp_iconst (pc := 7) (v := 1) d_X12_nextGiven_7 rfl ?_
  refine wp_isub (pc := 8) d_X12_nextGiven_8 ?_
  refine wp_istore (pc := 9) (lv' := [some (vr _), some (vi _), some (vi _), some (vi _), some (vi _), none]) d_X12_nextGiven_9 (by decide) rfl ?_
  refine wp_sub ?_ h
  exact ⟨rfl, ⟨rfl, ⟨rfl, ⟨rfl, ⟨rfl, trivial⟩⟩⟩⟩⟩
theorem v_X12_nextGiven_11 {E : EE} {d : Nat} {Q : Option AV → AH → Prop} {x0 : Nat} {x1 : Int32} {x2 : Int32} {x3 : Int32} {x4 : Int32} {G : AH} (h0 : 0 < d) (h : (x4 < 0 → Q (some (vi (-1))) G) ∧ (¬ (x4 < 0) → isO E G x0 12 ∧ (isO E G (gR G x0 83) 14 ∧ (vp_in x4 (gN G (gR G x0 83)) ∧ (((gI G (gR G x0 83) (Int32.toNatClampNeg x4)) < 0 → wpI E (d - 1) M_X12_place [vr x0, vi x1, vi x3, vi x4] G (fun r4 G5 => isO E G5 x0 12 ∧ (isO E G5 (gR G5 x0 19) 14 ∧ (vp_in ((12 * x1) + x4) (gN G5 (gR G5 x0 19)) ∧ (((gI G5 (gR G5 x0 19) (Int32.toNatClampNeg ((12 * x1) + x4))) ≤ (r4 + 1) → isO E G5 (gR G5 x0 20) 14 ∧ (vp_in ((12 * x1) + x4) (gN G5 (gR G5 x0 20)) ∧ (wp E d M_X12_nextGiven 91 [some (vr x0), some (vi x1), some (vi x2), some (vi (x3 - (r4 * (gI G5 (gR G5 x0 20) (Int32.toNatClampNeg ((12 * x1) + x4)))))), some (vi x4), none] [] G5 Q))) ∧ (¬ ((gI G5 (gR G5 x0 19) (Int32.toNatClampNeg ((12 * x1) + x4))) ≤ (r4 + 1)) → isO E G5 (gR G5 x0 20) 14 ∧ (vp_in ((12 * x1) + x4) (gN G5 (gR G5 x0 20)) ∧ (Q (some (vi (x3 + (gI G5 (gR G5 x0 20) (Int32.toNatClampNeg ((12 * x1) + x4)))))) G5)))))))) ∧ (¬ ((gI G (gR G x0 83) (Int32.toNatClampNeg x4)) < 0) → wp E d M_X12_nextGiven 91 [some (vr x0), some (vi x1), some (vi x2), some (vi x3), some (vi x4), none] [] G Q)))))) : wp E d M_X12_nextGiven 11 [some (vr x0), some (vi x1), some (vi x2), some (vi x3), some (vi x4), none] [] G Q := by
  refine wp_iload (pc := 11) d_X12_nextGiven_11 rfl ?_
  refine wp_if_lt (pc := 13) (tgt := 97) d_X12_nextGiven_13 (by decide) (fun hc => ?_) (fun hc => ?_)
  · have h := h.1 hc
    refine wp_iconst (pc := 97) (v := (-1)) d_X12_nextGiven_97 rfl ?_
    exact wp_iret (pc := 98) d_X12_nextGiven_98 rfl h
  · have h := h.2 hc
    refine wp_aload_n (pc := 16) d_X12_nextGiven_16 rfl ?_
    obtain ⟨ho1, h⟩ := h
    refine wp_getR (pc := 17) d_X12_nextGiven_17 fl_X12_193 (fun _ _ _ => rfl) ho1 ?_
    refine wp_iload (pc := 20) d_X12_nextGiven_20 rfl ?_
    obtain ⟨ho2, h⟩ := h
    obtain ⟨hi3, h⟩ := h
    refine wp_iald (pc := 22) d_X12_nextGiven_22 ho2 hi3 ?_
    refine wp_if_lt (pc := 23) (tgt := 29) d_X12_nextGiven_23 (by decide) (fun hc => ?_) (fun hc => ?_)
    · have h := h.1 hc
      refine wp_aload_n (pc := 29) d_X12_nextGiven_29 rfl ?_
      refine wp_iload_n (pc := 30) d_X12_nextGiven_30 rfl ?_
      refine wp_iload_n (pc := 31) d_X12_nextGiven_31 rfl ?_
      refine wp_iload (pc := 32) d_X12_nextGiven_32 rfl ?_
      refine wp_invV (pc := 34) (N := M_X12_place) (As := [vi _, vi _, vi _]) (rest := []) (r := (cn_12, ct_12, 95)) d_X12_nextGiven_34 ml_X12_537 mk_X12_place mv_X12_place h0 ho1 rfl rfl (Nat.le_of_ble_eq_true rfl) ?_
      refine wpM.mono h (fun rr G5 hr => ?_)
      obtain ⟨r4, rfl, h⟩ := hr
      show wp E d M_X12_nextGiven 37 [some (vr _), some (vi _), some (vi _), some (vi _), some (vi _), none] [vi _] G5 Q
      refine wp_istore (pc := 37) (lv' := [some (vr _), some (vi _), some (vi _), some (vi _), some (vi _), some (vi _)]) d_X12_nextGiven_37 (by decide) rfl ?_
      refine wp_iload (pc := 39) d_X12_nextGiven_39 rfl ?_
      refine wp_iconst (pc := 41) (v := 1) d_X12_nextGiven_41 rfl ?_
      refine wp_iadd (pc := 42) d_X12_nextGiven_42 ?_
      refine wp_aload_n (pc := 43) d_X12_nextGiven_43 rfl ?_
      obtain ⟨ho6, h⟩ := h
      refine wp_getR (pc := 44) d_X12_nextGiven_44 fl_X12_64 (fun _ _ _ => rfl) ho6 ?_
      refine wp_bipush (pc := 47) (v := 12) d_X12_nextGiven_47 rfl ?_
      refine wp_iload_n (pc := 49) d_X12_nextGiven_49 rfl ?_
      refine wp_imul (pc := 50) d_X12_nextGiven_50 ?_
      refine wp_iload (pc := 51) d_X12_nextGiven_51 rfl ?_
      refine wp_iadd (pc := 53) d_X12_nextGiven_53 ?_
      obtain ⟨ho7, h⟩ := h
      obtain ⟨hi8, h⟩ := h
      refine wp_iald (pc := 54) d_X12_nextGiven_54 ho7 hi8 ?_
      refine wp_icmp_ge (pc := 55) (tgt := 73) d_X12_nextGiven_55 (by decide) (fun hc => ?_) (fun hc => ?_)
      · have h := h.1 hc
        refine wp_iload_n (pc := 73) d_X12_nextGiven_73 rfl ?_
        refine wp_iload (pc := 74) d_X12_nextGiven_74 rfl ?_
        refine wp_aload_n (pc := 76) d_X12_nextGiven_76 rfl ?_
        refine wp_getR (pc := 77) d_X12_nextGiven_77 fl_X12_67 (fun _ _ _ => rfl) ho6 ?_
        refine wp_bipush (pc := 80) (v := 12) d_X12_nextGiven_80 rfl ?_
        refine wp_iload_n (pc := 82) d_X12_nextGiven_82 rfl ?_
        refine wp_imul (pc := 83) d_X12_nextGiven_83 ?_
        refine wp_iload (pc := 84) d_X12_nextGiven_84 rfl ?_
        refine wp_iadd (pc := 86) d_X12_nextGiven_86 ?_
        obtain ⟨ho9, h⟩ := h
        obtain ⟨hi10, h⟩ := h
        refine wp_iald (pc := 87) d_X12_nextGiven_87 ho9 hi10 ?_
        refine wp_imul (pc := 88) d_X12_nextGiven_88 ?_
        refine wp_isub (pc := 89) d_X12_nextGiven_89 ?_
        refine wp_istore_n (pc := 90) (lv' := [some (vr _), some (vi _), some (vi _), some (vi _), some (vi _), some (vi _)]) d_X12_nextGiven_90 (by decide) rfl ?_
        refine wp_sub ?_ h
        exact ⟨rfl, ⟨rfl, ⟨rfl, ⟨rfl, ⟨rfl, trivial⟩⟩⟩⟩⟩
      · have h := h.2 hc
        refine wp_iload_n (pc := 58) d_X12_nextGiven_58 rfl ?_
        refine wp_aload_n (pc := 59) d_X12_nextGiven_59 rfl ?_
        refine wp_getR (pc := 60) d_X12_nextGiven_60 fl_X12_67 (fun _ _ _ => rfl) ho6 ?_
        refine wp_bipush (pc := 63) (v := 12) d_X12_nextGiven_63 rfl ?_
        refine wp_iload_n (pc := 65) d_X12_nextGiven_65 rfl ?_
        refine wp_imul (pc := 66) d_X12_nextGiven_66 ?_
        refine wp_iload (pc := 67) d_X12_nextGiven_67 rfl ?_
        refine wp_iadd (pc := 69) d_X12_nextGiven_69 ?_
        obtain ⟨ho11, h⟩ := h
        obtain ⟨hi12, h⟩ := h
        refine wp_iald (pc := 70) d_X12_nextGiven_70 ho11 hi12 ?_
        refine wp_iadd (pc := 71) d_X12_nextGiven_71 ?_
        exact wp_iret (pc := 72) d_X12_nextGiven_72 rfl h
    · have h := h.2 hc
      refine wp_goto (pc := 26) (tgt := 91) d_X12_nextGiven_26 (by decide) ?_
      refine wp_sub ?_ h
      exact ⟨rfl, ⟨rfl, ⟨rfl, ⟨rfl, ⟨rfl, trivial⟩⟩⟩⟩⟩
theorem v_X12_nextGiven_91 {E : EE} {d : Nat} {Q : Option AV → AH → Prop} {x0 : Nat} {x1 : Int32} {x2 : Int32} {x3 : Int32} {x4 : Int32} {G : AH} (h : wp E d M_X12_nextGiven 11 [some (vr x0), some (vi x1), some (vi x2), some (vi x3), some (vi (x4 + (-1))), none] [] G Q) : wp E d M_X12_nextGiven 91 [some (vr x0), some (vi x1), some (vi x2), some (vi x3), some (vi x4), none] [] G Q := by
  refine wp_iinc (pc := 91) (v := (-1)) (lv' := [some (vr _), some (vi _), some (vi _), some (vi _), some (vi _), none]) d_X12_nextGiven_91 (by decide) rfl rfl rfl ?_
  refine wp_goto (pc := 94) (tgt := 11) d_X12_nextGiven_94 (by decide) ?_
  refine wp_sub ?_ h
  exact ⟨rfl, ⟨rfl, ⟨rfl, ⟨rfl, ⟨rfl, trivial⟩⟩⟩⟩⟩
theorem d_X12_isPoint_0 : decode prog_14_method_160_code 0 = .ok (.iconst 0, 1) := by decide +kernel
theorem d_X12_isPoint_1 : decode prog_14_method_160_code 1 = .ok (.istore_n 2, 1) := by decide +kernel
theorem d_X12_isPoint_2 : decode prog_14_method_160_code 2 = .ok (.iload_n 2, 1) := by decide +kernel
theorem d_X12_isPoint_3 : decode prog_14_method_160_code 3 = .ok (.aload_n 0, 1) := by decide +kernel
theorem d_X12_isPoint_4 : decode prog_14_method_160_code 4 = .ok (.iload_n 1, 1) := by decide +kernel
theorem d_X12_isPoint_5 : decode prog_14_method_160_code 5 = .ok (.invokevirtual 456, 3) := by decide +kernel
theorem d_X12_isPoint_8 : decode prog_14_method_160_code 8 = .ok (.if_icmp .ge 20, 3) := by decide +kernel
theorem d_X12_isPoint_11 : decode prog_14_method_160_code 11 = .ok (.aload_n 0, 1) := by decide +kernel
theorem d_X12_isPoint_12 : decode prog_14_method_160_code 12 = .ok (.getfield 193, 3) := by decide +kernel
theorem d_X12_isPoint_15 : decode prog_14_method_160_code 15 = .ok (.iload_n 2, 1) := by decide +kernel
theorem d_X12_isPoint_16 : decode prog_14_method_160_code 16 = .ok (.iaload, 1) := by decide +kernel
theorem d_X12_isPoint_17 : decode prog_14_method_160_code 17 = .ok (.ifCond .ge 5, 3) := by decide +kernel
theorem d_X12_isPoint_20 : decode prog_14_method_160_code 20 = .ok (.iconst 0, 1) := by decide +kernel
theorem d_X12_isPoint_21 : decode prog_14_method_160_code 21 = .ok (.ireturn, 1) := by decide +kernel
theorem d_X12_isPoint_22 : decode prog_14_method_160_code 22 = .ok (.iinc 2 1, 3) := by decide +kernel
theorem d_X12_isPoint_25 : decode prog_14_method_160_code 25 = .ok (.goto (-23), 3) := by decide +kernel
theorem d_X12_isPoint_28 : decode prog_14_method_160_code 28 = .ok (.aload_n 0, 1) := by decide +kernel
theorem d_X12_isPoint_29 : decode prog_14_method_160_code 29 = .ok (.iload_n 1, 1) := by decide +kernel
theorem d_X12_isPoint_30 : decode prog_14_method_160_code 30 = .ok (.invokevirtual 675, 3) := by decide +kernel
theorem d_X12_isPoint_33 : decode prog_14_method_160_code 33 = .ok (.istore_n 2, 1) := by decide +kernel
theorem d_X12_isPoint_34 : decode prog_14_method_160_code 34 = .ok (.aload_n 0, 1) := by decide +kernel
theorem d_X12_isPoint_35 : decode prog_14_method_160_code 35 = .ok (.iload_n 2, 1) := by decide +kernel
theorem d_X12_isPoint_36 : decode prog_14_method_160_code 36 = .ok (.invokevirtual 556, 3) := by decide +kernel
theorem d_X12_isPoint_39 : decode prog_14_method_160_code 39 = .ok (.ifCond .eq 16, 3) := by decide +kernel
theorem d_X12_isPoint_42 : decode prog_14_method_160_code 42 = .ok (.aload_n 0, 1) := by decide +kernel
theorem d_X12_isPoint_43 : decode prog_14_method_160_code 43 = .ok (.iload_n 2, 1) := by decide +kernel
theorem d_X12_isPoint_44 : decode prog_14_method_160_code 44 = .ok (.aload_n 0, 1) := by decide +kernel
theorem d_X12_isPoint_45 : decode prog_14_method_160_code 45 = .ok (.iload_n 1, 1) := by decide +kernel
theorem d_X12_isPoint_46 : decode prog_14_method_160_code 46 = .ok (.invokevirtual 580, 3) := by decide +kernel
theorem d_X12_isPoint_49 : decode prog_14_method_160_code 49 = .ok (.invokevirtual 565, 3) := by decide +kernel
theorem d_X12_isPoint_52 : decode prog_14_method_160_code 52 = .ok (.ifCond .ne 7, 3) := by decide +kernel
theorem d_X12_isPoint_55 : decode prog_14_method_160_code 55 = .ok (.iconst 1, 1) := by decide +kernel
theorem d_X12_isPoint_56 : decode prog_14_method_160_code 56 = .ok (.goto 4, 3) := by decide +kernel
theorem d_X12_isPoint_59 : decode prog_14_method_160_code 59 = .ok (.iconst 0, 1) := by decide +kernel
theorem d_X12_isPoint_60 : decode prog_14_method_160_code 60 = .ok (.ireturn, 1) := by decide +kernel
theorem v_X12_isPoint_0 {E : EE} {d : Nat} {Q : Option AV → AH → Prop} {x0 : Nat} {x1 : Int32} {G : AH} (h : wp E d M_X12_isPoint 2 [some (vr x0), some (vi x1), some (vi 0)] [] G Q) : wp E d M_X12_isPoint 0 [some (vr x0), some (vi x1), none] [] G Q := by
  refine wp_iconst (pc := 0) (v := 0) d_X12_isPoint_0 rfl ?_
  refine wp_istore_n (pc := 1) (lv' := [some (vr _), some (vi _), some (vi _)]) d_X12_isPoint_1 (by decide) rfl ?_
  refine wp_sub ?_ h
  exact ⟨rfl, ⟨rfl, ⟨rfl, trivial⟩⟩⟩
theorem v_X12_isPoint_2 {E : EE} {d : Nat} {Q : Option AV → AH → Prop} {x0 : Nat} {x1 : Int32} {x2 : Int32} {G : AH} (h0 : 0 < d) (h : isO E G x0 12 ∧ (wpI E (d - 1) M_X12_vars [vr x0, vi x1] G (fun r1 G2 => (r1 ≤ x2 → isO E G2 x0 12 ∧ (wpI E (d - 1) M_X12_firstGiven [vr x0, vi x1] G2 (fun r3 G4 => isO E G4 x0 12 ∧ (wpI E (d - 1) M_X12_isFeasible [vr x0, vi r3] G4 (fun r5 G6 => (r5 = 0 → wp E d M_X12_isPoint 55 [some (vr x0), some (vi x1), some (vi r3)] [] G6 Q) ∧ (¬ (r5 = 0) → isO E G6 x0 12 ∧ (wpI E (d - 1) M_X12_handOf [vr x0, vi x1] G6 (fun r7 G8 => isO E G8 x0 12 ∧ (wpI E (d - 1) M_X12_isBetter [vr x0, vi r3, vi r7] G8 (fun r9 G10 => (¬ r9 = 0 → Q (some (vi 0)) G10) ∧ (r9 = 0 → wp E d M_X12_isPoint 55 [some (vr x0), some (vi x1), some (vi r3)] [] G10 Q))))))))))) ∧ (¬ (r1 ≤ x2) → isO E G2 x0 12 ∧ (isO E G2 (gR G2 x0 83) 14 ∧ (vp_in x2 (gN G2 (gR G2 x0 83)) ∧ ((0 ≤ (gI G2 (gR G2 x0 83) (Int32.toNatClampNeg x2)) → wp E d M_X12_isPoint 2 [some (vr x0), some (vi x1), some (vi (x2 + 1))] [] G2 Q) ∧ (¬ (0 ≤ (gI G2 (gR G2 x0 83) (Int32.toNatClampNeg x2))) → Q (some (vi 0)) G2)))))))) : wp E d M_X12_isPoint 2 [some (vr x0), some (vi x1), some (vi x2)] [] G Q := by
  refine wp_iload_n (pc := 2) d_X12_isPoint_2 rfl ?_
  refine wp_aload_n (pc := 3) d_X12_isPoint_3 rfl ?_
  refine wp_iload_n (pc := 4) d_X12_isPoint_4 rfl ?_
  obtain ⟨ho18, h⟩ := h
  refine wp_invV (pc := 5) (N := M_X12_vars) (As := [vi _]) (rest := [vi _]) (r := (cn_12, ct_12, 95)) d_X12_isPoint_5 ml_X12_456 mk_X12_vars mv_X12_vars h0 ho18 rfl rfl (Nat.le_of_ble_eq_true rfl) ?_
  refine wpM.mono h (fun rr G2 hr => ?_)
  obtain ⟨r1, rfl, h⟩ := hr
  show wp E d M_X12_isPoint 8 [some (vr _), some (vi _), some (vi _)] [vi _, vi _] G2 Q
  refine wp_icmp_ge (pc := 8) (tgt := 28) d_X12_isPoint_8 (by decide) (fun hc => ?_) (fun hc => ?_)
  · have h := h.1 hc
    refine wp_aload_n (pc := 28) d_X12_isPoint_28 rfl ?_
    refine wp_iload_n (pc := 29) d_X12_isPoint_29 rfl ?_
    obtain ⟨ho14, h⟩ := h
    refine wp_invV (pc := 30) (N := M_X12_firstGiven) (As := [vi _]) (rest := []) (r := (cn_12, ct_12, 95)) d_X12_isPoint_30 ml_X12_675 mk_X12_firstGiven mv_X12_firstGiven h0 ho14 rfl rfl (Nat.le_of_ble_eq_true rfl) ?_
    refine wpM.mono h (fun rr G4 hr => ?_)
    obtain ⟨r3, rfl, h⟩ := hr
    show wp E d M_X12_isPoint 33 [some (vr _), some (vi _), some (vi _)] [vi _] G4 Q
    refine wp_istore_n (pc := 33) (lv' := [some (vr _), some (vi _), some (vi _)]) d_X12_isPoint_33 (by decide) rfl ?_
    refine wp_aload_n (pc := 34) d_X12_isPoint_34 rfl ?_
    refine wp_iload_n (pc := 35) d_X12_isPoint_35 rfl ?_
    obtain ⟨ho13, h⟩ := h
    refine wp_invV (pc := 36) (N := M_X12_isFeasible) (As := [vi _]) (rest := []) (r := (cn_12, ct_12, 95)) d_X12_isPoint_36 ml_X12_556 mk_X12_isFeasible mv_X12_isFeasible h0 ho13 rfl rfl (Nat.le_of_ble_eq_true rfl) ?_
    refine wpM.mono h (fun rr G6 hr => ?_)
    obtain ⟨r5, rfl, h⟩ := hr
    show wp E d M_X12_isPoint 39 [some (vr _), some (vi _), some (vi _)] [vi _] G6 Q
    refine wp_if_eq (pc := 39) (tgt := 55) d_X12_isPoint_39 (by decide) (fun hc => ?_) (fun hc => ?_)
    · have h := h.1 hc
      refine wp_sub ?_ h
      exact ⟨rfl, ⟨rfl, ⟨rfl, trivial⟩⟩⟩
    · have h := h.2 hc
      refine wp_aload_n (pc := 42) d_X12_isPoint_42 rfl ?_
      refine wp_iload_n (pc := 43) d_X12_isPoint_43 rfl ?_
      refine wp_aload_n (pc := 44) d_X12_isPoint_44 rfl ?_
      refine wp_iload_n (pc := 45) d_X12_isPoint_45 rfl ?_
      obtain ⟨ho12, h⟩ := h
      refine wp_invV (pc := 46) (N := M_X12_handOf) (As := [vi _]) (rest := [vi _, vr _]) (r := (cn_12, ct_12, 95)) d_X12_isPoint_46 ml_X12_580 mk_X12_handOf mv_X12_handOf h0 ho12 rfl rfl (Nat.le_of_ble_eq_true rfl) ?_
      refine wpM.mono h (fun rr G8 hr => ?_)
      obtain ⟨r7, rfl, h⟩ := hr
      show wp E d M_X12_isPoint 49 [some (vr _), some (vi _), some (vi _)] [vi _, vi _, vr _] G8 Q
      obtain ⟨ho11, h⟩ := h
      refine wp_invV (pc := 49) (N := M_X12_isBetter) (As := [vi _, vi _]) (rest := []) (r := (cn_12, ct_12, 95)) d_X12_isPoint_49 ml_X12_565 mk_X12_isBetter mv_X12_isBetter h0 ho11 rfl rfl (Nat.le_of_ble_eq_true rfl) ?_
      refine wpM.mono h (fun rr G10 hr => ?_)
      obtain ⟨r9, rfl, h⟩ := hr
      show wp E d M_X12_isPoint 52 [some (vr _), some (vi _), some (vi _)] [vi _] G10 Q
      refine wp_if_ne (pc := 52) (tgt := 59) d_X12_isPoint_52 (by decide) (fun hc => ?_) (fun hc => ?_)
      · have h := h.1 hc
        refine wp_iconst (pc := 59) (v := 0) d_X12_isPoint_59 rfl ?_
        exact wp_zret (pc := 60) d_X12_isPoint_60 rfl rfl h
      · have h := h.2 hc
        refine wp_sub ?_ h
        exact ⟨rfl, ⟨rfl, ⟨rfl, trivial⟩⟩⟩
  · have h := h.2 hc
    refine wp_aload_n (pc := 11) d_X12_isPoint_11 rfl ?_
    obtain ⟨ho15, h⟩ := h
    refine wp_getR (pc := 12) d_X12_isPoint_12 fl_X12_193 (fun _ _ _ => rfl) ho15 ?_
    refine wp_iload_n (pc := 15) d_X12_isPoint_15 rfl ?_
    obtain ⟨ho16, h⟩ := h
    obtain ⟨hi17, h⟩ := h
    refine wp_iald (pc := 16) d_X12_isPoint_16 ho16 hi17 ?_
    refine wp_if_ge (pc := 17) (tgt := 22) d_X12_isPoint_17 (by decide) (fun hc => ?_) (fun hc => ?_)
    · have h := h.1 hc
      refine wp_iinc (pc := 22) (v := 1) (lv' := [some (vr _), some (vi _), some (vi _)]) d_X12_isPoint_22 (by decide) rfl rfl rfl ?_
      refine wp_goto (pc := 25) (tgt := 2) d_X12_isPoint_25 (by decide) ?_
      refine wp_sub ?_ h
      exact ⟨rfl, ⟨rfl, ⟨rfl, trivial⟩⟩⟩
    · have h := h.2 hc
      refine wp_iconst (pc := 20) (v := 0) d_X12_isPoint_20 rfl ?_
      exact wp_zret (pc := 21) d_X12_isPoint_21 rfl rfl h
theorem v_X12_isPoint_55 {E : EE} {d : Nat} {Q : Option AV → AH → Prop} {x0 : Nat} {x1 : Int32} {x2 : Int32} {G : AH} (h : Q (some (vi 1)) G) : wp E d M_X12_isPoint 55 [some (vr x0), some (vi x1), some (vi x2)] [] G Q := by
  refine wp_iconst (pc := 55) (v := 1) d_X12_isPoint_55 rfl ?_
  refine wp_goto (pc := 56) (tgt := 60) d_X12_isPoint_56 (by decide) ?_
  exact wp_zret (pc := 60) d_X12_isPoint_60 rfl rfl h
theorem d_X12_isBound_0 : decode prog_14_method_159_code 0 = .ok (.iconst 1, 1) := by decide +kernel
theorem d_X12_isBound_1 : decode prog_14_method_159_code 1 = .ok (.istore_n 2, 1) := by decide +kernel
theorem d_X12_isBound_2 : decode prog_14_method_159_code 2 = .ok (.aload_n 0, 1) := by decide +kernel
theorem d_X12_isBound_3 : decode prog_14_method_159_code 3 = .ok (.iload_n 1, 1) := by decide +kernel
theorem d_X12_isBound_4 : decode prog_14_method_159_code 4 = .ok (.invokevirtual 675, 3) := by decide +kernel
theorem d_X12_isBound_7 : decode prog_14_method_159_code 7 = .ok (.istore_n 3, 1) := by decide +kernel
theorem d_X12_isBound_8 : decode prog_14_method_159_code 8 = .ok (.iload_n 3, 1) := by decide +kernel
theorem d_X12_isBound_9 : decode prog_14_method_159_code 9 = .ok (.ifCond .lt 182, 3) := by decide +kernel
theorem d_X12_isBound_12 : decode prog_14_method_159_code 12 = .ok (.iconst 0, 1) := by decide +kernel
theorem d_X12_isBound_13 : decode prog_14_method_159_code 13 = .ok (.istore 4, 2) := by decide +kernel
theorem d_X12_isBound_15 : decode prog_14_method_159_code 15 = .ok (.iload 4, 2) := by decide +kernel
theorem d_X12_isBound_17 : decode prog_14_method_159_code 17 = .ok (.aload_n 0, 1) := by decide +kernel
theorem d_X12_isBound_18 : decode prog_14_method_159_code 18 = .ok (.iload_n 1, 1) := by decide +kernel
theorem d_X12_isBound_19 : decode prog_14_method_159_code 19 = .ok (.invokevirtual 459, 3) := by decide +kernel
theorem d_X12_isBound_22 : decode prog_14_method_159_code 22 = .ok (.if_icmp .ge 69, 3) := by decide +kernel
theorem d_X12_isBound_25 : decode prog_14_method_159_code 25 = .ok (.aload_n 0, 1) := by decide +kernel
theorem d_X12_isBound_26 : decode prog_14_method_159_code 26 = .ok (.getfield 199, 3) := by decide +kernel
theorem d_X12_isBound_29 : decode prog_14_method_159_code 29 = .ok (.iload 4, 2) := by decide +kernel
theorem d_X12_isBound_31 : decode prog_14_method_159_code 31 = .ok (.iload_n 2, 1) := by decide +kernel
theorem d_X12_isBound_32 : decode prog_14_method_159_code 32 = .ok (.ifCond .ne 28, 3) := by decide +kernel
theorem d_X12_isBound_35 : decode prog_14_method_159_code 35 = .ok (.aload_n 0, 1) := by decide +kernel
theorem d_X12_isBound_36 : decode prog_14_method_159_code 36 = .ok (.getfield 151, 3) := by decide +kernel
theorem d_X12_isBound_39 : decode prog_14_method_159_code 39 = .ok (.sipush 20000, 3) := by decide +kernel
theorem d_X12_isBound_42 : decode prog_14_method_159_code 42 = .ok (.iload 4, 2) := by decide +kernel
theorem d_X12_isBound_44 : decode prog_14_method_159_code 44 = .ok (.imul, 1) := by decide +kernel
theorem d_X12_isBound_45 : decode prog_14_method_159_code 45 = .ok (.iload_n 3, 1) := by decide +kernel
theorem d_X12_isBound_46 : decode prog_14_method_159_code 46 = .ok (.iadd, 1) := by decide +kernel
theorem d_X12_isBound_47 : decode prog_14_method_159_code 47 = .ok (.iaload, 1) := by decide +kernel
theorem d_X12_isBound_48 : decode prog_14_method_159_code 48 = .ok (.i2l, 1) := by decide +kernel
theorem d_X12_isBound_49 : decode prog_14_method_159_code 49 = .ok (.aload_n 0, 1) := by decide +kernel
theorem d_X12_isBound_50 : decode prog_14_method_159_code 50 = .ok (.getfield 199, 3) := by decide +kernel
theorem d_X12_isBound_53 : decode prog_14_method_159_code 53 = .ok (.iload 4, 2) := by decide +kernel
theorem d_X12_isBound_55 : decode prog_14_method_159_code 55 = .ok (.laload, 1) := by decide +kernel
theorem d_X12_isBound_56 : decode prog_14_method_159_code 56 = .ok (.lcmp, 1) := by decide +kernel
theorem d_X12_isBound_57 : decode prog_14_method_159_code 57 = .ok (.ifCond .ge 20, 3) := by decide +kernel
theorem d_X12_isBound_60 : decode prog_14_method_159_code 60 = .ok (.aload_n 0, 1) := by decide +kernel
theorem d_X12_isBound_61 : decode prog_14_method_159_code 61 = .ok (.getfield 151, 3) := by decide +kernel
theorem d_X12_isBound_64 : decode prog_14_method_159_code 64 = .ok (.sipush 20000, 3) := by decide +kernel
theorem d_X12_isBound_67 : decode prog_14_method_159_code 67 = .ok (.iload 4, 2) := by decide +kernel
theorem d_X12_isBound_69 : decode prog_14_method_159_code 69 = .ok (.imul, 1) := by decide +kernel
theorem d_X12_isBound_70 : decode prog_14_method_159_code 70 = .ok (.iload_n 3, 1) := by decide +kernel
theorem d_X12_isBound_71 : decode prog_14_method_159_code 71 = .ok (.iadd, 1) := by decide +kernel
theorem d_X12_isBound_72 : decode prog_14_method_159_code 72 = .ok (.iaload, 1) := by decide +kernel
theorem d_X12_isBound_73 : decode prog_14_method_159_code 73 = .ok (.i2l, 1) := by decide +kernel
theorem d_X12_isBound_74 : decode prog_14_method_159_code 74 = .ok (.goto 10, 3) := by decide +kernel
theorem d_X12_isBound_77 : decode prog_14_method_159_code 77 = .ok (.aload_n 0, 1) := by decide +kernel
theorem d_X12_isBound_78 : decode prog_14_method_159_code 78 = .ok (.getfield 199, 3) := by decide +kernel
theorem d_X12_isBound_81 : decode prog_14_method_159_code 81 = .ok (.iload 4, 2) := by decide +kernel
theorem d_X12_isBound_83 : decode prog_14_method_159_code 83 = .ok (.laload, 1) := by decide +kernel
theorem d_X12_isBound_84 : decode prog_14_method_159_code 84 = .ok (.lastore, 1) := by decide +kernel
theorem d_X12_isBound_85 : decode prog_14_method_159_code 85 = .ok (.iinc 4 1, 3) := by decide +kernel
theorem d_X12_isBound_88 : decode prog_14_method_159_code 88 = .ok (.goto (-73), 3) := by decide +kernel
theorem d_X12_isBound_91 : decode prog_14_method_159_code 91 = .ok (.iconst 0, 1) := by decide +kernel
theorem d_X12_isBound_92 : decode prog_14_method_159_code 92 = .ok (.istore 4, 2) := by decide +kernel
theorem d_X12_isBound_94 : decode prog_14_method_159_code 94 = .ok (.iload 4, 2) := by decide +kernel
theorem d_X12_isBound_96 : decode prog_14_method_159_code 96 = .ok (.aload_n 0, 1) := by decide +kernel
theorem d_X12_isBound_97 : decode prog_14_method_159_code 97 = .ok (.iload_n 1, 1) := by decide +kernel
theorem d_X12_isBound_98 : decode prog_14_method_159_code 98 = .ok (.invokevirtual 541, 3) := by decide +kernel
theorem d_X12_isBound_101 : decode prog_14_method_159_code 101 = .ok (.if_icmp .ge 78, 3) := by decide +kernel
theorem d_X12_isBound_104 : decode prog_14_method_159_code 104 = .ok (.aload_n 0, 1) := by decide +kernel
theorem d_X12_isBound_105 : decode prog_14_method_159_code 105 = .ok (.getfield 199, 3) := by decide +kernel
theorem d_X12_isBound_108 : decode prog_14_method_159_code 108 = .ok (.bipush 24, 2) := by decide +kernel
theorem d_X12_isBound_110 : decode prog_14_method_159_code 110 = .ok (.iload 4, 2) := by decide +kernel
theorem d_X12_isBound_112 : decode prog_14_method_159_code 112 = .ok (.iadd, 1) := by decide +kernel
theorem d_X12_isBound_113 : decode prog_14_method_159_code 113 = .ok (.iload_n 2, 1) := by decide +kernel
theorem d_X12_isBound_114 : decode prog_14_method_159_code 114 = .ok (.ifCond .ne 31, 3) := by decide +kernel
theorem d_X12_isBound_117 : decode prog_14_method_159_code 117 = .ok (.aload_n 0, 1) := by decide +kernel
theorem d_X12_isBound_118 : decode prog_14_method_159_code 118 = .ok (.getfield 155, 3) := by decide +kernel
theorem d_X12_isBound_121 : decode prog_14_method_159_code 121 = .ok (.sipush 20000, 3) := by decide +kernel
theorem d_X12_isBound_124 : decode prog_14_method_159_code 124 = .ok (.iload 4, 2) := by decide +kernel
theorem d_X12_isBound_126 : decode prog_14_method_159_code 126 = .ok (.imul, 1) := by decide +kernel
theorem d_X12_isBound_127 : decode prog_14_method_159_code 127 = .ok (.iload_n 3, 1) := by decide +kernel
theorem d_X12_isBound_128 : decode prog_14_method_159_code 128 = .ok (.iadd, 1) := by decide +kernel
theorem d_X12_isBound_129 : decode prog_14_method_159_code 129 = .ok (.iaload, 1) := by decide +kernel
theorem d_X12_isBound_130 : decode prog_14_method_159_code 130 = .ok (.i2l, 1) := by decide +kernel
theorem d_X12_isBound_131 : decode prog_14_method_159_code 131 = .ok (.aload_n 0, 1) := by decide +kernel
theorem d_X12_isBound_132 : decode prog_14_method_159_code 132 = .ok (.getfield 199, 3) := by decide +kernel
theorem d_X12_isBound_135 : decode prog_14_method_159_code 135 = .ok (.bipush 24, 2) := by decide +kernel
theorem d_X12_isBound_137 : decode prog_14_method_159_code 137 = .ok (.iload 4, 2) := by decide +kernel
theorem d_X12_isBound_139 : decode prog_14_method_159_code 139 = .ok (.iadd, 1) := by decide +kernel
theorem d_X12_isBound_140 : decode prog_14_method_159_code 140 = .ok (.laload, 1) := by decide +kernel
theorem d_X12_isBound_141 : decode prog_14_method_159_code 141 = .ok (.lcmp, 1) := by decide +kernel
theorem d_X12_isBound_142 : decode prog_14_method_159_code 142 = .ok (.ifCond .ge 20, 3) := by decide +kernel
theorem d_X12_isBound_145 : decode prog_14_method_159_code 145 = .ok (.aload_n 0, 1) := by decide +kernel
theorem d_X12_isBound_146 : decode prog_14_method_159_code 146 = .ok (.getfield 155, 3) := by decide +kernel
theorem d_X12_isBound_149 : decode prog_14_method_159_code 149 = .ok (.sipush 20000, 3) := by decide +kernel
theorem d_X12_isBound_152 : decode prog_14_method_159_code 152 = .ok (.iload 4, 2) := by decide +kernel
theorem d_X12_isBound_154 : decode prog_14_method_159_code 154 = .ok (.imul, 1) := by decide +kernel
theorem d_X12_isBound_155 : decode prog_14_method_159_code 155 = .ok (.iload_n 3, 1) := by decide +kernel
theorem d_X12_isBound_156 : decode prog_14_method_159_code 156 = .ok (.iadd, 1) := by decide +kernel
theorem d_X12_isBound_157 : decode prog_14_method_159_code 157 = .ok (.iaload, 1) := by decide +kernel
theorem d_X12_isBound_158 : decode prog_14_method_159_code 158 = .ok (.i2l, 1) := by decide +kernel
theorem d_X12_isBound_159 : decode prog_14_method_159_code 159 = .ok (.goto 13, 3) := by decide +kernel
theorem d_X12_isBound_162 : decode prog_14_method_159_code 162 = .ok (.aload_n 0, 1) := by decide +kernel
theorem d_X12_isBound_163 : decode prog_14_method_159_code 163 = .ok (.getfield 199, 3) := by decide +kernel
theorem d_X12_isBound_166 : decode prog_14_method_159_code 166 = .ok (.bipush 24, 2) := by decide +kernel
theorem d_X12_isBound_168 : decode prog_14_method_159_code 168 = .ok (.iload 4, 2) := by decide +kernel
theorem d_X12_isBound_170 : decode prog_14_method_159_code 170 = .ok (.iadd, 1) := by decide +kernel
theorem d_X12_isBound_171 : decode prog_14_method_159_code 171 = .ok (.laload, 1) := by decide +kernel
theorem d_X12_isBound_172 : decode prog_14_method_159_code 172 = .ok (.lastore, 1) := by decide +kernel
theorem d_X12_isBound_173 : decode prog_14_method_159_code 173 = .ok (.iinc 4 1, 3) := by decide +kernel
theorem d_X12_isBound_176 : decode prog_14_method_159_code 176 = .ok (.goto (-82), 3) := by decide +kernel
theorem d_X12_isBound_179 : decode prog_14_method_159_code 179 = .ok (.iconst 0, 1) := by decide +kernel
theorem d_X12_isBound_180 : decode prog_14_method_159_code 180 = .ok (.istore_n 2, 1) := by decide +kernel
theorem d_X12_isBound_181 : decode prog_14_method_159_code 181 = .ok (.aload_n 0, 1) := by decide +kernel
theorem d_X12_isBound_182 : decode prog_14_method_159_code 182 = .ok (.iload_n 1, 1) := by decide +kernel
theorem d_X12_isBound_183 : decode prog_14_method_159_code 183 = .ok (.iload_n 3, 1) := by decide +kernel
theorem d_X12_isBound_184 : decode prog_14_method_159_code 184 = .ok (.invokevirtual 678, 3) := by decide +kernel
theorem d_X12_isBound_187 : decode prog_14_method_159_code 187 = .ok (.istore_n 3, 1) := by decide +kernel
theorem d_X12_isBound_188 : decode prog_14_method_159_code 188 = .ok (.goto (-180), 3) := by decide +kernel
theorem d_X12_isBound_191 : decode prog_14_method_159_code 191 = .ok (.iconst 0, 1) := by decide +kernel
theorem d_X12_isBound_192 : decode prog_14_method_159_code 192 = .ok (.istore_n 3, 1) := by decide +kernel
theorem d_X12_isBound_193 : decode prog_14_method_159_code 193 = .ok (.iload_n 3, 1) := by decide +kernel
theorem d_X12_isBound_194 : decode prog_14_method_159_code 194 = .ok (.iconst 3, 1) := by decide +kernel
theorem d_X12_isBound_195 : decode prog_14_method_159_code 195 = .ok (.if_icmp .ge 16, 3) := by decide +kernel
theorem d_X12_isBound_198 : decode prog_14_method_159_code 198 = .ok (.aload_n 0, 1) := by decide +kernel
theorem d_X12_isBound_199 : decode prog_14_method_159_code 199 = .ok (.getfield 196, 3) := by decide +kernel
theorem d_X12_isBound_202 : decode prog_14_method_159_code 202 = .ok (.iload_n 3, 1) := by decide +kernel
theorem d_X12_isBound_203 : decode prog_14_method_159_code 203 = .ok (.lconst 0, 1) := by decide +kernel
theorem d_X12_isBound_204 : decode prog_14_method_159_code 204 = .ok (.lastore, 1) := by decide +kernel
theorem d_X12_isBound_205 : decode prog_14_method_159_code 205 = .ok (.iinc 3 1, 3) := by decide +kernel
theorem d_X12_isBound_208 : decode prog_14_method_159_code 208 = .ok (.goto (-15), 3) := by decide +kernel
theorem d_X12_isBound_211 : decode prog_14_method_159_code 211 = .ok (.iconst 0, 1) := by decide +kernel
theorem d_X12_isBound_212 : decode prog_14_method_159_code 212 = .ok (.istore_n 3, 1) := by decide +kernel
theorem d_X12_isBound_213 : decode prog_14_method_159_code 213 = .ok (.iload_n 3, 1) := by decide +kernel
theorem d_X12_isBound_214 : decode prog_14_method_159_code 214 = .ok (.aload_n 0, 1) := by decide +kernel
theorem d_X12_isBound_215 : decode prog_14_method_159_code 215 = .ok (.iload_n 1, 1) := by decide +kernel
theorem d_X12_isBound_216 : decode prog_14_method_159_code 216 = .ok (.invokevirtual 459, 3) := by decide +kernel
theorem d_X12_isBound_219 : decode prog_14_method_159_code 219 = .ok (.if_icmp .ge 47, 3) := by decide +kernel
theorem d_X12_isBound_222 : decode prog_14_method_159_code 222 = .ok (.aload_n 0, 1) := by decide +kernel
theorem d_X12_isBound_223 : decode prog_14_method_159_code 223 = .ok (.getfield 196, 3) := by decide +kernel
theorem d_X12_isBound_226 : decode prog_14_method_159_code 226 = .ok (.aload_n 0, 1) := by decide +kernel
theorem d_X12_isBound_227 : decode prog_14_method_159_code 227 = .ok (.getfield 88, 3) := by decide +kernel
theorem d_X12_isBound_230 : decode prog_14_method_159_code 230 = .ok (.bipush 24, 2) := by decide +kernel
theorem d_X12_isBound_232 : decode prog_14_method_159_code 232 = .ok (.iload_n 1, 1) := by decide +kernel
theorem d_X12_isBound_233 : decode prog_14_method_159_code 233 = .ok (.imul, 1) := by decide +kernel
theorem d_X12_isBound_234 : decode prog_14_method_159_code 234 = .ok (.iload_n 3, 1) := by decide +kernel
theorem d_X12_isBound_235 : decode prog_14_method_159_code 235 = .ok (.iadd, 1) := by decide +kernel
theorem d_X12_isBound_236 : decode prog_14_method_159_code 236 = .ok (.iaload, 1) := by decide +kernel
theorem d_X12_isBound_237 : decode prog_14_method_159_code 237 = .ok (.dup2, 1) := by decide +kernel
theorem d_X12_isBound_238 : decode prog_14_method_159_code 238 = .ok (.laload, 1) := by decide +kernel
theorem d_X12_isBound_239 : decode prog_14_method_159_code 239 = .ok (.aload_n 0, 1) := by decide +kernel
theorem d_X12_isBound_240 : decode prog_14_method_159_code 240 = .ok (.getfield 91, 3) := by decide +kernel
theorem d_X12_isBound_243 : decode prog_14_method_159_code 243 = .ok (.bipush 24, 2) := by decide +kernel
theorem d_X12_isBound_245 : decode prog_14_method_159_code 245 = .ok (.iload_n 1, 1) := by decide +kernel
theorem d_X12_isBound_246 : decode prog_14_method_159_code 246 = .ok (.imul, 1) := by decide +kernel
theorem d_X12_isBound_247 : decode prog_14_method_159_code 247 = .ok (.iload_n 3, 1) := by decide +kernel
theorem d_X12_isBound_248 : decode prog_14_method_159_code 248 = .ok (.iadd, 1) := by decide +kernel
theorem d_X12_isBound_249 : decode prog_14_method_159_code 249 = .ok (.iaload, 1) := by decide +kernel
theorem d_X12_isBound_250 : decode prog_14_method_159_code 250 = .ok (.i2l, 1) := by decide +kernel
theorem d_X12_isBound_251 : decode prog_14_method_159_code 251 = .ok (.aload_n 0, 1) := by decide +kernel
theorem d_X12_isBound_252 : decode prog_14_method_159_code 252 = .ok (.getfield 199, 3) := by decide +kernel
theorem d_X12_isBound_255 : decode prog_14_method_159_code 255 = .ok (.iload_n 3, 1) := by decide +kernel
theorem d_X12_isBound_256 : decode prog_14_method_159_code 256 = .ok (.laload, 1) := by decide +kernel
theorem d_X12_isBound_257 : decode prog_14_method_159_code 257 = .ok (.lmul, 1) := by decide +kernel
theorem d_X12_isBound_258 : decode prog_14_method_159_code 258 = .ok (.ladd, 1) := by decide +kernel
theorem d_X12_isBound_259 : decode prog_14_method_159_code 259 = .ok (.lastore, 1) := by decide +kernel
theorem d_X12_isBound_260 : decode prog_14_method_159_code 260 = .ok (.iinc 3 1, 3) := by decide +kernel
theorem d_X12_isBound_263 : decode prog_14_method_159_code 263 = .ok (.goto (-50), 3) := by decide +kernel
theorem d_X12_isBound_266 : decode prog_14_method_159_code 266 = .ok (.iconst 0, 1) := by decide +kernel
theorem d_X12_isBound_267 : decode prog_14_method_159_code 267 = .ok (.istore_n 3, 1) := by decide +kernel
theorem d_X12_isBound_268 : decode prog_14_method_159_code 268 = .ok (.iload_n 3, 1) := by decide +kernel
theorem d_X12_isBound_269 : decode prog_14_method_159_code 269 = .ok (.aload_n 0, 1) := by decide +kernel
theorem d_X12_isBound_270 : decode prog_14_method_159_code 270 = .ok (.iload_n 1, 1) := by decide +kernel
theorem d_X12_isBound_271 : decode prog_14_method_159_code 271 = .ok (.invokevirtual 541, 3) := by decide +kernel
theorem d_X12_isBound_274 : decode prog_14_method_159_code 274 = .ok (.if_icmp .ge 37, 3) := by decide +kernel
theorem d_X12_isBound_277 : decode prog_14_method_159_code 277 = .ok (.aload_n 0, 1) := by decide +kernel
theorem d_X12_isBound_278 : decode prog_14_method_159_code 278 = .ok (.getfield 196, 3) := by decide +kernel
theorem d_X12_isBound_281 : decode prog_14_method_159_code 281 = .ok (.aload_n 0, 1) := by decide +kernel
theorem d_X12_isBound_282 : decode prog_14_method_159_code 282 = .ok (.getfield 97, 3) := by decide +kernel
theorem d_X12_isBound_285 : decode prog_14_method_159_code 285 = .ok (.bipush 6, 2) := by decide +kernel
theorem d_X12_isBound_287 : decode prog_14_method_159_code 287 = .ok (.iload_n 1, 1) := by decide +kernel
theorem d_X12_isBound_288 : decode prog_14_method_159_code 288 = .ok (.imul, 1) := by decide +kernel
theorem d_X12_isBound_289 : decode prog_14_method_159_code 289 = .ok (.iload_n 3, 1) := by decide +kernel
theorem d_X12_isBound_290 : decode prog_14_method_159_code 290 = .ok (.iadd, 1) := by decide +kernel
theorem d_X12_isBound_291 : decode prog_14_method_159_code 291 = .ok (.iaload, 1) := by decide +kernel
theorem d_X12_isBound_292 : decode prog_14_method_159_code 292 = .ok (.dup2, 1) := by decide +kernel
theorem d_X12_isBound_293 : decode prog_14_method_159_code 293 = .ok (.laload, 1) := by decide +kernel
theorem d_X12_isBound_294 : decode prog_14_method_159_code 294 = .ok (.aload_n 0, 1) := by decide +kernel
theorem d_X12_isBound_295 : decode prog_14_method_159_code 295 = .ok (.getfield 199, 3) := by decide +kernel
theorem d_X12_isBound_298 : decode prog_14_method_159_code 298 = .ok (.bipush 24, 2) := by decide +kernel
theorem d_X12_isBound_300 : decode prog_14_method_159_code 300 = .ok (.iload_n 3, 1) := by decide +kernel
theorem d_X12_isBound_301 : decode prog_14_method_159_code 301 = .ok (.iadd, 1) := by decide +kernel
theorem d_X12_isBound_302 : decode prog_14_method_159_code 302 = .ok (.laload, 1) := by decide +kernel
theorem d_X12_isBound_303 : decode prog_14_method_159_code 303 = .ok (.ladd, 1) := by decide +kernel
theorem d_X12_isBound_304 : decode prog_14_method_159_code 304 = .ok (.lastore, 1) := by decide +kernel
theorem d_X12_isBound_305 : decode prog_14_method_159_code 305 = .ok (.iinc 3 1, 3) := by decide +kernel
theorem d_X12_isBound_308 : decode prog_14_method_159_code 308 = .ok (.goto (-40), 3) := by decide +kernel
theorem d_X12_isBound_311 : decode prog_14_method_159_code 311 = .ok (.aload_n 0, 1) := by decide +kernel
theorem d_X12_isBound_312 : decode prog_14_method_159_code 312 = .ok (.iload_n 1, 1) := by decide +kernel
theorem d_X12_isBound_313 : decode prog_14_method_159_code 313 = .ok (.invokevirtual 580, 3) := by decide +kernel
theorem d_X12_isBound_316 : decode prog_14_method_159_code 316 = .ok (.istore_n 3, 1) := by decide +kernel
theorem d_X12_isBound_317 : decode prog_14_method_159_code 317 = .ok (.iconst 0, 1) := by decide +kernel
theorem d_X12_isBound_318 : decode prog_14_method_159_code 318 = .ok (.istore 4, 2) := by decide +kernel
theorem d_X12_isBound_320 : decode prog_14_method_159_code 320 = .ok (.iload 4, 2) := by decide +kernel
theorem d_X12_isBound_322 : decode prog_14_method_159_code 322 = .ok (.iconst 3, 1) := by decide +kernel
theorem d_X12_isBound_323 : decode prog_14_method_159_code 323 = .ok (.if_icmp .ge 63, 3) := by decide +kernel
theorem d_X12_isBound_326 : decode prog_14_method_159_code 326 = .ok (.aload_n 0, 1) := by decide +kernel
theorem d_X12_isBound_327 : decode prog_14_method_159_code 327 = .ok (.getfield 159, 3) := by decide +kernel
theorem d_X12_isBound_330 : decode prog_14_method_159_code 330 = .ok (.sipush 20000, 3) := by decide +kernel
theorem d_X12_isBound_333 : decode prog_14_method_159_code 333 = .ok (.iload 4, 2) := by decide +kernel
theorem d_X12_isBound_335 : decode prog_14_method_159_code 335 = .ok (.imul, 1) := by decide +kernel
theorem d_X12_isBound_336 : decode prog_14_method_159_code 336 = .ok (.iload_n 3, 1) := by decide +kernel
theorem d_X12_isBound_337 : decode prog_14_method_159_code 337 = .ok (.iadd, 1) := by decide +kernel
theorem d_X12_isBound_338 : decode prog_14_method_159_code 338 = .ok (.laload, 1) := by decide +kernel
theorem d_X12_isBound_339 : decode prog_14_method_159_code 339 = .ok (.aload_n 0, 1) := by decide +kernel
theorem d_X12_isBound_340 : decode prog_14_method_159_code 340 = .ok (.getfield 196, 3) := by decide +kernel
theorem d_X12_isBound_343 : decode prog_14_method_159_code 343 = .ok (.iload 4, 2) := by decide +kernel
theorem d_X12_isBound_345 : decode prog_14_method_159_code 345 = .ok (.laload, 1) := by decide +kernel
theorem d_X12_isBound_346 : decode prog_14_method_159_code 346 = .ok (.lcmp, 1) := by decide +kernel
theorem d_X12_isBound_347 : decode prog_14_method_159_code 347 = .ok (.ifCond .eq 33, 3) := by decide +kernel
theorem d_X12_isBound_350 : decode prog_14_method_159_code 350 = .ok (.aload_n 0, 1) := by decide +kernel
theorem d_X12_isBound_351 : decode prog_14_method_159_code 351 = .ok (.getfield 159, 3) := by decide +kernel
theorem d_X12_isBound_354 : decode prog_14_method_159_code 354 = .ok (.sipush 20000, 3) := by decide +kernel
theorem d_X12_isBound_357 : decode prog_14_method_159_code 357 = .ok (.iload 4, 2) := by decide +kernel
theorem d_X12_isBound_359 : decode prog_14_method_159_code 359 = .ok (.imul, 1) := by decide +kernel
theorem d_X12_isBound_360 : decode prog_14_method_159_code 360 = .ok (.iload_n 3, 1) := by decide +kernel
theorem d_X12_isBound_361 : decode prog_14_method_159_code 361 = .ok (.iadd, 1) := by decide +kernel
theorem d_X12_isBound_362 : decode prog_14_method_159_code 362 = .ok (.laload, 1) := by decide +kernel
theorem d_X12_isBound_363 : decode prog_14_method_159_code 363 = .ok (.aload_n 0, 1) := by decide +kernel
theorem d_X12_isBound_364 : decode prog_14_method_159_code 364 = .ok (.getfield 196, 3) := by decide +kernel
theorem d_X12_isBound_367 : decode prog_14_method_159_code 367 = .ok (.iload 4, 2) := by decide +kernel
theorem d_X12_isBound_369 : decode prog_14_method_159_code 369 = .ok (.laload, 1) := by decide +kernel
theorem d_X12_isBound_370 : decode prog_14_method_159_code 370 = .ok (.lcmp, 1) := by decide +kernel
theorem d_X12_isBound_371 : decode prog_14_method_159_code 371 = .ok (.ifCond .ge 7, 3) := by decide +kernel
theorem d_X12_isBound_374 : decode prog_14_method_159_code 374 = .ok (.iconst 1, 1) := by decide +kernel
theorem d_X12_isBound_375 : decode prog_14_method_159_code 375 = .ok (.goto 4, 3) := by decide +kernel
theorem d_X12_isBound_378 : decode prog_14_method_159_code 378 = .ok (.iconst 0, 1) := by decide +kernel
theorem d_X12_isBound_379 : decode prog_14_method_159_code 379 = .ok (.ireturn, 1) := by decide +kernel
theorem d_X12_isBound_380 : decode prog_14_method_159_code 380 = .ok (.iinc 4 1, 3) := by decide +kernel
theorem d_X12_isBound_383 : decode prog_14_method_159_code 383 = .ok (.goto (-63), 3) := by decide +kernel
theorem d_X12_isBound_386 : decode prog_14_method_159_code 386 = .ok (.iconst 1, 1) := by decide +kernel
theorem d_X12_isBound_387 : decode prog_14_method_159_code 387 = .ok (.ireturn, 1) := by decide +kernel
theorem v_X12_isBound_0 {E : EE} {d : Nat} {Q : Option AV → AH → Prop} {x0 : Nat} {x1 : Int32} {G : AH} (h0 : 0 < d) (h : isO E G x0 12 ∧ (wpI E (d - 1) M_X12_firstGiven [vr x0, vi x1] G (fun r1 G2 => wp E d M_X12_isBound 8 [some (vr x0), some (vi x1), some (vi 1), some (vi r1), none] [] G2 Q))) : wp E d M_X12_isBound 0 [some (vr x0), some (vi x1), none, none, none] [] G Q := by
  refine wp_iconst (pc := 0) (v := 1) d_X12_isBound_0 rfl ?_
  refine wp_istore_n (pc := 1) (lv' := [some (vr _), some (vi _), some (vi _), none, none]) d_X12_isBound_1 (by decide) rfl ?_
  refine wp_aload_n (pc := 2) d_X12_isBound_2 rfl ?_
  refine wp_iload_n (pc := 3) d_X12_isBound_3 rfl ?_
  obtain ⟨ho3, h⟩ := h
  refine wp_invV (pc := 4) (N := M_X12_firstGiven) (As := [vi _]) (rest := []) (r := (cn_12, ct_12, 95)) d_X12_isBound_4 ml_X12_675 mk_X12_firstGiven mv_X12_firstGiven h0 ho3 rfl rfl (Nat.le_of_ble_eq_true rfl) ?_
  refine wpM.mono h (fun rr G2 hr => ?_)
  obtain ⟨r1, rfl, h⟩ := hr
  show wp E d M_X12_isBound 7 [some (vr _), some (vi _), some (vi _), none, none] [vi _] G2 Q
  refine wp_istore_n (pc := 7) (lv' := [some (vr _), some (vi _), some (vi _), some (vi _), none]) d_X12_isBound_7 (by decide) rfl ?_
  refine wp_sub ?_ h
  exact ⟨rfl, ⟨rfl, ⟨rfl, ⟨rfl, trivial⟩⟩⟩⟩
theorem v_X12_isBound_8 {E : EE} {d : Nat} {Q : Option AV → AH → Prop} {x0 : Nat} {x1 : Int32} {x2 : Int32} {x3 : Int32} {G : AH} (h : (x3 < 0 → wp E d M_X12_isBound 193 [some (vr x0), some (vi x1), some (vi x2), some (vi 0), none] [] G Q) ∧ (¬ (x3 < 0) → wp E d M_X12_isBound 15 [some (vr x0), some (vi x1), some (vi x2), some (vi x3), some (vi 0)] [] G Q)) : wp E d M_X12_isBound 8 [some (vr x0), some (vi x1), some (vi x2), some (vi x3), none] [] G Q := by
  refine wp_iload_n (pc := 8) d_X12_isBound_8 rfl ?_
  refine wp_if_lt (pc := 9) (tgt := 191) d_X12_isBound_9 (by decide) (fun hc => ?_) (fun hc => ?_)
  · have h := h.1 hc
    refine wp_iconst (pc := 191) (v := 0) d_X12_isBound_191 rfl ?_
    refine wp_istore_n (pc := 192) (lv' := [some (vr _), some (vi _), some (vi _), some (vi _), none]) d_X12_isBound_192 (by decide) rfl ?_
    refine wp_sub ?_ h
    exact ⟨rfl, ⟨rfl, ⟨rfl, ⟨rfl, trivial⟩⟩⟩⟩
  · have h := h.2 hc
    refine wp_iconst (pc := 12) (v := 0) d_X12_isBound_12 rfl ?_
    refine wp_istore (pc := 13) (lv' := [some (vr _), some (vi _), some (vi _), some (vi _), some (vi _)]) d_X12_isBound_13 (by decide) rfl ?_
    refine wp_sub ?_ h
    exact ⟨rfl, ⟨rfl, ⟨rfl, ⟨rfl, ⟨rfl, trivial⟩⟩⟩⟩⟩
theorem v_X12_isBound_15 {E : EE} {d : Nat} {Q : Option AV → AH → Prop} {x0 : Nat} {x1 : Int32} {x2 : Int32} {x3 : Int32} {x4 : Int32} {G : AH} (h0 : 0 < d) (h : isO E G x0 12 ∧ (wpI E (d - 1) M_X12_rulesOf [vr x0, vi x1] G (fun r1 G2 => (r1 ≤ x4 → wp E d M_X12_isBound 94 [some (vr x0), some (vi x1), some (vi x2), some (vi x3), some (vi 0)] [] G2 Q) ∧ (¬ (r1 ≤ x4) → isO E G2 x0 12 ∧ ((¬ x2 = 0 → wp E d M_X12_isBound 60 [some (vr x0), some (vi x1), some (vi x2), some (vi x3), some (vi x4)] [vi x4, vr (gR G2 x0 86)] G2 Q) ∧ (x2 = 0 → isO E G2 (gR G2 x0 64) 14 ∧ (vp_in ((20000 * x4) + x3) (gN G2 (gR G2 x0 64)) ∧ (isO E G2 (gR G2 x0 86) 15 ∧ (vp_in x4 (gN G2 (gR G2 x0 86)) ∧ (((gJ G2 (gR G2 x0 86) (Int32.toNatClampNeg x4)) ≤ (Int32.toInt64 (gI G2 (gR G2 x0 64) (Int32.toNatClampNeg ((20000 * x4) + x3)))) → vp_in x4 (gN G2 (gR G2 x0 86)) ∧ (wp E d M_X12_isBound 84 [some (vr x0), some (vi x1), some (vi x2), some (vi x3), some (vi x4)] [vj (gJ G2 (gR G2 x0 86) (Int32.toNatClampNeg x4)), vi x4, vr (gR G2 x0 86)] G2 Q)) ∧ (¬ ((gJ G2 (gR G2 x0 86) (Int32.toNatClampNeg x4)) ≤ (Int32.toInt64 (gI G2 (gR G2 x0 64) (Int32.toNatClampNeg ((20000 * x4) + x3))))) → wp E d M_X12_isBound 60 [some (vr x0), some (vi x1), some (vi x2), some (vi x3), some (vi x4)] [vi x4, vr (gR G2 x0 86)] G2 Q))))))))))) : wp E d M_X12_isBound 15 [some (vr x0), some (vi x1), some (vi x2), some (vi x3), some (vi x4)] [] G Q := by
  refine wp_iload (pc := 15) d_X12_isBound_15 rfl ?_
  refine wp_aload_n (pc := 17) d_X12_isBound_17 rfl ?_
  refine wp_iload_n (pc := 18) d_X12_isBound_18 rfl ?_
  obtain ⟨ho9, h⟩ := h
  refine wp_invV (pc := 19) (N := M_X12_rulesOf) (As := [vi _]) (rest := [vi _]) (r := (cn_12, ct_12, 95)) d_X12_isBound_19 ml_X12_459 mk_X12_rulesOf mv_X12_rulesOf h0 ho9 rfl rfl (Nat.le_of_ble_eq_true rfl) ?_
  refine wpM.mono h (fun rr G2 hr => ?_)
  obtain ⟨r1, rfl, h⟩ := hr
  show wp E d M_X12_isBound 22 [some (vr _), some (vi _), some (vi _), some (vi _), some (vi _)] [vi _, vi _] G2 Q
  refine wp_icmp_ge (pc := 22) (tgt := 91) d_X12_isBound_22 (by decide) (fun hc => ?_) (fun hc => ?_)
  · have h := h.1 hc
    refine wp_iconst (pc := 91) (v := 0) d_X12_isBound_91 rfl ?_
    refine wp_istore (pc := 92) (lv' := [some (vr _), some (vi _), some (vi _), some (vi _), some (vi _)]) d_X12_isBound_92 (by decide) rfl ?_
    refine wp_sub ?_ h
    exact ⟨rfl, ⟨rfl, ⟨rfl, ⟨rfl, ⟨rfl, trivial⟩⟩⟩⟩⟩
  · have h := h.2 hc
    refine wp_aload_n (pc := 25) d_X12_isBound_25 rfl ?_
    obtain ⟨ho3, h⟩ := h
    refine wp_getR (pc := 26) d_X12_isBound_26 fl_X12_199 (fun _ _ _ => rfl) ho3 ?_
    refine wp_iload (pc := 29) d_X12_isBound_29 rfl ?_
    refine wp_iload_n (pc := 31) d_X12_isBound_31 rfl ?_
    refine wp_if_ne (pc := 32) (tgt := 60) d_X12_isBound_32 (by decide) (fun hc => ?_) (fun hc => ?_)
    · have h := h.1 hc
      refine wp_sub ?_ h
      exact ⟨rfl, ⟨rfl, ⟨rfl, ⟨rfl, ⟨rfl, trivial⟩⟩⟩⟩⟩
    · have h := h.2 hc
      refine wp_aload_n (pc := 35) d_X12_isBound_35 rfl ?_
      refine wp_getR (pc := 36) d_X12_isBound_36 fl_X12_151 (fun _ _ _ => rfl) ho3 ?_
      refine wp_sipush (pc := 39) (v := 20000) d_X12_isBound_39 rfl ?_
      refine wp_iload (pc := 42) d_X12_isBound_42 rfl ?_
      refine wp_imul (pc := 44) d_X12_isBound_44 ?_
      refine wp_iload_n (pc := 45) d_X12_isBound_45 rfl ?_
      refine wp_iadd (pc := 46) d_X12_isBound_46 ?_
      obtain ⟨ho4, h⟩ := h
      obtain ⟨hi5, h⟩ := h
      refine wp_iald (pc := 47) d_X12_isBound_47 ho4 hi5 ?_
      refine wp_i2l (pc := 48) d_X12_isBound_48 ?_
      refine wp_aload_n (pc := 49) d_X12_isBound_49 rfl ?_
      refine wp_getR (pc := 50) d_X12_isBound_50 fl_X12_199 (fun _ _ _ => rfl) ho3 ?_
      refine wp_iload (pc := 53) d_X12_isBound_53 rfl ?_
      obtain ⟨ho6, h⟩ := h
      obtain ⟨hi7, h⟩ := h
      refine wp_lald (pc := 55) d_X12_isBound_55 ho6 hi7 ?_
      refine wp_lcmp_ge (pc := 56) (tgt := 77) d_X12_isBound_56 d_X12_isBound_57 (by decide) (fun hc => ?_) (fun hc => ?_)
      · have h := h.1 hc
        refine wp_aload_n (pc := 77) d_X12_isBound_77 rfl ?_
        refine wp_getR (pc := 78) d_X12_isBound_78 fl_X12_199 (fun _ _ _ => rfl) ho3 ?_
        refine wp_iload (pc := 81) d_X12_isBound_81 rfl ?_
        obtain ⟨hi8, h⟩ := h
        refine wp_lald (pc := 83) d_X12_isBound_83 ho6 hi8 ?_
        refine wp_sub ?_ h
        exact ⟨rfl, ⟨rfl, ⟨rfl, ⟨rfl, ⟨rfl, trivial⟩⟩⟩⟩⟩
      · have h := h.2 hc
        refine wp_sub ?_ h
        exact ⟨rfl, ⟨rfl, ⟨rfl, ⟨rfl, ⟨rfl, trivial⟩⟩⟩⟩⟩
theorem v_X12_isBound_60 {E : EE} {d : Nat} {Q : Option AV → AH → Prop} {x0 : Nat} {x1 : Int32} {x2 : Int32} {x3 : Int32} {x4 : Int32} {t0 : Nat} {t1 : Int32} {G : AH} (h : isO E G x0 12 ∧ (isO E G (gR G x0 64) 14 ∧ (vp_in ((20000 * x4) + x3) (gN G (gR G x0 64)) ∧ (wp E d M_X12_isBound 84 [some (vr x0), some (vi x1), some (vi x2), some (vi x3), some (vi x4)] [vj (Int32.toInt64 (gI G (gR G x0 64) (Int32.toNatClampNeg ((20000 * x4) + x3)))), vi t1, vr t0] G Q)))) : wp E d M_X12_isBound 60 [some (vr x0), some (vi x1), some (vi x2), some (vi x3), some (vi x4)] [vi t1, vr t0] G Q := by
  refine wp_aload_n (pc := 60) d_X12_isBound_60 rfl ?_
  obtain ⟨ho1, h⟩ := h
  refine wp_getR (pc := 61) d_X12_isBound_61 fl_X12_151 (fun _ _ _ => rfl) ho1 ?_
  refine wp_sipush (pc := 64) (v := 20000) d_X12_isBound_64 rfl ?_
  refine wp_iload (pc := 67) d_X12_isBound_67 rfl ?_
  refine wp_imul (pc := 69) d_X12_isBound_69 ?_
  refine wp_iload_n (pc := 70) d_X12_isBound_70 rfl ?_
  refine wp_iadd (pc := 71) d_X12_isBound_71 ?_
  obtain ⟨ho2, h⟩ := h
  obtain ⟨hi3, h⟩ := h
  refine wp_iald (pc := 72) d_X12_isBound_72 ho2 hi3 ?_
  refine wp_i2l (pc := 73) d_X12_isBound_73 ?_
  refine wp_goto (pc := 74) (tgt := 84) d_X12_isBound_74 (by decide) ?_
  refine wp_sub ?_ h
  exact ⟨rfl, ⟨rfl, ⟨rfl, ⟨rfl, ⟨rfl, trivial⟩⟩⟩⟩⟩
theorem v_X12_isBound_84 {E : EE} {d : Nat} {Q : Option AV → AH → Prop} {x0 : Nat} {x1 : Int32} {x2 : Int32} {x3 : Int32} {x4 : Int32} {t0 : Nat} {t1 : Int32} {t2 : Int64} {G : AH} (h : isO E G t0 15 ∧ (vp_in t1 (gN G t0) ∧ (wp E d M_X12_isBound 15 [some (vr x0), some (vi x1), some (vi x2), some (vi x3), some (vi (x4 + 1))] [] (sJ G t0 (Int32.toNatClampNeg t1) t2) Q))) : wp E d M_X12_isBound 84 [some (vr x0), some (vi x1), some (vi x2), some (vi x3), some (vi x4)] [vj t2, vi t1, vr t0] G Q := by
  obtain ⟨ho1, h⟩ := h
  obtain ⟨hi2, h⟩ := h
  refine wp_last (pc := 84) d_X12_isBound_84 ho1 hi2 ?_
  refine wp_iinc (pc := 85) (v := 1) (lv' := [some (vr _), some (vi _), some (vi _), some (vi _), some (vi _)]) d_X12_isBound_85 (by decide) rfl rfl rfl ?_
  refine wp_goto (pc := 88) (tgt := 15) d_X12_isBound_88 (by decide) ?_
  refine wp_sub ?_ h
  exact ⟨rfl, ⟨rfl, ⟨rfl, ⟨rfl, ⟨rfl, trivial⟩⟩⟩⟩⟩
theorem v_X12_isBound_94 {E : EE} {d : Nat} {Q : Option AV → AH → Prop} {x0 : Nat} {x1 : Int32} {x2 : Int32} {x3 : Int32} {x4 : Int32} {G : AH} (h0 : 0 < d) (h : isO E G x0 12 ∧ (wpI E (d - 1) M_X12_aimsOf [vr x0, vi x1] G (fun r1 G2 => (r1 ≤ x4 → isO E G2 x0 12 ∧ (wpI E (d - 1) M_X12_nextGiven [vr x0, vi x1, vi x3] G2 (fun r3 G4 => wp E d M_X12_isBound 8 [some (vr x0), some (vi x1), some (vi 0), some (vi r3), none] [] G4 Q))) ∧ (¬ (r1 ≤ x4) → isO E G2 x0 12 ∧ ((¬ x2 = 0 → wp E d M_X12_isBound 145 [some (vr x0), some (vi x1), some (vi x2), some (vi x3), some (vi x4)] [vi (24 + x4), vr (gR G2 x0 86)] G2 Q) ∧ (x2 = 0 → isO E G2 (gR G2 x0 65) 14 ∧ (vp_in ((20000 * x4) + x3) (gN G2 (gR G2 x0 65)) ∧ (isO E G2 (gR G2 x0 86) 15 ∧ (vp_in (24 + x4) (gN G2 (gR G2 x0 86)) ∧ (((gJ G2 (gR G2 x0 86) (Int32.toNatClampNeg (24 + x4))) ≤ (Int32.toInt64 (gI G2 (gR G2 x0 65) (Int32.toNatClampNeg ((20000 * x4) + x3)))) → vp_in (24 + x4) (gN G2 (gR G2 x0 86)) ∧ (wp E d M_X12_isBound 172 [some (vr x0), some (vi x1), some (vi x2), some (vi x3), some (vi x4)] [vj (gJ G2 (gR G2 x0 86) (Int32.toNatClampNeg (24 + x4))), vi (24 + x4), vr (gR G2 x0 86)] G2 Q)) ∧ (¬ ((gJ G2 (gR G2 x0 86) (Int32.toNatClampNeg (24 + x4))) ≤ (Int32.toInt64 (gI G2 (gR G2 x0 65) (Int32.toNatClampNeg ((20000 * x4) + x3))))) → wp E d M_X12_isBound 145 [some (vr x0), some (vi x1), some (vi x2), some (vi x3), some (vi x4)] [vi (24 + x4), vr (gR G2 x0 86)] G2 Q))))))))))) : wp E d M_X12_isBound 94 [some (vr x0), some (vi x1), some (vi x2), some (vi x3), some (vi x4)] [] G Q := by
  refine wp_iload (pc := 94) d_X12_isBound_94 rfl ?_
  refine wp_aload_n (pc := 96) d_X12_isBound_96 rfl ?_
  refine wp_iload_n (pc := 97) d_X12_isBound_97 rfl ?_
  obtain ⟨ho12, h⟩ := h
  refine wp_invV (pc := 98) (N := M_X12_aimsOf) (As := [vi _]) (rest := [vi _]) (r := (cn_12, ct_12, 95)) d_X12_isBound_98 ml_X12_541 mk_X12_aimsOf mv_X12_aimsOf h0 ho12 rfl rfl (Nat.le_of_ble_eq_true rfl) ?_
  refine wpM.mono h (fun rr G2 hr => ?_)
  obtain ⟨r1, rfl, h⟩ := hr
  show wp E d M_X12_isBound 101 [some (vr _), some (vi _), some (vi _), some (vi _), some (vi _)] [vi _, vi _] G2 Q
  refine wp_icmp_ge (pc := 101) (tgt := 179) d_X12_isBound_101 (by decide) (fun hc => ?_) (fun hc => ?_)
  · have h := h.1 hc
    refine wp_iconst (pc := 179) (v := 0) d_X12_isBound_179 rfl ?_
    refine wp_istore_n (pc := 180) (lv' := [some (vr _), some (vi _), some (vi _), some (vi _), some (vi _)]) d_X12_isBound_180 (by decide) rfl ?_
    refine wp_aload_n (pc := 181) d_X12_isBound_181 rfl ?_
    refine wp_iload_n (pc := 182) d_X12_isBound_182 rfl ?_
    refine wp_iload_n (pc := 183) d_X12_isBound_183 rfl ?_
    obtain ⟨ho5, h⟩ := h
    refine wp_invV (pc := 184) (N := M_X12_nextGiven) (As := [vi _, vi _]) (rest := []) (r := (cn_12, ct_12, 95)) d_X12_isBound_184 ml_X12_678 mk_X12_nextGiven mv_X12_nextGiven h0 ho5 rfl rfl (Nat.le_of_ble_eq_true rfl) ?_
    refine wpM.mono h (fun rr G4 hr => ?_)
    obtain ⟨r3, rfl, h⟩ := hr
    show wp E d M_X12_isBound 187 [some (vr _), some (vi _), some (vi _), some (vi _), some (vi _)] [vi _] G4 Q
    refine wp_istore_n (pc := 187) (lv' := [some (vr _), some (vi _), some (vi _), some (vi _), some (vi _)]) d_X12_isBound_187 (by decide) rfl ?_
    refine wp_goto (pc := 188) (tgt := 8) d_X12_isBound_188 (by decide) ?_
    refine wp_sub ?_ h
    exact ⟨rfl, ⟨rfl, ⟨rfl, ⟨rfl, trivial⟩⟩⟩⟩
  · have h := h.2 hc
    refine wp_aload_n (pc := 104) d_X12_isBound_104 rfl ?_
    obtain ⟨ho6, h⟩ := h
    refine wp_getR (pc := 105) d_X12_isBound_105 fl_X12_199 (fun _ _ _ => rfl) ho6 ?_
    refine wp_bipush (pc := 108) (v := 24) d_X12_isBound_108 rfl ?_
    refine wp_iload (pc := 110) d_X12_isBound_110 rfl ?_
    refine wp_iadd (pc := 112) d_X12_isBound_112 ?_
    refine wp_iload_n (pc := 113) d_X12_isBound_113 rfl ?_
    refine wp_if_ne (pc := 114) (tgt := 145) d_X12_isBound_114 (by decide) (fun hc => ?_) (fun hc => ?_)
    · have h := h.1 hc
      refine wp_sub ?_ h
      exact ⟨rfl, ⟨rfl, ⟨rfl, ⟨rfl, ⟨rfl, trivial⟩⟩⟩⟩⟩
    · have h := h.2 hc
      refine wp_aload_n (pc := 117) d_X12_isBound_117 rfl ?_
      refine wp_getR (pc := 118) d_X12_isBound_118 fl_X12_155 (fun _ _ _ => rfl) ho6 ?_
      refine wp_sipush (pc := 121) (v := 20000) d_X12_isBound_121 rfl ?_
      refine wp_iload (pc := 124) d_X12_isBound_124 rfl ?_
      refine wp_imul (pc := 126) d_X12_isBound_126 ?_
      refine wp_iload_n (pc := 127) d_X12_isBound_127 rfl ?_
      refine wp_iadd (pc := 128) d_X12_isBound_128 ?_
      obtain ⟨ho7, h⟩ := h
      obtain ⟨hi8, h⟩ := h
      refine wp_iald (pc := 129) d_X12_isBound_129 ho7 hi8 ?_
      refine wp_i2l (pc := 130) d_X12_isBound_130 ?_
      refine wp_aload_n (pc := 131) d_X12_isBound_131 rfl ?_
      refine wp_getR (pc := 132) d_X12_isBound_132 fl_X12_199 (fun _ _ _ => rfl) ho6 ?_
      refine wp_bipush (pc := 135) (v := 24) d_X12_isBound_135 rfl ?_
      refine wp_iload (pc := 137) d_X12_isBound_137 rfl ?_
      refine wp_iadd (pc := 139) d_X12_isBound_139 ?_
      obtain ⟨ho9, h⟩ := h
      obtain ⟨hi10, h⟩ := h
      refine wp_lald (pc := 140) d_X12_isBound_140 ho9 hi10 ?_
      refine wp_lcmp_ge (pc := 141) (tgt := 162) d_X12_isBound_141 d_X12_isBound_142 (by decide) (fun hc => ?_) (fun hc => ?_)
      · have h := h.1 hc
        refine wp_aload_n (pc := 162) d_X12_isBound_162 rfl ?_
        refine wp_getR (pc := 163) d_X12_isBound_163 fl_X12_199 (fun _ _ _ => rfl) ho6 ?_
        refine wp_bipush (pc := 166) (v := 24) d_X12_isBound_166 rfl ?_
        refine wp_iload (pc := 168) d_X12_isBound_168 rfl ?_
        refine wp_iadd (pc := 170) d_X12_isBound_170 ?_
        obtain ⟨hi11, h⟩ := h
        refine wp_lald (pc := 171) d_X12_isBound_171 ho9 hi11 ?_
        refine wp_sub ?_ h
        exact ⟨rfl, ⟨rfl, ⟨rfl, ⟨rfl, ⟨rfl, trivial⟩⟩⟩⟩⟩
      · have h := h.2 hc
        refine wp_sub ?_ h
        exact ⟨rfl, ⟨rfl, ⟨rfl, ⟨rfl, ⟨rfl, trivial⟩⟩⟩⟩⟩
theorem v_X12_isBound_145 {E : EE} {d : Nat} {Q : Option AV → AH → Prop} {x0 : Nat} {x1 : Int32} {x2 : Int32} {x3 : Int32} {x4 : Int32} {t0 : Nat} {t1 : Int32} {G : AH} (h : isO E G x0 12 ∧ (isO E G (gR G x0 65) 14 ∧ (vp_in ((20000 * x4) + x3) (gN G (gR G x0 65)) ∧ (wp E d M_X12_isBound 172 [some (vr x0), some (vi x1), some (vi x2), some (vi x3), some (vi x4)] [vj (Int32.toInt64 (gI G (gR G x0 65) (Int32.toNatClampNeg ((20000 * x4) + x3)))), vi t1, vr t0] G Q)))) : wp E d M_X12_isBound 145 [some (vr x0), some (vi x1), some (vi x2), some (vi x3), some (vi x4)] [vi t1, vr t0] G Q := by
  refine wp_aload_n (pc := 145) d_X12_isBound_145 rfl ?_
  obtain ⟨ho1, h⟩ := h
  refine wp_getR (pc := 146) d_X12_isBound_146 fl_X12_155 (fun _ _ _ => rfl) ho1 ?_
  refine wp_sipush (pc := 149) (v := 20000) d_X12_isBound_149 rfl ?_
  refine wp_iload (pc := 152) d_X12_isBound_152 rfl ?_
  refine wp_imul (pc := 154) d_X12_isBound_154 ?_
  refine wp_iload_n (pc := 155) d_X12_isBound_155 rfl ?_
  refine wp_iadd (pc := 156) d_X12_isBound_156 ?_
  obtain ⟨ho2, h⟩ := h
  obtain ⟨hi3, h⟩ := h
  refine wp_iald (pc := 157) d_X12_isBound_157 ho2 hi3 ?_
  refine wp_i2l (pc := 158) d_X12_isBound_158 ?_
  refine wp_goto (pc := 159) (tgt := 172) d_X12_isBound_159 (by decide) ?_
  refine wp_sub ?_ h
  exact ⟨rfl, ⟨rfl, ⟨rfl, ⟨rfl, ⟨rfl, trivial⟩⟩⟩⟩⟩
theorem v_X12_isBound_172 {E : EE} {d : Nat} {Q : Option AV → AH → Prop} {x0 : Nat} {x1 : Int32} {x2 : Int32} {x3 : Int32} {x4 : Int32} {t0 : Nat} {t1 : Int32} {t2 : Int64} {G : AH} (h : isO E G t0 15 ∧ (vp_in t1 (gN G t0) ∧ (wp E d M_X12_isBound 94 [some (vr x0), some (vi x1), some (vi x2), some (vi x3), some (vi (x4 + 1))] [] (sJ G t0 (Int32.toNatClampNeg t1) t2) Q))) : wp E d M_X12_isBound 172 [some (vr x0), some (vi x1), some (vi x2), some (vi x3), some (vi x4)] [vj t2, vi t1, vr t0] G Q := by
  obtain ⟨ho1, h⟩ := h
  obtain ⟨hi2, h⟩ := h
  refine wp_last (pc := 172) d_X12_isBound_172 ho1 hi2 ?_
  refine wp_iinc (pc := 173) (v := 1) (lv' := [some (vr _), some (vi _), some (vi _), some (vi _), some (vi _)]) d_X12_isBound_173 (by decide) rfl rfl rfl ?_
  refine wp_goto (pc := 176) (tgt := 94) d_X12_isBound_176 (by decide) ?_
  refine wp_sub ?_ h
  exact ⟨rfl, ⟨rfl, ⟨rfl, ⟨rfl, ⟨rfl, trivial⟩⟩⟩⟩⟩
theorem v_X12_isBound_193 {E : EE} {d : Nat} {Q : Option AV → AH → Prop} {x0 : Nat} {x1 : Int32} {x2 : Int32} {x3 : Int32} {G : AH} (h : (3 ≤ x3 → wp E d M_X12_isBound 213 [some (vr x0), some (vi x1), some (vi x2), some (vi 0), none] [] G Q) ∧ (¬ (3 ≤ x3) → isO E G x0 12 ∧ (isO E G (gR G x0 85) 15 ∧ (vp_in x3 (gN G (gR G x0 85)) ∧ (wp E d M_X12_isBound 193 [some (vr x0), some (vi x1), some (vi x2), some (vi (x3 + 1)), none] [] (sJ G (gR G x0 85) (Int32.toNatClampNeg x3) 0) Q))))) : wp E d M_X12_isBound 193 [some (vr x0), some (vi x1), some (vi x2), some (vi x3), none] [] G Q := by
  refine wp_iload_n (pc := 193) d_X12_isBound_193 rfl ?_
  refine wp_iconst (pc := 194) (v := 3) d_X12_isBound_194 rfl ?_
  refine wp_icmp_ge (pc := 195) (tgt := 211) d_X12_isBound_195 (by decide) (fun hc => ?_) (fun hc => ?_)
  · have h := h.1 hc
    refine wp_iconst (pc := 211) (v := 0) d_X12_isBound_211 rfl ?_
    refine wp_istore_n (pc := 212) (lv' := [some (vr _), some (vi _), some (vi _), some (vi _), none]) d_X12_isBound_212 (by decide) rfl ?_
    refine wp_sub ?_ h
    exact ⟨rfl, ⟨rfl, ⟨rfl, ⟨rfl, trivial⟩⟩⟩⟩
  · have h := h.2 hc
    refine wp_aload_n (pc := 198) d_X12_isBound_198 rfl ?_
    obtain ⟨ho1, h⟩ := h
    refine wp_getR (pc := 199) d_X12_isBound_199 fl_X12_196 (fun _ _ _ => rfl) ho1 ?_
    refine wp_iload_n (pc := 202) d_X12_isBound_202 rfl ?_
    refine wp_lconst (pc := 203) (v := 0) d_X12_isBound_203 rfl ?_
    obtain ⟨ho2, h⟩ := h
    obtain ⟨hi3, h⟩ := h
    refine wp_last (pc := 204) d_X12_isBound_204 ho2 hi3 ?_
    refine wp_iinc (pc := 205) (v := 1) (lv' := [some (vr _), some (vi _), some (vi _), some (vi _), none]) d_X12_isBound_205 (by decide) rfl rfl rfl ?_
    refine wp_goto (pc := 208) (tgt := 193) d_X12_isBound_208 (by decide) ?_
    refine wp_sub ?_ h
    exact ⟨rfl, ⟨rfl, ⟨rfl, ⟨rfl, trivial⟩⟩⟩⟩
theorem v_X12_isBound_213 {E : EE} {d : Nat} {Q : Option AV → AH → Prop} {x0 : Nat} {x1 : Int32} {x2 : Int32} {x3 : Int32} {G : AH} (h0 : 0 < d) (h : isO E G x0 12 ∧ (wpI E (d - 1) M_X12_rulesOf [vr x0, vi x1] G (fun r1 G2 => (r1 ≤ x3 → wp E d M_X12_isBound 268 [some (vr x0), some (vi x1), some (vi x2), some (vi 0), none] [] G2 Q) ∧ (¬ (r1 ≤ x3) → isO E G2 x0 12 ∧ (isO E G2 (gR G2 x0 27) 14 ∧ (vp_in ((24 * x1) + x3) (gN G2 (gR G2 x0 27)) ∧ (isO E G2 (gR G2 x0 85) 15 ∧ (vp_in (gI G2 (gR G2 x0 27) (Int32.toNatClampNeg ((24 * x1) + x3))) (gN G2 (gR G2 x0 85)) ∧ (isO E G2 (gR G2 x0 28) 14 ∧ (vp_in ((24 * x1) + x3) (gN G2 (gR G2 x0 28)) ∧ (isO E G2 (gR G2 x0 86) 15 ∧ (vp_in x3 (gN G2 (gR G2 x0 86)) ∧ (vp_in (gI G2 (gR G2 x0 27) (Int32.toNatClampNeg ((24 * x1) + x3))) (gN G2 (gR G2 x0 85)) ∧ (wp E d M_X12_isBound 213 [some (vr x0), some (vi x1), some (vi x2), some (vi (x3 + 1)), none] [] (sJ G2 (gR G2 x0 85) (Int32.toNatClampNeg (gI G2 (gR G2 x0 27) (Int32.toNatClampNeg ((24 * x1) + x3)))) ((gJ G2 (gR G2 x0 85) (Int32.toNatClampNeg (gI G2 (gR G2 x0 27) (Int32.toNatClampNeg ((24 * x1) + x3))))) + ((Int32.toInt64 (gI G2 (gR G2 x0 28) (Int32.toNatClampNeg ((24 * x1) + x3)))) * (gJ G2 (gR G2 x0 86) (Int32.toNatClampNeg x3))))) Q)))))))))))))) : wp E d M_X12_isBound 213 [some (vr x0), some (vi x1), some (vi x2), some (vi x3), none] [] G Q := by
  refine wp_iload_n (pc := 213) d_X12_isBound_213 rfl ?_
  refine wp_aload_n (pc := 214) d_X12_isBound_214 rfl ?_
  refine wp_iload_n (pc := 215) d_X12_isBound_215 rfl ?_
  obtain ⟨ho13, h⟩ := h
  refine wp_invV (pc := 216) (N := M_X12_rulesOf) (As := [vi _]) (rest := [vi _]) (r := (cn_12, ct_12, 95)) d_X12_isBound_216 ml_X12_459 mk_X12_rulesOf mv_X12_rulesOf h0 ho13 rfl rfl (Nat.le_of_ble_eq_true rfl) ?_
  refine wpM.mono h (fun rr G2 hr => ?_)
  obtain ⟨r1, rfl, h⟩ := hr
  show wp E d M_X12_isBound 219 [some (vr _), some (vi _), some (vi _), some (vi _), none] [vi _, vi _] G2 Q
  refine wp_icmp_ge (pc := 219) (tgt := 266) d_X12_isBound_219 (by decide) (fun hc => ?_) (fun hc => ?_)
  · have h := h.1 hc
    refine wp_iconst (pc := 266) (v := 0) d_X12_isBound_266 rfl ?_
    refine wp_istore_n (pc := 267) (lv' := [some (vr _), some (vi _), some (vi _), some (vi _), none]) d_X12_isBound_267 (by decide) rfl ?_
    refine wp_sub ?_ h
    exact ⟨rfl, ⟨rfl, ⟨rfl, ⟨rfl, trivial⟩⟩⟩⟩
  · have h := h.2 hc
    refine wp_aload_n (pc := 222) d_X12_isBound_222 rfl ?_
    obtain ⟨ho3, h⟩ := h
    refine wp_getR (pc := 223) d_X12_isBound_223 fl_X12_196 (fun _ _ _ => rfl) ho3 ?_
    refine wp_aload_n (pc := 226) d_X12_isBound_226 rfl ?_
    refine wp_getR (pc := 227) d_X12_isBound_227 fl_X12_88 (fun _ _ _ => rfl) ho3 ?_
    refine wp_bipush (pc := 230) (v := 24) d_X12_isBound_230 rfl ?_
    refine wp_iload_n (pc := 232) d_X12_isBound_232 rfl ?_
    refine wp_imul (pc := 233) d_X12_isBound_233 ?_
    refine wp_iload_n (pc := 234) d_X12_isBound_234 rfl ?_
    refine wp_iadd (pc := 235) d_X12_isBound_235 ?_
    obtain ⟨ho4, h⟩ := h
    obtain ⟨hi5, h⟩ := h
    refine wp_iald (pc := 236) d_X12_isBound_236 ho4 hi5 ?_
    refine wp_dup2 (pc := 237) d_X12_isBound_237 (c1_i _) (c1_r _) ?_
    obtain ⟨ho6, h⟩ := h
    obtain ⟨hi7, h⟩ := h
    refine wp_lald (pc := 238) d_X12_isBound_238 ho6 hi7 ?_
    refine wp_aload_n (pc := 239) d_X12_isBound_239 rfl ?_
    refine wp_getR (pc := 240) d_X12_isBound_240 fl_X12_91 (fun _ _ _ => rfl) ho3 ?_
    refine wp_bipush (pc := 243) (v := 24) d_X12_isBound_243 rfl ?_
    refine wp_iload_n (pc := 245) d_X12_isBound_245 rfl ?_
    refine wp_imul (pc := 246) d_X12_isBound_246 ?_
    refine wp_iload_n (pc := 247) d_X12_isBound_247 rfl ?_
    refine wp_iadd (pc := 248) d_X12_isBound_248 ?_
    obtain ⟨ho8, h⟩ := h
    obtain ⟨hi9, h⟩ := h
    refine wp_iald (pc := 249) d_X12_isBound_249 ho8 hi9 ?_
    refine wp_i2l (pc := 250) d_X12_isBound_250 ?_
    refine wp_aload_n (pc := 251) d_X12_isBound_251 rfl ?_
    refine wp_getR (pc := 252) d_X12_isBound_252 fl_X12_199 (fun _ _ _ => rfl) ho3 ?_
    refine wp_iload_n (pc := 255) d_X12_isBound_255 rfl ?_
    obtain ⟨ho10, h⟩ := h
    obtain ⟨hi11, h⟩ := h
    refine wp_lald (pc := 256) d_X12_isBound_256 ho10 hi11 ?_
    refine wp_lmul (pc := 257) d_X12_isBound_257 ?_
    refine wp_ladd (pc := 258) d_X12_isBound_258 ?_
    obtain ⟨hi12, h⟩ := h
    refine wp_last (pc := 259) d_X12_isBound_259 ho6 hi12 ?_
    refine wp_iinc (pc := 260) (v := 1) (lv' := [some (vr _), some (vi _), some (vi _), some (vi _), none]) d_X12_isBound_260 (by decide) rfl rfl rfl ?_
    refine wp_goto (pc := 263) (tgt := 213) d_X12_isBound_263 (by decide) ?_
    refine wp_sub ?_ h
    exact ⟨rfl, ⟨rfl, ⟨rfl, ⟨rfl, trivial⟩⟩⟩⟩
theorem v_X12_isBound_268 {E : EE} {d : Nat} {Q : Option AV → AH → Prop} {x0 : Nat} {x1 : Int32} {x2 : Int32} {x3 : Int32} {G : AH} (h0 : 0 < d) (h : isO E G x0 12 ∧ (wpI E (d - 1) M_X12_aimsOf [vr x0, vi x1] G (fun r1 G2 => (r1 ≤ x3 → isO E G2 x0 12 ∧ (wpI E (d - 1) M_X12_handOf [vr x0, vi x1] G2 (fun r3 G4 => wp E d M_X12_isBound 320 [some (vr x0), some (vi x1), some (vi x2), some (vi r3), some (vi 0)] [] G4 Q))) ∧ (¬ (r1 ≤ x3) → isO E G2 x0 12 ∧ (isO E G2 (gR G2 x0 30) 14 ∧ (vp_in ((6 * x1) + x3) (gN G2 (gR G2 x0 30)) ∧ (isO E G2 (gR G2 x0 85) 15 ∧ (vp_in (gI G2 (gR G2 x0 30) (Int32.toNatClampNeg ((6 * x1) + x3))) (gN G2 (gR G2 x0 85)) ∧ (isO E G2 (gR G2 x0 86) 15 ∧ (vp_in (24 + x3) (gN G2 (gR G2 x0 86)) ∧ (vp_in (gI G2 (gR G2 x0 30) (Int32.toNatClampNeg ((6 * x1) + x3))) (gN G2 (gR G2 x0 85)) ∧ (wp E d M_X12_isBound 268 [some (vr x0), some (vi x1), some (vi x2), some (vi (x3 + 1)), none] [] (sJ G2 (gR G2 x0 85) (Int32.toNatClampNeg (gI G2 (gR G2 x0 30) (Int32.toNatClampNeg ((6 * x1) + x3)))) ((gJ G2 (gR G2 x0 85) (Int32.toNatClampNeg (gI G2 (gR G2 x0 30) (Int32.toNatClampNeg ((6 * x1) + x3))))) + (gJ G2 (gR G2 x0 86) (Int32.toNatClampNeg (24 + x3))))) Q)))))))))))) : wp E d M_X12_isBound 268 [some (vr x0), some (vi x1), some (vi x2), some (vi x3), none] [] G Q := by
  refine wp_iload_n (pc := 268) d_X12_isBound_268 rfl ?_
  refine wp_aload_n (pc := 269) d_X12_isBound_269 rfl ?_
  refine wp_iload_n (pc := 270) d_X12_isBound_270 rfl ?_
  obtain ⟨ho14, h⟩ := h
  refine wp_invV (pc := 271) (N := M_X12_aimsOf) (As := [vi _]) (rest := [vi _]) (r := (cn_12, ct_12, 95)) d_X12_isBound_271 ml_X12_541 mk_X12_aimsOf mv_X12_aimsOf h0 ho14 rfl rfl (Nat.le_of_ble_eq_true rfl) ?_
  refine wpM.mono h (fun rr G2 hr => ?_)
  obtain ⟨r1, rfl, h⟩ := hr
  show wp E d M_X12_isBound 274 [some (vr _), some (vi _), some (vi _), some (vi _), none] [vi _, vi _] G2 Q
  refine wp_icmp_ge (pc := 274) (tgt := 311) d_X12_isBound_274 (by decide) (fun hc => ?_) (fun hc => ?_)
  · have h := h.1 hc
    refine wp_aload_n (pc := 311) d_X12_isBound_311 rfl ?_
    refine wp_iload_n (pc := 312) d_X12_isBound_312 rfl ?_
    obtain ⟨ho5, h⟩ := h
    refine wp_invV (pc := 313) (N := M_X12_handOf) (As := [vi _]) (rest := []) (r := (cn_12, ct_12, 95)) d_X12_isBound_313 ml_X12_580 mk_X12_handOf mv_X12_handOf h0 ho5 rfl rfl (Nat.le_of_ble_eq_true rfl) ?_
    refine wpM.mono h (fun rr G4 hr => ?_)
    obtain ⟨r3, rfl, h⟩ := hr
    show wp E d M_X12_isBound 316 [some (vr _), some (vi _), some (vi _), some (vi _), none] [vi _] G4 Q
    refine wp_istore_n (pc := 316) (lv' := [some (vr _), some (vi _), some (vi _), some (vi _), none]) d_X12_isBound_316 (by decide) rfl ?_
    refine wp_iconst (pc := 317) (v := 0) d_X12_isBound_317 rfl ?_
    refine wp_istore (pc := 318) (lv' := [some (vr _), some (vi _), some (vi _), some (vi _), some (vi _)]) d_X12_isBound_318 (by decide) rfl ?_
    refine wp_sub ?_ h
    exact ⟨rfl, ⟨rfl, ⟨rfl, ⟨rfl, ⟨rfl, trivial⟩⟩⟩⟩⟩
  · have h := h.2 hc
    refine wp_aload_n (pc := 277) d_X12_isBound_277 rfl ?_
    obtain ⟨ho6, h⟩ := h
    refine wp_getR (pc := 278) d_X12_isBound_278 fl_X12_196 (fun _ _ _ => rfl) ho6 ?_
    refine wp_aload_n (pc := 281) d_X12_isBound_281 rfl ?_
    refine wp_getR (pc := 282) d_X12_isBound_282 fl_X12_97 (fun _ _ _ => rfl) ho6 ?_
    refine wp_bipush (pc := 285) (v := 6) d_X12_isBound_285 rfl ?_
    refine wp_iload_n (pc := 287) d_X12_isBound_287 rfl ?_
    refine wp_imul (pc := 288) d_X12_isBound_288 ?_
    refine wp_iload_n (pc := 289) d_X12_isBound_289 rfl ?_
    refine wp_iadd (pc := 290) d_X12_isBound_290 ?_
    obtain ⟨ho7, h⟩ := h
    obtain ⟨hi8, h⟩ := h
    refine wp_iald (pc := 291) d_X12_isBound_291 ho7 hi8 ?_
    refine wp_dup2 (pc := 292) d_X12_isBound_292 (c1_i _) (c1_r _) ?_
    obtain ⟨ho9, h⟩ := h
    obtain ⟨hi10, h⟩ := h
    refine wp_lald (pc := 293) d_X12_isBound_293 ho9 hi10 ?_
    refine wp_aload_n (pc := 294) d_X12_isBound_294 rfl ?_
    refine wp_getR (pc := 295) d_X12_isBound_295 fl_X12_199 (fun _ _ _ => rfl) ho6 ?_
    refine wp_bipush (pc := 298) (v := 24) d_X12_isBound_298 rfl ?_
    refine wp_iload_n (pc := 300) d_X12_isBound_300 rfl ?_
    refine wp_iadd (pc := 301) d_X12_isBound_301 ?_
    obtain ⟨ho11, h⟩ := h
    obtain ⟨hi12, h⟩ := h
    refine wp_lald (pc := 302) d_X12_isBound_302 ho11 hi12 ?_
    refine wp_ladd (pc := 303) d_X12_isBound_303 ?_
    obtain ⟨hi13, h⟩ := h
    refine wp_last (pc := 304) d_X12_isBound_304 ho9 hi13 ?_
    refine wp_iinc (pc := 305) (v := 1) (lv' := [some (vr _), some (vi _), some (vi _), some (vi _), none]) d_X12_isBound_305 (by decide) rfl rfl rfl ?_
    refine wp_goto (pc := 308) (tgt := 268) d_X12_isBound_308 (by decide) ?_
    refine wp_sub ?_ h
    exact ⟨rfl, ⟨rfl, ⟨rfl, ⟨rfl, trivial⟩⟩⟩⟩
theorem v_X12_isBound_320 {E : EE} {d : Nat} {Q : Option AV → AH → Prop} {x0 : Nat} {x1 : Int32} {x2 : Int32} {x3 : Int32} {x4 : Int32} {G : AH} (h : (3 ≤ x4 → Q (some (vi 1)) G) ∧ (¬ (3 ≤ x4) → isO E G x0 12 ∧ (isO E G (gR G x0 66) 15 ∧ (vp_in ((20000 * x4) + x3) (gN G (gR G x0 66)) ∧ (isO E G (gR G x0 85) 15 ∧ (vp_in x4 (gN G (gR G x0 85)) ∧ (((gJ G (gR G x0 66) (Int32.toNatClampNeg ((20000 * x4) + x3))) = (gJ G (gR G x0 85) (Int32.toNatClampNeg x4)) → wp E d M_X12_isBound 320 [some (vr x0), some (vi x1), some (vi x2), some (vi x3), some (vi (x4 + 1))] [] G Q) ∧ (¬ ((gJ G (gR G x0 66) (Int32.toNatClampNeg ((20000 * x4) + x3))) = (gJ G (gR G x0 85) (Int32.toNatClampNeg x4))) → vp_in ((20000 * x4) + x3) (gN G (gR G x0 66)) ∧ (vp_in x4 (gN G (gR G x0 85)) ∧ (((gJ G (gR G x0 85) (Int32.toNatClampNeg x4)) ≤ (gJ G (gR G x0 66) (Int32.toNatClampNeg ((20000 * x4) + x3))) → Q (some (vi 0)) G) ∧ (¬ ((gJ G (gR G x0 85) (Int32.toNatClampNeg x4)) ≤ (gJ G (gR G x0 66) (Int32.toNatClampNeg ((20000 * x4) + x3)))) → Q (some (vi 1)) G))))))))))) : wp E d M_X12_isBound 320 [some (vr x0), some (vi x1), some (vi x2), some (vi x3), some (vi x4)] [] G Q := by
  refine wp_iload (pc := 320) d_X12_isBound_320 rfl ?_
  refine wp_iconst (pc := 322) (v := 3) d_X12_isBound_322 rfl ?_
  refine wp_icmp_ge (pc := 323) (tgt := 386) d_X12_isBound_323 (by decide) (fun hc => ?_) (fun hc => ?_)
  · have h := h.1 hc
    refine wp_iconst (pc := 386) (v := 1) d_X12_isBound_386 rfl ?_
    exact wp_zret (pc := 387) d_X12_isBound_387 rfl rfl h
  · have h := h.2 hc
    refine wp_aload_n (pc := 326) d_X12_isBound_326 rfl ?_
    obtain ⟨ho1, h⟩ := h
    refine wp_getR (pc := 327) d_X12_isBound_327 fl_X12_159 (fun _ _ _ => rfl) ho1 ?_
    refine wp_sipush (pc := 330) (v := 20000) d_X12_isBound_330 rfl ?_
    refine wp_iload (pc := 333) d_X12_isBound_333 rfl ?_
    refine wp_imul (pc := 335) d_X12_isBound_335 ?_
    refine wp_iload_n (pc := 336) d_X12_isBound_336 rfl ?_
    refine wp_iadd (pc := 337) d_X12_isBound_337 ?_
    obtain ⟨ho2, h⟩ := h
    obtain ⟨hi3, h⟩ := h
    refine wp_lald (pc := 338) d_X12_isBound_338 ho2 hi3 ?_
    refine wp_aload_n (pc := 339) d_X12_isBound_339 rfl ?_
    refine wp_getR (pc := 340) d_X12_isBound_340 fl_X12_196 (fun _ _ _ => rfl) ho1 ?_
    refine wp_iload (pc := 343) d_X12_isBound_343 rfl ?_
    obtain ⟨ho4, h⟩ := h
    obtain ⟨hi5, h⟩ := h
    refine wp_lald (pc := 345) d_X12_isBound_345 ho4 hi5 ?_
    refine wp_lcmp_eq (pc := 346) (tgt := 380) d_X12_isBound_346 d_X12_isBound_347 (by decide) (fun hc => ?_) (fun hc => ?_)
    · have h := h.1 hc
      refine wp_iinc (pc := 380) (v := 1) (lv' := [some (vr _), some (vi _), some (vi _), some (vi _), some (vi _)]) d_X12_isBound_380 (by decide) rfl rfl rfl ?_
      refine wp_goto (pc := 383) (tgt := 320) d_X12_isBound_383 (by decide) ?_
      refine wp_sub ?_ h
      exact ⟨rfl, ⟨rfl, ⟨rfl, ⟨rfl, ⟨rfl, trivial⟩⟩⟩⟩⟩
    · have h := h.2 hc
      refine wp_aload_n (pc := 350) d_X12_isBound_350 rfl ?_
      refine wp_getR (pc := 351) d_X12_isBound_351 fl_X12_159 (fun _ _ _ => rfl) ho1 ?_
      refine wp_sipush (pc := 354) (v := 20000) d_X12_isBound_354 rfl ?_
      refine wp_iload (pc := 357) d_X12_isBound_357 rfl ?_
      refine wp_imul (pc := 359) d_X12_isBound_359 ?_
      refine wp_iload_n (pc := 360) d_X12_isBound_360 rfl ?_
      refine wp_iadd (pc := 361) d_X12_isBound_361 ?_
      obtain ⟨hi6, h⟩ := h
      refine wp_lald (pc := 362) d_X12_isBound_362 ho2 hi6 ?_
      refine wp_aload_n (pc := 363) d_X12_isBound_363 rfl ?_
      refine wp_getR (pc := 364) d_X12_isBound_364 fl_X12_196 (fun _ _ _ => rfl) ho1 ?_
      refine wp_iload (pc := 367) d_X12_isBound_367 rfl ?_
      obtain ⟨hi7, h⟩ := h
      refine wp_lald (pc := 369) d_X12_isBound_369 ho4 hi7 ?_
      refine wp_lcmp_ge (pc := 370) (tgt := 378) d_X12_isBound_370 d_X12_isBound_371 (by decide) (fun hc => ?_) (fun hc => ?_)
      · have h := h.1 hc
        refine wp_iconst (pc := 378) (v := 0) d_X12_isBound_378 rfl ?_
        exact wp_zret (pc := 379) d_X12_isBound_379 rfl rfl h
      · have h := h.2 hc
        refine wp_iconst (pc := 374) (v := 1) d_X12_isBound_374 rfl ?_
        refine wp_goto (pc := 375) (tgt := 379) d_X12_isBound_375 (by decide) ?_
        exact wp_zret (pc := 379) d_X12_isBound_379 rfl rfl h
theorem d_X12_trees_0 : decode prog_14_method_162_code 0 = .ok (.iconst 0, 1) := by decide +kernel
theorem d_X12_trees_1 : decode prog_14_method_162_code 1 = .ok (.istore_n 3, 1) := by decide +kernel
theorem d_X12_trees_2 : decode prog_14_method_162_code 2 = .ok (.aload_n 0, 1) := by decide +kernel
theorem d_X12_trees_3 : decode prog_14_method_162_code 3 = .ok (.getfield 311, 3) := by decide +kernel
theorem d_X12_trees_6 : decode prog_14_method_162_code 6 = .ok (.ifCond .ne 63, 3) := by decide +kernel
theorem d_X12_trees_9 : decode prog_14_method_162_code 9 = .ok (.iload_n 3, 1) := by decide +kernel
theorem d_X12_trees_10 : decode prog_14_method_162_code 10 = .ok (.aload_n 0, 1) := by decide +kernel
theorem d_X12_trees_11 : decode prog_14_method_162_code 11 = .ok (.getfield 64, 3) := by decide +kernel
theorem d_X12_trees_14 : decode prog_14_method_162_code 14 = .ok (.bipush 12, 2) := by decide +kernel
theorem d_X12_trees_16 : decode prog_14_method_162_code 16 = .ok (.iload_n 1, 1) := by decide +kernel
theorem d_X12_trees_17 : decode prog_14_method_162_code 17 = .ok (.imul, 1) := by decide +kernel
theorem d_X12_trees_18 : decode prog_14_method_162_code 18 = .ok (.iload_n 2, 1) := by decide +kernel
theorem d_X12_trees_19 : decode prog_14_method_162_code 19 = .ok (.iadd, 1) := by decide +kernel
theorem d_X12_trees_20 : decode prog_14_method_162_code 20 = .ok (.iaload, 1) := by decide +kernel
theorem d_X12_trees_21 : decode prog_14_method_162_code 21 = .ok (.if_icmp .ge 48, 3) := by decide +kernel
theorem d_X12_trees_24 : decode prog_14_method_162_code 24 = .ok (.aload_n 0, 1) := by decide +kernel
theorem d_X12_trees_25 : decode prog_14_method_162_code 25 = .ok (.getfield 292, 3) := by decide +kernel
theorem d_X12_trees_28 : decode prog_14_method_162_code 28 = .ok (.iload_n 3, 1) := by decide +kernel
theorem d_X12_trees_29 : decode prog_14_method_162_code 29 = .ok (.ifCond .ne 8, 3) := by decide +kernel
theorem d_X12_trees_32 : decode prog_14_method_162_code 32 = .ok (.bipush 40, 2) := by decide +kernel
theorem d_X12_trees_34 : decode prog_14_method_162_code 34 = .ok (.goto 5, 3) := by decide +kernel
theorem d_X12_trees_37 : decode prog_14_method_162_code 37 = .ok (.bipush 44, 2) := by decide +kernel
theorem d_X12_trees_39 : decode prog_14_method_162_code 39 = .ok (.if_icmp .eq 8, 3) := by decide +kernel
theorem d_X12_trees_42 : decode prog_14_method_162_code 42 = .ok (.aload_n 0, 1) := by decide +kernel
theorem d_X12_trees_43 : decode prog_14_method_162_code 43 = .ok (.invokevirtual 327, 3) := by decide +kernel
theorem d_X12_trees_46 : decode prog_14_method_162_code 46 = .ok (.return_, 1) := by decide +kernel
theorem d_X12_trees_47 : decode prog_14_method_162_code 47 = .ok (.aload_n 0, 1) := by decide +kernel
theorem d_X12_trees_48 : decode prog_14_method_162_code 48 = .ok (.invokevirtual 324, 3) := by decide +kernel
theorem d_X12_trees_51 : decode prog_14_method_162_code 51 = .ok (.aload_n 0, 1) := by decide +kernel
theorem d_X12_trees_52 : decode prog_14_method_162_code 52 = .ok (.getfield 193, 3) := by decide +kernel
theorem d_X12_trees_55 : decode prog_14_method_162_code 55 = .ok (.iload_n 2, 1) := by decide +kernel
theorem d_X12_trees_56 : decode prog_14_method_162_code 56 = .ok (.iload_n 3, 1) := by decide +kernel
theorem d_X12_trees_57 : decode prog_14_method_162_code 57 = .ok (.iastore, 1) := by decide +kernel
theorem d_X12_trees_58 : decode prog_14_method_162_code 58 = .ok (.aload_n 0, 1) := by decide +kernel
theorem d_X12_trees_59 : decode prog_14_method_162_code 59 = .ok (.iload_n 1, 1) := by decide +kernel
theorem d_X12_trees_60 : decode prog_14_method_162_code 60 = .ok (.invokevirtual 693, 3) := by decide +kernel
theorem d_X12_trees_63 : decode prog_14_method_162_code 63 = .ok (.iinc 3 1, 3) := by decide +kernel
theorem d_X12_trees_66 : decode prog_14_method_162_code 66 = .ok (.goto (-64), 3) := by decide +kernel
theorem d_X12_trees_69 : decode prog_14_method_162_code 69 = .ok (.aload_n 0, 1) := by decide +kernel
theorem d_X12_trees_70 : decode prog_14_method_162_code 70 = .ok (.getfield 193, 3) := by decide +kernel
theorem d_X12_trees_73 : decode prog_14_method_162_code 73 = .ok (.iload_n 2, 1) := by decide +kernel
theorem d_X12_trees_74 : decode prog_14_method_162_code 74 = .ok (.iconst (-1), 1) := by decide +kernel
theorem d_X12_trees_75 : decode prog_14_method_162_code 75 = .ok (.iastore, 1) := by decide +kernel
theorem d_X12_trees_76 : decode prog_14_method_162_code 76 = .ok (.aload_n 0, 1) := by decide +kernel
theorem d_X12_trees_77 : decode prog_14_method_162_code 77 = .ok (.getfield 311, 3) := by decide +kernel
theorem d_X12_trees_80 : decode prog_14_method_162_code 80 = .ok (.ifCond .ne 16, 3) := by decide +kernel
theorem d_X12_trees_83 : decode prog_14_method_162_code 83 = .ok (.aload_n 0, 1) := by decide +kernel
theorem d_X12_trees_84 : decode prog_14_method_162_code 84 = .ok (.getfield 292, 3) := by decide +kernel
theorem d_X12_trees_87 : decode prog_14_method_162_code 87 = .ok (.bipush 41, 2) := by decide +kernel
theorem d_X12_trees_89 : decode prog_14_method_162_code 89 = .ok (.if_icmp .eq 7, 3) := by decide +kernel
theorem d_X12_trees_92 : decode prog_14_method_162_code 92 = .ok (.aload_n 0, 1) := by decide +kernel
theorem d_X12_trees_93 : decode prog_14_method_162_code 93 = .ok (.invokevirtual 327, 3) := by decide +kernel
theorem d_X12_trees_96 : decode prog_14_method_162_code 96 = .ok (.aload_n 0, 1) := by decide +kernel
theorem d_X12_trees_97 : decode prog_14_method_162_code 97 = .ok (.getfield 311, 3) := by decide +kernel
theorem d_X12_trees_100 : decode prog_14_method_162_code 100 = .ok (.ifCond .ne 7, 3) := by decide +kernel
theorem d_X12_trees_103 : decode prog_14_method_162_code 103 = .ok (.aload_n 0, 1) := by decide +kernel
theorem d_X12_trees_104 : decode prog_14_method_162_code 104 = .ok (.invokevirtual 324, 3) := by decide +kernel
theorem d_X12_trees_107 : decode prog_14_method_162_code 107 = .ok (.return_, 1) := by decide +kernel
theorem v_X12_trees_0 {E : EE} {d : Nat} {Q : Option AV → AH → Prop} {x0 : Nat} {x1 : Int32} {x2 : Int32} {G : AH} (h : wp E d M_X12_trees 2 [some (vr x0), some (vi x1), some (vi x2), some (vi 0)] [] G Q) : wp E d M_X12_trees 0 [some (vr x0), some (vi x1), some (vi x2), none] [] G Q := by
  refine wp_iconst (pc := 0) (v := 0) d_X12_trees_0 rfl ?_
  refine wp_istore_n (pc := 1) (lv' := [some (vr _), some (vi _), some (vi _), some (vi _)]) d_X12_trees_1 (by decide) rfl ?_
  refine wp_sub ?_ h
  exact ⟨rfl, ⟨rfl, ⟨rfl, ⟨rfl, trivial⟩⟩⟩⟩
theorem v_X12_trees_2 {E : EE} {d : Nat} {Q : Option AV → AH → Prop} {x0 : Nat} {x1 : Int32} {x2 : Int32} {x3 : Int32} {G : AH} (h : isO E G x0 12 ∧ ((¬ (gI G x0 45) = 0 → wp E d M_X12_trees 69 [some (vr x0), some (vi x1), some (vi x2), some (vi x3)] [] G Q) ∧ ((gI G x0 45) = 0 → isO E G (gR G x0 19) 14 ∧ (vp_in ((12 * x1) + x2) (gN G (gR G x0 19)) ∧ (((gI G (gR G x0 19) (Int32.toNatClampNeg ((12 * x1) + x2))) ≤ x3 → wp E d M_X12_trees 69 [some (vr x0), some (vi x1), some (vi x2), some (vi x3)] [] G Q) ∧ (¬ ((gI G (gR G x0 19) (Int32.toNatClampNeg ((12 * x1) + x2))) ≤ x3) → (¬ x3 = 0 → wp E d M_X12_trees 39 [some (vr x0), some (vi x1), some (vi x2), some (vi x3)] [vi 44, vi (gI G x0 41)] G Q) ∧ (x3 = 0 → wp E d M_X12_trees 39 [some (vr x0), some (vi x1), some (vi x2), some (vi x3)] [vi 40, vi (gI G x0 41)] G Q))))))) : wp E d M_X12_trees 2 [some (vr x0), some (vi x1), some (vi x2), some (vi x3)] [] G Q := by
  refine wp_aload_n (pc := 2) d_X12_trees_2 rfl ?_
  obtain ⟨ho1, h⟩ := h
  refine wp_getI (pc := 3) d_X12_trees_3 fl_X12_311 (fun _ _ _ => rfl) ho1 ?_
  refine wp_if_ne (pc := 6) (tgt := 69) d_X12_trees_6 (by decide) (fun hc => ?_) (fun hc => ?_)
  · have h := h.1 hc
    refine wp_sub ?_ h
    exact ⟨rfl, ⟨rfl, ⟨rfl, ⟨rfl, trivial⟩⟩⟩⟩
  · have h := h.2 hc
    refine wp_iload_n (pc := 9) d_X12_trees_9 rfl ?_
    refine wp_aload_n (pc := 10) d_X12_trees_10 rfl ?_
    refine wp_getR (pc := 11) d_X12_trees_11 fl_X12_64 (fun _ _ _ => rfl) ho1 ?_
    refine wp_bipush (pc := 14) (v := 12) d_X12_trees_14 rfl ?_
    refine wp_iload_n (pc := 16) d_X12_trees_16 rfl ?_
    refine wp_imul (pc := 17) d_X12_trees_17 ?_
    refine wp_iload_n (pc := 18) d_X12_trees_18 rfl ?_
    refine wp_iadd (pc := 19) d_X12_trees_19 ?_
    obtain ⟨ho2, h⟩ := h
    obtain ⟨hi3, h⟩ := h
    refine wp_iald (pc := 20) d_X12_trees_20 ho2 hi3 ?_
    refine wp_icmp_ge (pc := 21) (tgt := 69) d_X12_trees_21 (by decide) (fun hc => ?_) (fun hc => ?_)
    · have h := h.1 hc
      refine wp_sub ?_ h
      exact ⟨rfl, ⟨rfl, ⟨rfl, ⟨rfl, trivial⟩⟩⟩⟩
    · have h := h.2 hc
      refine wp_aload_n (pc := 24) d_X12_trees_24 rfl ?_
      refine wp_getI (pc := 25) d_X12_trees_25 fl_X12_292 (fun _ _ _ => rfl) ho1 ?_
      refine wp_iload_n (pc := 28) d_X12_trees_28 rfl ?_
      refine wp_if_ne (pc := 29) (tgt := 37) d_X12_trees_29 (by decide) (fun hc => ?_) (fun hc => ?_)
      · have h := h.1 hc
        refine wp_bipush (pc := 37) (v := 44) d_X12_trees_37 rfl ?_
        refine wp_sub ?_ h
        exact ⟨rfl, ⟨rfl, ⟨rfl, ⟨rfl, trivial⟩⟩⟩⟩
      · have h := h.2 hc
        refine wp_bipush (pc := 32) (v := 40) d_X12_trees_32 rfl ?_
        refine wp_goto (pc := 34) (tgt := 39) d_X12_trees_34 (by decide) ?_
        refine wp_sub ?_ h
        exact ⟨rfl, ⟨rfl, ⟨rfl, ⟨rfl, trivial⟩⟩⟩⟩
theorem v_X12_trees_39 {E : EE} {d : Nat} {Q : Option AV → AH → Prop} {x0 : Nat} {x1 : Int32} {x2 : Int32} {x3 : Int32} {t0 : Int32} {t1 : Int32} {G : AH} (h0 : 0 < d) (h : (t0 = t1 → isO E G x0 12 ∧ (wpV E (d - 1) M_X12_next [vr x0] G (fun G1 => isO E G1 x0 12 ∧ (isO E G1 (gR G1 x0 83) 14 ∧ (vp_in x2 (gN G1 (gR G1 x0 83)) ∧ (wpV E (d - 1) M_X12_tree [vr x0, vi x1] (sI G1 (gR G1 x0 83) (Int32.toNatClampNeg x2) x3) (fun G5 => wp E d M_X12_trees 2 [some (vr x0), some (vi x1), some (vi x2), some (vi (x3 + 1))] [] G5 Q))))))) ∧ (¬ (t0 = t1) → isO E G x0 12 ∧ (wpV E (d - 1) M_X12_failHere [vr x0] G (fun G7 => Q none G7)))) : wp E d M_X12_trees 39 [some (vr x0), some (vi x1), some (vi x2), some (vi x3)] [vi t1, vi t0] G Q := by
  refine wp_icmp_eq (pc := 39) (tgt := 47) d_X12_trees_39 (by decide) (fun hc => ?_) (fun hc => ?_)
  · have h := h.1 hc
    refine wp_aload_n (pc := 47) d_X12_trees_47 rfl ?_
    obtain ⟨ho6, h⟩ := h
    refine wp_invV (pc := 48) (N := M_X12_next) (As := []) (rest := []) (r := (cn_12, ct_12, 95)) d_X12_trees_48 ml_X12_324 mk_X12_next mv_X12_next h0 ho6 rfl rfl (Nat.le_of_ble_eq_true rfl) ?_
    refine wpM.mono h (fun rr G1 hr => ?_)
    obtain ⟨rfl, h⟩ := hr
    show wp E d M_X12_trees 51 [some (vr _), some (vi _), some (vi _), some (vi _)] [] G1 Q
    refine wp_aload_n (pc := 51) d_X12_trees_51 rfl ?_
    obtain ⟨ho2, h⟩ := h
    refine wp_getR (pc := 52) d_X12_trees_52 fl_X12_193 (fun _ _ _ => rfl) ho2 ?_
    refine wp_iload_n (pc := 55) d_X12_trees_55 rfl ?_
    refine wp_iload_n (pc := 56) d_X12_trees_56 rfl ?_
    obtain ⟨ho3, h⟩ := h
    obtain ⟨hi4, h⟩ := h
    refine wp_iast (pc := 57) d_X12_trees_57 ho3 hi4 ?_
    refine wp_aload_n (pc := 58) d_X12_trees_58 rfl ?_
    refine wp_iload_n (pc := 59) d_X12_trees_59 rfl ?_
    refine wp_invV (pc := 60) (N := M_X12_tree) (As := [vi _]) (rest := []) (r := (cn_12, ct_12, 95)) d_X12_trees_60 ml_X12_693 mk_X12_tree mv_X12_tree h0 ho2 rfl rfl (Nat.le_of_ble_eq_true rfl) ?_
    refine wpM.mono h (fun rr G5 hr => ?_)
    obtain ⟨rfl, h⟩ := hr
    show wp E d M_X12_trees 63 [some (vr _), some (vi _), some (vi _), some (vi _)] [] G5 Q
    refine wp_iinc (pc := 63) (v := 1) (lv' := [some (vr _), some (vi _), some (vi _), some (vi _)]) d_X12_trees_63 (by decide) rfl rfl rfl ?_
    refine wp_goto (pc := 66) (tgt := 2) d_X12_trees_66 (by decide) ?_
    refine wp_sub ?_ h
    exact ⟨rfl, ⟨rfl, ⟨rfl, ⟨rfl, trivial⟩⟩⟩⟩
  · have h := h.2 hc
    refine wp_aload_n (pc := 42) d_X12_trees_42 rfl ?_
    obtain ⟨ho8, h⟩ := h
    refine wp_invV (pc := 43) (N := M_X12_failHere) (As := []) (rest := []) (r := (cn_12, ct_12, 95)) d_X12_trees_43 ml_X12_327 mk_X12_failHere mv_X12_failHere h0 ho8 rfl rfl (Nat.le_of_ble_eq_true rfl) ?_
    refine wpM.mono h (fun rr G7 hr => ?_)
    obtain ⟨rfl, h⟩ := hr
    show wp E d M_X12_trees 46 [some (vr _), some (vi _), some (vi _), some (vi _)] [] G7 Q
    exact wp_vret (pc := 46) d_X12_trees_46 rfl h
theorem v_X12_trees_69 {E : EE} {d : Nat} {Q : Option AV → AH → Prop} {x0 : Nat} {x1 : Int32} {x2 : Int32} {x3 : Int32} {G : AH} (h0 : 0 < d) (h : isO E G x0 12 ∧ (isO E G (gR G x0 83) 14 ∧ (vp_in x2 (gN G (gR G x0 83)) ∧ ((¬ (gI (sI G (gR G x0 83) (Int32.toNatClampNeg x2) (-1)) x0 45) = 0 → wp E d M_X12_trees 96 [some (vr x0), some (vi x1), some (vi x2), some (vi x3)] [] (sI G (gR G x0 83) (Int32.toNatClampNeg x2) (-1)) Q) ∧ ((gI (sI G (gR G x0 83) (Int32.toNatClampNeg x2) (-1)) x0 45) = 0 → ((gI (sI G (gR G x0 83) (Int32.toNatClampNeg x2) (-1)) x0 41) = 41 → wp E d M_X12_trees 96 [some (vr x0), some (vi x1), some (vi x2), some (vi x3)] [] (sI G (gR G x0 83) (Int32.toNatClampNeg x2) (-1)) Q) ∧ (¬ ((gI (sI G (gR G x0 83) (Int32.toNatClampNeg x2) (-1)) x0 41) = 41) → wpV E (d - 1) M_X12_failHere [vr x0] (sI G (gR G x0 83) (Int32.toNatClampNeg x2) (-1)) (fun G4 => wp E d M_X12_trees 96 [some (vr x0), some (vi x1), some (vi x2), some (vi x3)] [] G4 Q))))))) : wp E d M_X12_trees 69 [some (vr x0), some (vi x1), some (vi x2), some (vi x3)] [] G Q := by
  refine wp_aload_n (pc := 69) d_X12_trees_69 rfl ?_
  obtain ⟨ho1, h⟩ := h
  refine wp_getR (pc := 70) d_X12_trees_70 fl_X12_193 (fun _ _ _ => rfl) ho1 ?_
  refine wp_iload_n (pc := 73) d_X12_trees_73 rfl ?_
  refine wp_iconst (pc := 74) (v := (-1)) d_X12_trees_74 rfl ?_
  obtain ⟨ho2, h⟩ := h
  obtain ⟨hi3, h⟩ := h
  refine wp_iast (pc := 75) d_X12_trees_75 ho2 hi3 ?_
  refine wp_aload_n (pc := 76) d_X12_trees_76 rfl ?_
  refine wp_getI (pc := 77) d_X12_trees_77 fl_X12_311 (fun _ _ _ => rfl) ho1 ?_
  refine wp_if_ne (pc := 80) (tgt := 96) d_X12_trees_80 (by decide) (fun hc => ?_) (fun hc => ?_)
  · have h := h.1 hc
    refine wp_sub ?_ h
    exact ⟨rfl, ⟨rfl, ⟨rfl, ⟨rfl, trivial⟩⟩⟩⟩
  · have h := h.2 hc
    refine wp_aload_n (pc := 83) d_X12_trees_83 rfl ?_
    refine wp_getI (pc := 84) d_X12_trees_84 fl_X12_292 (fun _ _ _ => rfl) ho1 ?_
    refine wp_bipush (pc := 87) (v := 41) d_X12_trees_87 rfl ?_
    refine wp_icmp_eq (pc := 89) (tgt := 96) d_X12_trees_89 (by decide) (fun hc => ?_) (fun hc => ?_)
    · have h := h.1 hc
      refine wp_sub ?_ h
      exact ⟨rfl, ⟨rfl, ⟨rfl, ⟨rfl, trivial⟩⟩⟩⟩
    · have h := h.2 hc
      refine wp_aload_n (pc := 92) d_X12_trees_92 rfl ?_
      refine wp_invV (pc := 93) (N := M_X12_failHere) (As := []) (rest := []) (r := (cn_12, ct_12, 95)) d_X12_trees_93 ml_X12_327 mk_X12_failHere mv_X12_failHere h0 ho1 rfl rfl (Nat.le_of_ble_eq_true rfl) ?_
      refine wpM.mono h (fun rr G4 hr => ?_)
      obtain ⟨rfl, h⟩ := hr
      show wp E d M_X12_trees 96 [some (vr _), some (vi _), some (vi _), some (vi _)] [] G4 Q
      refine wp_sub ?_ h
      exact ⟨rfl, ⟨rfl, ⟨rfl, ⟨rfl, trivial⟩⟩⟩⟩
theorem v_X12_trees_96 {E : EE} {d : Nat} {Q : Option AV → AH → Prop} {x0 : Nat} {x1 : Int32} {x2 : Int32} {x3 : Int32} {G : AH} (h0 : 0 < d) (h : isO E G x0 12 ∧ ((¬ (gI G x0 45) = 0 → Q none G) ∧ ((gI G x0 45) = 0 → wpV E (d - 1) M_X12_next [vr x0] G (fun G2 => Q none G2)))) : wp E d M_X12_trees 96 [some (vr x0), some (vi x1), some (vi x2), some (vi x3)] [] G Q := by
  refine wp_aload_n (pc := 96) d_X12_trees_96 rfl ?_
  obtain ⟨ho1, h⟩ := h
  refine wp_getI (pc := 97) d_X12_trees_97 fl_X12_311 (fun _ _ _ => rfl) ho1 ?_
  refine wp_if_ne (pc := 100) (tgt := 107) d_X12_trees_100 (by decide) (fun hc => ?_) (fun hc => ?_)
  · have h := h.1 hc
    exact wp_vret (pc := 107) d_X12_trees_107 rfl h
  · have h := h.2 hc
    refine wp_aload_n (pc := 103) d_X12_trees_103 rfl ?_
    refine wp_invV (pc := 104) (N := M_X12_next) (As := []) (rest := []) (r := (cn_12, ct_12, 95)) d_X12_trees_104 ml_X12_324 mk_X12_next mv_X12_next h0 ho1 rfl rfl (Nat.le_of_ble_eq_true rfl) ?_
    refine wpM.mono h (fun rr G2 hr => ?_)
    obtain ⟨rfl, h⟩ := hr
    show wp E d M_X12_trees 107 [some (vr _), some (vi _), some (vi _), some (vi _)] [] G2 Q
    exact wp_vret (pc := 107) d_X12_trees_107 rfl h
theorem d_X12_searched_0 : decode prog_14_method_155_code 0 = .ok (.aload_n 0, 1) := by decide +kernel
theorem d_X12_searched_1 : decode prog_14_method_155_code 1 = .ok (.getfield 658, 3) := by decide +kernel
theorem d_X12_searched_4 : decode prog_14_method_155_code 4 = .ok (.ifCond .ne 5, 3) := by decide +kernel
theorem d_X12_searched_7 : decode prog_14_method_155_code 7 = .ok (.iconst (-1), 1) := by decide +kernel
theorem d_X12_searched_8 : decode prog_14_method_155_code 8 = .ok (.ireturn, 1) := by decide +kernel
theorem d_X12_searched_9 : decode prog_14_method_155_code 9 = .ok (.iload_n 1, 1) := by decide +kernel
theorem d_X12_searched_10 : decode prog_14_method_155_code 10 = .ok (.ifCond .ne 10, 3) := by decide +kernel
theorem d_X12_searched_13 : decode prog_14_method_155_code 13 = .ok (.aload_n 0, 1) := by decide +kernel
theorem d_X12_searched_14 : decode prog_14_method_155_code 14 = .ok (.getfield 655, 3) := by decide +kernel
theorem d_X12_searched_17 : decode prog_14_method_155_code 17 = .ok (.goto 28, 3) := by decide +kernel
theorem d_X12_searched_20 : decode prog_14_method_155_code 20 = .ok (.iload_n 1, 1) := by decide +kernel
theorem d_X12_searched_21 : decode prog_14_method_155_code 21 = .ok (.iconst 1, 1) := by decide +kernel
theorem d_X12_searched_22 : decode prog_14_method_155_code 22 = .ok (.if_icmp .ne 10, 3) := by decide +kernel
theorem d_X12_searched_25 : decode prog_14_method_155_code 25 = .ok (.aload_n 0, 1) := by decide +kernel
theorem d_X12_searched_26 : decode prog_14_method_155_code 26 = .ok (.getfield 646, 3) := by decide +kernel
theorem d_X12_searched_29 : decode prog_14_method_155_code 29 = .ok (.goto 16, 3) := by decide +kernel
theorem d_X12_searched_32 : decode prog_14_method_155_code 32 = .ok (.iload_n 1, 1) := by decide +kernel
theorem d_X12_searched_33 : decode prog_14_method_155_code 33 = .ok (.iconst 2, 1) := by decide +kernel
theorem d_X12_searched_34 : decode prog_14_method_155_code 34 = .ok (.if_icmp .ne 10, 3) := by decide +kernel
theorem d_X12_searched_37 : decode prog_14_method_155_code 37 = .ok (.aload_n 0, 1) := by decide +kernel
theorem d_X12_searched_38 : decode prog_14_method_155_code 38 = .ok (.getfield 181, 3) := by decide +kernel
theorem d_X12_searched_41 : decode prog_14_method_155_code 41 = .ok (.goto 4, 3) := by decide +kernel
theorem d_X12_searched_44 : decode prog_14_method_155_code 44 = .ok (.iconst (-1), 1) := by decide +kernel
theorem d_X12_searched_45 : decode prog_14_method_155_code 45 = .ok (.ireturn, 1) := by decide +kernel
theorem v_X12_searched_0 {E : EE} {d : Nat} {Q : Option AV → AH → Prop} {x0 : Nat} {x1 : Int32} {G : AH} (h : isO E G x0 12 ∧ ((¬ (gI G x0 79) = 0 → (¬ x1 = 0 → (¬ x1 = 1 → (¬ x1 = 2 → Q (some (vi (-1))) G) ∧ (x1 = 2 → Q (some (vi (gI G x0 78))) G)) ∧ (x1 = 1 → Q (some (vi (gI G x0 76))) G)) ∧ (x1 = 0 → Q (some (vi (gI G x0 77))) G)) ∧ ((gI G x0 79) = 0 → Q (some (vi (-1))) G))) : wp E d M_X12_searched 0 [some (vr x0), some (vi x1)] [] G Q := by
  refine wp_aload_n (pc := 0) d_X12_searched_0 rfl ?_
  obtain ⟨ho1, h⟩ := h
  refine wp_getI (pc := 1) d_X12_searched_1 fl_X12_658 (fun _ _ _ => rfl) ho1 ?_
  refine wp_if_ne (pc := 4) (tgt := 9) d_X12_searched_4 (by decide) (fun hc => ?_) (fun hc => ?_)
  · have h := h.1 hc
    refine wp_iload_n (pc := 9) d_X12_searched_9 rfl ?_
    refine wp_if_ne (pc := 10) (tgt := 20) d_X12_searched_10 (by decide) (fun hc => ?_) (fun hc => ?_)
    · have h := h.1 hc
      refine wp_iload_n (pc := 20) d_X12_searched_20 rfl ?_
      refine wp_iconst (pc := 21) (v := 1) d_X12_searched_21 rfl ?_
      refine wp_icmp_ne (pc := 22) (tgt := 32) d_X12_searched_22 (by decide) (fun hc => ?_) (fun hc => ?_)
      · have h := h.1 hc
        refine wp_iload_n (pc := 32) d_X12_searched_32 rfl ?_
        refine wp_iconst (pc := 33) (v := 2) d_X12_searched_33 rfl ?_
        refine wp_icmp_ne (pc := 34) (tgt := 44) d_X12_searched_34 (by decide) (fun hc => ?_) (fun hc => ?_)
        · have h := h.1 hc
          refine wp_iconst (pc := 44) (v := (-1)) d_X12_searched_44 rfl ?_
          exact wp_iret (pc := 45) d_X12_searched_45 rfl h
        · have h := h.2 hc
          refine wp_aload_n (pc := 37) d_X12_searched_37 rfl ?_
          refine wp_getI (pc := 38) d_X12_searched_38 fl_X12_181 (fun _ _ _ => rfl) ho1 ?_
          refine wp_goto (pc := 41) (tgt := 45) d_X12_searched_41 (by decide) ?_
          exact wp_iret (pc := 45) d_X12_searched_45 rfl h
      · have h := h.2 hc
        refine wp_aload_n (pc := 25) d_X12_searched_25 rfl ?_
        refine wp_getI (pc := 26) d_X12_searched_26 fl_X12_646 (fun _ _ _ => rfl) ho1 ?_
        refine wp_goto (pc := 29) (tgt := 45) d_X12_searched_29 (by decide) ?_
        exact wp_iret (pc := 45) d_X12_searched_45 rfl h
    · have h := h.2 hc
      refine wp_aload_n (pc := 13) d_X12_searched_13 rfl ?_
      refine wp_getI (pc := 14) d_X12_searched_14 fl_X12_655 (fun _ _ _ => rfl) ho1 ?_
      refine wp_goto (pc := 17) (tgt := 45) d_X12_searched_17 (by decide) ?_
      exact wp_iret (pc := 45) d_X12_searched_45 rfl h
  · have h := h.2 hc
    refine wp_iconst (pc := 7) (v := (-1)) d_X12_searched_7 rfl ?_
    exact wp_iret (pc := 8) d_X12_searched_8 rfl h
