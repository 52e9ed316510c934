/-! decode rows and regions (by program): X12_search X12_draw X12_withPlace X12_worth X12_valueIn X12_putAtHand X12_regret X12_isLevel X12_expected X12_show X12_robust X12_unfold X12_told X12_isFact X12_future X12_because X12_isVar X12_bestWith X12_firstBest X12_whyNot X12_without X12_isRule X12_relax -/
theorem d_X12_search_0 : decode prog_14_method_154_code 0 = .ok (.aload_n 0, 1) := by decide +kernel
theorem d_X12_search_1 : decode prog_14_method_154_code 1 = .ok (.iload_n 1, 1) := by decide +kernel
theorem d_X12_search_2 : decode prog_14_method_154_code 2 = .ok (.invokevirtual 453, 3) := by decide +kernel
theorem d_X12_search_5 : decode prog_14_method_154_code 5 = .ok (.ifCond .eq 25, 3) := by decide +kernel
theorem d_X12_search_8 : decode prog_14_method_154_code 8 = .ok (.iload 5, 2) := by decide +kernel
theorem d_X12_search_10 : decode prog_14_method_154_code 10 = .ok (.ifCond .lt 20, 3) := by decide +kernel
theorem d_X12_search_13 : decode prog_14_method_154_code 13 = .ok (.iload 5, 2) := by decide +kernel
theorem d_X12_search_15 : decode prog_14_method_154_code 15 = .ok (.sipush 2000, 3) := by decide +kernel
theorem d_X12_search_18 : decode prog_14_method_154_code 18 = .ok (.if_icmp .gt 12, 3) := by decide +kernel
theorem d_X12_search_21 : decode prog_14_method_154_code 21 = .ok (.iload_n 2, 1) := by decide +kernel
theorem d_X12_search_22 : decode prog_14_method_154_code 22 = .ok (.ifCond .lt 8, 3) := by decide +kernel
theorem d_X12_search_25 : decode prog_14_method_154_code 25 = .ok (.iload_n 2, 1) := by decide +kernel
theorem d_X12_search_26 : decode prog_14_method_154_code 26 = .ok (.iconst 3, 1) := by decide +kernel
theorem d_X12_search_27 : decode prog_14_method_154_code 27 = .ok (.if_icmp .le 5, 3) := by decide +kernel
theorem d_X12_search_30 : decode prog_14_method_154_code 30 = .ok (.iconst (-1), 1) := by decide +kernel
theorem d_X12_search_31 : decode prog_14_method_154_code 31 = .ok (.ireturn, 1) := by decide +kernel
theorem d_X12_search_32 : decode prog_14_method_154_code 32 = .ok (.iload_n 2, 1) := by decide +kernel
theorem d_X12_search_33 : decode prog_14_method_154_code 33 = .ok (.ifCond .le 37, 3) := by decide +kernel
theorem d_X12_search_36 : decode prog_14_method_154_code 36 = .ok (.iload_n 3, 1) := by decide +kernel
theorem d_X12_search_37 : decode prog_14_method_154_code 37 = .ok (.iconst 1, 1) := by decide +kernel
theorem d_X12_search_38 : decode prog_14_method_154_code 38 = .ok (.if_icmp .lt 30, 3) := by decide +kernel
theorem d_X12_search_41 : decode prog_14_method_154_code 41 = .ok (.iload_n 3, 1) := by decide +kernel
theorem d_X12_search_42 : decode prog_14_method_154_code 42 = .ok (.iload_n 2, 1) := by decide +kernel
theorem d_X12_search_43 : decode prog_14_method_154_code 43 = .ok (.iconst 1, 1) := by decide +kernel
theorem d_X12_search_44 : decode prog_14_method_154_code 44 = .ok (.if_icmp .ne 8, 3) := by decide +kernel
theorem d_X12_search_47 : decode prog_14_method_154_code 47 = .ok (.bipush 20, 2) := by decide +kernel
theorem d_X12_search_49 : decode prog_14_method_154_code 49 = .ok (.goto 16, 3) := by decide +kernel
theorem d_X12_search_52 : decode prog_14_method_154_code 52 = .ok (.iload_n 2, 1) := by decide +kernel
theorem d_X12_search_53 : decode prog_14_method_154_code 53 = .ok (.iconst 2, 1) := by decide +kernel
theorem d_X12_search_54 : decode prog_14_method_154_code 54 = .ok (.if_icmp .ne 8, 3) := by decide +kernel
theorem d_X12_search_57 : decode prog_14_method_154_code 57 = .ok (.bipush 100, 2) := by decide +kernel
theorem d_X12_search_59 : decode prog_14_method_154_code 59 = .ok (.goto 6, 3) := by decide +kernel
theorem d_X12_search_62 : decode prog_14_method_154_code 62 = .ok (.sipush 10000, 3) := by decide +kernel
theorem d_X12_search_65 : decode prog_14_method_154_code 65 = .ok (.if_icmp .le 5, 3) := by decide +kernel
theorem d_X12_search_68 : decode prog_14_method_154_code 68 = .ok (.iconst (-1), 1) := by decide +kernel
theorem d_X12_search_69 : decode prog_14_method_154_code 69 = .ok (.ireturn, 1) := by decide +kernel
theorem d_X12_search_70 : decode prog_14_method_154_code 70 = .ok (.aload_n 0, 1) := by decide +kernel
theorem d_X12_search_71 : decode prog_14_method_154_code 71 = .ok (.iload_n 1, 1) := by decide +kernel
theorem d_X12_search_72 : decode prog_14_method_154_code 72 = .ok (.invokevirtual 571, 3) := by decide +kernel
theorem d_X12_search_75 : decode prog_14_method_154_code 75 = .ok (.aload_n 0, 1) := by decide +kernel
theorem d_X12_search_76 : decode prog_14_method_154_code 76 = .ok (.iload 4, 2) := by decide +kernel
theorem d_X12_search_78 : decode prog_14_method_154_code 78 = .ok (.putfield 646, 3) := by decide +kernel
theorem d_X12_search_81 : decode prog_14_method_154_code 81 = .ok (.aload_n 0, 1) := by decide +kernel
theorem d_X12_search_82 : decode prog_14_method_154_code 82 = .ok (.iconst 1, 1) := by decide +kernel
theorem d_X12_search_83 : decode prog_14_method_154_code 83 = .ok (.putfield 655, 3) := by decide +kernel
theorem d_X12_search_86 : decode prog_14_method_154_code 86 = .ok (.aload_n 0, 1) := by decide +kernel
theorem d_X12_search_87 : decode prog_14_method_154_code 87 = .ok (.iconst (-1), 1) := by decide +kernel
theorem d_X12_search_88 : decode prog_14_method_154_code 88 = .ok (.putfield 181, 3) := by decide +kernel
theorem d_X12_search_91 : decode prog_14_method_154_code 91 = .ok (.aload_n 0, 1) := by decide +kernel
theorem d_X12_search_92 : decode prog_14_method_154_code 92 = .ok (.iconst 1, 1) := by decide +kernel
theorem d_X12_search_93 : decode prog_14_method_154_code 93 = .ok (.putfield 658, 3) := by decide +kernel
theorem d_X12_search_96 : decode prog_14_method_154_code 96 = .ok (.iconst 0, 1) := by decide +kernel
theorem d_X12_search_97 : decode prog_14_method_154_code 97 = .ok (.istore 6, 2) := by decide +kernel
theorem d_X12_search_99 : decode prog_14_method_154_code 99 = .ok (.iconst 0, 1) := by decide +kernel
theorem d_X12_search_100 : decode prog_14_method_154_code 100 = .ok (.istore 7, 2) := by decide +kernel
theorem d_X12_search_102 : decode prog_14_method_154_code 102 = .ok (.iload 7, 2) := by decide +kernel
theorem d_X12_search_104 : decode prog_14_method_154_code 104 = .ok (.aload_n 0, 1) := by decide +kernel
theorem d_X12_search_105 : decode prog_14_method_154_code 105 = .ok (.iload_n 1, 1) := by decide +kernel
theorem d_X12_search_106 : decode prog_14_method_154_code 106 = .ok (.invokevirtual 456, 3) := by decide +kernel
theorem d_X12_search_109 : decode prog_14_method_154_code 109 = .ok (.if_icmp .ge 62, 3) := by decide +kernel
theorem d_X12_search_112 : decode prog_14_method_154_code 112 = .ok (.aload_n 0, 1) := by decide +kernel
theorem d_X12_search_113 : decode prog_14_method_154_code 113 = .ok (.getfield 79, 3) := by decide +kernel
theorem d_X12_search_116 : decode prog_14_method_154_code 116 = .ok (.bipush 12, 2) := by decide +kernel
theorem d_X12_search_118 : decode prog_14_method_154_code 118 = .ok (.iload_n 1, 1) := by decide +kernel
theorem d_X12_search_119 : decode prog_14_method_154_code 119 = .ok (.imul, 1) := by decide +kernel
theorem d_X12_search_120 : decode prog_14_method_154_code 120 = .ok (.iload 7, 2) := by decide +kernel
theorem d_X12_search_122 : decode prog_14_method_154_code 122 = .ok (.iadd, 1) := by decide +kernel
theorem d_X12_search_123 : decode prog_14_method_154_code 123 = .ok (.baload, 1) := by decide +kernel
theorem d_X12_search_124 : decode prog_14_method_154_code 124 = .ok (.ifCond .ne 31, 3) := by decide +kernel
theorem d_X12_search_127 : decode prog_14_method_154_code 127 = .ok (.aload_n 0, 1) := by decide +kernel
theorem d_X12_search_128 : decode prog_14_method_154_code 128 = .ok (.getfield 64, 3) := by decide +kernel
theorem d_X12_search_131 : decode prog_14_method_154_code 131 = .ok (.bipush 12, 2) := by decide +kernel
theorem d_X12_search_133 : decode prog_14_method_154_code 133 = .ok (.iload_n 1, 1) := by decide +kernel
theorem d_X12_search_134 : decode prog_14_method_154_code 134 = .ok (.imul, 1) := by decide +kernel
theorem d_X12_search_135 : decode prog_14_method_154_code 135 = .ok (.iload 7, 2) := by decide +kernel
theorem d_X12_search_137 : decode prog_14_method_154_code 137 = .ok (.iadd, 1) := by decide +kernel
theorem d_X12_search_138 : decode prog_14_method_154_code 138 = .ok (.iaload, 1) := by decide +kernel
theorem d_X12_search_139 : decode prog_14_method_154_code 139 = .ok (.iconst 1, 1) := by decide +kernel
theorem d_X12_search_140 : decode prog_14_method_154_code 140 = .ok (.if_icmp .le 15, 3) := by decide +kernel
theorem d_X12_search_143 : decode prog_14_method_154_code 143 = .ok (.aload_n 0, 1) := by decide +kernel
theorem d_X12_search_144 : decode prog_14_method_154_code 144 = .ok (.getfield 184, 3) := by decide +kernel
theorem d_X12_search_147 : decode prog_14_method_154_code 147 = .ok (.iload 6, 2) := by decide +kernel
theorem d_X12_search_149 : decode prog_14_method_154_code 149 = .ok (.iload 7, 2) := by decide +kernel
theorem d_X12_search_151 : decode prog_14_method_154_code 151 = .ok (.iastore, 1) := by decide +kernel
theorem d_X12_search_152 : decode prog_14_method_154_code 152 = .ok (.iinc 6 1, 3) := by decide +kernel
theorem d_X12_search_155 : decode prog_14_method_154_code 155 = .ok (.aload_n 0, 1) := by decide +kernel
theorem d_X12_search_156 : decode prog_14_method_154_code 156 = .ok (.getfield 187, 3) := by decide +kernel
theorem d_X12_search_159 : decode prog_14_method_154_code 159 = .ok (.iload 7, 2) := by decide +kernel
theorem d_X12_search_161 : decode prog_14_method_154_code 161 = .ok (.sipush (-1000), 3) := by decide +kernel
theorem d_X12_search_164 : decode prog_14_method_154_code 164 = .ok (.iastore, 1) := by decide +kernel
theorem d_X12_search_165 : decode prog_14_method_154_code 165 = .ok (.iinc 7 1, 3) := by decide +kernel
theorem d_X12_search_168 : decode prog_14_method_154_code 168 = .ok (.goto (-66), 3) := by decide +kernel
theorem d_X12_search_171 : decode prog_14_method_154_code 171 = .ok (.iload 6, 2) := by decide +kernel
theorem d_X12_search_173 : decode prog_14_method_154_code 173 = .ok (.ifCond .ne 5, 3) := by decide +kernel
theorem d_X12_search_176 : decode prog_14_method_154_code 176 = .ok (.iconst 0, 1) := by decide +kernel
theorem d_X12_search_177 : decode prog_14_method_154_code 177 = .ok (.ireturn, 1) := by decide +kernel
theorem d_X12_search_178 : decode prog_14_method_154_code 178 = .ok (.aload_n 0, 1) := by decide +kernel
theorem d_X12_search_179 : decode prog_14_method_154_code 179 = .ok (.iload_n 1, 1) := by decide +kernel
theorem d_X12_search_180 : decode prog_14_method_154_code 180 = .ok (.invokevirtual 580, 3) := by decide +kernel
theorem d_X12_search_183 : decode prog_14_method_154_code 183 = .ok (.istore 7, 2) := by decide +kernel
theorem d_X12_search_185 : decode prog_14_method_154_code 185 = .ok (.iload 7, 2) := by decide +kernel
theorem d_X12_search_187 : decode prog_14_method_154_code 187 = .ok (.istore 8, 2) := by decide +kernel
theorem d_X12_search_189 : decode prog_14_method_154_code 189 = .ok (.iconst 0, 1) := by decide +kernel
theorem d_X12_search_190 : decode prog_14_method_154_code 190 = .ok (.istore 9, 2) := by decide +kernel
theorem d_X12_search_192 : decode prog_14_method_154_code 192 = .ok (.iload 9, 2) := by decide +kernel
theorem d_X12_search_194 : decode prog_14_method_154_code 194 = .ok (.bipush 20, 2) := by decide +kernel
theorem d_X12_search_196 : decode prog_14_method_154_code 196 = .ok (.if_icmp .ge 18, 3) := by decide +kernel
theorem d_X12_search_199 : decode prog_14_method_154_code 199 = .ok (.aload_n 0, 1) := by decide +kernel
theorem d_X12_search_200 : decode prog_14_method_154_code 200 = .ok (.getfield 190, 3) := by decide +kernel
theorem d_X12_search_203 : decode prog_14_method_154_code 203 = .ok (.iload 9, 2) := by decide +kernel
theorem d_X12_search_205 : decode prog_14_method_154_code 205 = .ok (.iload 7, 2) := by decide +kernel
theorem d_X12_search_207 : decode prog_14_method_154_code 207 = .ok (.iastore, 1) := by decide +kernel
theorem d_X12_search_208 : decode prog_14_method_154_code 208 = .ok (.iinc 9 1, 3) := by decide +kernel
theorem d_X12_search_211 : decode prog_14_method_154_code 211 = .ok (.goto (-19), 3) := by decide +kernel
theorem d_X12_search_214 : decode prog_14_method_154_code 214 = .ok (.iconst 0, 1) := by decide +kernel
theorem d_X12_search_215 : decode prog_14_method_154_code 215 = .ok (.istore 9, 2) := by decide +kernel
theorem d_X12_search_217 : decode prog_14_method_154_code 217 = .ok (.iconst 0, 1) := by decide +kernel
theorem d_X12_search_218 : decode prog_14_method_154_code 218 = .ok (.istore 10, 2) := by decide +kernel
theorem d_X12_search_220 : decode prog_14_method_154_code 220 = .ok (.iload 10, 2) := by decide +kernel
theorem d_X12_search_222 : decode prog_14_method_154_code 222 = .ok (.iload 5, 2) := by decide +kernel
theorem d_X12_search_224 : decode prog_14_method_154_code 224 = .ok (.if_icmp .ge 471, 3) := by decide +kernel
theorem d_X12_search_227 : decode prog_14_method_154_code 227 = .ok (.aload_n 0, 1) := by decide +kernel
theorem d_X12_search_228 : decode prog_14_method_154_code 228 = .ok (.iconst 4, 1) := by decide +kernel
theorem d_X12_search_229 : decode prog_14_method_154_code 229 = .ok (.invokevirtual 661, 3) := by decide +kernel
theorem d_X12_search_232 : decode prog_14_method_154_code 232 = .ok (.istore 11, 2) := by decide +kernel
theorem d_X12_search_234 : decode prog_14_method_154_code 234 = .ok (.aload_n 0, 1) := by decide +kernel
theorem d_X12_search_235 : decode prog_14_method_154_code 235 = .ok (.getfield 184, 3) := by decide +kernel
theorem d_X12_search_238 : decode prog_14_method_154_code 238 = .ok (.aload_n 0, 1) := by decide +kernel
theorem d_X12_search_239 : decode prog_14_method_154_code 239 = .ok (.iload 6, 2) := by decide +kernel
theorem d_X12_search_241 : decode prog_14_method_154_code 241 = .ok (.invokevirtual 661, 3) := by decide +kernel
theorem d_X12_search_244 : decode prog_14_method_154_code 244 = .ok (.iaload, 1) := by decide +kernel
theorem d_X12_search_245 : decode prog_14_method_154_code 245 = .ok (.istore 12, 2) := by decide +kernel
theorem d_X12_search_247 : decode prog_14_method_154_code 247 = .ok (.iload 12, 2) := by decide +kernel
theorem d_X12_search_249 : decode prog_14_method_154_code 249 = .ok (.istore 13, 2) := by decide +kernel
theorem d_X12_search_251 : decode prog_14_method_154_code 251 = .ok (.iload 7, 2) := by decide +kernel
theorem d_X12_search_253 : decode prog_14_method_154_code 253 = .ok (.istore 14, 2) := by decide +kernel
theorem d_X12_search_255 : decode prog_14_method_154_code 255 = .ok (.iload 11, 2) := by decide +kernel
theorem d_X12_search_257 : decode prog_14_method_154_code 257 = .ok (.iconst 3, 1) := by decide +kernel
theorem d_X12_search_258 : decode prog_14_method_154_code 258 = .ok (.if_icmp .ge 63, 3) := by decide +kernel
theorem d_X12_search_261 : decode prog_14_method_154_code 261 = .ok (.aload_n 0, 1) := by decide +kernel
theorem d_X12_search_262 : decode prog_14_method_154_code 262 = .ok (.aload_n 0, 1) := by decide +kernel
theorem d_X12_search_263 : decode prog_14_method_154_code 263 = .ok (.getfield 64, 3) := by decide +kernel
theorem d_X12_search_266 : decode prog_14_method_154_code 266 = .ok (.bipush 12, 2) := by decide +kernel
theorem d_X12_search_268 : decode prog_14_method_154_code 268 = .ok (.iload_n 1, 1) := by decide +kernel
theorem d_X12_search_269 : decode prog_14_method_154_code 269 = .ok (.imul, 1) := by decide +kernel
theorem d_X12_search_270 : decode prog_14_method_154_code 270 = .ok (.iload 12, 2) := by decide +kernel
theorem d_X12_search_272 : decode prog_14_method_154_code 272 = .ok (.iadd, 1) := by decide +kernel
theorem d_X12_search_273 : decode prog_14_method_154_code 273 = .ok (.iaload, 1) := by decide +kernel
theorem d_X12_search_274 : decode prog_14_method_154_code 274 = .ok (.iconst 1, 1) := by decide +kernel
theorem d_X12_search_275 : decode prog_14_method_154_code 275 = .ok (.isub, 1) := by decide +kernel
theorem d_X12_search_276 : decode prog_14_method_154_code 276 = .ok (.invokevirtual 661, 3) := by decide +kernel
theorem d_X12_search_279 : decode prog_14_method_154_code 279 = .ok (.istore 15, 2) := by decide +kernel
theorem d_X12_search_281 : decode prog_14_method_154_code 281 = .ok (.iload 15, 2) := by decide +kernel
theorem d_X12_search_283 : decode prog_14_method_154_code 283 = .ok (.iload 15, 2) := by decide +kernel
theorem d_X12_search_285 : decode prog_14_method_154_code 285 = .ok (.aload_n 0, 1) := by decide +kernel
theorem d_X12_search_286 : decode prog_14_method_154_code 286 = .ok (.iload_n 1, 1) := by decide +kernel
theorem d_X12_search_287 : decode prog_14_method_154_code 287 = .ok (.iload 7, 2) := by decide +kernel
theorem d_X12_search_289 : decode prog_14_method_154_code 289 = .ok (.iload 12, 2) := by decide +kernel
theorem d_X12_search_291 : decode prog_14_method_154_code 291 = .ok (.invokevirtual 537, 3) := by decide +kernel
theorem d_X12_search_294 : decode prog_14_method_154_code 294 = .ok (.if_icmp .lt 7, 3) := by decide +kernel
theorem d_X12_search_297 : decode prog_14_method_154_code 297 = .ok (.iconst 1, 1) := by decide +kernel
theorem d_X12_search_298 : decode prog_14_method_154_code 298 = .ok (.goto 4, 3) := by decide +kernel
theorem d_X12_search_301 : decode prog_14_method_154_code 301 = .ok (.iconst 0, 1) := by decide +kernel
theorem d_X12_search_302 : decode prog_14_method_154_code 302 = .ok (.iadd, 1) := by decide +kernel
theorem d_X12_search_303 : decode prog_14_method_154_code 303 = .ok (.istore 15, 2) := by decide +kernel
theorem d_X12_search_305 : decode prog_14_method_154_code 305 = .ok (.aload_n 0, 1) := by decide +kernel
theorem d_X12_search_306 : decode prog_14_method_154_code 306 = .ok (.iload_n 1, 1) := by decide +kernel
theorem d_X12_search_307 : decode prog_14_method_154_code 307 = .ok (.iload 7, 2) := by decide +kernel
theorem d_X12_search_309 : decode prog_14_method_154_code 309 = .ok (.iload 12, 2) := by decide +kernel
theorem d_X12_search_311 : decode prog_14_method_154_code 311 = .ok (.iload 15, 2) := by decide +kernel
theorem d_X12_search_313 : decode prog_14_method_154_code 313 = .ok (.invokevirtual 664, 3) := by decide +kernel
theorem d_X12_search_316 : decode prog_14_method_154_code 316 = .ok (.istore 14, 2) := by decide +kernel
theorem d_X12_search_318 : decode prog_14_method_154_code 318 = .ok (.goto 94, 3) := by decide +kernel
theorem d_X12_search_321 : decode prog_14_method_154_code 321 = .ok (.aload_n 0, 1) := by decide +kernel
theorem d_X12_search_322 : decode prog_14_method_154_code 322 = .ok (.getfield 184, 3) := by decide +kernel
theorem d_X12_search_325 : decode prog_14_method_154_code 325 = .ok (.aload_n 0, 1) := by decide +kernel
theorem d_X12_search_326 : decode prog_14_method_154_code 326 = .ok (.iload 6, 2) := by decide +kernel
theorem d_X12_search_328 : decode prog_14_method_154_code 328 = .ok (.invokevirtual 661, 3) := by decide +kernel
theorem d_X12_search_331 : decode prog_14_method_154_code 331 = .ok (.iaload, 1) := by decide +kernel
theorem d_X12_search_332 : decode prog_14_method_154_code 332 = .ok (.istore 13, 2) := by decide +kernel
theorem d_X12_search_334 : decode prog_14_method_154_code 334 = .ok (.aload_n 0, 1) := by decide +kernel
theorem d_X12_search_335 : decode prog_14_method_154_code 335 = .ok (.iload_n 1, 1) := by decide +kernel
theorem d_X12_search_336 : decode prog_14_method_154_code 336 = .ok (.iload 12, 2) := by decide +kernel
theorem d_X12_search_338 : decode prog_14_method_154_code 338 = .ok (.aload_n 0, 1) := by decide +kernel
theorem d_X12_search_339 : decode prog_14_method_154_code 339 = .ok (.iload_n 1, 1) := by decide +kernel
theorem d_X12_search_340 : decode prog_14_method_154_code 340 = .ok (.iload 7, 2) := by decide +kernel
theorem d_X12_search_342 : decode prog_14_method_154_code 342 = .ok (.iload 13, 2) := by decide +kernel
theorem d_X12_search_344 : decode prog_14_method_154_code 344 = .ok (.invokevirtual 668, 3) := by decide +kernel
theorem d_X12_search_347 : decode prog_14_method_154_code 347 = .ok (.invokevirtual 577, 3) := by decide +kernel
theorem d_X12_search_350 : decode prog_14_method_154_code 350 = .ok (.istore 15, 2) := by decide +kernel
theorem d_X12_search_352 : decode prog_14_method_154_code 352 = .ok (.aload_n 0, 1) := by decide +kernel
theorem d_X12_search_353 : decode prog_14_method_154_code 353 = .ok (.iload_n 1, 1) := by decide +kernel
theorem d_X12_search_354 : decode prog_14_method_154_code 354 = .ok (.iload 13, 2) := by decide +kernel
theorem d_X12_search_356 : decode prog_14_method_154_code 356 = .ok (.aload_n 0, 1) := by decide +kernel
theorem d_X12_search_357 : decode prog_14_method_154_code 357 = .ok (.iload_n 1, 1) := by decide +kernel
theorem d_X12_search_358 : decode prog_14_method_154_code 358 = .ok (.iload 7, 2) := by decide +kernel
theorem d_X12_search_360 : decode prog_14_method_154_code 360 = .ok (.iload 12, 2) := by decide +kernel
theorem d_X12_search_362 : decode prog_14_method_154_code 362 = .ok (.invokevirtual 668, 3) := by decide +kernel
theorem d_X12_search_365 : decode prog_14_method_154_code 365 = .ok (.invokevirtual 577, 3) := by decide +kernel
theorem d_X12_search_368 : decode prog_14_method_154_code 368 = .ok (.istore 16, 2) := by decide +kernel
theorem d_X12_search_370 : decode prog_14_method_154_code 370 = .ok (.iload 12, 2) := by decide +kernel
theorem d_X12_search_372 : decode prog_14_method_154_code 372 = .ok (.iload 13, 2) := by decide +kernel
theorem d_X12_search_374 : decode prog_14_method_154_code 374 = .ok (.if_icmp .eq 315, 3) := by decide +kernel
theorem d_X12_search_377 : decode prog_14_method_154_code 377 = .ok (.iload 15, 2) := by decide +kernel
theorem d_X12_search_379 : decode prog_14_method_154_code 379 = .ok (.ifCond .lt 310, 3) := by decide +kernel
theorem d_X12_search_382 : decode prog_14_method_154_code 382 = .ok (.iload 16, 2) := by decide +kernel
theorem d_X12_search_384 : decode prog_14_method_154_code 384 = .ok (.ifCond .ge 6, 3) := by decide +kernel
theorem d_X12_search_387 : decode prog_14_method_154_code 387 = .ok (.goto 302, 3) := by decide +kernel
theorem d_X12_search_390 : decode prog_14_method_154_code 390 = .ok (.aload_n 0, 1) := by decide +kernel
theorem d_X12_search_391 : decode prog_14_method_154_code 391 = .ok (.iload_n 1, 1) := by decide +kernel
theorem d_X12_search_392 : decode prog_14_method_154_code 392 = .ok (.aload_n 0, 1) := by decide +kernel
theorem d_X12_search_393 : decode prog_14_method_154_code 393 = .ok (.iload_n 1, 1) := by decide +kernel
theorem d_X12_search_394 : decode prog_14_method_154_code 394 = .ok (.iload 7, 2) := by decide +kernel
theorem d_X12_search_396 : decode prog_14_method_154_code 396 = .ok (.iload 12, 2) := by decide +kernel
theorem d_X12_search_398 : decode prog_14_method_154_code 398 = .ok (.iload 15, 2) := by decide +kernel
theorem d_X12_search_400 : decode prog_14_method_154_code 400 = .ok (.invokevirtual 664, 3) := by decide +kernel
theorem d_X12_search_403 : decode prog_14_method_154_code 403 = .ok (.iload 13, 2) := by decide +kernel
theorem d_X12_search_405 : decode prog_14_method_154_code 405 = .ok (.iload 16, 2) := by decide +kernel
theorem d_X12_search_407 : decode prog_14_method_154_code 407 = .ok (.invokevirtual 664, 3) := by decide +kernel
theorem d_X12_search_410 : decode prog_14_method_154_code 410 = .ok (.istore 14, 2) := by decide +kernel
theorem d_X12_search_412 : decode prog_14_method_154_code 412 = .ok (.aload_n 0, 1) := by decide +kernel
theorem d_X12_search_413 : decode prog_14_method_154_code 413 = .ok (.iload 7, 2) := by decide +kernel
theorem d_X12_search_415 : decode prog_14_method_154_code 415 = .ok (.iload 14, 2) := by decide +kernel
theorem d_X12_search_417 : decode prog_14_method_154_code 417 = .ok (.invokevirtual 565, 3) := by decide +kernel
theorem d_X12_search_420 : decode prog_14_method_154_code 420 = .ok (.ifCond .ne 7, 3) := by decide +kernel
theorem d_X12_search_423 : decode prog_14_method_154_code 423 = .ok (.iconst 1, 1) := by decide +kernel
theorem d_X12_search_424 : decode prog_14_method_154_code 424 = .ok (.goto 4, 3) := by decide +kernel
theorem d_X12_search_427 : decode prog_14_method_154_code 427 = .ok (.iconst 0, 1) := by decide +kernel
theorem d_X12_search_428 : decode prog_14_method_154_code 428 = .ok (.istore 15, 2) := by decide +kernel
theorem d_X12_search_430 : decode prog_14_method_154_code 430 = .ok (.iload 15, 2) := by decide +kernel
theorem d_X12_search_432 : decode prog_14_method_154_code 432 = .ok (.istore 16, 2) := by decide +kernel
theorem d_X12_search_434 : decode prog_14_method_154_code 434 = .ok (.iload_n 2, 1) := by decide +kernel
theorem d_X12_search_435 : decode prog_14_method_154_code 435 = .ok (.iconst 1, 1) := by decide +kernel
theorem d_X12_search_436 : decode prog_14_method_154_code 436 = .ok (.if_icmp .ne 36, 3) := by decide +kernel
theorem d_X12_search_439 : decode prog_14_method_154_code 439 = .ok (.iload 15, 2) := by decide +kernel
theorem d_X12_search_441 : decode prog_14_method_154_code 441 = .ok (.ifCond .ne 21, 3) := by decide +kernel
theorem d_X12_search_444 : decode prog_14_method_154_code 444 = .ok (.aload_n 0, 1) := by decide +kernel
theorem d_X12_search_445 : decode prog_14_method_154_code 445 = .ok (.aload_n 0, 1) := by decide +kernel
theorem d_X12_search_446 : decode prog_14_method_154_code 446 = .ok (.getfield 190, 3) := by decide +kernel
theorem d_X12_search_449 : decode prog_14_method_154_code 449 = .ok (.iload 10, 2) := by decide +kernel
theorem d_X12_search_451 : decode prog_14_method_154_code 451 = .ok (.iload_n 3, 1) := by decide +kernel
theorem d_X12_search_452 : decode prog_14_method_154_code 452 = .ok (.irem, 1) := by decide +kernel
theorem d_X12_search_453 : decode prog_14_method_154_code 453 = .ok (.iaload, 1) := by decide +kernel
theorem d_X12_search_454 : decode prog_14_method_154_code 454 = .ok (.iload 14, 2) := by decide +kernel
theorem d_X12_search_456 : decode prog_14_method_154_code 456 = .ok (.invokevirtual 565, 3) := by decide +kernel
theorem d_X12_search_459 : decode prog_14_method_154_code 459 = .ok (.ifCond .ne 7, 3) := by decide +kernel
theorem d_X12_search_462 : decode prog_14_method_154_code 462 = .ok (.iconst 1, 1) := by decide +kernel
theorem d_X12_search_463 : decode prog_14_method_154_code 463 = .ok (.goto 4, 3) := by decide +kernel
theorem d_X12_search_466 : decode prog_14_method_154_code 466 = .ok (.iconst 0, 1) := by decide +kernel
theorem d_X12_search_467 : decode prog_14_method_154_code 467 = .ok (.istore 16, 2) := by decide +kernel
theorem d_X12_search_469 : decode prog_14_method_154_code 469 = .ok (.goto 139, 3) := by decide +kernel
theorem d_X12_search_472 : decode prog_14_method_154_code 472 = .ok (.iload_n 2, 1) := by decide +kernel
theorem d_X12_search_473 : decode prog_14_method_154_code 473 = .ok (.iconst 2, 1) := by decide +kernel
theorem d_X12_search_474 : decode prog_14_method_154_code 474 = .ok (.if_icmp .ne 95, 3) := by decide +kernel
theorem d_X12_search_477 : decode prog_14_method_154_code 477 = .ok (.iload 10, 2) := by decide +kernel
theorem d_X12_search_479 : decode prog_14_method_154_code 479 = .ok (.aload_n 0, 1) := by decide +kernel
theorem d_X12_search_480 : decode prog_14_method_154_code 480 = .ok (.getfield 187, 3) := by decide +kernel
theorem d_X12_search_483 : decode prog_14_method_154_code 483 = .ok (.iload 12, 2) := by decide +kernel
theorem d_X12_search_485 : decode prog_14_method_154_code 485 = .ok (.iaload, 1) := by decide +kernel
theorem d_X12_search_486 : decode prog_14_method_154_code 486 = .ok (.isub, 1) := by decide +kernel
theorem d_X12_search_487 : decode prog_14_method_154_code 487 = .ok (.iload_n 3, 1) := by decide +kernel
theorem d_X12_search_488 : decode prog_14_method_154_code 488 = .ok (.if_icmp .le 17, 3) := by decide +kernel
theorem d_X12_search_491 : decode prog_14_method_154_code 491 = .ok (.iload 10, 2) := by decide +kernel
theorem d_X12_search_493 : decode prog_14_method_154_code 493 = .ok (.aload_n 0, 1) := by decide +kernel
theorem d_X12_search_494 : decode prog_14_method_154_code 494 = .ok (.getfield 187, 3) := by decide +kernel
theorem d_X12_search_497 : decode prog_14_method_154_code 497 = .ok (.iload 13, 2) := by decide +kernel
theorem d_X12_search_499 : decode prog_14_method_154_code 499 = .ok (.iaload, 1) := by decide +kernel
theorem d_X12_search_500 : decode prog_14_method_154_code 500 = .ok (.isub, 1) := by decide +kernel
theorem d_X12_search_501 : decode prog_14_method_154_code 501 = .ok (.iload_n 3, 1) := by decide +kernel
theorem d_X12_search_502 : decode prog_14_method_154_code 502 = .ok (.if_icmp .gt 14, 3) := by decide +kernel
theorem d_X12_search_505 : decode prog_14_method_154_code 505 = .ok (.aload_n 0, 1) := by decide +kernel
theorem d_X12_search_506 : decode prog_14_method_154_code 506 = .ok (.iload 14, 2) := by decide +kernel
theorem d_X12_search_508 : decode prog_14_method_154_code 508 = .ok (.iload 8, 2) := by decide +kernel
theorem d_X12_search_510 : decode prog_14_method_154_code 510 = .ok (.invokevirtual 565, 3) := by decide +kernel
theorem d_X12_search_513 : decode prog_14_method_154_code 513 = .ok (.ifCond .eq 7, 3) := by decide +kernel
theorem d_X12_search_516 : decode prog_14_method_154_code 516 = .ok (.iconst 1, 1) := by decide +kernel
theorem d_X12_search_517 : decode prog_14_method_154_code 517 = .ok (.goto 4, 3) := by decide +kernel
theorem d_X12_search_520 : decode prog_14_method_154_code 520 = .ok (.iconst 0, 1) := by decide +kernel
theorem d_X12_search_521 : decode prog_14_method_154_code 521 = .ok (.istore 17, 2) := by decide +kernel
theorem d_X12_search_523 : decode prog_14_method_154_code 523 = .ok (.iload 17, 2) := by decide +kernel
theorem d_X12_search_525 : decode prog_14_method_154_code 525 = .ok (.ifCond .eq 12, 3) := by decide +kernel
theorem d_X12_search_528 : decode prog_14_method_154_code 528 = .ok (.iload 15, 2) := by decide +kernel
theorem d_X12_search_530 : decode prog_14_method_154_code 530 = .ok (.ifCond .eq 7, 3) := by decide +kernel
theorem d_X12_search_533 : decode prog_14_method_154_code 533 = .ok (.iconst 1, 1) := by decide +kernel
theorem d_X12_search_534 : decode prog_14_method_154_code 534 = .ok (.goto 4, 3) := by decide +kernel
theorem d_X12_search_537 : decode prog_14_method_154_code 537 = .ok (.iconst 0, 1) := by decide +kernel
theorem d_X12_search_538 : decode prog_14_method_154_code 538 = .ok (.istore 16, 2) := by decide +kernel
theorem d_X12_search_540 : decode prog_14_method_154_code 540 = .ok (.iload 17, 2) := by decide +kernel
theorem d_X12_search_542 : decode prog_14_method_154_code 542 = .ok (.ifCond .eq 24, 3) := by decide +kernel
theorem d_X12_search_545 : decode prog_14_method_154_code 545 = .ok (.iload 15, 2) := by decide +kernel
theorem d_X12_search_547 : decode prog_14_method_154_code 547 = .ok (.ifCond .ne 19, 3) := by decide +kernel
theorem d_X12_search_550 : decode prog_14_method_154_code 550 = .ok (.aload_n 0, 1) := by decide +kernel
theorem d_X12_search_551 : decode prog_14_method_154_code 551 = .ok (.bipush 8, 2) := by decide +kernel
theorem d_X12_search_553 : decode prog_14_method_154_code 553 = .ok (.invokevirtual 661, 3) := by decide +kernel
theorem d_X12_search_556 : decode prog_14_method_154_code 556 = .ok (.ifCond .ne 7, 3) := by decide +kernel
theorem d_X12_search_559 : decode prog_14_method_154_code 559 = .ok (.iconst 1, 1) := by decide +kernel
theorem d_X12_search_560 : decode prog_14_method_154_code 560 = .ok (.goto 4, 3) := by decide +kernel
theorem d_X12_search_563 : decode prog_14_method_154_code 563 = .ok (.iconst 0, 1) := by decide +kernel
theorem d_X12_search_564 : decode prog_14_method_154_code 564 = .ok (.istore 16, 2) := by decide +kernel
theorem d_X12_search_566 : decode prog_14_method_154_code 566 = .ok (.goto 42, 3) := by decide +kernel
theorem d_X12_search_569 : decode prog_14_method_154_code 569 = .ok (.iload_n 2, 1) := by decide +kernel
theorem d_X12_search_570 : decode prog_14_method_154_code 570 = .ok (.iconst 3, 1) := by decide +kernel
theorem d_X12_search_571 : decode prog_14_method_154_code 571 = .ok (.if_icmp .ne 37, 3) := by decide +kernel
theorem d_X12_search_574 : decode prog_14_method_154_code 574 = .ok (.aload_n 0, 1) := by decide +kernel
theorem d_X12_search_575 : decode prog_14_method_154_code 575 = .ok (.iload 14, 2) := by decide +kernel
theorem d_X12_search_577 : decode prog_14_method_154_code 577 = .ok (.invokevirtual 671, 3) := by decide +kernel
theorem d_X12_search_580 : decode prog_14_method_154_code 580 = .ok (.aload_n 0, 1) := by decide +kernel
theorem d_X12_search_581 : decode prog_14_method_154_code 581 = .ok (.iload 7, 2) := by decide +kernel
theorem d_X12_search_583 : decode prog_14_method_154_code 583 = .ok (.invokevirtual 671, 3) := by decide +kernel
theorem d_X12_search_586 : decode prog_14_method_154_code 586 = .ok (.lsub, 1) := by decide +kernel
theorem d_X12_search_587 : decode prog_14_method_154_code 587 = .ok (.iload_n 3, 1) := by decide +kernel
theorem d_X12_search_588 : decode prog_14_method_154_code 588 = .ok (.iload_n 3, 1) := by decide +kernel
theorem d_X12_search_589 : decode prog_14_method_154_code 589 = .ok (.iload 10, 2) := by decide +kernel
theorem d_X12_search_591 : decode prog_14_method_154_code 591 = .ok (.imul, 1) := by decide +kernel
theorem d_X12_search_592 : decode prog_14_method_154_code 592 = .ok (.iload 5, 2) := by decide +kernel
theorem d_X12_search_594 : decode prog_14_method_154_code 594 = .ok (.idiv, 1) := by decide +kernel
theorem d_X12_search_595 : decode prog_14_method_154_code 595 = .ok (.isub, 1) := by decide +kernel
theorem d_X12_search_596 : decode prog_14_method_154_code 596 = .ok (.i2l, 1) := by decide +kernel
theorem d_X12_search_597 : decode prog_14_method_154_code 597 = .ok (.lcmp, 1) := by decide +kernel
theorem d_X12_search_598 : decode prog_14_method_154_code 598 = .ok (.ifCond .gt 7, 3) := by decide +kernel
theorem d_X12_search_601 : decode prog_14_method_154_code 601 = .ok (.iconst 1, 1) := by decide +kernel
theorem d_X12_search_602 : decode prog_14_method_154_code 602 = .ok (.goto 4, 3) := by decide +kernel
theorem d_X12_search_605 : decode prog_14_method_154_code 605 = .ok (.iconst 0, 1) := by decide +kernel
theorem d_X12_search_606 : decode prog_14_method_154_code 606 = .ok (.istore 16, 2) := by decide +kernel
theorem d_X12_search_608 : decode prog_14_method_154_code 608 = .ok (.iload 16, 2) := by decide +kernel
theorem d_X12_search_610 : decode prog_14_method_154_code 610 = .ok (.ifCond .eq 63, 3) := by decide +kernel
theorem d_X12_search_613 : decode prog_14_method_154_code 613 = .ok (.iload 14, 2) := by decide +kernel
theorem d_X12_search_615 : decode prog_14_method_154_code 615 = .ok (.istore 7, 2) := by decide +kernel
theorem d_X12_search_617 : decode prog_14_method_154_code 617 = .ok (.iinc 9 1, 3) := by decide +kernel
theorem d_X12_search_620 : decode prog_14_method_154_code 620 = .ok (.aload_n 0, 1) := by decide +kernel
theorem d_X12_search_621 : decode prog_14_method_154_code 621 = .ok (.bipush 31, 2) := by decide +kernel
theorem d_X12_search_623 : decode prog_14_method_154_code 623 = .ok (.aload_n 0, 1) := by decide +kernel
theorem d_X12_search_624 : decode prog_14_method_154_code 624 = .ok (.getfield 655, 3) := by decide +kernel
theorem d_X12_search_627 : decode prog_14_method_154_code 627 = .ok (.imul, 1) := by decide +kernel
theorem d_X12_search_628 : decode prog_14_method_154_code 628 = .ok (.iload 11, 2) := by decide +kernel
theorem d_X12_search_630 : decode prog_14_method_154_code 630 = .ok (.iadd, 1) := by decide +kernel
theorem d_X12_search_631 : decode prog_14_method_154_code 631 = .ok (.putfield 655, 3) := by decide +kernel
theorem d_X12_search_634 : decode prog_14_method_154_code 634 = .ok (.aload_n 0, 1) := by decide +kernel
theorem d_X12_search_635 : decode prog_14_method_154_code 635 = .ok (.getfield 187, 3) := by decide +kernel
theorem d_X12_search_638 : decode prog_14_method_154_code 638 = .ok (.iload 12, 2) := by decide +kernel
theorem d_X12_search_640 : decode prog_14_method_154_code 640 = .ok (.iload 10, 2) := by decide +kernel
theorem d_X12_search_642 : decode prog_14_method_154_code 642 = .ok (.iastore, 1) := by decide +kernel
theorem d_X12_search_643 : decode prog_14_method_154_code 643 = .ok (.aload_n 0, 1) := by decide +kernel
theorem d_X12_search_644 : decode prog_14_method_154_code 644 = .ok (.getfield 187, 3) := by decide +kernel
theorem d_X12_search_647 : decode prog_14_method_154_code 647 = .ok (.iload 13, 2) := by decide +kernel
theorem d_X12_search_649 : decode prog_14_method_154_code 649 = .ok (.iload 10, 2) := by decide +kernel
theorem d_X12_search_651 : decode prog_14_method_154_code 651 = .ok (.iastore, 1) := by decide +kernel
theorem d_X12_search_652 : decode prog_14_method_154_code 652 = .ok (.aload_n 0, 1) := by decide +kernel
theorem d_X12_search_653 : decode prog_14_method_154_code 653 = .ok (.iload 14, 2) := by decide +kernel
theorem d_X12_search_655 : decode prog_14_method_154_code 655 = .ok (.iload 8, 2) := by decide +kernel
theorem d_X12_search_657 : decode prog_14_method_154_code 657 = .ok (.invokevirtual 565, 3) := by decide +kernel
theorem d_X12_search_660 : decode prog_14_method_154_code 660 = .ok (.ifCond .eq 13, 3) := by decide +kernel
theorem d_X12_search_663 : decode prog_14_method_154_code 663 = .ok (.iload 14, 2) := by decide +kernel
theorem d_X12_search_665 : decode prog_14_method_154_code 665 = .ok (.istore 8, 2) := by decide +kernel
theorem d_X12_search_667 : decode prog_14_method_154_code 667 = .ok (.aload_n 0, 1) := by decide +kernel
theorem d_X12_search_668 : decode prog_14_method_154_code 668 = .ok (.iload 10, 2) := by decide +kernel
theorem d_X12_search_670 : decode prog_14_method_154_code 670 = .ok (.putfield 181, 3) := by decide +kernel
theorem d_X12_search_673 : decode prog_14_method_154_code 673 = .ok (.iload_n 2, 1) := by decide +kernel
theorem d_X12_search_674 : decode prog_14_method_154_code 674 = .ok (.iconst 1, 1) := by decide +kernel
theorem d_X12_search_675 : decode prog_14_method_154_code 675 = .ok (.if_icmp .ne 14, 3) := by decide +kernel
theorem d_X12_search_678 : decode prog_14_method_154_code 678 = .ok (.aload_n 0, 1) := by decide +kernel
theorem d_X12_search_679 : decode prog_14_method_154_code 679 = .ok (.getfield 190, 3) := by decide +kernel
theorem d_X12_search_682 : decode prog_14_method_154_code 682 = .ok (.iload 10, 2) := by decide +kernel
theorem d_X12_search_684 : decode prog_14_method_154_code 684 = .ok (.iload_n 3, 1) := by decide +kernel
theorem d_X12_search_685 : decode prog_14_method_154_code 685 = .ok (.irem, 1) := by decide +kernel
theorem d_X12_search_686 : decode prog_14_method_154_code 686 = .ok (.iload 7, 2) := by decide +kernel
theorem d_X12_search_688 : decode prog_14_method_154_code 688 = .ok (.iastore, 1) := by decide +kernel
theorem d_X12_search_689 : decode prog_14_method_154_code 689 = .ok (.iinc 10 1, 3) := by decide +kernel
theorem d_X12_search_692 : decode prog_14_method_154_code 692 = .ok (.goto (-472), 3) := by decide +kernel
theorem d_X12_search_695 : decode prog_14_method_154_code 695 = .ok (.aload_n 0, 1) := by decide +kernel
theorem d_X12_search_696 : decode prog_14_method_154_code 696 = .ok (.iload_n 1, 1) := by decide +kernel
theorem d_X12_search_697 : decode prog_14_method_154_code 697 = .ok (.iload 8, 2) := by decide +kernel
theorem d_X12_search_699 : decode prog_14_method_154_code 699 = .ok (.invokevirtual 595, 3) := by decide +kernel
theorem d_X12_search_702 : decode prog_14_method_154_code 702 = .ok (.iload 9, 2) := by decide +kernel
theorem d_X12_search_704 : decode prog_14_method_154_code 704 = .ok (.ireturn, 1) := by decide +kernel
theorem v_X12_search_0 {E : EE} {d : Nat} {Q : Option AV → AH → Prop} {x0 : Nat} {x1 : Int32} {x2 : Int32} {x3 : Int32} {x4 : Int32} {x5 : Int32} {G : AH} (h0 : 0 < d) (h : isO E G x0 12 ∧ (wpI E (d - 1) M_X12_isProblem [vr x0, vi x1] G (fun r1 G2 => (r1 = 0 → Q (some (vi (-1))) G2) ∧ (¬ (r1 = 0) → (x5 < 0 → Q (some (vi (-1))) G2) ∧ (¬ (x5 < 0) → (2000 < x5 → Q (some (vi (-1))) G2) ∧ (¬ (2000 < x5) → (x2 < 0 → Q (some (vi (-1))) G2) ∧ (¬ (x2 < 0) → (x2 ≤ 3 → (x2 ≤ 0 → wp E d M_X12_search 70 [some (vr x0), some (vi x1), some (vi x2), some (vi x3), some (vi x4), some (vi x5), none, none, none, none, none, none, none, none, none, none, none, none] [] G2 Q) ∧ (¬ (x2 ≤ 0) → (x3 < 1 → Q (some (vi (-1))) G2) ∧ (¬ (x3 < 1) → (¬ x2 = 1 → (¬ x2 = 2 → wp E d M_X12_search 65 [some (vr x0), some (vi x1), some (vi x2), some (vi x3), some (vi x4), some (vi x5), none, none, none, none, none, none, none, none, none, none, none, none] [vi 10000, vi x3] G2 Q) ∧ (x2 = 2 → wp E d M_X12_search 65 [some (vr x0), some (vi x1), some (vi x2), some (vi x3), some (vi x4), some (vi x5), none, none, none, none, none, none, none, none, none, none, none, none] [vi 100, vi x3] G2 Q)) ∧ (x2 = 1 → wp E d M_X12_search 65 [some (vr x0), some (vi x1), some (vi x2), some (vi x3), some (vi x4), some (vi x5), none, none, none, none, none, none, none, none, none, none, none, none] [vi 20, vi x3] G2 Q)))) ∧ (¬ (x2 ≤ 3) → Q (some (vi (-1))) G2)))))))) : wp E d M_X12_search 0 [some (vr x0), some (vi x1), some (vi x2), some (vi x3), some (vi x4), some (vi x5), none, none, none, none, none, none, none, none, none, none, none, none] [] G Q := by
  refine wp_aload_n (pc := 0) d_X12_search_0 rfl ?_
  refine wp_iload_n (pc := 1) d_X12_search_1 rfl ?_
  obtain ⟨ho3, h⟩ := h
  refine wp_invV (pc := 2) (N := M_X12_isProblem) (As := [vi _]) (rest := []) (r := (cn_12, ct_12, 95)) d_X12_search_2 ml_X12_453 mk_X12_isProblem mv_X12_isProblem h0 ho3 rfl rfl (Nat.le_of_ble_eq_true rfl) ?_
  refine wpM.mono h (fun rr G2 hr => ?_)
  obtain ⟨r1, rfl, h⟩ := hr
  show wp E d M_X12_search 5 [some (vr _), some (vi _), some (vi _), some (vi _), some (vi _), some (vi _), none, none, none, none, none, none, none, none, none, none, none, none] [vi _] G2 Q
  refine wp_if_eq (pc := 5) (tgt := 30) d_X12_search_5 (by decide) (fun hc => ?_) (fun hc => ?_)
  · have h := h.1 hc
    refine wp_iconst (pc := 30) (v := (-1)) d_X12_search_30 rfl ?_
    exact wp_iret (pc := 31) d_X12_search_31 rfl h
  · have h := h.2 hc
    refine wp_iload (pc := 8) d_X12_search_8 rfl ?_
    refine wp_if_lt (pc := 10) (tgt := 30) d_X12_search_10 (by decide) (fun hc => ?_) (fun hc => ?_)
    · have h := h.1 hc
      refine wp_iconst (pc := 30) (v := (-1)) d_X12_search_30 rfl ?_
      exact wp_iret (pc := 31) d_X12_search_31 rfl h
    · have h := h.2 hc
      refine wp_iload (pc := 13) d_X12_search_13 rfl ?_
      refine wp_sipush (pc := 15) (v := 2000) d_X12_search_15 rfl ?_
      refine wp_icmp_gt (pc := 18) (tgt := 30) d_X12_search_18 (by decide) (fun hc => ?_) (fun hc => ?_)
      · have h := h.1 hc
        refine wp_iconst (pc := 30) (v := (-1)) d_X12_search_30 rfl ?_
        exact wp_iret (pc := 31) d_X12_search_31 rfl h
      · have h := h.2 hc
        refine wp_iload_n (pc := 21) d_X12_search_21 rfl ?_
        refine wp_if_lt (pc := 22) (tgt := 30) d_X12_search_22 (by decide) (fun hc => ?_) (fun hc => ?_)
        · have h := h.1 hc
          refine wp_iconst (pc := 30) (v := (-1)) d_X12_search_30 rfl ?_
          exact wp_iret (pc := 31) d_X12_search_31 rfl h
        · have h := h.2 hc
          refine wp_iload_n (pc := 25) d_X12_search_25 rfl ?_
          refine wp_iconst (pc := 26) (v := 3) d_X12_search_26 rfl ?_
          refine wp_icmp_le (pc := 27) (tgt := 32) d_X12_search_27 (by decide) (fun hc => ?_) (fun hc => ?_)
          · have h := h.1 hc
            refine wp_iload_n (pc := 32) d_X12_search_32 rfl ?_
            refine wp_if_le (pc := 33) (tgt := 70) d_X12_search_33 (by decide) (fun hc => ?_) (fun hc => ?_)
            · have h := h.1 hc
              refine wp_sub ?_ h
              exact ⟨rfl, ⟨rfl, ⟨rfl, ⟨rfl, ⟨rfl, ⟨rfl, trivial⟩⟩⟩⟩⟩⟩
            · have h := h.2 hc
              refine wp_iload_n (pc := 36) d_X12_search_36 rfl ?_
              refine wp_iconst (pc := 37) (v := 1) d_X12_search_37 rfl ?_
              refine wp_icmp_lt (pc := 38) (tgt := 68) d_X12_search_38 (by decide) (fun hc => ?_) (fun hc => ?_)
              · have h := h.1 hc
                refine wp_iconst (pc := 68) (v := (-1)) d_X12_search_68 rfl ?_
                exact wp_iret (pc := 69) d_X12_search_69 rfl h
              · have h := h.2 hc
                refine wp_iload_n (pc := 41) d_X12_search_41 rfl ?_
                refine wp_iload_n (pc := 42) d_X12_search_42 rfl ?_
                refine wp_iconst (pc := 43) (v := 1) d_X12_search_43 rfl ?_
                refine wp_icmp_ne (pc := 44) (tgt := 52) d_X12_search_44 (by decide) (fun hc => ?_) (fun hc => ?_)
                · have h := h.1 hc
                  refine wp_iload_n (pc := 52) d_X12_search_52 rfl ?_
                  refine wp_iconst (pc := 53) (v := 2) d_X12_search_53 rfl ?_
                  refine wp_icmp_ne (pc := 54) (tgt := 62) d_X12_search_54 (by decide) (fun hc => ?_) (fun hc => ?_)
                  · have h := h.1 hc
                    refine wp_sipush (pc := 62) (v := 10000) d_X12_search_62 rfl ?_
                    refine wp_sub ?_ h
                    exact ⟨rfl, ⟨rfl, ⟨rfl, ⟨rfl, ⟨rfl, ⟨rfl, trivial⟩⟩⟩⟩⟩⟩
                  · have h := h.2 hc
                    refine wp_bipush (pc := 57) (v := 100) d_X12_search_57 rfl ?_
                    refine wp_goto (pc := 59) (tgt := 65) d_X12_search_59 (by decide) ?_
                    refine wp_sub ?_ h
                    exact ⟨rfl, ⟨rfl, ⟨rfl, ⟨rfl, ⟨rfl, ⟨rfl, trivial⟩⟩⟩⟩⟩⟩
                · have h := h.2 hc
                  refine wp_bipush (pc := 47) (v := 20) d_X12_search_47 rfl ?_
                  refine wp_goto (pc := 49) (tgt := 65) d_X12_search_49 (by decide) ?_
                  refine wp_sub ?_ h
                  exact ⟨rfl, ⟨rfl, ⟨rfl, ⟨rfl, ⟨rfl, ⟨rfl, trivial⟩⟩⟩⟩⟩⟩
          · have h := h.2 hc
            refine wp_iconst (pc := 30) (v := (-1)) d_X12_search_30 rfl ?_
            exact wp_iret (pc := 31) d_X12_search_31 rfl h
theorem v_X12_search_65 {E : EE} {d : Nat} {Q : Option AV → AH → Prop} {x0 : Nat} {x1 : Int32} {x2 : Int32} {x3 : Int32} {x4 : Int32} {x5 : Int32} {t0 : Int32} {t1 : Int32} {G : AH} (h : (t0 ≤ t1 → wp E d M_X12_search 70 [some (vr x0), some (vi x1), some (vi x2), some (vi x3), some (vi x4), some (vi x5), none, none, none, none, none, none, none, none, none, none, none, none] [] G Q) ∧ (¬ (t0 ≤ t1) → Q (some (vi (-1))) G)) : wp E d M_X12_search 65 [some (vr x0), some (vi x1), some (vi x2), some (vi x3), some (vi x4), some (vi x5), none, none, none, none, none, none, none, none, none, none, none, none] [vi t1, vi t0] G Q := by
  refine wp_icmp_le (pc := 65) (tgt := 70) d_X12_search_65 (by decide) (fun hc => ?_) (fun hc => ?_)
  · have h := h.1 hc
    refine wp_sub ?_ h
    exact ⟨rfl, ⟨rfl, ⟨rfl, ⟨rfl, ⟨rfl, ⟨rfl, trivial⟩⟩⟩⟩⟩⟩
  · have h := h.2 hc
    refine wp_iconst (pc := 68) (v := (-1)) d_X12_search_68 rfl ?_
    exact wp_iret (pc := 69) d_X12_search_69 rfl h
theorem v_X12_search_70 {E : EE} {d : Nat} {Q : Option AV → AH → Prop} {x0 : Nat} {x1 : Int32} {x2 : Int32} {x3 : Int32} {x4 : Int32} {x5 : Int32} {G : AH} (h0 : 0 < d) (h : isO E G x0 12 ∧ (wpV E (d - 1) M_X12_know [vr x0, vi x1] G (fun G1 => isO E G1 x0 12 ∧ (∀ G3 : AH, G3 = sI G1 x0 76 x4 → ∀ G5 : AH, G5 = sI G3 x0 77 1 → ∀ G7 : AH, G7 = sI G5 x0 78 (-1) → ∀ G9 : AH, G9 = sI G7 x0 79 1 → wp E d M_X12_search 102 [some (vr x0), some (vi x1), some (vi x2), some (vi x3), some (vi x4), some (vi x5), some (vi 0), some (vi 0), none, none, none, none, none, none, none, none, none, none] [] G9 Q)))) : wp E d M_X12_search 70 [some (vr x0), some (vi x1), some (vi x2), some (vi x3), some (vi x4), some (vi x5), none, none, none, none, none, none, none, none, none, none, none, none] [] G Q := by
  refine wp_aload_n (pc := 70) d_X12_search_70 rfl ?_
  refine wp_iload_n (pc := 71) d_X12_search_71 rfl ?_
  obtain ⟨ho11, h⟩ := h
  refine wp_invV (pc := 72) (N := M_X12_know) (As := [vi _]) (rest := []) (r := (cn_12, ct_12, 95)) d_X12_search_72 ml_X12_571 mk_X12_know mv_X12_know h0 ho11 rfl rfl (Nat.le_of_ble_eq_true rfl) ?_
  refine wpM.mono h (fun rr G1 hr => ?_)
  obtain ⟨rfl, h⟩ := hr
  show wp E d M_X12_search 75 [some (vr _), some (vi _), some (vi _), some (vi _), some (vi _), some (vi _), none, none, none, none, none, none, none, none, none, none, none, none] [] G1 Q
  refine wp_aload_n (pc := 75) d_X12_search_75 rfl ?_
  refine wp_iload (pc := 76) d_X12_search_76 rfl ?_
  obtain ⟨ho2, h⟩ := h
  refine wp_putI (pc := 78) d_X12_search_78 fl_X12_646 (fun _ _ _ => rfl) (Or.inl rfl) ho2 (okI_int _) ?_
  refine wp_nm (fun G3 eG3 => ?_)
  have h := h G3 eG3
  have ho4 := isO_sI eG3 ho2
  refine wp_aload_n (pc := 81) d_X12_search_81 rfl ?_
  refine wp_iconst (pc := 82) (v := 1) d_X12_search_82 rfl ?_
  refine wp_putI (pc := 83) d_X12_search_83 fl_X12_655 (fun _ _ _ => rfl) (Or.inl rfl) ho4 (okI_int _) ?_
  refine wp_nm (fun G5 eG5 => ?_)
  have h := h G5 eG5
  have ho6 := isO_sI eG5 ho4
  refine wp_aload_n (pc := 86) d_X12_search_86 rfl ?_
  refine wp_iconst (pc := 87) (v := (-1)) d_X12_search_87 rfl ?_
  refine wp_putI (pc := 88) d_X12_search_88 fl_X12_181 (fun _ _ _ => rfl) (Or.inl rfl) ho6 (okI_int _) ?_
  refine wp_nm (fun G7 eG7 => ?_)
  have h := h G7 eG7
  have ho8 := isO_sI eG7 ho6
  refine wp_aload_n (pc := 91) d_X12_search_91 rfl ?_
  refine wp_iconst (pc := 92) (v := 1) d_X12_search_92 rfl ?_
  refine wp_putI (pc := 93) d_X12_search_93 fl_X12_658 (fun _ _ _ => rfl) (Or.inl rfl) ho8 okI_z1 ?_
  refine wp_nm (fun G9 eG9 => ?_)
  have h := h G9 eG9
  have ho10 := isO_sI eG9 ho8
  refine wp_iconst (pc := 96) (v := 0) d_X12_search_96 rfl ?_
  refine wp_istore (pc := 97) (lv' := [some (vr _), some (vi _), some (vi _), some (vi _), some (vi _), some (vi _), some (vi _), none, none, none, none, none, none, none, none, none, none, none]) d_X12_search_97 (by decide) rfl ?_
  refine wp_iconst (pc := 99) (v := 0) d_X12_search_99 rfl ?_
  refine wp_istore (pc := 100) (lv' := [some (vr _), some (vi _), some (vi _), some (vi _), some (vi _), some (vi _), some (vi _), some (vi _), none, none, none, none, none, none, none, none, none, none]) d_X12_search_100 (by decide) rfl ?_
  refine wp_sub ?_ h
  exact ⟨rfl, ⟨rfl, ⟨rfl, ⟨rfl, ⟨rfl, ⟨rfl, ⟨rfl, ⟨rfl, trivial⟩⟩⟩⟩⟩⟩⟩⟩
theorem v_X12_search_102 {E : EE} {d : Nat} {Q : Option AV → AH → Prop} {x0 : Nat} {x1 : Int32} {x2 : Int32} {x3 : Int32} {x4 : Int32} {x5 : Int32} {x6 : Int32} {x7 : Int32} {G : AH} (h0 : 0 < d) (h : isO E G x0 12 ∧ (wpI E (d - 1) M_X12_vars [vr x0, vi x1] G (fun r1 G2 => (r1 ≤ x7 → (¬ x6 = 0 → isO E G2 x0 12 ∧ (wpI E (d - 1) M_X12_handOf [vr x0, vi x1] G2 (fun r3 G4 => wp E d M_X12_search 192 [some (vr x0), some (vi x1), some (vi x2), some (vi x3), some (vi x4), some (vi x5), some (vi x6), some (vi r3), some (vi r3), some (vi 0), none, none, none, none, none, none, none, none] [] G4 Q))) ∧ (x6 = 0 → Q (some (vi 0)) G2)) ∧ (¬ (r1 ≤ x7) → isO E G2 x0 12 ∧ (isO E G2 (gR G2 x0 24) 16 ∧ (vp_in ((12 * x1) + x7) (gN G2 (gR G2 x0 24)) ∧ ((¬ (gI G2 (gR G2 x0 24) (Int32.toNatClampNeg ((12 * x1) + x7))) = 0 → wp E d M_X12_search 155 [some (vr x0), some (vi x1), some (vi x2), some (vi x3), some (vi x4), some (vi x5), some (vi x6), some (vi x7), none, none, none, none, none, none, none, none, none, none] [] G2 Q) ∧ ((gI G2 (gR G2 x0 24) (Int32.toNatClampNeg ((12 * x1) + x7))) = 0 → isO E G2 (gR G2 x0 19) 14 ∧ (vp_in ((12 * x1) + x7) (gN G2 (gR G2 x0 19)) ∧ (((gI G2 (gR G2 x0 19) (Int32.toNatClampNeg ((12 * x1) + x7))) ≤ 1 → wp E d M_X12_search 155 [some (vr x0), some (vi x1), some (vi x2), some (vi x3), some (vi x4), some (vi x5), some (vi x6), some (vi x7), none, none, none, none, none, none, none, none, none, none] [] G2 Q) ∧ (¬ ((gI G2 (gR G2 x0 19) (Int32.toNatClampNeg ((12 * x1) + x7))) ≤ 1) → isO E G2 (gR G2 x0 80) 14 ∧ (vp_in x6 (gN G2 (gR G2 x0 80)) ∧ (wp E d M_X12_search 155 [some (vr x0), some (vi x1), some (vi x2), some (vi x3), some (vi x4), some (vi x5), some (vi (x6 + 1)), some (vi x7), none, none, none, none, none, none, none, none, none, none] [] (sI G2 (gR G2 x0 80) (Int32.toNatClampNeg x6) x7) Q))))))))))))) : wp E d M_X12_search 102 [some (vr x0), some (vi x1), some (vi x2), some (vi x3), some (vi x4), some (vi x5), some (vi x6), some (vi x7), none, none, none, none, none, none, none, none, none, none] [] G Q := by
  refine wp_iload (pc := 102) d_X12_search_102 rfl ?_
  refine wp_aload_n (pc := 104) d_X12_search_104 rfl ?_
  refine wp_iload_n (pc := 105) d_X12_search_105 rfl ?_
  obtain ⟨ho13, h⟩ := h
  refine wp_invV (pc := 106) (N := M_X12_vars) (As := [vi _]) (rest := [vi _]) (r := (cn_12, ct_12, 95)) d_X12_search_106 ml_X12_456 mk_X12_vars mv_X12_vars h0 ho13 rfl rfl (Nat.le_of_ble_eq_true rfl) ?_
  refine wpM.mono h (fun rr G2 hr => ?_)
  obtain ⟨r1, rfl, h⟩ := hr
  show wp E d M_X12_search 109 [some (vr _), some (vi _), some (vi _), some (vi _), some (vi _), some (vi _), some (vi _), some (vi _), none, none, none, none, none, none, none, none, none, none] [vi _, vi _] G2 Q
  refine wp_icmp_ge (pc := 109) (tgt := 171) d_X12_search_109 (by decide) (fun hc => ?_) (fun hc => ?_)
  · have h := h.1 hc
    refine wp_iload (pc := 171) d_X12_search_171 rfl ?_
    refine wp_if_ne (pc := 173) (tgt := 178) d_X12_search_173 (by decide) (fun hc => ?_) (fun hc => ?_)
    · have h := h.1 hc
      refine wp_aload_n (pc := 178) d_X12_search_178 rfl ?_
      refine wp_iload_n (pc := 179) d_X12_search_179 rfl ?_
      obtain ⟨ho5, h⟩ := h
      refine wp_invV (pc := 180) (N := M_X12_handOf) (As := [vi _]) (rest := []) (r := (cn_12, ct_12, 95)) d_X12_search_180 ml_X12_580 mk_X12_handOf mv_X12_handOf h0 ho5 rfl rfl (Nat.le_of_ble_eq_true rfl) ?_
      refine wpM.mono h (fun rr G4 hr => ?_)
      obtain ⟨r3, rfl, h⟩ := hr
      show wp E d M_X12_search 183 [some (vr _), some (vi _), some (vi _), some (vi _), some (vi _), some (vi _), some (vi _), some (vi _), none, none, none, none, none, none, none, none, none, none] [vi _] G4 Q
      refine wp_istore (pc := 183) (lv' := [some (vr _), some (vi _), some (vi _), some (vi _), some (vi _), some (vi _), some (vi _), some (vi _), none, none, none, none, none, none, none, none, none, none]) d_X12_search_183 (by decide) rfl ?_
      refine wp_iload (pc := 185) d_X12_search_185 rfl ?_
      refine wp_istore (pc := 187) (lv' := [some (vr _), some (vi _), some (vi _), some (vi _), some (vi _), some (vi _), some (vi _), some (vi _), some (vi _), none, none, none, none, none, none, none, none, none]) d_X12_search_187 (by decide) rfl ?_
      refine wp_iconst (pc := 189) (v := 0) d_X12_search_189 rfl ?_
      refine wp_istore (pc := 190) (lv' := [some (vr _), some (vi _), some (vi _), some (vi _), some (vi _), some (vi _), some (vi _), some (vi _), some (vi _), some (vi _), none, none, none, none, none, none, none, none]) d_X12_search_190 (by decide) rfl ?_
      refine wp_sub ?_ h
      exact ⟨rfl, ⟨rfl, ⟨rfl, ⟨rfl, ⟨rfl, ⟨rfl, ⟨rfl, ⟨rfl, ⟨rfl, ⟨rfl, trivial⟩⟩⟩⟩⟩⟩⟩⟩⟩⟩
    · have h := h.2 hc
      refine wp_iconst (pc := 176) (v := 0) d_X12_search_176 rfl ?_
      exact wp_iret (pc := 177) d_X12_search_177 rfl h
  · have h := h.2 hc
    refine wp_aload_n (pc := 112) d_X12_search_112 rfl ?_
    obtain ⟨ho6, h⟩ := h
    refine wp_getR (pc := 113) d_X12_search_113 fl_X12_79 (fun _ _ _ => rfl) ho6 ?_
    refine wp_bipush (pc := 116) (v := 12) d_X12_search_116 rfl ?_
    refine wp_iload_n (pc := 118) d_X12_search_118 rfl ?_
    refine wp_imul (pc := 119) d_X12_search_119 ?_
    refine wp_iload (pc := 120) d_X12_search_120 rfl ?_
    refine wp_iadd (pc := 122) d_X12_search_122 ?_
    obtain ⟨ho7, h⟩ := h
    obtain ⟨hi8, h⟩ := h
    refine wp_zald (pc := 123) d_X12_search_123 ho7 hi8 ?_
    refine wp_if_ne (pc := 124) (tgt := 155) d_X12_search_124 (by decide) (fun hc => ?_) (fun hc => ?_)
    · have h := h.1 hc
      refine wp_sub ?_ h
      exact ⟨rfl, ⟨rfl, ⟨rfl, ⟨rfl, ⟨rfl, ⟨rfl, ⟨rfl, ⟨rfl, trivial⟩⟩⟩⟩⟩⟩⟩⟩
    · have h := h.2 hc
      refine wp_aload_n (pc := 127) d_X12_search_127 rfl ?_
      refine wp_getR (pc := 128) d_X12_search_128 fl_X12_64 (fun _ _ _ => rfl) ho6 ?_
      refine wp_bipush (pc := 131) (v := 12) d_X12_search_131 rfl ?_
      refine wp_iload_n (pc := 133) d_X12_search_133 rfl ?_
      refine wp_imul (pc := 134) d_X12_search_134 ?_
      refine wp_iload (pc := 135) d_X12_search_135 rfl ?_
      refine wp_iadd (pc := 137) d_X12_search_137 ?_
      obtain ⟨ho9, h⟩ := h
      obtain ⟨hi10, h⟩ := h
      refine wp_iald (pc := 138) d_X12_search_138 ho9 hi10 ?_
      refine wp_iconst (pc := 139) (v := 1) d_X12_search_139 rfl ?_
      refine wp_icmp_le (pc := 140) (tgt := 155) d_X12_search_140 (by decide) (fun hc => ?_) (fun hc => ?_)
      · have h := h.1 hc
        refine wp_sub ?_ h
        exact ⟨rfl, ⟨rfl, ⟨rfl, ⟨rfl, ⟨rfl, ⟨rfl, ⟨rfl, ⟨rfl, trivial⟩⟩⟩⟩⟩⟩⟩⟩
      · have h := h.2 hc
        refine wp_aload_n (pc := 143) d_X12_search_143 rfl ?_
        refine wp_getR (pc := 144) d_X12_search_144 fl_X12_184 (fun _ _ _ => rfl) ho6 ?_
        refine wp_iload (pc := 147) d_X12_search_147 rfl ?_
        refine wp_iload (pc := 149) d_X12_search_149 rfl ?_
        obtain ⟨ho11, h⟩ := h
        obtain ⟨hi12, h⟩ := h
        refine wp_iast (pc := 151) d_X12_search_151 ho11 hi12 ?_
        refine wp_iinc (pc := 152) (v := 1) (lv' := [some (vr _), some (vi _), some (vi _), some (vi _), some (vi _), some (vi _), some (vi _), some (vi _), none, none, none, none, none, none, none, none, none, none]) d_X12_search_152 (by decide) rfl rfl rfl ?_
        refine wp_sub ?_ h
        exact ⟨rfl, ⟨rfl, ⟨rfl, ⟨rfl, ⟨rfl, ⟨rfl, ⟨rfl, ⟨rfl, trivial⟩⟩⟩⟩⟩⟩⟩⟩
theorem v_X12_search_155 {E : EE} {d : Nat} {Q : Option AV → AH → Prop} {x0 : Nat} {x1 : Int32} {x2 : Int32} {x3 : Int32} {x4 : Int32} {x5 : Int32} {x6 : Int32} {x7 : Int32} {G : AH} (h : isO E G x0 12 ∧ (isO E G (gR G x0 81) 14 ∧ (vp_in x7 (gN G (gR G x0 81)) ∧ (wp E d M_X12_search 102 [some (vr x0), some (vi x1), some (vi x2), some (vi x3), some (vi x4), some (vi x5), some (vi x6), some (vi (x7 + 1)), none, none, none, none, none, none, none, none, none, none] [] (sI G (gR G x0 81) (Int32.toNatClampNeg x7) (-1000)) Q)))) : wp E d M_X12_search 155 [some (vr x0), some (vi x1), some (vi x2), some (vi x3), some (vi x4), some (vi x5), some (vi x6), some (vi x7), none, none, none, none, none, none, none, none, none, none] [] G Q := by
  refine wp_aload_n (pc := 155) d_X12_search_155 rfl ?_
  obtain ⟨ho1, h⟩ := h
  refine wp_getR (pc := 156) d_X12_search_156 fl_X12_187 (fun _ _ _ => rfl) ho1 ?_
  refine wp_iload (pc := 159) d_X12_search_159 rfl ?_
  refine wp_sipush (pc := 161) (v := (-1000)) d_X12_search_161 rfl ?_
  obtain ⟨ho2, h⟩ := h
  obtain ⟨hi3, h⟩ := h
  refine wp_iast (pc := 164) d_X12_search_164 ho2 hi3 ?_
  refine wp_iinc (pc := 165) (v := 1) (lv' := [some (vr _), some (vi _), some (vi _), some (vi _), some (vi _), some (vi _), some (vi _), some (vi _), none, none, none, none, none, none, none, none, none, none]) d_X12_search_165 (by decide) rfl rfl rfl ?_
  refine wp_goto (pc := 168) (tgt := 102) d_X12_search_168 (by decide) ?_
  refine wp_sub ?_ h
  exact ⟨rfl, ⟨rfl, ⟨rfl, ⟨rfl, ⟨rfl, ⟨rfl, ⟨rfl, ⟨rfl, trivial⟩⟩⟩⟩⟩⟩⟩⟩
theorem v_X12_search_192 {E : EE} {d : Nat} {Q : Option AV → AH → Prop} {x0 : Nat} {x1 : Int32} {x2 : Int32} {x3 : Int32} {x4 : Int32} {x5 : Int32} {x6 : Int32} {x7 : Int32} {x8 : Int32} {x9 : Int32} {G : AH} (h : (20 ≤ x9 → wp E d M_X12_search 220 [some (vr x0), some (vi x1), some (vi x2), some (vi x3), some (vi x4), some (vi x5), some (vi x6), some (vi x7), some (vi x8), some (vi 0), some (vi 0), none, none, none, none, none, none, none] [] G Q) ∧ (¬ (20 ≤ x9) → isO E G x0 12 ∧ (isO E G (gR G x0 82) 14 ∧ (vp_in x9 (gN G (gR G x0 82)) ∧ (wp E d M_X12_search 192 [some (vr x0), some (vi x1), some (vi x2), some (vi x3), some (vi x4), some (vi x5), some (vi x6), some (vi x7), some (vi x8), some (vi (x9 + 1)), none, none, none, none, none, none, none, none] [] (sI G (gR G x0 82) (Int32.toNatClampNeg x9) x7) Q))))) : wp E d M_X12_search 192 [some (vr x0), some (vi x1), some (vi x2), some (vi x3), some (vi x4), some (vi x5), some (vi x6), some (vi x7), some (vi x8), some (vi x9), none, none, none, none, none, none, none, none] [] G Q := by
  refine wp_iload (pc := 192) d_X12_search_192 rfl ?_
  refine wp_bipush (pc := 194) (v := 20) d_X12_search_194 rfl ?_
  refine wp_icmp_ge (pc := 196) (tgt := 214) d_X12_search_196 (by decide) (fun hc => ?_) (fun hc => ?_)
  · have h := h.1 hc
    refine wp_iconst (pc := 214) (v := 0) d_X12_search_214 rfl ?_
    refine wp_istore (pc := 215) (lv' := [some (vr _), some (vi _), some (vi _), some (vi _), some (vi _), some (vi _), some (vi _), some (vi _), some (vi _), some (vi _), none, none, none, none, none, none, none, none]) d_X12_search_215 (by decide) rfl ?_
    refine wp_iconst (pc := 217) (v := 0) d_X12_search_217 rfl ?_
    refine wp_istore (pc := 218) (lv' := [some (vr _), some (vi _), some (vi _), some (vi _), some (vi _), some (vi _), some (vi _), some (vi _), some (vi _), some (vi _), some (vi _), none, none, none, none, none, none, none]) d_X12_search_218 (by decide) rfl ?_
    refine wp_sub ?_ h
    exact ⟨rfl, ⟨rfl, ⟨rfl, ⟨rfl, ⟨rfl, ⟨rfl, ⟨rfl, ⟨rfl, ⟨rfl, ⟨rfl, ⟨rfl, trivial⟩⟩⟩⟩⟩⟩⟩⟩⟩⟩⟩
  · have h := h.2 hc
    refine wp_aload_n (pc := 199) d_X12_search_199 rfl ?_
    obtain ⟨ho1, h⟩ := h
    refine wp_getR (pc := 200) d_X12_search_200 fl_X12_190 (fun _ _ _ => rfl) ho1 ?_
    refine wp_iload (pc := 203) d_X12_search_203 rfl ?_
    refine wp_iload (pc := 205) d_X12_search_205 rfl ?_
    obtain ⟨ho2, h⟩ := h
    obtain ⟨hi3, h⟩ := h
    refine wp_iast (pc := 207) d_X12_search_207 ho2 hi3 ?_
    refine wp_iinc (pc := 208) (v := 1) (lv' := [some (vr _), some (vi _), some (vi _), some (vi _), some (vi _), some (vi _), some (vi _), some (vi _), some (vi _), some (vi _), none, none, none, none, none, none, none, none]) d_X12_search_208 (by decide) rfl rfl rfl ?_
    refine wp_goto (pc := 211) (tgt := 192) d_X12_search_211 (by decide) ?_
    refine wp_sub ?_ h
    exact ⟨rfl, ⟨rfl, ⟨rfl, ⟨rfl, ⟨rfl, ⟨rfl, ⟨rfl, ⟨rfl, ⟨rfl, ⟨rfl, trivial⟩⟩⟩⟩⟩⟩⟩⟩⟩⟩
theorem v_X12_search_220 {E : EE} {d : Nat} {Q : Option AV → AH → Prop} {x0 : Nat} {x1 : Int32} {x2 : Int32} {x3 : Int32} {x4 : Int32} {x5 : Int32} {x6 : Int32} {x7 : Int32} {x8 : Int32} {x9 : Int32} {x10 : Int32} {G : AH} (h0 : 0 < d) (h : (x5 ≤ x10 → isO E G x0 12 ∧ (wpV E (d - 1) M_X12_putAtHand [vr x0, vi x1, vi x8] G (fun G1 => Q (some (vi x9)) G1))) ∧ (¬ (x5 ≤ x10) → isO E G x0 12 ∧ (wpI E (d - 1) M_X12_draw [vr x0, vi 4] G (fun r3 G4 => isO E G4 x0 12 ∧ (wpI E (d - 1) M_X12_draw [vr x0, vi x6] G4 (fun r6 G7 => isO E G7 (gR G4 x0 80) 14 ∧ (vp_in r6 (gN G7 (gR G4 x0 80)) ∧ ((3 ≤ r3 → isO E G7 x0 12 ∧ (wpI E (d - 1) M_X12_draw [vr x0, vi x6] G7 (fun r11 G12 => isO E G12 (gR G7 x0 80) 14 ∧ (vp_in r11 (gN G12 (gR G7 x0 80)) ∧ (isO E G12 x0 12 ∧ (wpI E (d - 1) M_X12_valueIn [vr x0, vi x1, vi x7, vi (gI G12 (gR G7 x0 80) (Int32.toNatClampNeg r11))] G12 (fun r15 G16 => isO E G16 x0 12 ∧ (wpI E (d - 1) M_X12_placeOf [vr x0, vi x1, vi (gI G7 (gR G4 x0 80) (Int32.toNatClampNeg r6)), vi r15] G16 (fun r17 G18 => isO E G18 x0 12 ∧ (wpI E (d - 1) M_X12_valueIn [vr x0, vi x1, vi x7, vi (gI G7 (gR G4 x0 80) (Int32.toNatClampNeg r6))] G18 (fun r19 G20 => isO E G20 x0 12 ∧ (wpI E (d - 1) M_X12_placeOf [vr x0, vi x1, vi (gI G12 (gR G7 x0 80) (Int32.toNatClampNeg r11)), vi r19] G20 (fun r21 G22 => ((gI G7 (gR G4 x0 80) (Int32.toNatClampNeg r6)) = (gI G12 (gR G7 x0 80) (Int32.toNatClampNeg r11)) → wp E d M_X12_search 689 [some (vr x0), some (vi x1), some (vi x2), some (vi x3), some (vi x4), some (vi x5), some (vi x6), some (vi x7), some (vi x8), some (vi x9), some (vi x10), some (vi r3), some (vi (gI G7 (gR G4 x0 80) (Int32.toNatClampNeg r6))), some (vi (gI G12 (gR G7 x0 80) (Int32.toNatClampNeg r11))), some (vi x7), some (vi r17), some (vi r21), none] [] G22 Q) ∧ (¬ ((gI G7 (gR G4 x0 80) (Int32.toNatClampNeg r6)) = (gI G12 (gR G7 x0 80) (Int32.toNatClampNeg r11))) → (r17 < 0 → wp E d M_X12_search 689 [some (vr x0), some (vi x1), some (vi x2), some (vi x3), some (vi x4), some (vi x5), some (vi x6), some (vi x7), some (vi x8), some (vi x9), some (vi x10), some (vi r3), some (vi (gI G7 (gR G4 x0 80) (Int32.toNatClampNeg r6))), some (vi (gI G12 (gR G7 x0 80) (Int32.toNatClampNeg r11))), some (vi x7), some (vi r17), some (vi r21), none] [] G22 Q) ∧ (¬ (r17 < 0) → (0 ≤ r21 → isO E G22 x0 12 ∧ (wpI E (d - 1) M_X12_withPlace [vr x0, vi x1, vi x7, vi (gI G7 (gR G4 x0 80) (Int32.toNatClampNeg r6)), vi r17] G22 (fun r23 G24 => isO E G24 x0 12 ∧ (wpI E (d - 1) M_X12_withPlace [vr x0, vi x1, vi r23, vi (gI G12 (gR G7 x0 80) (Int32.toNatClampNeg r11)), vi r21] G24 (fun r25 G26 => wp E d M_X12_search 412 [some (vr x0), some (vi x1), some (vi x2), some (vi x3), some (vi x4), some (vi x5), some (vi x6), some (vi x7), some (vi x8), some (vi x9), some (vi x10), some (vi r3), some (vi (gI G7 (gR G4 x0 80) (Int32.toNatClampNeg r6))), some (vi (gI G12 (gR G7 x0 80) (Int32.toNatClampNeg r11))), some (vi r25), some (vi r17), none, none] [] G26 Q))))) ∧ (¬ (0 ≤ r21) → wp E d M_X12_search 689 [some (vr x0), some (vi x1), some (vi x2), some (vi x3), some (vi x4), some (vi x5), some (vi x6), some (vi x7), some (vi x8), some (vi x9), some (vi x10), some (vi r3), some (vi (gI G7 (gR G4 x0 80) (Int32.toNatClampNeg r6))), some (vi (gI G12 (gR G7 x0 80) (Int32.toNatClampNeg r11))), some (vi x7), some (vi r17), some (vi r21), none] [] G22 Q)))))))))))))))) ∧ (¬ (3 ≤ r3) → isO E G7 x0 12 ∧ (isO E G7 (gR G7 x0 19) 14 ∧ (vp_in ((12 * x1) + (gI G7 (gR G4 x0 80) (Int32.toNatClampNeg r6))) (gN G7 (gR G7 x0 19)) ∧ (wpI E (d - 1) M_X12_draw [vr x0, vi ((gI G7 (gR G7 x0 19) (Int32.toNatClampNeg ((12 * x1) + (gI G7 (gR G4 x0 80) (Int32.toNatClampNeg r6))))) - 1)] G7 (fun r36 G37 => isO E G37 x0 12 ∧ (wpI E (d - 1) M_X12_place [vr x0, vi x1, vi x7, vi (gI G7 (gR G4 x0 80) (Int32.toNatClampNeg r6))] G37 (fun r38 G39 => (r36 < r38 → wp E d M_X12_search 302 [some (vr x0), some (vi x1), some (vi x2), some (vi x3), some (vi x4), some (vi x5), some (vi x6), some (vi x7), some (vi x8), some (vi x9), some (vi x10), some (vi r3), some (vi (gI G7 (gR G4 x0 80) (Int32.toNatClampNeg r6))), some (vi (gI G7 (gR G4 x0 80) (Int32.toNatClampNeg r6))), some (vi x7), some (vi r36), none, none] [vi 0, vi r36] G39 Q) ∧ (¬ (r36 < r38) → wp E d M_X12_search 302 [some (vr x0), some (vi x1), some (vi x2), some (vi x3), some (vi x4), some (vi x5), some (vi x6), some (vi x7), some (vi x8), some (vi x9), some (vi x10), some (vi r3), some (vi (gI G7 (gR G4 x0 80) (Int32.toNatClampNeg r6))), some (vi (gI G7 (gR G4 x0 80) (Int32.toNatClampNeg r6))), some (vi x7), some (vi r36), none, none] [vi 1, vi r36] G39 Q)))))))))))))))) : wp E d M_X12_search 220 [some (vr x0), some (vi x1), some (vi x2), some (vi x3), some (vi x4), some (vi x5), some (vi x6), some (vi x7), some (vi x8), some (vi x9), some (vi x10), none, none, none, none, none, none, none] [] G Q := by
  refine wp_iload (pc := 220) d_X12_search_220 rfl ?_
  refine wp_iload (pc := 222) d_X12_search_222 rfl ?_
  refine wp_icmp_ge (pc := 224) (tgt := 695) d_X12_search_224 (by decide) (fun hc => ?_) (fun hc => ?_)
  · have h := h.1 hc
    refine wp_aload_n (pc := 695) d_X12_search_695 rfl ?_
    refine wp_iload_n (pc := 696) d_X12_search_696 rfl ?_
    refine wp_iload (pc := 697) d_X12_search_697 rfl ?_
    obtain ⟨ho2, h⟩ := h
    refine wp_invV (pc := 699) (N := M_X12_putAtHand) (As := [vi _, vi _]) (rest := []) (r := (cn_12, ct_12, 95)) d_X12_search_699 ml_X12_595 mk_X12_putAtHand mv_X12_putAtHand h0 ho2 rfl rfl (Nat.le_of_ble_eq_true rfl) ?_
    refine wpM.mono h (fun rr G1 hr => ?_)
    obtain ⟨rfl, h⟩ := hr
    show wp E d M_X12_search 702 [some (vr _), some (vi _), some (vi _), some (vi _), some (vi _), some (vi _), some (vi _), some (vi _), some (vi _), some (vi _), some (vi _), none, none, none, none, none, none, none] [] G1 Q
    refine wp_iload (pc := 702) d_X12_search_702 rfl ?_
    exact wp_iret (pc := 704) d_X12_search_704 rfl h
  · have h := h.2 hc
    refine wp_aload_n (pc := 227) d_X12_search_227 rfl ?_
    refine wp_iconst (pc := 228) (v := 4) d_X12_search_228 rfl ?_
    obtain ⟨ho41, h⟩ := h
    refine wp_invV (pc := 229) (N := M_X12_draw) (As := [vi _]) (rest := []) (r := (cn_12, ct_12, 95)) d_X12_search_229 ml_X12_661 mk_X12_draw mv_X12_draw h0 ho41 rfl rfl (Nat.le_of_ble_eq_true rfl) ?_
    refine wpM.mono h (fun rr G4 hr => ?_)
    obtain ⟨r3, rfl, h⟩ := hr
    show wp E d M_X12_search 232 [some (vr _), some (vi _), some (vi _), some (vi _), some (vi _), some (vi _), some (vi _), some (vi _), some (vi _), some (vi _), some (vi _), none, none, none, none, none, none, none] [vi _] G4 Q
    refine wp_istore (pc := 232) (lv' := [some (vr _), some (vi _), some (vi _), some (vi _), some (vi _), some (vi _), some (vi _), some (vi _), some (vi _), some (vi _), some (vi _), some (vi _), none, none, none, none, none, none]) d_X12_search_232 (by decide) rfl ?_
    refine wp_aload_n (pc := 234) d_X12_search_234 rfl ?_
    obtain ⟨ho5, h⟩ := h
    refine wp_getR (pc := 235) d_X12_search_235 fl_X12_184 (fun _ _ _ => rfl) ho5 ?_
    refine wp_aload_n (pc := 238) d_X12_search_238 rfl ?_
    refine wp_iload (pc := 239) d_X12_search_239 rfl ?_
    refine wp_invV (pc := 241) (N := M_X12_draw) (As := [vi _]) (rest := [vr _]) (r := (cn_12, ct_12, 95)) d_X12_search_241 ml_X12_661 mk_X12_draw mv_X12_draw h0 ho5 rfl rfl (Nat.le_of_ble_eq_true rfl) ?_
    refine wpM.mono h (fun rr G7 hr => ?_)
    obtain ⟨r6, rfl, h⟩ := hr
    show wp E d M_X12_search 244 [some (vr _), some (vi _), some (vi _), some (vi _), some (vi _), some (vi _), some (vi _), some (vi _), some (vi _), some (vi _), some (vi _), some (vi _), none, none, none, none, none, none] [vi _, vr _] G7 Q
    obtain ⟨ho8, h⟩ := h
    obtain ⟨hi9, h⟩ := h
    refine wp_iald (pc := 244) d_X12_search_244 ho8 hi9 ?_
    refine wp_istore (pc := 245) (lv' := [some (vr _), some (vi _), some (vi _), some (vi _), some (vi _), some (vi _), some (vi _), some (vi _), some (vi _), some (vi _), some (vi _), some (vi _), some (vi _), none, none, none, none, none]) d_X12_search_245 (by decide) rfl ?_
    refine wp_iload (pc := 247) d_X12_search_247 rfl ?_
    refine wp_istore (pc := 249) (lv' := [some (vr _), some (vi _), some (vi _), some (vi _), some (vi _), some (vi _), some (vi _), some (vi _), some (vi _), some (vi _), some (vi _), some (vi _), some (vi _), some (vi _), none, none, none, none]) d_X12_search_249 (by decide) rfl ?_
    refine wp_iload (pc := 251) d_X12_search_251 rfl ?_
    refine wp_istore (pc := 253) (lv' := [some (vr _), some (vi _), some (vi _), some (vi _), some (vi _), some (vi _), some (vi _), some (vi _), some (vi _), some (vi _), some (vi _), some (vi _), some (vi _), some (vi _), some (vi _), none, none, none]) d_X12_search_253 (by decide) rfl ?_
    refine wp_iload (pc := 255) d_X12_search_255 rfl ?_
    refine wp_iconst (pc := 257) (v := 3) d_X12_search_257 rfl ?_
    refine wp_icmp_ge (pc := 258) (tgt := 321) d_X12_search_258 (by decide) (fun hc => ?_) (fun hc => ?_)
    · have h := h.1 hc
      refine wp_aload_n (pc := 321) d_X12_search_321 rfl ?_
      obtain ⟨ho10, h⟩ := h
      refine wp_getR (pc := 322) d_X12_search_322 fl_X12_184 (fun _ _ _ => rfl) ho10 ?_
      refine wp_aload_n (pc := 325) d_X12_search_325 rfl ?_
      refine wp_iload (pc := 326) d_X12_search_326 rfl ?_
      refine wp_invV (pc := 328) (N := M_X12_draw) (As := [vi _]) (rest := [vr _]) (r := (cn_12, ct_12, 95)) d_X12_search_328 ml_X12_661 mk_X12_draw mv_X12_draw h0 ho10 rfl rfl (Nat.le_of_ble_eq_true rfl) ?_
      refine wpM.mono h (fun rr G12 hr => ?_)
      obtain ⟨r11, rfl, h⟩ := hr
      show wp E d M_X12_search 331 [some (vr _), some (vi _), some (vi _), some (vi _), some (vi _), some (vi _), some (vi _), some (vi _), some (vi _), some (vi _), some (vi _), some (vi _), some (vi _), some (vi _), some (vi _), none, none, none] [vi _, vr _] G12 Q
      obtain ⟨ho13, h⟩ := h
      obtain ⟨hi14, h⟩ := h
      refine wp_iald (pc := 331) d_X12_search_331 ho13 hi14 ?_
      refine wp_istore (pc := 332) (lv' := [some (vr _), some (vi _), some (vi _), some (vi _), some (vi _), some (vi _), some (vi _), some (vi _), some (vi _), some (vi _), some (vi _), some (vi _), some (vi _), some (vi _), some (vi _), none, none, none]) d_X12_search_332 (by decide) rfl ?_
      refine wp_aload_n (pc := 334) d_X12_search_334 rfl ?_
      refine wp_iload_n (pc := 335) d_X12_search_335 rfl ?_
      refine wp_iload (pc := 336) d_X12_search_336 rfl ?_
      refine wp_aload_n (pc := 338) d_X12_search_338 rfl ?_
      refine wp_iload_n (pc := 339) d_X12_search_339 rfl ?_
      refine wp_iload (pc := 340) d_X12_search_340 rfl ?_
      refine wp_iload (pc := 342) d_X12_search_342 rfl ?_
      obtain ⟨ho32, h⟩ := h
      refine wp_invV (pc := 344) (N := M_X12_valueIn) (As := [vi _, vi _, vi _]) (rest := [vi _, vi _, vr _]) (r := (cn_12, ct_12, 95)) d_X12_search_344 ml_X12_668 mk_X12_valueIn mv_X12_valueIn h0 ho32 rfl rfl (Nat.le_of_ble_eq_true rfl) ?_
      refine wpM.mono h (fun rr G16 hr => ?_)
      obtain ⟨r15, rfl, h⟩ := hr
      show wp E d M_X12_search 347 [some (vr _), some (vi _), some (vi _), some (vi _), some (vi _), some (vi _), some (vi _), some (vi _), some (vi _), some (vi _), some (vi _), some (vi _), some (vi _), some (vi _), some (vi _), none, none, none] [vi _, vi _, vi _, vr _] G16 Q
      obtain ⟨ho31, h⟩ := h
      refine wp_invV (pc := 347) (N := M_X12_placeOf) (As := [vi _, vi _, vi _]) (rest := []) (r := (cn_12, ct_12, 95)) d_X12_search_347 ml_X12_577 mk_X12_placeOf mv_X12_placeOf h0 ho31 rfl rfl (Nat.le_of_ble_eq_true rfl) ?_
      refine wpM.mono h (fun rr G18 hr => ?_)
      obtain ⟨r17, rfl, h⟩ := hr
      show wp E d M_X12_search 350 [some (vr _), some (vi _), some (vi _), some (vi _), some (vi _), some (vi _), some (vi _), some (vi _), some (vi _), some (vi _), some (vi _), some (vi _), some (vi _), some (vi _), some (vi _), none, none, none] [vi _] G18 Q
      refine wp_istore (pc := 350) (lv' := [some (vr _), some (vi _), some (vi _), some (vi _), some (vi _), some (vi _), some (vi _), some (vi _), some (vi _), some (vi _), some (vi _), some (vi _), some (vi _), some (vi _), some (vi _), some (vi _), none, none]) d_X12_search_350 (by decide) rfl ?_
      refine wp_aload_n (pc := 352) d_X12_search_352 rfl ?_
      refine wp_iload_n (pc := 353) d_X12_search_353 rfl ?_
      refine wp_iload (pc := 354) d_X12_search_354 rfl ?_
      refine wp_aload_n (pc := 356) d_X12_search_356 rfl ?_
      refine wp_iload_n (pc := 357) d_X12_search_357 rfl ?_
      refine wp_iload (pc := 358) d_X12_search_358 rfl ?_
      refine wp_iload (pc := 360) d_X12_search_360 rfl ?_
      obtain ⟨ho30, h⟩ := h
      refine wp_invV (pc := 362) (N := M_X12_valueIn) (As := [vi _, vi _, vi _]) (rest := [vi _, vi _, vr _]) (r := (cn_12, ct_12, 95)) d_X12_search_362 ml_X12_668 mk_X12_valueIn mv_X12_valueIn h0 ho30 rfl rfl (Nat.le_of_ble_eq_true rfl) ?_
      refine wpM.mono h (fun rr G20 hr => ?_)
      obtain ⟨r19, rfl, h⟩ := hr
      show wp E d M_X12_search 365 [some (vr _), some (vi _), some (vi _), some (vi _), some (vi _), some (vi _), some (vi _), some (vi _), some (vi _), some (vi _), some (vi _), some (vi _), some (vi _), some (vi _), some (vi _), some (vi _), none, none] [vi _, vi _, vi _, vr _] G20 Q
      obtain ⟨ho29, h⟩ := h
      refine wp_invV (pc := 365) (N := M_X12_placeOf) (As := [vi _, vi _, vi _]) (rest := []) (r := (cn_12, ct_12, 95)) d_X12_search_365 ml_X12_577 mk_X12_placeOf mv_X12_placeOf h0 ho29 rfl rfl (Nat.le_of_ble_eq_true rfl) ?_
      refine wpM.mono h (fun rr G22 hr => ?_)
      obtain ⟨r21, rfl, h⟩ := hr
      show wp E d M_X12_search 368 [some (vr _), some (vi _), some (vi _), some (vi _), some (vi _), some (vi _), some (vi _), some (vi _), some (vi _), some (vi _), some (vi _), some (vi _), some (vi _), some (vi _), some (vi _), some (vi _), none, none] [vi _] G22 Q
      refine wp_istore (pc := 368) (lv' := [some (vr _), some (vi _), some (vi _), some (vi _), some (vi _), some (vi _), some (vi _), some (vi _), some (vi _), some (vi _), some (vi _), some (vi _), some (vi _), some (vi _), some (vi _), some (vi _), some (vi _), none]) d_X12_search_368 (by decide) rfl ?_
      refine wp_iload (pc := 370) d_X12_search_370 rfl ?_
      refine wp_iload (pc := 372) d_X12_search_372 rfl ?_
      refine wp_icmp_eq (pc := 374) (tgt := 689) d_X12_search_374 (by decide) (fun hc => ?_) (fun hc => ?_)
      · have h := h.1 hc
        refine wp_sub ?_ h
        exact ⟨rfl, ⟨rfl, ⟨rfl, ⟨rfl, ⟨rfl, ⟨rfl, ⟨rfl, ⟨rfl, ⟨rfl, ⟨rfl, ⟨rfl, ⟨rfl, ⟨rfl, ⟨rfl, ⟨rfl, ⟨rfl, ⟨rfl, trivial⟩⟩⟩⟩⟩⟩⟩⟩⟩⟩⟩⟩⟩⟩⟩⟩⟩
      · have h := h.2 hc
        refine wp_iload (pc := 377) d_X12_search_377 rfl ?_
        refine wp_if_lt (pc := 379) (tgt := 689) d_X12_search_379 (by decide) (fun hc => ?_) (fun hc => ?_)
        · have h := h.1 hc
          refine wp_sub ?_ h
          exact ⟨rfl, ⟨rfl, ⟨rfl, ⟨rfl, ⟨rfl, ⟨rfl, ⟨rfl, ⟨rfl, ⟨rfl, ⟨rfl, ⟨rfl, ⟨rfl, ⟨rfl, ⟨rfl, ⟨rfl, ⟨rfl, ⟨rfl, trivial⟩⟩⟩⟩⟩⟩⟩⟩⟩⟩⟩⟩⟩⟩⟩⟩⟩
        · have h := h.2 hc
          refine wp_iload (pc := 382) d_X12_search_382 rfl ?_
          refine wp_if_ge (pc := 384) (tgt := 390) d_X12_search_384 (by decide) (fun hc => ?_) (fun hc => ?_)
          · have h := h.1 hc
            refine wp_aload_n (pc := 390) d_X12_search_390 rfl ?_
            refine wp_iload_n (pc := 391) d_X12_search_391 rfl ?_
            refine wp_aload_n (pc := 392) d_X12_search_392 rfl ?_
            refine wp_iload_n (pc := 393) d_X12_search_393 rfl ?_
            refine wp_iload (pc := 394) d_X12_search_394 rfl ?_
            refine wp_iload (pc := 396) d_X12_search_396 rfl ?_
            refine wp_iload (pc := 398) d_X12_search_398 rfl ?_
            obtain ⟨ho28, h⟩ := h
            refine wp_invV (pc := 400) (N := M_X12_withPlace) (As := [vi _, vi _, vi _, vi _]) (rest := [vi _, vr _]) (r := (cn_12, ct_12, 95)) d_X12_search_400 ml_X12_664 mk_X12_withPlace mv_X12_withPlace h0 ho28 rfl rfl (Nat.le_of_ble_eq_true rfl) ?_
            refine wpM.mono h (fun rr G24 hr => ?_)
            obtain ⟨r23, rfl, h⟩ := hr
            show wp E d M_X12_search 403 [some (vr _), some (vi _), some (vi _), some (vi _), some (vi _), some (vi _), some (vi _), some (vi _), some (vi _), some (vi _), some (vi _), some (vi _), some (vi _), some (vi _), some (vi _), some (vi _), some (vi _), none] [vi _, vi _, vr _] G24 Q
            refine wp_iload (pc := 403) d_X12_search_403 rfl ?_
            refine wp_iload (pc := 405) d_X12_search_405 rfl ?_
            obtain ⟨ho27, h⟩ := h
            refine wp_invV (pc := 407) (N := M_X12_withPlace) (As := [vi _, vi _, vi _, vi _]) (rest := []) (r := (cn_12, ct_12, 95)) d_X12_search_407 ml_X12_664 mk_X12_withPlace mv_X12_withPlace h0 ho27 rfl rfl (Nat.le_of_ble_eq_true rfl) ?_
            refine wpM.mono h (fun rr G26 hr => ?_)
            obtain ⟨r25, rfl, h⟩ := hr
            show wp E d M_X12_search 410 [some (vr _), some (vi _), some (vi _), some (vi _), some (vi _), some (vi _), some (vi _), some (vi _), some (vi _), some (vi _), some (vi _), some (vi _), some (vi _), some (vi _), some (vi _), some (vi _), some (vi _), none] [vi _] G26 Q
            refine wp_istore (pc := 410) (lv' := [some (vr _), some (vi _), some (vi _), some (vi _), some (vi _), some (vi _), some (vi _), some (vi _), some (vi _), some (vi _), some (vi _), some (vi _), some (vi _), some (vi _), some (vi _), some (vi _), some (vi _), none]) d_X12_search_410 (by decide) rfl ?_
            refine wp_sub ?_ h
            exact ⟨rfl, ⟨rfl, ⟨rfl, ⟨rfl, ⟨rfl, ⟨rfl, ⟨rfl, ⟨rfl, ⟨rfl, ⟨rfl, ⟨rfl, ⟨rfl, ⟨rfl, ⟨rfl, ⟨rfl, ⟨rfl, trivial⟩⟩⟩⟩⟩⟩⟩⟩⟩⟩⟩⟩⟩⟩⟩⟩
          · have h := h.2 hc
            refine wp_goto (pc := 387) (tgt := 689) d_X12_search_387 (by decide) ?_
            refine wp_sub ?_ h
            exact ⟨rfl, ⟨rfl, ⟨rfl, ⟨rfl, ⟨rfl, ⟨rfl, ⟨rfl, ⟨rfl, ⟨rfl, ⟨rfl, ⟨rfl, ⟨rfl, ⟨rfl, ⟨rfl, ⟨rfl, ⟨rfl, ⟨rfl, trivial⟩⟩⟩⟩⟩⟩⟩⟩⟩⟩⟩⟩⟩⟩⟩⟩⟩
    · have h := h.2 hc
      refine wp_aload_n (pc := 261) d_X12_search_261 rfl ?_
      refine wp_aload_n (pc := 262) d_X12_search_262 rfl ?_
      obtain ⟨ho33, h⟩ := h
      refine wp_getR (pc := 263) d_X12_search_263 fl_X12_64 (fun _ _ _ => rfl) ho33 ?_
      refine wp_bipush (pc := 266) (v := 12) d_X12_search_266 rfl ?_
      refine wp_iload_n (pc := 268) d_X12_search_268 rfl ?_
      refine wp_imul (pc := 269) d_X12_search_269 ?_
      refine wp_iload (pc := 270) d_X12_search_270 rfl ?_
      refine wp_iadd (pc := 272) d_X12_search_272 ?_
      obtain ⟨ho34, h⟩ := h
      obtain ⟨hi35, h⟩ := h
      refine wp_iald (pc := 273) d_X12_search_273 ho34 hi35 ?_
      refine wp_iconst (pc := 274) (v := 1) d_X12_search_274 rfl ?_
      refine wp_isub (pc := 275) d_X12_search_275 ?_
      refine wp_invV (pc := 276) (N := M_X12_draw) (As := [vi _]) (rest := []) (r := (cn_12, ct_12, 95)) d_X12_search_276 ml_X12_661 mk_X12_draw mv_X12_draw h0 ho33 rfl rfl (Nat.le_of_ble_eq_true rfl) ?_
      refine wpM.mono h (fun rr G37 hr => ?_)
      obtain ⟨r36, rfl, h⟩ := hr
      show wp E d M_X12_search 279 [some (vr _), some (vi _), some (vi _), some (vi _), some (vi _), some (vi _), some (vi _), some (vi _), some (vi _), some (vi _), some (vi _), some (vi _), some (vi _), some (vi _), some (vi _), none, none, none] [vi _] G37 Q
      refine wp_istore (pc := 279) (lv' := [some (vr _), some (vi _), some (vi _), some (vi _), some (vi _), some (vi _), some (vi _), some (vi _), some (vi _), some (vi _), some (vi _), some (vi _), some (vi _), some (vi _), some (vi _), some (vi _), none, none]) d_X12_search_279 (by decide) rfl ?_
      refine wp_iload (pc := 281) d_X12_search_281 rfl ?_
      refine wp_iload (pc := 283) d_X12_search_283 rfl ?_
      refine wp_aload_n (pc := 285) d_X12_search_285 rfl ?_
      refine wp_iload_n (pc := 286) d_X12_search_286 rfl ?_
      refine wp_iload (pc := 287) d_X12_search_287 rfl ?_
      refine wp_iload (pc := 289) d_X12_search_289 rfl ?_
      obtain ⟨ho40, h⟩ := h
      refine wp_invV (pc := 291) (N := M_X12_place) (As := [vi _, vi _, vi _]) (rest := [vi _, vi _]) (r := (cn_12, ct_12, 95)) d_X12_search_291 ml_X12_537 mk_X12_place mv_X12_place h0 ho40 rfl rfl (Nat.le_of_ble_eq_true rfl) ?_
      refine wpM.mono h (fun rr G39 hr => ?_)
      obtain ⟨r38, rfl, h⟩ := hr
      show wp E d M_X12_search 294 [some (vr _), some (vi _), some (vi _), some (vi _), some (vi _), some (vi _), some (vi _), some (vi _), some (vi _), some (vi _), some (vi _), some (vi _), some (vi _), some (vi _), some (vi _), some (vi _), none, none] [vi _, vi _, vi _] G39 Q
      refine wp_icmp_lt (pc := 294) (tgt := 301) d_X12_search_294 (by decide) (fun hc => ?_) (fun hc => ?_)
      · have h := h.1 hc
        refine wp_iconst (pc := 301) (v := 0) d_X12_search_301 rfl ?_
        refine wp_sub ?_ h
        exact ⟨rfl, ⟨rfl, ⟨rfl, ⟨rfl, ⟨rfl, ⟨rfl, ⟨rfl, ⟨rfl, ⟨rfl, ⟨rfl, ⟨rfl, ⟨rfl, ⟨rfl, ⟨rfl, ⟨rfl, ⟨rfl, trivial⟩⟩⟩⟩⟩⟩⟩⟩⟩⟩⟩⟩⟩⟩⟩⟩
      · have h := h.2 hc
        refine wp_iconst (pc := 297) (v := 1) d_X12_search_297 rfl ?_
        refine wp_goto (pc := 298) (tgt := 302) d_X12_search_298 (by decide) ?_
        refine wp_sub ?_ h
        exact ⟨rfl, ⟨rfl, ⟨rfl, ⟨rfl, ⟨rfl, ⟨rfl, ⟨rfl, ⟨rfl, ⟨rfl, ⟨rfl, ⟨rfl, ⟨rfl, ⟨rfl, ⟨rfl, ⟨rfl, ⟨rfl, trivial⟩⟩⟩⟩⟩⟩⟩⟩⟩⟩⟩⟩⟩⟩⟩⟩
theorem v_X12_search_302 {E : EE} {d : Nat} {Q : Option AV → AH → Prop} {x0 : Nat} {x1 : Int32} {x2 : Int32} {x3 : Int32} {x4 : Int32} {x5 : Int32} {x6 : Int32} {x7 : Int32} {x8 : Int32} {x9 : Int32} {x10 : Int32} {x11 : Int32} {x12 : Int32} {x13 : Int32} {x14 : Int32} {x15 : Int32} {t0 : Int32} {t1 : Int32} {G : AH} (h0 : 0 < d) (h : isO E G x0 12 ∧ (wpI E (d - 1) M_X12_withPlace [vr x0, vi x1, vi x7, vi x12, vi (t0 + t1)] G (fun r1 G2 => wp E d M_X12_search 412 [some (vr x0), some (vi x1), some (vi x2), some (vi x3), some (vi x4), some (vi x5), some (vi x6), some (vi x7), some (vi x8), some (vi x9), some (vi x10), some (vi x11), some (vi x12), some (vi x13), some (vi r1), some (vi (t0 + t1)), none, none] [] G2 Q))) : wp E d M_X12_search 302 [some (vr x0), some (vi x1), some (vi x2), some (vi x3), some (vi x4), some (vi x5), some (vi x6), some (vi x7), some (vi x8), some (vi x9), some (vi x10), some (vi x11), some (vi x12), some (vi x13), some (vi x14), some (vi x15), none, none] [vi t1, vi t0] G Q := by
  refine wp_iadd (pc := 302) d_X12_search_302 ?_
  refine wp_istore (pc := 303) (lv' := [some (vr _), some (vi _), some (vi _), some (vi _), some (vi _), some (vi _), some (vi _), some (vi _), some (vi _), some (vi _), some (vi _), some (vi _), some (vi _), some (vi _), some (vi _), some (vi _), none, none]) d_X12_search_303 (by decide) rfl ?_
  refine wp_aload_n (pc := 305) d_X12_search_305 rfl ?_
  refine wp_iload_n (pc := 306) d_X12_search_306 rfl ?_
  refine wp_iload (pc := 307) d_X12_search_307 rfl ?_
  refine wp_iload (pc := 309) d_X12_search_309 rfl ?_
  refine wp_iload (pc := 311) d_X12_search_311 rfl ?_
  obtain ⟨ho3, h⟩ := h
  refine wp_invV (pc := 313) (N := M_X12_withPlace) (As := [vi _, vi _, vi _, vi _]) (rest := []) (r := (cn_12, ct_12, 95)) d_X12_search_313 ml_X12_664 mk_X12_withPlace mv_X12_withPlace h0 ho3 rfl rfl (Nat.le_of_ble_eq_true rfl) ?_
  refine wpM.mono h (fun rr G2 hr => ?_)
  obtain ⟨r1, rfl, h⟩ := hr
  show wp E d M_X12_search 316 [some (vr _), some (vi _), some (vi _), some (vi _), some (vi _), some (vi _), some (vi _), some (vi _), some (vi _), some (vi _), some (vi _), some (vi _), some (vi _), some (vi _), some (vi _), some (vi _), none, none] [vi _] G2 Q
  refine wp_istore (pc := 316) (lv' := [some (vr _), some (vi _), some (vi _), some (vi _), some (vi _), some (vi _), some (vi _), some (vi _), some (vi _), some (vi _), some (vi _), some (vi _), some (vi _), some (vi _), some (vi _), some (vi _), none, none]) d_X12_search_316 (by decide) rfl ?_
  refine wp_goto (pc := 318) (tgt := 412) d_X12_search_318 (by decide) ?_
  refine wp_sub ?_ h
  exact ⟨rfl, ⟨rfl, ⟨rfl, ⟨rfl, ⟨rfl, ⟨rfl, ⟨rfl, ⟨rfl, ⟨rfl, ⟨rfl, ⟨rfl, ⟨rfl, ⟨rfl, ⟨rfl, ⟨rfl, ⟨rfl, trivial⟩⟩⟩⟩⟩⟩⟩⟩⟩⟩⟩⟩⟩⟩⟩⟩
theorem v_X12_search_412 {E : EE} {d : Nat} {Q : Option AV → AH → Prop} {x0 : Nat} {x1 : Int32} {x2 : Int32} {x3 : Int32} {x4 : Int32} {x5 : Int32} {x6 : Int32} {x7 : Int32} {x8 : Int32} {x9 : Int32} {x10 : Int32} {x11 : Int32} {x12 : Int32} {x13 : Int32} {x14 : Int32} {x15 : Int32} {G : AH} (h0 : 0 < d) (h : isO E G x0 12 ∧ (wpI E (d - 1) M_X12_isBetter [vr x0, vi x7, vi x14] G (fun r1 G2 => (¬ r1 = 0 → wp E d M_X12_search 428 [some (vr x0), some (vi x1), some (vi x2), some (vi x3), some (vi x4), some (vi x5), some (vi x6), some (vi x7), some (vi x8), some (vi x9), some (vi x10), some (vi x11), some (vi x12), some (vi x13), some (vi x14), some (vi x15), none, none] [vi 0] G2 Q) ∧ (r1 = 0 → wp E d M_X12_search 428 [some (vr x0), some (vi x1), some (vi x2), some (vi x3), some (vi x4), some (vi x5), some (vi x6), some (vi x7), some (vi x8), some (vi x9), some (vi x10), some (vi x11), some (vi x12), some (vi x13), some (vi x14), some (vi x15), none, none] [vi 1] G2 Q)))) : wp E d M_X12_search 412 [some (vr x0), some (vi x1), some (vi x2), some (vi x3), some (vi x4), some (vi x5), some (vi x6), some (vi x7), some (vi x8), some (vi x9), some (vi x10), some (vi x11), some (vi x12), some (vi x13), some (vi x14), some (vi x15), none, none] [] G Q := by
  refine wp_aload_n (pc := 412) d_X12_search_412 rfl ?_
  refine wp_iload (pc := 413) d_X12_search_413 rfl ?_
  refine wp_iload (pc := 415) d_X12_search_415 rfl ?_
  obtain ⟨ho3, h⟩ := h
  refine wp_invV (pc := 417) (N := M_X12_isBetter) (As := [vi _, vi _]) (rest := []) (r := (cn_12, ct_12, 95)) d_X12_search_417 ml_X12_565 mk_X12_isBetter mv_X12_isBetter h0 ho3 rfl rfl (Nat.le_of_ble_eq_true rfl) ?_
  refine wpM.mono h (fun rr G2 hr => ?_)
  obtain ⟨r1, rfl, h⟩ := hr
  show wp E d M_X12_search 420 [some (vr _), some (vi _), some (vi _), some (vi _), some (vi _), some (vi _), some (vi _), some (vi _), some (vi _), some (vi _), some (vi _), some (vi _), some (vi _), some (vi _), some (vi _), some (vi _), none, none] [vi _] G2 Q
  refine wp_if_ne (pc := 420) (tgt := 427) d_X12_search_420 (by decide) (fun hc => ?_) (fun hc => ?_)
  · have h := h.1 hc
    refine wp_iconst (pc := 427) (v := 0) d_X12_search_427 rfl ?_
    refine wp_sub ?_ h
    exact ⟨rfl, ⟨rfl, ⟨rfl, ⟨rfl, ⟨rfl, ⟨rfl, ⟨rfl, ⟨rfl, ⟨rfl, ⟨rfl, ⟨rfl, ⟨rfl, ⟨rfl, ⟨rfl, ⟨rfl, ⟨rfl, trivial⟩⟩⟩⟩⟩⟩⟩⟩⟩⟩⟩⟩⟩⟩⟩⟩
  · have h := h.2 hc
    refine wp_iconst (pc := 423) (v := 1) d_X12_search_423 rfl ?_
    refine wp_goto (pc := 424) (tgt := 428) d_X12_search_424 (by decide) ?_
    refine wp_sub ?_ h
    exact ⟨rfl, ⟨rfl, ⟨rfl, ⟨rfl, ⟨rfl, ⟨rfl, ⟨rfl, ⟨rfl, ⟨rfl, ⟨rfl, ⟨rfl, ⟨rfl, ⟨rfl, ⟨rfl, ⟨rfl, ⟨rfl, trivial⟩⟩⟩⟩⟩⟩⟩⟩⟩⟩⟩⟩⟩⟩⟩⟩
theorem v_X12_search_428 {E : EE} {d : Nat} {Q : Option AV → AH → Prop} {x0 : Nat} {x1 : Int32} {x2 : Int32} {x3 : Int32} {x4 : Int32} {x5 : Int32} {x6 : Int32} {x7 : Int32} {x8 : Int32} {x9 : Int32} {x10 : Int32} {x11 : Int32} {x12 : Int32} {x13 : Int32} {x14 : Int32} {x15 : Int32} {t0 : Int32} {G : AH} (h0 : 0 < d) (h : (¬ x2 = 1 → (¬ x2 = 2 → (¬ x2 = 3 → wp E d M_X12_search 608 [some (vr x0), some (vi x1), some (vi x2), some (vi x3), some (vi x4), some (vi x5), some (vi x6), some (vi x7), some (vi x8), some (vi x9), some (vi x10), some (vi x11), some (vi x12), some (vi x13), some (vi x14), some (vi t0), some (vi t0), none] [] G Q) ∧ (x2 = 3 → isO E G x0 12 ∧ (wpJ E (d - 1) M_X12_worth [vr x0, vi x14] G (fun r1 G2 => isO E G2 x0 12 ∧ (wpJ E (d - 1) M_X12_worth [vr x0, vi x7] G2 (fun r3 G4 => ¬ x5 = 0 ∧ (((Int32.toInt64 (x3 - ((x3 * x10) / x5))) < (r1 - r3) → wp E d M_X12_search 606 [some (vr x0), some (vi x1), some (vi x2), some (vi x3), some (vi x4), some (vi x5), some (vi x6), some (vi x7), some (vi x8), some (vi x9), some (vi x10), some (vi x11), some (vi x12), some (vi x13), some (vi x14), some (vi t0), some (vi t0), none] [vi 0] G4 Q) ∧ (¬ ((Int32.toInt64 (x3 - ((x3 * x10) / x5))) < (r1 - r3)) → wp E d M_X12_search 606 [some (vr x0), some (vi x1), some (vi x2), some (vi x3), some (vi x4), some (vi x5), some (vi x6), some (vi x7), some (vi x8), some (vi x9), some (vi x10), some (vi x11), some (vi x12), some (vi x13), some (vi x14), some (vi t0), some (vi t0), none] [vi 1] G4 Q)))))))) ∧ (x2 = 2 → isO E G x0 12 ∧ (isO E G (gR G x0 81) 14 ∧ (vp_in x12 (gN G (gR G x0 81)) ∧ (((x10 - (gI G (gR G x0 81) (Int32.toNatClampNeg x12))) ≤ x3 → wp E d M_X12_search 505 [some (vr x0), some (vi x1), some (vi x2), some (vi x3), some (vi x4), some (vi x5), some (vi x6), some (vi x7), some (vi x8), some (vi x9), some (vi x10), some (vi x11), some (vi x12), some (vi x13), some (vi x14), some (vi t0), some (vi t0), none] [] G Q) ∧ (¬ ((x10 - (gI G (gR G x0 81) (Int32.toNatClampNeg x12))) ≤ x3) → vp_in x13 (gN G (gR G x0 81)) ∧ ((x3 < (x10 - (gI G (gR G x0 81) (Int32.toNatClampNeg x13))) → wp E d M_X12_search 516 [some (vr x0), some (vi x1), some (vi x2), some (vi x3), some (vi x4), some (vi x5), some (vi x6), some (vi x7), some (vi x8), some (vi x9), some (vi x10), some (vi x11), some (vi x12), some (vi x13), some (vi x14), some (vi t0), some (vi t0), none] [] G Q) ∧ (¬ (x3 < (x10 - (gI G (gR G x0 81) (Int32.toNatClampNeg x13)))) → wp E d M_X12_search 505 [some (vr x0), some (vi x1), some (vi x2), some (vi x3), some (vi x4), some (vi x5), some (vi x6), some (vi x7), some (vi x8), some (vi x9), some (vi x10), some (vi x11), some (vi x12), some (vi x13), some (vi x14), some (vi t0), some (vi t0), none] [] G Q)))))))) ∧ (x2 = 1 → (¬ t0 = 0 → wp E d M_X12_search 462 [some (vr x0), some (vi x1), some (vi x2), some (vi x3), some (vi x4), some (vi x5), some (vi x6), some (vi x7), some (vi x8), some (vi x9), some (vi x10), some (vi x11), some (vi x12), some (vi x13), some (vi x14), some (vi t0), some (vi t0), none] [] G Q) ∧ (t0 = 0 → isO E G x0 12 ∧ (¬ x3 = 0 ∧ (isO E G (gR G x0 82) 14 ∧ (vp_in (x10 - x10 / x3 * x3) (gN G (gR G x0 82)) ∧ (wpI E (d - 1) M_X12_isBetter [vr x0, vi (gI G (gR G x0 82) (Int32.toNatClampNeg (x10 - x10 / x3 * x3))), vi x14] G (fun r16 G17 => (¬ r16 = 0 → wp E d M_X12_search 467 [some (vr x0), some (vi x1), some (vi x2), some (vi x3), some (vi x4), some (vi x5), some (vi x6), some (vi x7), some (vi x8), some (vi x9), some (vi x10), some (vi x11), some (vi x12), some (vi x13), some (vi x14), some (vi t0), some (vi t0), none] [vi 0] G17 Q) ∧ (r16 = 0 → wp E d M_X12_search 462 [some (vr x0), some (vi x1), some (vi x2), some (vi x3), some (vi x4), some (vi x5), some (vi x6), some (vi x7), some (vi x8), some (vi x9), some (vi x10), some (vi x11), some (vi x12), some (vi x13), some (vi x14), some (vi t0), some (vi t0), none] [] G17 Q))))))))) : wp E d M_X12_search 428 [some (vr x0), some (vi x1), some (vi x2), some (vi x3), some (vi x4), some (vi x5), some (vi x6), some (vi x7), some (vi x8), some (vi x9), some (vi x10), some (vi x11), some (vi x12), some (vi x13), some (vi x14), some (vi x15), none, none] [vi t0] G Q := by
  refine wp_istore (pc := 428) (lv' := [some (vr _), some (vi _), some (vi _), some (vi _), some (vi _), some (vi _), some (vi _), some (vi _), some (vi _), some (vi _), some (vi _), some (vi _), some (vi _), some (vi _), some (vi _), some (vi _), none, none]) d_X12_search_428 (by decide) rfl ?_
  refine wp_iload (pc := 430) d_X12_search_430 rfl ?_
  refine wp_istore (pc := 432) (lv' := [some (vr _), some (vi _), some (vi _), some (vi _), some (vi _), some (vi _), some (vi _), some (vi _), some (vi _), some (vi _), some (vi _), some (vi _), some (vi _), some (vi _), some (vi _), some (vi _), some (vi _), none]) d_X12_search_432 (by decide) rfl ?_
  refine wp_iload_n (pc := 434) d_X12_search_434 rfl ?_
  refine wp_iconst (pc := 435) (v := 1) d_X12_search_435 rfl ?_
  refine wp_icmp_ne (pc := 436) (tgt := 472) d_X12_search_436 (by decide) (fun hc => ?_) (fun hc => ?_)
  · have h := h.1 hc
    refine wp_iload_n (pc := 472) d_X12_search_472 rfl ?_
    refine wp_iconst (pc := 473) (v := 2) d_X12_search_473 rfl ?_
    refine wp_icmp_ne (pc := 474) (tgt := 569) d_X12_search_474 (by decide) (fun hc => ?_) (fun hc => ?_)
    · have h := h.1 hc
      refine wp_iload_n (pc := 569) d_X12_search_569 rfl ?_
      refine wp_iconst (pc := 570) (v := 3) d_X12_search_570 rfl ?_
      refine wp_icmp_ne (pc := 571) (tgt := 608) d_X12_search_571 (by decide) (fun hc => ?_) (fun hc => ?_)
      · have h := h.1 hc
        refine wp_sub ?_ h
        exact ⟨rfl, ⟨rfl, ⟨rfl, ⟨rfl, ⟨rfl, ⟨rfl, ⟨rfl, ⟨rfl, ⟨rfl, ⟨rfl, ⟨rfl, ⟨rfl, ⟨rfl, ⟨rfl, ⟨rfl, ⟨rfl, ⟨rfl, trivial⟩⟩⟩⟩⟩⟩⟩⟩⟩⟩⟩⟩⟩⟩⟩⟩⟩
      · have h := h.2 hc
        refine wp_aload_n (pc := 574) d_X12_search_574 rfl ?_
        refine wp_iload (pc := 575) d_X12_search_575 rfl ?_
        obtain ⟨ho7, h⟩ := h
        refine wp_invV (pc := 577) (N := M_X12_worth) (As := [vi _]) (rest := []) (r := (cn_12, ct_12, 95)) d_X12_search_577 ml_X12_671 mk_X12_worth mv_X12_worth h0 ho7 rfl rfl (Nat.le_of_ble_eq_true rfl) ?_
        refine wpM.mono h (fun rr G2 hr => ?_)
        obtain ⟨r1, rfl, h⟩ := hr
        show wp E d M_X12_search 580 [some (vr _), some (vi _), some (vi _), some (vi _), some (vi _), some (vi _), some (vi _), some (vi _), some (vi _), some (vi _), some (vi _), some (vi _), some (vi _), some (vi _), some (vi _), some (vi _), some (vi _), none] [vj _] G2 Q
        refine wp_aload_n (pc := 580) d_X12_search_580 rfl ?_
        refine wp_iload (pc := 581) d_X12_search_581 rfl ?_
        obtain ⟨ho6, h⟩ := h
        refine wp_invV (pc := 583) (N := M_X12_worth) (As := [vi _]) (rest := [vj _]) (r := (cn_12, ct_12, 95)) d_X12_search_583 ml_X12_671 mk_X12_worth mv_X12_worth h0 ho6 rfl rfl (Nat.le_of_ble_eq_true rfl) ?_
        refine wpM.mono h (fun rr G4 hr => ?_)
        obtain ⟨r3, rfl, h⟩ := hr
        show wp E d M_X12_search 586 [some (vr _), some (vi _), some (vi _), some (vi _), some (vi _), some (vi _), some (vi _), some (vi _), some (vi _), some (vi _), some (vi _), some (vi _), some (vi _), some (vi _), some (vi _), some (vi _), some (vi _), none] [vj _, vj _] G4 Q
        refine wp_lsub (pc := 586) d_X12_search_586 ?_
        refine wp_iload_n (pc := 587) d_X12_search_587 rfl ?_
        refine wp_iload_n (pc := 588) d_X12_search_588 rfl ?_
        refine wp_iload (pc := 589) d_X12_search_589 rfl ?_
        refine wp_imul (pc := 591) d_X12_search_591 ?_
        refine wp_iload (pc := 592) d_X12_search_592 rfl ?_
        obtain ⟨hz5, h⟩ := h
        refine wp_idiv (pc := 594) d_X12_search_594 hz5 ?_
        refine wp_isub (pc := 595) d_X12_search_595 ?_
        refine wp_i2l (pc := 596) d_X12_search_596 ?_
        refine wp_lcmp_gt (pc := 597) (tgt := 605) d_X12_search_597 d_X12_search_598 (by decide) (fun hc => ?_) (fun hc => ?_)
        · have h := h.1 hc
          refine wp_iconst (pc := 605) (v := 0) d_X12_search_605 rfl ?_
          refine wp_sub ?_ h
          exact ⟨rfl, ⟨rfl, ⟨rfl, ⟨rfl, ⟨rfl, ⟨rfl, ⟨rfl, ⟨rfl, ⟨rfl, ⟨rfl, ⟨rfl, ⟨rfl, ⟨rfl, ⟨rfl, ⟨rfl, ⟨rfl, ⟨rfl, trivial⟩⟩⟩⟩⟩⟩⟩⟩⟩⟩⟩⟩⟩⟩⟩⟩⟩
        · have h := h.2 hc
          refine wp_iconst (pc := 601) (v := 1) d_X12_search_601 rfl ?_
          refine wp_goto (pc := 602) (tgt := 606) d_X12_search_602 (by decide) ?_
          refine wp_sub ?_ h
          exact ⟨rfl, ⟨rfl, ⟨rfl, ⟨rfl, ⟨rfl, ⟨rfl, ⟨rfl, ⟨rfl, ⟨rfl, ⟨rfl, ⟨rfl, ⟨rfl, ⟨rfl, ⟨rfl, ⟨rfl, ⟨rfl, ⟨rfl, trivial⟩⟩⟩⟩⟩⟩⟩⟩⟩⟩⟩⟩⟩⟩⟩⟩⟩
    · have h := h.2 hc
      refine wp_iload (pc := 477) d_X12_search_477 rfl ?_
      refine wp_aload_n (pc := 479) d_X12_search_479 rfl ?_
      obtain ⟨ho8, h⟩ := h
      refine wp_getR (pc := 480) d_X12_search_480 fl_X12_187 (fun _ _ _ => rfl) ho8 ?_
      refine wp_iload (pc := 483) d_X12_search_483 rfl ?_
      obtain ⟨ho9, h⟩ := h
      obtain ⟨hi10, h⟩ := h
      refine wp_iald (pc := 485) d_X12_search_485 ho9 hi10 ?_
      refine wp_isub (pc := 486) d_X12_search_486 ?_
      refine wp_iload_n (pc := 487) d_X12_search_487 rfl ?_
      refine wp_icmp_le (pc := 488) (tgt := 505) d_X12_search_488 (by decide) (fun hc => ?_) (fun hc => ?_)
      · have h := h.1 hc
        refine wp_sub ?_ h
        exact ⟨rfl, ⟨rfl, ⟨rfl, ⟨rfl, ⟨rfl, ⟨rfl, ⟨rfl, ⟨rfl, ⟨rfl, ⟨rfl, ⟨rfl, ⟨rfl, ⟨rfl, ⟨rfl, ⟨rfl, ⟨rfl, ⟨rfl, trivial⟩⟩⟩⟩⟩⟩⟩⟩⟩⟩⟩⟩⟩⟩⟩⟩⟩
      · have h := h.2 hc
        refine wp_iload (pc := 491) d_X12_search_491 rfl ?_
        refine wp_aload_n (pc := 493) d_X12_search_493 rfl ?_
        refine wp_getR (pc := 494) d_X12_search_494 fl_X12_187 (fun _ _ _ => rfl) ho8 ?_
        refine wp_iload (pc := 497) d_X12_search_497 rfl ?_
        obtain ⟨hi11, h⟩ := h
        refine wp_iald (pc := 499) d_X12_search_499 ho9 hi11 ?_
        refine wp_isub (pc := 500) d_X12_search_500 ?_
        refine wp_iload_n (pc := 501) d_X12_search_501 rfl ?_
        refine wp_icmp_gt (pc := 502) (tgt := 516) d_X12_search_502 (by decide) (fun hc => ?_) (fun hc => ?_)
        · have h := h.1 hc
          refine wp_sub ?_ h
          exact ⟨rfl, ⟨rfl, ⟨rfl, ⟨rfl, ⟨rfl, ⟨rfl, ⟨rfl, ⟨rfl, ⟨rfl, ⟨rfl, ⟨rfl, ⟨rfl, ⟨rfl, ⟨rfl, ⟨rfl, ⟨rfl, ⟨rfl, trivial⟩⟩⟩⟩⟩⟩⟩⟩⟩⟩⟩⟩⟩⟩⟩⟩⟩
        · have h := h.2 hc
          refine wp_sub ?_ h
          exact ⟨rfl, ⟨rfl, ⟨rfl, ⟨rfl, ⟨rfl, ⟨rfl, ⟨rfl, ⟨rfl, ⟨rfl, ⟨rfl, ⟨rfl, ⟨rfl, ⟨rfl, ⟨rfl, ⟨rfl, ⟨rfl, ⟨rfl, trivial⟩⟩⟩⟩⟩⟩⟩⟩⟩⟩⟩⟩⟩⟩⟩⟩⟩
  · have h := h.2 hc
    refine wp_iload (pc := 439) d_X12_search_439 rfl ?_
    refine wp_if_ne (pc := 441) (tgt := 462) d_X12_search_441 (by decide) (fun hc => ?_) (fun hc => ?_)
    · have h := h.1 hc
      refine wp_sub ?_ h
      exact ⟨rfl, ⟨rfl, ⟨rfl, ⟨rfl, ⟨rfl, ⟨rfl, ⟨rfl, ⟨rfl, ⟨rfl, ⟨rfl, ⟨rfl, ⟨rfl, ⟨rfl, ⟨rfl, ⟨rfl, ⟨rfl, ⟨rfl, trivial⟩⟩⟩⟩⟩⟩⟩⟩⟩⟩⟩⟩⟩⟩⟩⟩⟩
    · have h := h.2 hc
      refine wp_aload_n (pc := 444) d_X12_search_444 rfl ?_
      refine wp_aload_n (pc := 445) d_X12_search_445 rfl ?_
      obtain ⟨ho12, h⟩ := h
      refine wp_getR (pc := 446) d_X12_search_446 fl_X12_190 (fun _ _ _ => rfl) ho12 ?_
      refine wp_iload (pc := 449) d_X12_search_449 rfl ?_
      refine wp_iload_n (pc := 451) d_X12_search_451 rfl ?_
      obtain ⟨hz13, h⟩ := h
      refine wp_irem (pc := 452) d_X12_search_452 hz13 ?_
      obtain ⟨ho14, h⟩ := h
      obtain ⟨hi15, h⟩ := h
      refine wp_iald (pc := 453) d_X12_search_453 ho14 hi15 ?_
      refine wp_iload (pc := 454) d_X12_search_454 rfl ?_
      refine wp_invV (pc := 456) (N := M_X12_isBetter) (As := [vi _, vi _]) (rest := []) (r := (cn_12, ct_12, 95)) d_X12_search_456 ml_X12_565 mk_X12_isBetter mv_X12_isBetter h0 ho12 rfl rfl (Nat.le_of_ble_eq_true rfl) ?_
      refine wpM.mono h (fun rr G17 hr => ?_)
      obtain ⟨r16, rfl, h⟩ := hr
      show wp E d M_X12_search 459 [some (vr _), some (vi _), some (vi _), some (vi _), some (vi _), some (vi _), some (vi _), some (vi _), some (vi _), some (vi _), some (vi _), some (vi _), some (vi _), some (vi _), some (vi _), some (vi _), some (vi _), none] [vi _] G17 Q
      refine wp_if_ne (pc := 459) (tgt := 466) d_X12_search_459 (by decide) (fun hc => ?_) (fun hc => ?_)
      · have h := h.1 hc
        refine wp_iconst (pc := 466) (v := 0) d_X12_search_466 rfl ?_
        refine wp_sub ?_ h
        exact ⟨rfl, ⟨rfl, ⟨rfl, ⟨rfl, ⟨rfl, ⟨rfl, ⟨rfl, ⟨rfl, ⟨rfl, ⟨rfl, ⟨rfl, ⟨rfl, ⟨rfl, ⟨rfl, ⟨rfl, ⟨rfl, ⟨rfl, trivial⟩⟩⟩⟩⟩⟩⟩⟩⟩⟩⟩⟩⟩⟩⟩⟩⟩
      · have h := h.2 hc
        refine wp_sub ?_ h
        exact ⟨rfl, ⟨rfl, ⟨rfl, ⟨rfl, ⟨rfl, ⟨rfl, ⟨rfl, ⟨rfl, ⟨rfl, ⟨rfl, ⟨rfl, ⟨rfl, ⟨rfl, ⟨rfl, ⟨rfl, ⟨rfl, ⟨rfl, trivial⟩⟩⟩⟩⟩⟩⟩⟩⟩⟩⟩⟩⟩⟩⟩⟩⟩
theorem v_X12_search_462 {E : EE} {d : Nat} {Q : Option AV → AH → Prop} {x0 : Nat} {x1 : Int32} {x2 : Int32} {x3 : Int32} {x4 : Int32} {x5 : Int32} {x6 : Int32} {x7 : Int32} {x8 : Int32} {x9 : Int32} {x10 : Int32} {x11 : Int32} {x12 : Int32} {x13 : Int32} {x14 : Int32} {x15 : Int32} {x16 : Int32} {G : AH} (h : wp E d M_X12_search 467 [some (vr x0), some (vi x1), some (vi x2), some (vi x3), some (vi x4), some (vi x5), some (vi x6), some (vi x7), some (vi x8), some (vi x9), some (vi x10), some (vi x11), some (vi x12), some (vi x13), some (vi x14), some (vi x15), some (vi x16), none] [vi 1] G Q) : wp E d M_X12_search 462 [some (vr x0), some (vi x1), some (vi x2), some (vi x3), some (vi x4), some (vi x5), some (vi x6), some (vi x7), some (vi x8), some (vi x9), some (vi x10), some (vi x11), some (vi x12), some (vi x13), some (vi x14), some (vi x15), some (vi x16), none] [] G Q := by
  refine wp_iconst (pc := 462) (v := 1) d_X12_search_462 rfl ?_
  refine wp_goto (pc := 463) (tgt := 467) d_X12_search_463 (by decide) ?_
  refine wp_sub ?_ h
  exact ⟨rfl, ⟨rfl, ⟨rfl, ⟨rfl, ⟨rfl, ⟨rfl, ⟨rfl, ⟨rfl, ⟨rfl, ⟨rfl, ⟨rfl, ⟨rfl, ⟨rfl, ⟨rfl, ⟨rfl, ⟨rfl, ⟨rfl, trivial⟩⟩⟩⟩⟩⟩⟩⟩⟩⟩⟩⟩⟩⟩⟩⟩⟩
theorem v_X12_search_467 {E : EE} {d : Nat} {Q : Option AV → AH → Prop} {x0 : Nat} {x1 : Int32} {x2 : Int32} {x3 : Int32} {x4 : Int32} {x5 : Int32} {x6 : Int32} {x7 : Int32} {x8 : Int32} {x9 : Int32} {x10 : Int32} {x11 : Int32} {x12 : Int32} {x13 : Int32} {x14 : Int32} {x15 : Int32} {x16 : Int32} {t0 : Int32} {G : AH} (h : wp E d M_X12_search 608 [some (vr x0), some (vi x1), some (vi x2), some (vi x3), some (vi x4), some (vi x5), some (vi x6), some (vi x7), some (vi x8), some (vi x9), some (vi x10), some (vi x11), some (vi x12), some (vi x13), some (vi x14), some (vi x15), some (vi t0), none] [] G Q) : wp E d M_X12_search 467 [some (vr x0), some (vi x1), some (vi x2), some (vi x3), some (vi x4), some (vi x5), some (vi x6), some (vi x7), some (vi x8), some (vi x9), some (vi x10), some (vi x11), some (vi x12), some (vi x13), some (vi x14), some (vi x15), some (vi x16), none] [vi t0] G Q := by
  refine wp_istore (pc := 467) (lv' := [some (vr _), some (vi _), some (vi _), some (vi _), some (vi _), some (vi _), some (vi _), some (vi _), some (vi _), some (vi _), some (vi _), some (vi _), some (vi _), some (vi _), some (vi _), some (vi _), some (vi _), none]) d_X12_search_467 (by decide) rfl ?_
  refine wp_goto (pc := 469) (tgt := 608) d_X12_search_469 (by decide) ?_
  refine wp_sub ?_ h
  exact ⟨rfl, ⟨rfl, ⟨rfl, ⟨rfl, ⟨rfl, ⟨rfl, ⟨rfl, ⟨rfl, ⟨rfl, ⟨rfl, ⟨rfl, ⟨rfl, ⟨rfl, ⟨rfl, ⟨rfl, ⟨rfl, ⟨rfl, trivial⟩⟩⟩⟩⟩⟩⟩⟩⟩⟩⟩⟩⟩⟩⟩⟩⟩
theorem v_X12_search_505 {E : EE} {d : Nat} {Q : Option AV → AH → Prop} {x0 : Nat} {x1 : Int32} {x2 : Int32} {x3 : Int32} {x4 : Int32} {x5 : Int32} {x6 : Int32} {x7 : Int32} {x8 : Int32} {x9 : Int32} {x10 : Int32} {x11 : Int32} {x12 : Int32} {x13 : Int32} {x14 : Int32} {x15 : Int32} {x16 : Int32} {G : AH} (h0 : 0 < d) (h : isO E G x0 12 ∧ (wpI E (d - 1) M_X12_isBetter [vr x0, vi x14, vi x8] G (fun r1 G2 => (r1 = 0 → wp E d M_X12_search 521 [some (vr x0), some (vi x1), some (vi x2), some (vi x3), some (vi x4), some (vi x5), some (vi x6), some (vi x7), some (vi x8), some (vi x9), some (vi x10), some (vi x11), some (vi x12), some (vi x13), some (vi x14), some (vi x15), some (vi x16), none] [vi 0] G2 Q) ∧ (¬ (r1 = 0) → wp E d M_X12_search 516 [some (vr x0), some (vi x1), some (vi x2), some (vi x3), some (vi x4), some (vi x5), some (vi x6), some (vi x7), some (vi x8), some (vi x9), some (vi x10), some (vi x11), some (vi x12), some (vi x13), some (vi x14), some (vi x15), some (vi x16), none] [] G2 Q)))) : wp E d M_X12_search 505 [some (vr x0), some (vi x1), some (vi x2), some (vi x3), some (vi x4), some (vi x5), some (vi x6), some (vi x7), some (vi x8), some (vi x9), some (vi x10), some (vi x11), some (vi x12), some (vi x13), some (vi x14), some (vi x15), some (vi x16), none] [] G Q := by
  refine wp_aload_n (pc := 505) d_X12_search_505 rfl ?_
  refine wp_iload (pc := 506) d_X12_search_506 rfl ?_
  refine wp_iload (pc := 508) d_X12_search_508 rfl ?_
  obtain ⟨ho3, h⟩ := h
  refine wp_invV (pc := 510) (N := M_X12_isBetter) (As := [vi _, vi _]) (rest := []) (r := (cn_12, ct_12, 95)) d_X12_search_510 ml_X12_565 mk_X12_isBetter mv_X12_isBetter h0 ho3 rfl rfl (Nat.le_of_ble_eq_true rfl) ?_
  refine wpM.mono h (fun rr G2 hr => ?_)
  obtain ⟨r1, rfl, h⟩ := hr
  show wp E d M_X12_search 513 [some (vr _), some (vi _), some (vi _), some (vi _), some (vi _), some (vi _), some (vi _), some (vi _), some (vi _), some (vi _), some (vi _), some (vi _), some (vi _), some (vi _), some (vi _), some (vi _), some (vi _), none] [vi _] G2 Q
  refine wp_if_eq (pc := 513) (tgt := 520) d_X12_search_513 (by decide) (fun hc => ?_) (fun hc => ?_)
  · have h := h.1 hc
    refine wp_iconst (pc := 520) (v := 0) d_X12_search_520 rfl ?_
    refine wp_sub ?_ h
    exact ⟨rfl, ⟨rfl, ⟨rfl, ⟨rfl, ⟨rfl, ⟨rfl, ⟨rfl, ⟨rfl, ⟨rfl, ⟨rfl, ⟨rfl, ⟨rfl, ⟨rfl, ⟨rfl, ⟨rfl, ⟨rfl, ⟨rfl, trivial⟩⟩⟩⟩⟩⟩⟩⟩⟩⟩⟩⟩⟩⟩⟩⟩⟩
  · have h := h.2 hc
    refine wp_sub ?_ h
    exact ⟨rfl, ⟨rfl, ⟨rfl, ⟨rfl, ⟨rfl, ⟨rfl, ⟨rfl, ⟨rfl, ⟨rfl, ⟨rfl, ⟨rfl, ⟨rfl, ⟨rfl, ⟨rfl, ⟨rfl, ⟨rfl, ⟨rfl, trivial⟩⟩⟩⟩⟩⟩⟩⟩⟩⟩⟩⟩⟩⟩⟩⟩⟩
theorem v_X12_search_516 {E : EE} {d : Nat} {Q : Option AV → AH → Prop} {x0 : Nat} {x1 : Int32} {x2 : Int32} {x3 : Int32} {x4 : Int32} {x5 : Int32} {x6 : Int32} {x7 : Int32} {x8 : Int32} {x9 : Int32} {x10 : Int32} {x11 : Int32} {x12 : Int32} {x13 : Int32} {x14 : Int32} {x15 : Int32} {x16 : Int32} {G : AH} (h : wp E d M_X12_search 521 [some (vr x0), some (vi x1), some (vi x2), some (vi x3), some (vi x4), some (vi x5), some (vi x6), some (vi x7), some (vi x8), some (vi x9), some (vi x10), some (vi x11), some (vi x12), some (vi x13), some (vi x14), some (vi x15), some (vi x16), none] [vi 1] G Q) : wp E d M_X12_search 516 [some (vr x0), some (vi x1), some (vi x2), some (vi x3), some (vi x4), some (vi x5), some (vi x6), some (vi x7), some (vi x8), some (vi x9), some (vi x10), some (vi x11), some (vi x12), some (vi x13), some (vi x14), some (vi x15), some (vi x16), none] [] G Q := by
  refine wp_iconst (pc := 516) (v := 1) d_X12_search_516 rfl ?_
  refine wp_goto (pc := 517) (tgt := 521) d_X12_search_517 (by decide) ?_
  refine wp_sub ?_ h
  exact ⟨rfl, ⟨rfl, ⟨rfl, ⟨rfl, ⟨rfl, ⟨rfl, ⟨rfl, ⟨rfl, ⟨rfl, ⟨rfl, ⟨rfl, ⟨rfl, ⟨rfl, ⟨rfl, ⟨rfl, ⟨rfl, ⟨rfl, trivial⟩⟩⟩⟩⟩⟩⟩⟩⟩⟩⟩⟩⟩⟩⟩⟩⟩
theorem v_X12_search_521 {E : EE} {d : Nat} {Q : Option AV → AH → Prop} {x0 : Nat} {x1 : Int32} {x2 : Int32} {x3 : Int32} {x4 : Int32} {x5 : Int32} {x6 : Int32} {x7 : Int32} {x8 : Int32} {x9 : Int32} {x10 : Int32} {x11 : Int32} {x12 : Int32} {x13 : Int32} {x14 : Int32} {x15 : Int32} {x16 : Int32} {t0 : Int32} {G : AH} (h : (t0 = 0 → wp E d M_X12_search 537 [some (vr x0), some (vi x1), some (vi x2), some (vi x3), some (vi x4), some (vi x5), some (vi x6), some (vi x7), some (vi x8), some (vi x9), some (vi x10), some (vi x11), some (vi x12), some (vi x13), some (vi x14), some (vi x15), some (vi x16), some (vi t0)] [] G Q) ∧ (¬ (t0 = 0) → (x15 = 0 → wp E d M_X12_search 537 [some (vr x0), some (vi x1), some (vi x2), some (vi x3), some (vi x4), some (vi x5), some (vi x6), some (vi x7), some (vi x8), some (vi x9), some (vi x10), some (vi x11), some (vi x12), some (vi x13), some (vi x14), some (vi x15), some (vi x16), some (vi t0)] [] G Q) ∧ (¬ (x15 = 0) → wp E d M_X12_search 538 [some (vr x0), some (vi x1), some (vi x2), some (vi x3), some (vi x4), some (vi x5), some (vi x6), some (vi x7), some (vi x8), some (vi x9), some (vi x10), some (vi x11), some (vi x12), some (vi x13), some (vi x14), some (vi x15), some (vi x16), some (vi t0)] [vi 1] G Q))) : wp E d M_X12_search 521 [some (vr x0), some (vi x1), some (vi x2), some (vi x3), some (vi x4), some (vi x5), some (vi x6), some (vi x7), some (vi x8), some (vi x9), some (vi x10), some (vi x11), some (vi x12), some (vi x13), some (vi x14), some (vi x15), some (vi x16), none] [vi t0] G Q := by
  refine wp_istore (pc := 521) (lv' := [some (vr _), some (vi _), some (vi _), some (vi _), some (vi _), some (vi _), some (vi _), some (vi _), some (vi _), some (vi _), some (vi _), some (vi _), some (vi _), some (vi _), some (vi _), some (vi _), some (vi _), some (vi _)]) d_X12_search_521 (by decide) rfl ?_
  refine wp_iload (pc := 523) d_X12_search_523 rfl ?_
  refine wp_if_eq (pc := 525) (tgt := 537) d_X12_search_525 (by decide) (fun hc => ?_) (fun hc => ?_)
  · have h := h.1 hc
    refine wp_sub ?_ h
    exact ⟨rfl, ⟨rfl, ⟨rfl, ⟨rfl, ⟨rfl, ⟨rfl, ⟨rfl, ⟨rfl, ⟨rfl, ⟨rfl, ⟨rfl, ⟨rfl, ⟨rfl, ⟨rfl, ⟨rfl, ⟨rfl, ⟨rfl, ⟨rfl, trivial⟩⟩⟩⟩⟩⟩⟩⟩⟩⟩⟩⟩⟩⟩⟩⟩⟩⟩
  · have h := h.2 hc
    refine wp_iload (pc := 528) d_X12_search_528 rfl ?_
    refine wp_if_eq (pc := 530) (tgt := 537) d_X12_search_530 (by decide) (fun hc => ?_) (fun hc => ?_)
    · have h := h.1 hc
      refine wp_sub ?_ h
      exact ⟨rfl, ⟨rfl, ⟨rfl, ⟨rfl, ⟨rfl, ⟨rfl, ⟨rfl, ⟨rfl, ⟨rfl, ⟨rfl, ⟨rfl, ⟨rfl, ⟨rfl, ⟨rfl, ⟨rfl, ⟨rfl, ⟨rfl, ⟨rfl, trivial⟩⟩⟩⟩⟩⟩⟩⟩⟩⟩⟩⟩⟩⟩⟩⟩⟩⟩
    · have h := h.2 hc
      refine wp_iconst (pc := 533) (v := 1) d_X12_search_533 rfl ?_
      refine wp_goto (pc := 534) (tgt := 538) d_X12_search_534 (by decide) ?_
      refine wp_sub ?_ h
      exact ⟨rfl, ⟨rfl, ⟨rfl, ⟨rfl, ⟨rfl, ⟨rfl, ⟨rfl, ⟨rfl, ⟨rfl, ⟨rfl, ⟨rfl, ⟨rfl, ⟨rfl, ⟨rfl, ⟨rfl, ⟨rfl, ⟨rfl, ⟨rfl, trivial⟩⟩⟩⟩⟩⟩⟩⟩⟩⟩⟩⟩⟩⟩⟩⟩⟩⟩
theorem v_X12_search_537 {E : EE} {d : Nat} {Q : Option AV → AH → Prop} {x0 : Nat} {x1 : Int32} {x2 : Int32} {x3 : Int32} {x4 : Int32} {x5 : Int32} {x6 : Int32} {x7 : Int32} {x8 : Int32} {x9 : Int32} {x10 : Int32} {x11 : Int32} {x12 : Int32} {x13 : Int32} {x14 : Int32} {x15 : Int32} {x16 : Int32} {x17 : Int32} {G : AH} (h : wp E d M_X12_search 538 [some (vr x0), some (vi x1), some (vi x2), some (vi x3), some (vi x4), some (vi x5), some (vi x6), some (vi x7), some (vi x8), some (vi x9), some (vi x10), some (vi x11), some (vi x12), some (vi x13), some (vi x14), some (vi x15), some (vi x16), some (vi x17)] [vi 0] G Q) : wp E d M_X12_search 537 [some (vr x0), some (vi x1), some (vi x2), some (vi x3), some (vi x4), some (vi x5), some (vi x6), some (vi x7), some (vi x8), some (vi x9), some (vi x10), some (vi x11), some (vi x12), some (vi x13), some (vi x14), some (vi x15), some (vi x16), some (vi x17)] [] G Q := by
  refine wp_iconst (pc := 537) (v := 0) d_X12_search_537 rfl ?_
  refine wp_sub ?_ h
  exact ⟨rfl, ⟨rfl, ⟨rfl, ⟨rfl, ⟨rfl, ⟨rfl, ⟨rfl, ⟨rfl, ⟨rfl, ⟨rfl, ⟨rfl, ⟨rfl, ⟨rfl, ⟨rfl, ⟨rfl, ⟨rfl, ⟨rfl, ⟨rfl, trivial⟩⟩⟩⟩⟩⟩⟩⟩⟩⟩⟩⟩⟩⟩⟩⟩⟩⟩
theorem v_X12_search_538 {E : EE} {d : Nat} {Q : Option AV → AH → Prop} {x0 : Nat} {x1 : Int32} {x2 : Int32} {x3 : Int32} {x4 : Int32} {x5 : Int32} {x6 : Int32} {x7 : Int32} {x8 : Int32} {x9 : Int32} {x10 : Int32} {x11 : Int32} {x12 : Int32} {x13 : Int32} {x14 : Int32} {x15 : Int32} {x16 : Int32} {x17 : Int32} {t0 : Int32} {G : AH} (h0 : 0 < d) (h : (x17 = 0 → wp E d M_X12_search 566 [some (vr x0), some (vi x1), some (vi x2), some (vi x3), some (vi x4), some (vi x5), some (vi x6), some (vi x7), some (vi x8), some (vi x9), some (vi x10), some (vi x11), some (vi x12), some (vi x13), some (vi x14), some (vi x15), some (vi t0), some (vi x17)] [] G Q) ∧ (¬ (x17 = 0) → (¬ x15 = 0 → wp E d M_X12_search 566 [some (vr x0), some (vi x1), some (vi x2), some (vi x3), some (vi x4), some (vi x5), some (vi x6), some (vi x7), some (vi x8), some (vi x9), some (vi x10), some (vi x11), some (vi x12), some (vi x13), some (vi x14), some (vi x15), some (vi t0), some (vi x17)] [] G Q) ∧ (x15 = 0 → isO E G x0 12 ∧ (wpI E (d - 1) M_X12_draw [vr x0, vi 8] G (fun r1 G2 => (¬ r1 = 0 → wp E d M_X12_search 564 [some (vr x0), some (vi x1), some (vi x2), some (vi x3), some (vi x4), some (vi x5), some (vi x6), some (vi x7), some (vi x8), some (vi x9), some (vi x10), some (vi x11), some (vi x12), some (vi x13), some (vi x14), some (vi x15), some (vi t0), some (vi x17)] [vi 0] G2 Q) ∧ (r1 = 0 → wp E d M_X12_search 564 [some (vr x0), some (vi x1), some (vi x2), some (vi x3), some (vi x4), some (vi x5), some (vi x6), some (vi x7), some (vi x8), some (vi x9), some (vi x10), some (vi x11), some (vi x12), some (vi x13), some (vi x14), some (vi x15), some (vi t0), some (vi x17)] [vi 1] G2 Q)))))) : wp E d M_X12_search 538 [some (vr x0), some (vi x1), some (vi x2), some (vi x3), some (vi x4), some (vi x5), some (vi x6), some (vi x7), some (vi x8), some (vi x9), some (vi x10), some (vi x11), some (vi x12), some (vi x13), some (vi x14), some (vi x15), some (vi x16), some (vi x17)] [vi t0] G Q := by
  refine wp_istore (pc := 538) (lv' := [some (vr _), some (vi _), some (vi _), some (vi _), some (vi _), some (vi _), some (vi _), some (vi _), some (vi _), some (vi _), some (vi _), some (vi _), some (vi _), some (vi _), some (vi _), some (vi _), some (vi _), some (vi _)]) d_X12_search_538 (by decide) rfl ?_
  refine wp_iload (pc := 540) d_X12_search_540 rfl ?_
  refine wp_if_eq (pc := 542) (tgt := 566) d_X12_search_542 (by decide) (fun hc => ?_) (fun hc => ?_)
  · have h := h.1 hc
    refine wp_sub ?_ h
    exact ⟨rfl, ⟨rfl, ⟨rfl, ⟨rfl, ⟨rfl, ⟨rfl, ⟨rfl, ⟨rfl, ⟨rfl, ⟨rfl, ⟨rfl, ⟨rfl, ⟨rfl, ⟨rfl, ⟨rfl, ⟨rfl, ⟨rfl, ⟨rfl, trivial⟩⟩⟩⟩⟩⟩⟩⟩⟩⟩⟩⟩⟩⟩⟩⟩⟩⟩
  · have h := h.2 hc
    refine wp_iload (pc := 545) d_X12_search_545 rfl ?_
    refine wp_if_ne (pc := 547) (tgt := 566) d_X12_search_547 (by decide) (fun hc => ?_) (fun hc => ?_)
    · have h := h.1 hc
      refine wp_sub ?_ h
      exact ⟨rfl, ⟨rfl, ⟨rfl, ⟨rfl, ⟨rfl, ⟨rfl, ⟨rfl, ⟨rfl, ⟨rfl, ⟨rfl, ⟨rfl, ⟨rfl, ⟨rfl, ⟨rfl, ⟨rfl, ⟨rfl, ⟨rfl, ⟨rfl, trivial⟩⟩⟩⟩⟩⟩⟩⟩⟩⟩⟩⟩⟩⟩⟩⟩⟩⟩
    · have h := h.2 hc
      refine wp_aload_n (pc := 550) d_X12_search_550 rfl ?_
      refine wp_bipush (pc := 551) (v := 8) d_X12_search_551 rfl ?_
      obtain ⟨ho3, h⟩ := h
      refine wp_invV (pc := 553) (N := M_X12_draw) (As := [vi _]) (rest := []) (r := (cn_12, ct_12, 95)) d_X12_search_553 ml_X12_661 mk_X12_draw mv_X12_draw h0 ho3 rfl rfl (Nat.le_of_ble_eq_true rfl) ?_
      refine wpM.mono h (fun rr G2 hr => ?_)
      obtain ⟨r1, rfl, h⟩ := hr
      show wp E d M_X12_search 556 [some (vr _), some (vi _), some (vi _), some (vi _), some (vi _), some (vi _), some (vi _), some (vi _), some (vi _), some (vi _), some (vi _), some (vi _), some (vi _), some (vi _), some (vi _), some (vi _), some (vi _), some (vi _)] [vi _] G2 Q
      refine wp_if_ne (pc := 556) (tgt := 563) d_X12_search_556 (by decide) (fun hc => ?_) (fun hc => ?_)
      · have h := h.1 hc
        refine wp_iconst (pc := 563) (v := 0) d_X12_search_563 rfl ?_
        refine wp_sub ?_ h
        exact ⟨rfl, ⟨rfl, ⟨rfl, ⟨rfl, ⟨rfl, ⟨rfl, ⟨rfl, ⟨rfl, ⟨rfl, ⟨rfl, ⟨rfl, ⟨rfl, ⟨rfl, ⟨rfl, ⟨rfl, ⟨rfl, ⟨rfl, ⟨rfl, trivial⟩⟩⟩⟩⟩⟩⟩⟩⟩⟩⟩⟩⟩⟩⟩⟩⟩⟩
      · have h := h.2 hc
        refine wp_iconst (pc := 559) (v := 1) d_X12_search_559 rfl ?_
        refine wp_goto (pc := 560) (tgt := 564) d_X12_search_560 (by decide) ?_
        refine wp_sub ?_ h
        exact ⟨rfl, ⟨rfl, ⟨rfl, ⟨rfl, ⟨rfl, ⟨rfl, ⟨rfl, ⟨rfl, ⟨rfl, ⟨rfl, ⟨rfl, ⟨rfl, ⟨rfl, ⟨rfl, ⟨rfl, ⟨rfl, ⟨rfl, ⟨rfl, trivial⟩⟩⟩⟩⟩⟩⟩⟩⟩⟩⟩⟩⟩⟩⟩⟩⟩⟩
theorem v_X12_search_564 {E : EE} {d : Nat} {Q : Option AV → AH → Prop} {x0 : Nat} {x1 : Int32} {x2 : Int32} {x3 : Int32} {x4 : Int32} {x5 : Int32} {x6 : Int32} {x7 : Int32} {x8 : Int32} {x9 : Int32} {x10 : Int32} {x11 : Int32} {x12 : Int32} {x13 : Int32} {x14 : Int32} {x15 : Int32} {x16 : Int32} {x17 : Int32} {t0 : Int32} {G : AH} (h : wp E d M_X12_search 566 [some (vr x0), some (vi x1), some (vi x2), some (vi x3), some (vi x4), some (vi x5), some (vi x6), some (vi x7), some (vi x8), some (vi x9), some (vi x10), some (vi x11), some (vi x12), some (vi x13), some (vi x14), some (vi x15), some (vi t0), some (vi x17)] [] G Q) : wp E d M_X12_search 564 [some (vr x0), some (vi x1), some (vi x2), some (vi x3), some (vi x4), some (vi x5), some (vi x6), some (vi x7), some (vi x8), some (vi x9), some (vi x10), some (vi x11), some (vi x12), some (vi x13), some (vi x14), some (vi x15), some (vi x16), some (vi x17)] [vi t0] G Q := by
  refine wp_istore (pc := 564) (lv' := [some (vr _), some (vi _), some (vi _), some (vi _), some (vi _), some (vi _), some (vi _), some (vi _), some (vi _), some (vi _), some (vi _), some (vi _), some (vi _), some (vi _), some (vi _), some (vi _), some (vi _), some (vi _)]) d_X12_search_564 (by decide) rfl ?_
  refine wp_sub ?_ h
  exact ⟨rfl, ⟨rfl, ⟨rfl, ⟨rfl, ⟨rfl, ⟨rfl, ⟨rfl, ⟨rfl, ⟨rfl, ⟨rfl, ⟨rfl, ⟨rfl, ⟨rfl, ⟨rfl, ⟨rfl, ⟨rfl, ⟨rfl, ⟨rfl, trivial⟩⟩⟩⟩⟩⟩⟩⟩⟩⟩⟩⟩⟩⟩⟩⟩⟩⟩
theorem v_X12_search_566 {E : EE} {d : Nat} {Q : Option AV → AH → Prop} {x0 : Nat} {x1 : Int32} {x2 : Int32} {x3 : Int32} {x4 : Int32} {x5 : Int32} {x6 : Int32} {x7 : Int32} {x8 : Int32} {x9 : Int32} {x10 : Int32} {x11 : Int32} {x12 : Int32} {x13 : Int32} {x14 : Int32} {x15 : Int32} {x16 : Int32} {x17 : Int32} {G : AH} (h : wp E d M_X12_search 608 [some (vr x0), some (vi x1), some (vi x2), some (vi x3), some (vi x4), some (vi x5), some (vi x6), some (vi x7), some (vi x8), some (vi x9), some (vi x10), some (vi x11), some (vi x12), some (vi x13), some (vi x14), some (vi x15), some (vi x16), none] [] G Q) : wp E d M_X12_search 566 [some (vr x0), some (vi x1), some (vi x2), some (vi x3), some (vi x4), some (vi x5), some (vi x6), some (vi x7), some (vi x8), some (vi x9), some (vi x10), some (vi x11), some (vi x12), some (vi x13), some (vi x14), some (vi x15), some (vi x16), some (vi x17)] [] G Q := by
  refine wp_goto (pc := 566) (tgt := 608) d_X12_search_566 (by decide) ?_
  refine wp_sub ?_ h
  exact ⟨rfl, ⟨rfl, ⟨rfl, ⟨rfl, ⟨rfl, ⟨rfl, ⟨rfl, ⟨rfl, ⟨rfl, ⟨rfl, ⟨rfl, ⟨rfl, ⟨rfl, ⟨rfl, ⟨rfl, ⟨rfl, ⟨rfl, trivial⟩⟩⟩⟩⟩⟩⟩⟩⟩⟩⟩⟩⟩⟩⟩⟩⟩
theorem v_X12_search_606 {E : EE} {d : Nat} {Q : Option AV → AH → Prop} {x0 : Nat} {x1 : Int32} {x2 : Int32} {x3 : Int32} {x4 : Int32} {x5 : Int32} {x6 : Int32} {x7 : Int32} {x8 : Int32} {x9 : Int32} {x10 : Int32} {x11 : Int32} {x12 : Int32} {x13 : Int32} {x14 : Int32} {x15 : Int32} {x16 : Int32} {t0 : Int32} {G : AH} (h : wp E d M_X12_search 608 [some (vr x0), some (vi x1), some (vi x2), some (vi x3), some (vi x4), some (vi x5), some (vi x6), some (vi x7), some (vi x8), some (vi x9), some (vi x10), some (vi x11), some (vi x12), some (vi x13), some (vi x14), some (vi x15), some (vi t0), none] [] G Q) : wp E d M_X12_search 606 [some (vr x0), some (vi x1), some (vi x2), some (vi x3), some (vi x4), some (vi x5), some (vi x6), some (vi x7), some (vi x8), some (vi x9), some (vi x10), some (vi x11), some (vi x12), some (vi x13), some (vi x14), some (vi x15), some (vi x16), none] [vi t0] G Q := by
  refine wp_istore (pc := 606) (lv' := [some (vr _), some (vi _), some (vi _), some (vi _), some (vi _), some (vi _), some (vi _), some (vi _), some (vi _), some (vi _), some (vi _), some (vi _), some (vi _), some (vi _), some (vi _), some (vi _), some (vi _), none]) d_X12_search_606 (by decide) rfl ?_
  refine wp_sub ?_ h
  exact ⟨rfl, ⟨rfl, ⟨rfl, ⟨rfl, ⟨rfl, ⟨rfl, ⟨rfl, ⟨rfl, ⟨rfl, ⟨rfl, ⟨rfl, ⟨rfl, ⟨rfl, ⟨rfl, ⟨rfl, ⟨rfl, ⟨rfl, trivial⟩⟩⟩⟩⟩⟩⟩⟩⟩⟩⟩⟩⟩⟩⟩⟩⟩
theorem v_X12_search_608 {E : EE} {d : Nat} {Q : Option AV → AH → Prop} {x0 : Nat} {x1 : Int32} {x2 : Int32} {x3 : Int32} {x4 : Int32} {x5 : Int32} {x6 : Int32} {x7 : Int32} {x8 : Int32} {x9 : Int32} {x10 : Int32} {x11 : Int32} {x12 : Int32} {x13 : Int32} {x14 : Int32} {x15 : Int32} {x16 : Int32} {G : AH} (h0 : 0 < d) (h : (x16 = 0 → wp E d M_X12_search 673 [some (vr x0), some (vi x1), some (vi x2), some (vi x3), some (vi x4), some (vi x5), some (vi x6), some (vi x7), some (vi x8), some (vi x9), some (vi x10), some (vi x11), some (vi x12), some (vi x13), some (vi x14), some (vi x15), some (vi x16), none] [] G Q) ∧ (¬ (x16 = 0) → isO E G x0 12 ∧ (∀ G2 : AH, G2 = sI G x0 77 ((31 * (gI G x0 77)) + x11) → isO E G2 (gR G2 x0 81) 14 ∧ (vp_in x12 (gN G2 (gR G2 x0 81)) ∧ (∀ G6 : AH, G6 = sI G2 (gR G2 x0 81) (Int32.toNatClampNeg x12) x10 → isO E G6 (gR G6 x0 81) 14 ∧ (vp_in x13 (gN G6 (gR G6 x0 81)) ∧ (∀ G10 : AH, G10 = sI G6 (gR G6 x0 81) (Int32.toNatClampNeg x13) x10 → wpI E (d - 1) M_X12_isBetter [vr x0, vi x14, vi x8] G10 (fun r12 G13 => (r12 = 0 → wp E d M_X12_search 673 [some (vr x0), some (vi x1), some (vi x2), some (vi x3), some (vi x4), some (vi x5), some (vi x6), some (vi x14), some (vi x8), some (vi (x9 + 1)), some (vi x10), some (vi x11), some (vi x12), some (vi x13), some (vi x14), some (vi x15), some (vi x16), none] [] G13 Q) ∧ (¬ (r12 = 0) → isO E G13 x0 12 ∧ (∀ G15 : AH, G15 = sI G13 x0 78 x10 → wp E d M_X12_search 673 [some (vr x0), some (vi x1), some (vi x2), some (vi x3), some (vi x4), some (vi x5), some (vi x6), some (vi x14), some (vi x14), some (vi (x9 + 1)), some (vi x10), some (vi x11), some (vi x12), some (vi x13), some (vi x14), some (vi x15), some (vi x16), none] [] G15 Q)))))))))) : wp E d M_X12_search 608 [some (vr x0), some (vi x1), some (vi x2), some (vi x3), some (vi x4), some (vi x5), some (vi x6), some (vi x7), some (vi x8), some (vi x9), some (vi x10), some (vi x11), some (vi x12), some (vi x13), some (vi x14), some (vi x15), some (vi x16), none] [] G Q := by
  refine wp_iload (pc := 608) d_X12_search_608 rfl ?_
  refine wp_if_eq (pc := 610) (tgt := 673) d_X12_search_610 (by decide) (fun hc => ?_) (fun hc => ?_)
  · have h := h.1 hc
    refine wp_sub ?_ h
    exact ⟨rfl, ⟨rfl, ⟨rfl, ⟨rfl, ⟨rfl, ⟨rfl, ⟨rfl, ⟨rfl, ⟨rfl, ⟨rfl, ⟨rfl, ⟨rfl, ⟨rfl, ⟨rfl, ⟨rfl, ⟨rfl, ⟨rfl, trivial⟩⟩⟩⟩⟩⟩⟩⟩⟩⟩⟩⟩⟩⟩⟩⟩⟩
  · have h := h.2 hc
    refine wp_iload (pc := 613) d_X12_search_613 rfl ?_
    refine wp_istore (pc := 615) (lv' := [some (vr _), some (vi _), some (vi _), some (vi _), some (vi _), some (vi _), some (vi _), some (vi _), some (vi _), some (vi _), some (vi _), some (vi _), some (vi _), some (vi _), some (vi _), some (vi _), some (vi _), none]) d_X12_search_615 (by decide) rfl ?_
    refine wp_iinc (pc := 617) (v := 1) (lv' := [some (vr _), some (vi _), some (vi _), some (vi _), some (vi _), some (vi _), some (vi _), some (vi _), some (vi _), some (vi _), some (vi _), some (vi _), some (vi _), some (vi _), some (vi _), some (vi _), some (vi _), none]) d_X12_search_617 (by decide) rfl rfl rfl ?_
    refine wp_aload_n (pc := 620) d_X12_search_620 rfl ?_
    refine wp_bipush (pc := 621) (v := 31) d_X12_search_621 rfl ?_
    refine wp_aload_n (pc := 623) d_X12_search_623 rfl ?_
    obtain ⟨ho1, h⟩ := h
    refine wp_getI (pc := 624) d_X12_search_624 fl_X12_655 (fun _ _ _ => rfl) ho1 ?_
    refine wp_imul (pc := 627) d_X12_search_627 ?_
    refine wp_iload (pc := 628) d_X12_search_628 rfl ?_
    refine wp_iadd (pc := 630) d_X12_search_630 ?_
    refine wp_putI (pc := 631) d_X12_search_631 fl_X12_655 (fun _ _ _ => rfl) (Or.inl rfl) ho1 (okI_int _) ?_
    refine wp_nm (fun G2 eG2 => ?_)
    have h := h G2 eG2
    have ho3 := isO_sI eG2 ho1
    refine wp_aload_n (pc := 634) d_X12_search_634 rfl ?_
    refine wp_getR (pc := 635) d_X12_search_635 fl_X12_187 (fun _ _ _ => rfl) ho3 ?_
    refine wp_iload (pc := 638) d_X12_search_638 rfl ?_
    refine wp_iload (pc := 640) d_X12_search_640 rfl ?_
    obtain ⟨ho4, h⟩ := h
    obtain ⟨hi5, h⟩ := h
    refine wp_iast (pc := 642) d_X12_search_642 ho4 hi5 ?_
    refine wp_nm (fun G6 eG6 => ?_)
    have h := h G6 eG6
    have ho7 := isO_sI eG6 ho3
    refine wp_aload_n (pc := 643) d_X12_search_643 rfl ?_
    refine wp_getR (pc := 644) d_X12_search_644 fl_X12_187 (fun _ _ _ => rfl) ho7 ?_
    refine wp_iload (pc := 647) d_X12_search_647 rfl ?_
    refine wp_iload (pc := 649) d_X12_search_649 rfl ?_
    obtain ⟨ho8, h⟩ := h
    obtain ⟨hi9, h⟩ := h
    refine wp_iast (pc := 651) d_X12_search_651 ho8 hi9 ?_
    refine wp_nm (fun G10 eG10 => ?_)
    have h := h G10 eG10
    have ho11 := isO_sI eG10 ho7
    refine wp_aload_n (pc := 652) d_X12_search_652 rfl ?_
    refine wp_iload (pc := 653) d_X12_search_653 rfl ?_
    refine wp_iload (pc := 655) d_X12_search_655 rfl ?_
    refine wp_invV (pc := 657) (N := M_X12_isBetter) (As := [vi _, vi _]) (rest := []) (r := (cn_12, ct_12, 95)) d_X12_search_657 ml_X12_565 mk_X12_isBetter mv_X12_isBetter h0 ho11 rfl rfl (Nat.le_of_ble_eq_true rfl) ?_
    refine wpM.mono h (fun rr G13 hr => ?_)
    obtain ⟨r12, rfl, h⟩ := hr
    show wp E d M_X12_search 660 [some (vr _), some (vi _), some (vi _), some (vi _), some (vi _), some (vi _), some (vi _), some (vi _), some (vi _), some (vi _), some (vi _), some (vi _), some (vi _), some (vi _), some (vi _), some (vi _), some (vi _), none] [vi _] G13 Q
    refine wp_if_eq (pc := 660) (tgt := 673) d_X12_search_660 (by decide) (fun hc => ?_) (fun hc => ?_)
    · have h := h.1 hc
      refine wp_sub ?_ h
      exact ⟨rfl, ⟨rfl, ⟨rfl, ⟨rfl, ⟨rfl, ⟨rfl, ⟨rfl, ⟨rfl, ⟨rfl, ⟨rfl, ⟨rfl, ⟨rfl, ⟨rfl, ⟨rfl, ⟨rfl, ⟨rfl, ⟨rfl, trivial⟩⟩⟩⟩⟩⟩⟩⟩⟩⟩⟩⟩⟩⟩⟩⟩⟩
    · have h := h.2 hc
      refine wp_iload (pc := 663) d_X12_search_663 rfl ?_
      refine wp_istore (pc := 665) (lv' := [some (vr _), some (vi _), some (vi _), some (vi _), some (vi _), some (vi _), some (vi _), some (vi _), some (vi _), some (vi _), some (vi _), some (vi _), some (vi _), some (vi _), some (vi _), some (vi _), some (vi _), none]) d_X12_search_665 (by decide) rfl ?_
      refine wp_aload_n (pc := 667) d_X12_search_667 rfl ?_
      refine wp_iload (pc := 668) d_X12_search_668 rfl ?_
      obtain ⟨ho14, h⟩ := h
      refine wp_putI (pc := 670) d_X12_search_670 fl_X12_181 (fun _ _ _ => rfl) (Or.inl rfl) ho14 (okI_int _) ?_
      refine wp_nm (fun G15 eG15 => ?_)
      have h := h G15 eG15
      have ho16 := isO_sI eG15 ho14
      refine wp_sub ?_ h
      exact ⟨rfl, ⟨rfl, ⟨rfl, ⟨rfl, ⟨rfl, ⟨rfl, ⟨rfl, ⟨rfl, ⟨rfl, ⟨rfl, ⟨rfl, ⟨rfl, ⟨rfl, ⟨rfl, ⟨rfl, ⟨rfl, ⟨rfl, trivial⟩⟩⟩⟩⟩⟩⟩⟩⟩⟩⟩⟩⟩⟩⟩⟩⟩
theorem v_X12_search_673 {E : EE} {d : Nat} {Q : Option AV → AH → Prop} {x0 : Nat} {x1 : Int32} {x2 : Int32} {x3 : Int32} {x4 : Int32} {x5 : Int32} {x6 : Int32} {x7 : Int32} {x8 : Int32} {x9 : Int32} {x10 : Int32} {x11 : Int32} {x12 : Int32} {x13 : Int32} {x14 : Int32} {x15 : Int32} {x16 : Int32} {G : AH} (h : (¬ x2 = 1 → wp E d M_X12_search 689 [some (vr x0), some (vi x1), some (vi x2), some (vi x3), some (vi x4), some (vi x5), some (vi x6), some (vi x7), some (vi x8), some (vi x9), some (vi x10), some (vi x11), some (vi x12), some (vi x13), some (vi x14), some (vi x15), some (vi x16), none] [] G Q) ∧ (x2 = 1 → isO E G x0 12 ∧ (¬ x3 = 0 ∧ (isO E G (gR G x0 82) 14 ∧ (vp_in (x10 - x10 / x3 * x3) (gN G (gR G x0 82)) ∧ (wp E d M_X12_search 689 [some (vr x0), some (vi x1), some (vi x2), some (vi x3), some (vi x4), some (vi x5), some (vi x6), some (vi x7), some (vi x8), some (vi x9), some (vi x10), some (vi x11), some (vi x12), some (vi x13), some (vi x14), some (vi x15), some (vi x16), none] [] (sI G (gR G x0 82) (Int32.toNatClampNeg (x10 - x10 / x3 * x3)) x7) Q)))))) : wp E d M_X12_search 673 [some (vr x0), some (vi x1), some (vi x2), some (vi x3), some (vi x4), some (vi x5), some (vi x6), some (vi x7), some (vi x8), some (vi x9), some (vi x10), some (vi x11), some (vi x12), some (vi x13), some (vi x14), some (vi x15), some (vi x16), none] [] G Q := by
  refine wp_iload_n (pc := 673) d_X12_search_673 rfl ?_
  refine wp_iconst (pc := 674) (v := 1) d_X12_search_674 rfl ?_
  refine wp_icmp_ne (pc := 675) (tgt := 689) d_X12_search_675 (by decide) (fun hc => ?_) (fun hc => ?_)
  · have h := h.1 hc
    refine wp_sub ?_ h
    exact ⟨rfl, ⟨rfl, ⟨rfl, ⟨rfl, ⟨rfl, ⟨rfl, ⟨rfl, ⟨rfl, ⟨rfl, ⟨rfl, ⟨rfl, ⟨rfl, ⟨rfl, ⟨rfl, ⟨rfl, ⟨rfl, ⟨rfl, trivial⟩⟩⟩⟩⟩⟩⟩⟩⟩⟩⟩⟩⟩⟩⟩⟩⟩
  · have h := h.2 hc
    refine wp_aload_n (pc := 678) d_X12_search_678 rfl ?_
    obtain ⟨ho1, h⟩ := h
    refine wp_getR (pc := 679) d_X12_search_679 fl_X12_190 (fun _ _ _ => rfl) ho1 ?_
    refine wp_iload (pc := 682) d_X12_search_682 rfl ?_
    refine wp_iload_n (pc := 684) d_X12_search_684 rfl ?_
    obtain ⟨hz2, h⟩ := h
    refine wp_irem (pc := 685) d_X12_search_685 hz2 ?_
    refine wp_iload (pc := 686) d_X12_search_686 rfl ?_
    obtain ⟨ho3, h⟩ := h
    obtain ⟨hi4, h⟩ := h
    refine wp_iast (pc := 688) d_X12_search_688 ho3 hi4 ?_
    refine wp_sub ?_ h
    exact ⟨rfl, ⟨rfl, ⟨rfl, ⟨rfl, ⟨rfl, ⟨rfl, ⟨rfl, ⟨rfl, ⟨rfl, ⟨rfl, ⟨rfl, ⟨rfl, ⟨rfl, ⟨rfl, ⟨rfl, ⟨rfl, ⟨rfl, trivial⟩⟩⟩⟩⟩⟩⟩⟩⟩⟩⟩⟩⟩⟩⟩⟩⟩
theorem v_X12_search_689 {E : EE} {d : Nat} {Q : Option AV → AH → Prop} {x0 : Nat} {x1 : Int32} {x2 : Int32} {x3 : Int32} {x4 : Int32} {x5 : Int32} {x6 : Int32} {x7 : Int32} {x8 : Int32} {x9 : Int32} {x10 : Int32} {x11 : Int32} {x12 : Int32} {x13 : Int32} {x14 : Int32} {x15 : Int32} {x16 : Int32} {G : AH} (h : wp E d M_X12_search 220 [some (vr x0), some (vi x1), some (vi x2), some (vi x3), some (vi x4), some (vi x5), some (vi x6), some (vi x7), some (vi x8), some (vi x9), some (vi (x10 + 1)), none, none, none, none, none, none, none] [] G Q) : wp E d M_X12_search 689 [some (vr x0), some (vi x1), some (vi x2), some (vi x3), some (vi x4), some (vi x5), some (vi x6), some (vi x7), some (vi x8), some (vi x9), some (vi x10), some (vi x11), some (vi x12), some (vi x13), some (vi x14), some (vi x15), some (vi x16), none] [] G Q := by
  refine wp_iinc (pc := 689) (v := 1) (lv' := [some (vr _), some (vi _), some (vi _), some (vi _), some (vi _), some (vi _), some (vi _), some (vi _), some (vi _), some (vi _), some (vi _), some (vi _), some (vi _), some (vi _), some (vi _), some (vi _), some (vi _), none]) d_X12_search_689 (by decide) rfl rfl rfl ?_
  refine wp_goto (pc := 692) (tgt := 220) d_X12_search_692 (by decide) ?_
  refine wp_sub ?_ h
  exact ⟨rfl, ⟨rfl, ⟨rfl, ⟨rfl, ⟨rfl, ⟨rfl, ⟨rfl, ⟨rfl, ⟨rfl, ⟨rfl, ⟨rfl, trivial⟩⟩⟩⟩⟩⟩⟩⟩⟩⟩⟩
theorem d_X12_draw_0 : decode prog_14_method_150_code 0 = .ok (.aload_n 0, 1) := by decide +kernel
theorem d_X12_draw_1 : decode prog_14_method_150_code 1 = .ok (.aload_n 0, 1) := by decide +kernel
theorem d_X12_draw_2 : decode prog_14_method_150_code 2 = .ok (.getfield 646, 3) := by decide +kernel
theorem d_X12_draw_5 : decode prog_14_method_150_code 5 = .ok (.ldc_w 649, 3) := by decide +kernel
theorem d_X12_draw_8 : decode prog_14_method_150_code 8 = .ok (.imul, 1) := by decide +kernel
theorem d_X12_draw_9 : decode prog_14_method_150_code 9 = .ok (.ldc_w 650, 3) := by decide +kernel
theorem d_X12_draw_12 : decode prog_14_method_150_code 12 = .ok (.iadd, 1) := by decide +kernel
theorem d_X12_draw_13 : decode prog_14_method_150_code 13 = .ok (.putfield 646, 3) := by decide +kernel
theorem d_X12_draw_16 : decode prog_14_method_150_code 16 = .ok (.aload_n 0, 1) := by decide +kernel
theorem d_X12_draw_17 : decode prog_14_method_150_code 17 = .ok (.getfield 646, 3) := by decide +kernel
theorem d_X12_draw_20 : decode prog_14_method_150_code 20 = .ok (.bipush 8, 2) := by decide +kernel
theorem d_X12_draw_22 : decode prog_14_method_150_code 22 = .ok (.iushr, 1) := by decide +kernel
theorem d_X12_draw_23 : decode prog_14_method_150_code 23 = .ok (.iload_n 1, 1) := by decide +kernel
theorem d_X12_draw_24 : decode prog_14_method_150_code 24 = .ok (.irem, 1) := by decide +kernel
theorem d_X12_draw_25 : decode prog_14_method_150_code 25 = .ok (.ireturn, 1) := by decide +kernel
theorem v_X12_draw_0 {E : EE} {d : Nat} {Q : Option AV → AH → Prop} {x0 : Nat} {x1 : Int32} {G : AH} (h : isO E G x0 12 ∧ (¬ x1 = 0 ∧ (Q (some (vi ((iushr (gI (sI G x0 76 (((gI G x0 76) * 1664525) + 1013904223)) x0 76) 8) - (iushr (gI (sI G x0 76 (((gI G x0 76) * 1664525) + 1013904223)) x0 76) 8) / x1 * x1))) (sI G x0 76 (((gI G x0 76) * 1664525) + 1013904223))))) : wp E d M_X12_draw 0 [some (vr x0), some (vi x1)] [] G Q := by
  refine wp_aload_n (pc := 0) d_X12_draw_0 rfl ?_
  refine wp_aload_n (pc := 1) d_X12_draw_1 rfl ?_
  obtain ⟨ho1, h⟩ := h
  refine wp_getI (pc := 2) d_X12_draw_2 fl_X12_646 (fun _ _ _ => rfl) ho1 ?_
  refine wp_ldcw (pc := 5) (v := 1664525) d_X12_draw_5 ci_X12_649 ?_
  refine wp_imul (pc := 8) d_X12_draw_8 ?_
  refine wp_ldcw (pc := 9) (v := 1013904223) d_X12_draw_9 ci_X12_650 ?_
  refine wp_iadd (pc := 12) d_X12_draw_12 ?_
  refine wp_putI (pc := 13) d_X12_draw_13 fl_X12_646 (fun _ _ _ => rfl) (Or.inl rfl) ho1 (okI_int _) ?_
  refine wp_aload_n (pc := 16) d_X12_draw_16 rfl ?_
  refine wp_getI (pc := 17) d_X12_draw_17 fl_X12_646 (fun _ _ _ => rfl) ho1 ?_
  refine wp_bipush (pc := 20) (v := 8) d_X12_draw_20 rfl ?_
  refine wp_iushr (pc := 22) d_X12_draw_22 ?_
  refine wp_iload_n (pc := 23) d_X12_draw_23 rfl ?_
  obtain ⟨hz2, h⟩ := h
  refine wp_irem (pc := 24) d_X12_draw_24 hz2 ?_
  exact wp_iret (pc := 25) d_X12_draw_25 rfl h
theorem d_X12_withPlace_0 : decode prog_14_method_152_code 0 = .ok (.iload_n 2, 1) := by decide +kernel
theorem d_X12_withPlace_1 : decode prog_14_method_152_code 1 = .ok (.iload 4, 2) := by decide +kernel
theorem d_X12_withPlace_3 : decode prog_14_method_152_code 3 = .ok (.aload_n 0, 1) := by decide +kernel
theorem d_X12_withPlace_4 : decode prog_14_method_152_code 4 = .ok (.iload_n 1, 1) := by decide +kernel
theorem d_X12_withPlace_5 : decode prog_14_method_152_code 5 = .ok (.iload_n 2, 1) := by decide +kernel
theorem d_X12_withPlace_6 : decode prog_14_method_152_code 6 = .ok (.iload_n 3, 1) := by decide +kernel
theorem d_X12_withPlace_7 : decode prog_14_method_152_code 7 = .ok (.invokevirtual 537, 3) := by decide +kernel
theorem d_X12_withPlace_10 : decode prog_14_method_152_code 10 = .ok (.isub, 1) := by decide +kernel
theorem d_X12_withPlace_11 : decode prog_14_method_152_code 11 = .ok (.aload_n 0, 1) := by decide +kernel
theorem d_X12_withPlace_12 : decode prog_14_method_152_code 12 = .ok (.getfield 67, 3) := by decide +kernel
theorem d_X12_withPlace_15 : decode prog_14_method_152_code 15 = .ok (.bipush 12, 2) := by decide +kernel
theorem d_X12_withPlace_17 : decode prog_14_method_152_code 17 = .ok (.iload_n 1, 1) := by decide +kernel
theorem d_X12_withPlace_18 : decode prog_14_method_152_code 18 = .ok (.imul, 1) := by decide +kernel
theorem d_X12_withPlace_19 : decode prog_14_method_152_code 19 = .ok (.iload_n 3, 1) := by decide +kernel
theorem d_X12_withPlace_20 : decode prog_14_method_152_code 20 = .ok (.iadd, 1) := by decide +kernel
theorem d_X12_withPlace_21 : decode prog_14_method_152_code 21 = .ok (.iaload, 1) := by decide +kernel
theorem d_X12_withPlace_22 : decode prog_14_method_152_code 22 = .ok (.imul, 1) := by decide +kernel
theorem d_X12_withPlace_23 : decode prog_14_method_152_code 23 = .ok (.iadd, 1) := by decide +kernel
theorem d_X12_withPlace_24 : decode prog_14_method_152_code 24 = .ok (.ireturn, 1) := by decide +kernel
theorem v_X12_withPlace_0 {E : EE} {d : Nat} {Q : Option AV → AH → Prop} {x0 : Nat} {x1 : Int32} {x2 : Int32} {x3 : Int32} {x4 : Int32} {G : AH} (h0 : 0 < d) (h : isO E G x0 12 ∧ (wpI E (d - 1) M_X12_place [vr x0, vi x1, vi x2, vi x3] G (fun r1 G2 => isO E G2 x0 12 ∧ (isO E G2 (gR G2 x0 20) 14 ∧ (vp_in ((12 * x1) + x3) (gN G2 (gR G2 x0 20)) ∧ (Q (some (vi (x2 + ((x4 - r1) * (gI G2 (gR G2 x0 20) (Int32.toNatClampNeg ((12 * x1) + x3))))))) G2)))))) : wp E d M_X12_withPlace 0 [some (vr x0), some (vi x1), some (vi x2), some (vi x3), some (vi x4)] [] G Q := by
  refine wp_iload_n (pc := 0) d_X12_withPlace_0 rfl ?_
  refine wp_iload (pc := 1) d_X12_withPlace_1 rfl ?_
  refine wp_aload_n (pc := 3) d_X12_withPlace_3 rfl ?_
  refine wp_iload_n (pc := 4) d_X12_withPlace_4 rfl ?_
  refine wp_iload_n (pc := 5) d_X12_withPlace_5 rfl ?_
  refine wp_iload_n (pc := 6) d_X12_withPlace_6 rfl ?_
  obtain ⟨ho6, h⟩ := h
  refine wp_invV (pc := 7) (N := M_X12_place) (As := [vi _, vi _, vi _]) (rest := [vi _, vi _]) (r := (cn_12, ct_12, 95)) d_X12_withPlace_7 ml_X12_537 mk_X12_place mv_X12_place h0 ho6 rfl rfl (Nat.le_of_ble_eq_true rfl) ?_
  refine wpM.mono h (fun rr G2 hr => ?_)
  obtain ⟨r1, rfl, h⟩ := hr
  show wp E d M_X12_withPlace 10 [some (vr _), some (vi _), some (vi _), some (vi _), some (vi _)] [vi _, vi _, vi _] G2 Q
  refine wp_isub (pc := 10) d_X12_withPlace_10 ?_
  refine wp_aload_n (pc := 11) d_X12_withPlace_11 rfl ?_
  obtain ⟨ho3, h⟩ := h
  refine wp_getR (pc := 12) d_X12_withPlace_12 fl_X12_67 (fun _ _ _ => rfl) ho3 ?_
  refine wp_bipush (pc := 15) (v := 12) d_X12_withPlace_15 rfl ?_
  refine wp_iload_n (pc := 17) d_X12_withPlace_17 rfl ?_
  refine wp_imul (pc := 18) d_X12_withPlace_18 ?_
  refine wp_iload_n (pc := 19) d_X12_withPlace_19 rfl ?_
  refine wp_iadd (pc := 20) d_X12_withPlace_20 ?_
  obtain ⟨ho4, h⟩ := h
  obtain ⟨hi5, h⟩ := h
  refine wp_iald (pc := 21) d_X12_withPlace_21 ho4 hi5 ?_
  refine wp_imul (pc := 22) d_X12_withPlace_22 ?_
  refine wp_iadd (pc := 23) d_X12_withPlace_23 ?_
  exact wp_iret (pc := 24) d_X12_withPlace_24 rfl h
theorem d_X12_worth_0 : decode prog_14_method_151_code 0 = .ok (.ldc2_w 651, 3) := by decide +kernel
theorem d_X12_worth_3 : decode prog_14_method_151_code 3 = .ok (.aload_n 0, 1) := by decide +kernel
theorem d_X12_worth_4 : decode prog_14_method_151_code 4 = .ok (.getfield 159, 3) := by decide +kernel
theorem d_X12_worth_7 : decode prog_14_method_151_code 7 = .ok (.iload_n 1, 1) := by decide +kernel
theorem d_X12_worth_8 : decode prog_14_method_151_code 8 = .ok (.laload, 1) := by decide +kernel
theorem d_X12_worth_9 : decode prog_14_method_151_code 9 = .ok (.lmul, 1) := by decide +kernel
theorem d_X12_worth_10 : decode prog_14_method_151_code 10 = .ok (.ldc2_w 653, 3) := by decide +kernel
theorem d_X12_worth_13 : decode prog_14_method_151_code 13 = .ok (.aload_n 0, 1) := by decide +kernel
theorem d_X12_worth_14 : decode prog_14_method_151_code 14 = .ok (.getfield 159, 3) := by decide +kernel
theorem d_X12_worth_17 : decode prog_14_method_151_code 17 = .ok (.sipush 20000, 3) := by decide +kernel
theorem d_X12_worth_20 : decode prog_14_method_151_code 20 = .ok (.iload_n 1, 1) := by decide +kernel
theorem d_X12_worth_21 : decode prog_14_method_151_code 21 = .ok (.iadd, 1) := by decide +kernel
theorem d_X12_worth_22 : decode prog_14_method_151_code 22 = .ok (.laload, 1) := by decide +kernel
theorem d_X12_worth_23 : decode prog_14_method_151_code 23 = .ok (.lmul, 1) := by decide +kernel
theorem d_X12_worth_24 : decode prog_14_method_151_code 24 = .ok (.ladd, 1) := by decide +kernel
theorem d_X12_worth_25 : decode prog_14_method_151_code 25 = .ok (.aload_n 0, 1) := by decide +kernel
theorem d_X12_worth_26 : decode prog_14_method_151_code 26 = .ok (.getfield 159, 3) := by decide +kernel
theorem d_X12_worth_29 : decode prog_14_method_151_code 29 = .ok (.ldc 174, 2) := by decide +kernel
theorem d_X12_worth_31 : decode prog_14_method_151_code 31 = .ok (.iload_n 1, 1) := by decide +kernel
theorem d_X12_worth_32 : decode prog_14_method_151_code 32 = .ok (.iadd, 1) := by decide +kernel
theorem d_X12_worth_33 : decode prog_14_method_151_code 33 = .ok (.laload, 1) := by decide +kernel
theorem d_X12_worth_34 : decode prog_14_method_151_code 34 = .ok (.ladd, 1) := by decide +kernel
theorem d_X12_worth_35 : decode prog_14_method_151_code 35 = .ok (.lreturn, 1) := by decide +kernel
theorem v_X12_worth_0 {E : EE} {d : Nat} {Q : Option AV → AH → Prop} {x0 : Nat} {x1 : Int32} {G : AH} (h : isO E G x0 12 ∧ (isO E G (gR G x0 66) 15 ∧ (vp_in x1 (gN G (gR G x0 66)) ∧ (vp_in (20000 + x1) (gN G (gR G x0 66)) ∧ (vp_in (40000 + x1) (gN G (gR G x0 66)) ∧ (Q (some (vj (((10000 * (gJ G (gR G x0 66) (Int32.toNatClampNeg x1))) + (100 * (gJ G (gR G x0 66) (Int32.toNatClampNeg (20000 + x1))))) + (gJ G (gR G x0 66) (Int32.toNatClampNeg (40000 + x1)))))) G)))))) : wp E d M_X12_worth 0 [some (vr x0), some (vi x1)] [] G Q := by
  refine wp_ldc2 (pc := 0) (v := 10000) d_X12_worth_0 cj_X12_651 ?_
  refine wp_aload_n (pc := 3) d_X12_worth_3 rfl ?_
  obtain ⟨ho1, h⟩ := h
  refine wp_getR (pc := 4) d_X12_worth_4 fl_X12_159 (fun _ _ _ => rfl) ho1 ?_
  refine wp_iload_n (pc := 7) d_X12_worth_7 rfl ?_
  obtain ⟨ho2, h⟩ := h
  obtain ⟨hi3, h⟩ := h
  refine wp_lald (pc := 8) d_X12_worth_8 ho2 hi3 ?_
  refine wp_lmul (pc := 9) d_X12_worth_9 ?_
  refine wp_ldc2 (pc := 10) (v := 100) d_X12_worth_10 cj_X12_653 ?_
  refine wp_aload_n (pc := 13) d_X12_worth_13 rfl ?_
  refine wp_getR (pc := 14) d_X12_worth_14 fl_X12_159 (fun _ _ _ => rfl) ho1 ?_
  refine wp_sipush (pc := 17) (v := 20000) d_X12_worth_17 rfl ?_
  refine wp_iload_n (pc := 20) d_X12_worth_20 rfl ?_
  refine wp_iadd (pc := 21) d_X12_worth_21 ?_
  obtain ⟨hi4, h⟩ := h
  refine wp_lald (pc := 22) d_X12_worth_22 ho2 hi4 ?_
  refine wp_lmul (pc := 23) d_X12_worth_23 ?_
  refine wp_ladd (pc := 24) d_X12_worth_24 ?_
  refine wp_aload_n (pc := 25) d_X12_worth_25 rfl ?_
  refine wp_getR (pc := 26) d_X12_worth_26 fl_X12_159 (fun _ _ _ => rfl) ho1 ?_
  refine wp_ldc (pc := 29) (v := 40000) d_X12_worth_29 ci_X12_174 ?_
  refine wp_iload_n (pc := 31) d_X12_worth_31 rfl ?_
  refine wp_iadd (pc := 32) d_X12_worth_32 ?_
  obtain ⟨hi5, h⟩ := h
  refine wp_lald (pc := 33) d_X12_worth_33 ho2 hi5 ?_
  refine wp_ladd (pc := 34) d_X12_worth_34 ?_
  exact wp_lret (pc := 35) d_X12_worth_35 rfl h
theorem d_X12_valueIn_0 : decode prog_14_method_153_code 0 = .ok (.aload_n 0, 1) := by decide +kernel
theorem d_X12_valueIn_1 : decode prog_14_method_153_code 1 = .ok (.getfield 70, 3) := by decide +kernel
theorem d_X12_valueIn_4 : decode prog_14_method_153_code 4 = .ok (.bipush 20, 2) := by decide +kernel
theorem d_X12_valueIn_6 : decode prog_14_method_153_code 6 = .ok (.bipush 12, 2) := by decide +kernel
theorem d_X12_valueIn_8 : decode prog_14_method_153_code 8 = .ok (.iload_n 1, 1) := by decide +kernel
theorem d_X12_valueIn_9 : decode prog_14_method_153_code 9 = .ok (.imul, 1) := by decide +kernel
theorem d_X12_valueIn_10 : decode prog_14_method_153_code 10 = .ok (.iload_n 3, 1) := by decide +kernel
theorem d_X12_valueIn_11 : decode prog_14_method_153_code 11 = .ok (.iadd, 1) := by decide +kernel
theorem d_X12_valueIn_12 : decode prog_14_method_153_code 12 = .ok (.imul, 1) := by decide +kernel
theorem d_X12_valueIn_13 : decode prog_14_method_153_code 13 = .ok (.aload_n 0, 1) := by decide +kernel
theorem d_X12_valueIn_14 : decode prog_14_method_153_code 14 = .ok (.iload_n 1, 1) := by decide +kernel
theorem d_X12_valueIn_15 : decode prog_14_method_153_code 15 = .ok (.iload_n 2, 1) := by decide +kernel
theorem d_X12_valueIn_16 : decode prog_14_method_153_code 16 = .ok (.iload_n 3, 1) := by decide +kernel
theorem d_X12_valueIn_17 : decode prog_14_method_153_code 17 = .ok (.invokevirtual 537, 3) := by decide +kernel
theorem d_X12_valueIn_20 : decode prog_14_method_153_code 20 = .ok (.iadd, 1) := by decide +kernel
theorem d_X12_valueIn_21 : decode prog_14_method_153_code 21 = .ok (.iaload, 1) := by decide +kernel
theorem d_X12_valueIn_22 : decode prog_14_method_153_code 22 = .ok (.ireturn, 1) := by decide +kernel
theorem v_X12_valueIn_0 {E : EE} {d : Nat} {Q : Option AV → AH → Prop} {x0 : Nat} {x1 : Int32} {x2 : Int32} {x3 : Int32} {G : AH} (h0 : 0 < d) (h : isO E G x0 12 ∧ (wpI E (d - 1) M_X12_place [vr x0, vi x1, vi x2, vi x3] G (fun r2 G3 => isO E G3 (gR G x0 21) 14 ∧ (vp_in ((20 * ((12 * x1) + x3)) + r2) (gN G3 (gR G x0 21)) ∧ (Q (some (vi (gI G3 (gR G x0 21) (Int32.toNatClampNeg ((20 * ((12 * x1) + x3)) + r2))))) G3))))) : wp E d M_X12_valueIn 0 [some (vr x0), some (vi x1), some (vi x2), some (vi x3)] [] G Q := by
  refine wp_aload_n (pc := 0) d_X12_valueIn_0 rfl ?_
  obtain ⟨ho1, h⟩ := h
  refine wp_getR (pc := 1) d_X12_valueIn_1 fl_X12_70 (fun _ _ _ => rfl) ho1 ?_
  refine wp_bipush (pc := 4) (v := 20) d_X12_valueIn_4 rfl ?_
  refine wp_bipush (pc := 6) (v := 12) d_X12_valueIn_6 rfl ?_
  refine wp_iload_n (pc := 8) d_X12_valueIn_8 rfl ?_
  refine wp_imul (pc := 9) d_X12_valueIn_9 ?_
  refine wp_iload_n (pc := 10) d_X12_valueIn_10 rfl ?_
  refine wp_iadd (pc := 11) d_X12_valueIn_11 ?_
  refine wp_imul (pc := 12) d_X12_valueIn_12 ?_
  refine wp_aload_n (pc := 13) d_X12_valueIn_13 rfl ?_
  refine wp_iload_n (pc := 14) d_X12_valueIn_14 rfl ?_
  refine wp_iload_n (pc := 15) d_X12_valueIn_15 rfl ?_
  refine wp_iload_n (pc := 16) d_X12_valueIn_16 rfl ?_
  refine wp_invV (pc := 17) (N := M_X12_place) (As := [vi _, vi _, vi _]) (rest := [vi _, vr _]) (r := (cn_12, ct_12, 95)) d_X12_valueIn_17 ml_X12_537 mk_X12_place mv_X12_place h0 ho1 rfl rfl (Nat.le_of_ble_eq_true rfl) ?_
  refine wpM.mono h (fun rr G3 hr => ?_)
  obtain ⟨r2, rfl, h⟩ := hr
  show wp E d M_X12_valueIn 20 [some (vr _), some (vi _), some (vi _), some (vi _)] [vi _, vi _, vr _] G3 Q
  refine wp_iadd (pc := 20) d_X12_valueIn_20 ?_
  obtain ⟨ho4, h⟩ := h
  obtain ⟨hi5, h⟩ := h
  refine wp_iald (pc := 21) d_X12_valueIn_21 ho4 hi5 ?_
  exact wp_iret (pc := 22) d_X12_valueIn_22 rfl h
theorem d_X12_putAtHand_0 : decode prog_14_method_86_code 0 = .ok (.iconst 0, 1) := by decide +kernel
theorem d_X12_putAtHand_1 : decode prog_14_method_86_code 1 = .ok (.istore_n 3, 1) := by decide +kernel
theorem d_X12_putAtHand_2 : decode prog_14_method_86_code 2 = .ok (.iload_n 3, 1) := by decide +kernel
theorem d_X12_putAtHand_3 : decode prog_14_method_86_code 3 = .ok (.aload_n 0, 1) := by decide +kernel
theorem d_X12_putAtHand_4 : decode prog_14_method_86_code 4 = .ok (.iload_n 1, 1) := by decide +kernel
theorem d_X12_putAtHand_5 : decode prog_14_method_86_code 5 = .ok (.invokevirtual 456, 3) := by decide +kernel
theorem d_X12_putAtHand_8 : decode prog_14_method_86_code 8 = .ok (.if_icmp .ge 27, 3) := by decide +kernel
theorem d_X12_putAtHand_11 : decode prog_14_method_86_code 11 = .ok (.aload_n 0, 1) := by decide +kernel
theorem d_X12_putAtHand_12 : decode prog_14_method_86_code 12 = .ok (.getfield 73, 3) := by decide +kernel
theorem d_X12_putAtHand_15 : decode prog_14_method_86_code 15 = .ok (.bipush 12, 2) := by decide +kernel
theorem d_X12_putAtHand_17 : decode prog_14_method_86_code 17 = .ok (.iload_n 1, 1) := by decide +kernel
theorem d_X12_putAtHand_18 : decode prog_14_method_86_code 18 = .ok (.imul, 1) := by decide +kernel
theorem d_X12_putAtHand_19 : decode prog_14_method_86_code 19 = .ok (.iload_n 3, 1) := by decide +kernel
theorem d_X12_putAtHand_20 : decode prog_14_method_86_code 20 = .ok (.iadd, 1) := by decide +kernel
theorem d_X12_putAtHand_21 : decode prog_14_method_86_code 21 = .ok (.aload_n 0, 1) := by decide +kernel
theorem d_X12_putAtHand_22 : decode prog_14_method_86_code 22 = .ok (.iload_n 1, 1) := by decide +kernel
theorem d_X12_putAtHand_23 : decode prog_14_method_86_code 23 = .ok (.iload_n 2, 1) := by decide +kernel
theorem d_X12_putAtHand_24 : decode prog_14_method_86_code 24 = .ok (.iload_n 3, 1) := by decide +kernel
theorem d_X12_putAtHand_25 : decode prog_14_method_86_code 25 = .ok (.invokevirtual 537, 3) := by decide +kernel
theorem d_X12_putAtHand_28 : decode prog_14_method_86_code 28 = .ok (.iastore, 1) := by decide +kernel
theorem d_X12_putAtHand_29 : decode prog_14_method_86_code 29 = .ok (.iinc 3 1, 3) := by decide +kernel
theorem d_X12_putAtHand_32 : decode prog_14_method_86_code 32 = .ok (.goto (-30), 3) := by decide +kernel
theorem d_X12_putAtHand_35 : decode prog_14_method_86_code 35 = .ok (.return_, 1) := by decide +kernel
theorem v_X12_putAtHand_0 {E : EE} {d : Nat} {Q : Option AV → AH → Prop} {x0 : Nat} {x1 : Int32} {x2 : Int32} {G : AH} (h : wp E d M_X12_putAtHand 2 [some (vr x0), some (vi x1), some (vi x2), some (vi 0)] [] G Q) : wp E d M_X12_putAtHand 0 [some (vr x0), some (vi x1), some (vi x2), none] [] G Q := by
  refine wp_iconst (pc := 0) (v := 0) d_X12_putAtHand_0 rfl ?_
  refine wp_istore_n (pc := 1) (lv' := [some (vr _), some (vi _), some (vi _), some (vi _)]) d_X12_putAtHand_1 (by decide) rfl ?_
  refine wp_sub ?_ h
  exact ⟨rfl, ⟨rfl, ⟨rfl, ⟨rfl, trivial⟩⟩⟩⟩
theorem v_X12_putAtHand_2 {E : EE} {d : Nat} {Q : Option AV → AH → Prop} {x0 : Nat} {x1 : Int32} {x2 : Int32} {x3 : Int32} {G : AH} (h0 : 0 < d) (h : isO E G x0 12 ∧ (wpI E (d - 1) M_X12_vars [vr x0, vi x1] G (fun r1 G2 => (r1 ≤ x3 → Q none G2) ∧ (¬ (r1 ≤ x3) → isO E G2 x0 12 ∧ (wpI E (d - 1) M_X12_place [vr x0, vi x1, vi x2, vi x3] G2 (fun r4 G5 => isO E G5 (gR G2 x0 22) 14 ∧ (vp_in ((12 * x1) + x3) (gN G5 (gR G2 x0 22)) ∧ (wp E d M_X12_putAtHand 2 [some (vr x0), some (vi x1), some (vi x2), some (vi (x3 + 1))] [] (sI G5 (gR G2 x0 22) (Int32.toNatClampNeg ((12 * x1) + x3)) r4) Q)))))))) : wp E d M_X12_putAtHand 2 [some (vr x0), some (vi x1), some (vi x2), some (vi x3)] [] G Q := by
  refine wp_iload_n (pc := 2) d_X12_putAtHand_2 rfl ?_
  refine wp_aload_n (pc := 3) d_X12_putAtHand_3 rfl ?_
  refine wp_iload_n (pc := 4) d_X12_putAtHand_4 rfl ?_
  obtain ⟨ho8, h⟩ := h
  refine wp_invV (pc := 5) (N := M_X12_vars) (As := [vi _]) (rest := [vi _]) (r := (cn_12, ct_12, 95)) d_X12_putAtHand_5 ml_X12_456 mk_X12_vars mv_X12_vars h0 ho8 rfl rfl (Nat.le_of_ble_eq_true rfl) ?_
  refine wpM.mono h (fun rr G2 hr => ?_)
  obtain ⟨r1, rfl, h⟩ := hr
  show wp E d M_X12_putAtHand 8 [some (vr _), some (vi _), some (vi _), some (vi _)] [vi _, vi _] G2 Q
  refine wp_icmp_ge (pc := 8) (tgt := 35) d_X12_putAtHand_8 (by decide) (fun hc => ?_) (fun hc => ?_)
  · have h := h.1 hc
    exact wp_vret (pc := 35) d_X12_putAtHand_35 rfl h
  · have h := h.2 hc
    refine wp_aload_n (pc := 11) d_X12_putAtHand_11 rfl ?_
    obtain ⟨ho3, h⟩ := h
    refine wp_getR (pc := 12) d_X12_putAtHand_12 fl_X12_73 (fun _ _ _ => rfl) ho3 ?_
    refine wp_bipush (pc := 15) (v := 12) d_X12_putAtHand_15 rfl ?_
    refine wp_iload_n (pc := 17) d_X12_putAtHand_17 rfl ?_
    refine wp_imul (pc := 18) d_X12_putAtHand_18 ?_
    refine wp_iload_n (pc := 19) d_X12_putAtHand_19 rfl ?_
    refine wp_iadd (pc := 20) d_X12_putAtHand_20 ?_
    refine wp_aload_n (pc := 21) d_X12_putAtHand_21 rfl ?_
    refine wp_iload_n (pc := 22) d_X12_putAtHand_22 rfl ?_
    refine wp_iload_n (pc := 23) d_X12_putAtHand_23 rfl ?_
    refine wp_iload_n (pc := 24) d_X12_putAtHand_24 rfl ?_
    refine wp_invV (pc := 25) (N := M_X12_place) (As := [vi _, vi _, vi _]) (rest := [vi _, vr _]) (r := (cn_12, ct_12, 95)) d_X12_putAtHand_25 ml_X12_537 mk_X12_place mv_X12_place h0 ho3 rfl rfl (Nat.le_of_ble_eq_true rfl) ?_
    refine wpM.mono h (fun rr G5 hr => ?_)
    obtain ⟨r4, rfl, h⟩ := hr
    show wp E d M_X12_putAtHand 28 [some (vr _), some (vi _), some (vi _), some (vi _)] [vi _, vi _, vr _] G5 Q
    obtain ⟨ho6, h⟩ := h
    obtain ⟨hi7, h⟩ := h
    refine wp_iast (pc := 28) d_X12_putAtHand_28 ho6 hi7 ?_
    refine wp_iinc (pc := 29) (v := 1) (lv' := [some (vr _), some (vi _), some (vi _), some (vi _)]) d_X12_putAtHand_29 (by decide) rfl rfl rfl ?_
    refine wp_goto (pc := 32) (tgt := 2) d_X12_putAtHand_32 (by decide) ?_
    refine wp_sub ?_ h
    exact ⟨rfl, ⟨rfl, ⟨rfl, ⟨rfl, trivial⟩⟩⟩⟩
theorem d_X12_regret_0 : decode prog_14_method_149_code 0 = .ok (.aload_n 0, 1) := by decide +kernel
theorem d_X12_regret_1 : decode prog_14_method_149_code 1 = .ok (.iload_n 1, 1) := by decide +kernel
theorem d_X12_regret_2 : decode prog_14_method_149_code 2 = .ok (.invokevirtual 453, 3) := by decide +kernel
theorem d_X12_regret_5 : decode prog_14_method_149_code 5 = .ok (.ifCond .eq 19, 3) := by decide +kernel
theorem d_X12_regret_8 : decode prog_14_method_149_code 8 = .ok (.iload_n 2, 1) := by decide +kernel
theorem d_X12_regret_9 : decode prog_14_method_149_code 9 = .ok (.invokestatic 583, 3) := by decide +kernel
theorem d_X12_regret_12 : decode prog_14_method_149_code 12 = .ok (.ifCond .eq 12, 3) := by decide +kernel
theorem d_X12_regret_15 : decode prog_14_method_149_code 15 = .ok (.aload_n 0, 1) := by decide +kernel
theorem d_X12_regret_16 : decode prog_14_method_149_code 16 = .ok (.getfield 103, 3) := by decide +kernel
theorem d_X12_regret_19 : decode prog_14_method_149_code 19 = .ok (.iload_n 1, 1) := by decide +kernel
theorem d_X12_regret_20 : decode prog_14_method_149_code 20 = .ok (.iaload, 1) := by decide +kernel
theorem d_X12_regret_21 : decode prog_14_method_149_code 21 = .ok (.ifCond .ne 7, 3) := by decide +kernel
theorem d_X12_regret_24 : decode prog_14_method_149_code 24 = .ok (.ldc2_w 466, 3) := by decide +kernel
theorem d_X12_regret_27 : decode prog_14_method_149_code 27 = .ok (.lreturn, 1) := by decide +kernel
theorem d_X12_regret_28 : decode prog_14_method_149_code 28 = .ok (.aload_n 0, 1) := by decide +kernel
theorem d_X12_regret_29 : decode prog_14_method_149_code 29 = .ok (.iload_n 1, 1) := by decide +kernel
theorem d_X12_regret_30 : decode prog_14_method_149_code 30 = .ok (.invokevirtual 580, 3) := by decide +kernel
theorem d_X12_regret_33 : decode prog_14_method_149_code 33 = .ok (.istore_n 3, 1) := by decide +kernel
theorem d_X12_regret_34 : decode prog_14_method_149_code 34 = .ok (.ldc2_w 466, 3) := by decide +kernel
theorem d_X12_regret_37 : decode prog_14_method_149_code 37 = .ok (.lstore 4, 2) := by decide +kernel
theorem d_X12_regret_39 : decode prog_14_method_149_code 39 = .ok (.iconst 1, 1) := by decide +kernel
theorem d_X12_regret_40 : decode prog_14_method_149_code 40 = .ok (.istore 6, 2) := by decide +kernel
theorem d_X12_regret_42 : decode prog_14_method_149_code 42 = .ok (.iconst 0, 1) := by decide +kernel
theorem d_X12_regret_43 : decode prog_14_method_149_code 43 = .ok (.istore 7, 2) := by decide +kernel
theorem d_X12_regret_45 : decode prog_14_method_149_code 45 = .ok (.iload 6, 2) := by decide +kernel
theorem d_X12_regret_47 : decode prog_14_method_149_code 47 = .ok (.ifCond .eq 148, 3) := by decide +kernel
theorem d_X12_regret_50 : decode prog_14_method_149_code 50 = .ok (.iload 7, 2) := by decide +kernel
theorem d_X12_regret_52 : decode prog_14_method_149_code 52 = .ok (.aload_n 0, 1) := by decide +kernel
theorem d_X12_regret_53 : decode prog_14_method_149_code 53 = .ok (.getfield 103, 3) := by decide +kernel
theorem d_X12_regret_56 : decode prog_14_method_149_code 56 = .ok (.iload_n 1, 1) := by decide +kernel
theorem d_X12_regret_57 : decode prog_14_method_149_code 57 = .ok (.iaload, 1) := by decide +kernel
theorem d_X12_regret_58 : decode prog_14_method_149_code 58 = .ok (.if_icmp .ge 137, 3) := by decide +kernel
theorem d_X12_regret_61 : decode prog_14_method_149_code 61 = .ok (.aload_n 0, 1) := by decide +kernel
theorem d_X12_regret_62 : decode prog_14_method_149_code 62 = .ok (.iload_n 1, 1) := by decide +kernel
theorem d_X12_regret_63 : decode prog_14_method_149_code 63 = .ok (.iload 7, 2) := by decide +kernel
theorem d_X12_regret_65 : decode prog_14_method_149_code 65 = .ok (.invokevirtual 553, 3) := by decide +kernel
theorem d_X12_regret_68 : decode prog_14_method_149_code 68 = .ok (.lconst 0, 1) := by decide +kernel
theorem d_X12_regret_69 : decode prog_14_method_149_code 69 = .ok (.lstore 8, 2) := by decide +kernel
theorem d_X12_regret_71 : decode prog_14_method_149_code 71 = .ok (.iconst 0, 1) := by decide +kernel
theorem d_X12_regret_72 : decode prog_14_method_149_code 72 = .ok (.istore 10, 2) := by decide +kernel
theorem d_X12_regret_74 : decode prog_14_method_149_code 74 = .ok (.iconst 0, 1) := by decide +kernel
theorem d_X12_regret_75 : decode prog_14_method_149_code 75 = .ok (.istore 11, 2) := by decide +kernel
theorem d_X12_regret_77 : decode prog_14_method_149_code 77 = .ok (.iload 11, 2) := by decide +kernel
theorem d_X12_regret_79 : decode prog_14_method_149_code 79 = .ok (.aload_n 0, 1) := by decide +kernel
theorem d_X12_regret_80 : decode prog_14_method_149_code 80 = .ok (.getfield 82, 3) := by decide +kernel
theorem d_X12_regret_83 : decode prog_14_method_149_code 83 = .ok (.iload_n 1, 1) := by decide +kernel
theorem d_X12_regret_84 : decode prog_14_method_149_code 84 = .ok (.iaload, 1) := by decide +kernel
theorem d_X12_regret_85 : decode prog_14_method_149_code 85 = .ok (.if_icmp .ge 61, 3) := by decide +kernel
theorem d_X12_regret_88 : decode prog_14_method_149_code 88 = .ok (.aload_n 0, 1) := by decide +kernel
theorem d_X12_regret_89 : decode prog_14_method_149_code 89 = .ok (.iload_n 1, 1) := by decide +kernel
theorem d_X12_regret_90 : decode prog_14_method_149_code 90 = .ok (.iload 11, 2) := by decide +kernel
theorem d_X12_regret_92 : decode prog_14_method_149_code 92 = .ok (.invokevirtual 562, 3) := by decide +kernel
theorem d_X12_regret_95 : decode prog_14_method_149_code 95 = .ok (.ifCond .eq 45, 3) := by decide +kernel
theorem d_X12_regret_98 : decode prog_14_method_149_code 98 = .ok (.iload 10, 2) := by decide +kernel
theorem d_X12_regret_100 : decode prog_14_method_149_code 100 = .ok (.ifCond .eq 22, 3) := by decide +kernel
theorem d_X12_regret_103 : decode prog_14_method_149_code 103 = .ok (.aload_n 0, 1) := by decide +kernel
theorem d_X12_regret_104 : decode prog_14_method_149_code 104 = .ok (.getfield 159, 3) := by decide +kernel
theorem d_X12_regret_107 : decode prog_14_method_149_code 107 = .ok (.sipush 20000, 3) := by decide +kernel
theorem d_X12_regret_110 : decode prog_14_method_149_code 110 = .ok (.iload_n 2, 1) := by decide +kernel
theorem d_X12_regret_111 : decode prog_14_method_149_code 111 = .ok (.imul, 1) := by decide +kernel
theorem d_X12_regret_112 : decode prog_14_method_149_code 112 = .ok (.iload 11, 2) := by decide +kernel
theorem d_X12_regret_114 : decode prog_14_method_149_code 114 = .ok (.iadd, 1) := by decide +kernel
theorem d_X12_regret_115 : decode prog_14_method_149_code 115 = .ok (.laload, 1) := by decide +kernel
theorem d_X12_regret_116 : decode prog_14_method_149_code 116 = .ok (.lload 8, 2) := by decide +kernel
theorem d_X12_regret_118 : decode prog_14_method_149_code 118 = .ok (.lcmp, 1) := by decide +kernel
theorem d_X12_regret_119 : decode prog_14_method_149_code 119 = .ok (.ifCond .ge 21, 3) := by decide +kernel
theorem d_X12_regret_122 : decode prog_14_method_149_code 122 = .ok (.iconst 1, 1) := by decide +kernel
theorem d_X12_regret_123 : decode prog_14_method_149_code 123 = .ok (.istore 10, 2) := by decide +kernel
theorem d_X12_regret_125 : decode prog_14_method_149_code 125 = .ok (.aload_n 0, 1) := by decide +kernel
theorem d_X12_regret_126 : decode prog_14_method_149_code 126 = .ok (.getfield 159, 3) := by decide +kernel
theorem d_X12_regret_129 : decode prog_14_method_149_code 129 = .ok (.sipush 20000, 3) := by decide +kernel
theorem d_X12_regret_132 : decode prog_14_method_149_code 132 = .ok (.iload_n 2, 1) := by decide +kernel
theorem d_X12_regret_133 : decode prog_14_method_149_code 133 = .ok (.imul, 1) := by decide +kernel
theorem d_X12_regret_134 : decode prog_14_method_149_code 134 = .ok (.iload 11, 2) := by decide +kernel
theorem d_X12_regret_136 : decode prog_14_method_149_code 136 = .ok (.iadd, 1) := by decide +kernel
theorem d_X12_regret_137 : decode prog_14_method_149_code 137 = .ok (.laload, 1) := by decide +kernel
theorem d_X12_regret_138 : decode prog_14_method_149_code 138 = .ok (.lstore 8, 2) := by decide +kernel
theorem d_X12_regret_140 : decode prog_14_method_149_code 140 = .ok (.iinc 11 1, 3) := by decide +kernel
theorem d_X12_regret_143 : decode prog_14_method_149_code 143 = .ok (.goto (-66), 3) := by decide +kernel
theorem d_X12_regret_146 : decode prog_14_method_149_code 146 = .ok (.iload 10, 2) := by decide +kernel
theorem d_X12_regret_148 : decode prog_14_method_149_code 148 = .ok (.istore 6, 2) := by decide +kernel
theorem d_X12_regret_150 : decode prog_14_method_149_code 150 = .ok (.aload_n 0, 1) := by decide +kernel
theorem d_X12_regret_151 : decode prog_14_method_149_code 151 = .ok (.getfield 159, 3) := by decide +kernel
theorem d_X12_regret_154 : decode prog_14_method_149_code 154 = .ok (.sipush 20000, 3) := by decide +kernel
theorem d_X12_regret_157 : decode prog_14_method_149_code 157 = .ok (.iload_n 2, 1) := by decide +kernel
theorem d_X12_regret_158 : decode prog_14_method_149_code 158 = .ok (.imul, 1) := by decide +kernel
theorem d_X12_regret_159 : decode prog_14_method_149_code 159 = .ok (.iload_n 3, 1) := by decide +kernel
theorem d_X12_regret_160 : decode prog_14_method_149_code 160 = .ok (.iadd, 1) := by decide +kernel
theorem d_X12_regret_161 : decode prog_14_method_149_code 161 = .ok (.laload, 1) := by decide +kernel
theorem d_X12_regret_162 : decode prog_14_method_149_code 162 = .ok (.lload 8, 2) := by decide +kernel
theorem d_X12_regret_164 : decode prog_14_method_149_code 164 = .ok (.lsub, 1) := by decide +kernel
theorem d_X12_regret_165 : decode prog_14_method_149_code 165 = .ok (.lstore 11, 2) := by decide +kernel
theorem d_X12_regret_167 : decode prog_14_method_149_code 167 = .ok (.iload 7, 2) := by decide +kernel
theorem d_X12_regret_169 : decode prog_14_method_149_code 169 = .ok (.ifCond .eq 11, 3) := by decide +kernel
theorem d_X12_regret_172 : decode prog_14_method_149_code 172 = .ok (.lload 11, 2) := by decide +kernel
theorem d_X12_regret_174 : decode prog_14_method_149_code 174 = .ok (.lload 4, 2) := by decide +kernel
theorem d_X12_regret_176 : decode prog_14_method_149_code 176 = .ok (.lcmp, 1) := by decide +kernel
theorem d_X12_regret_177 : decode prog_14_method_149_code 177 = .ok (.ifCond .le 8, 3) := by decide +kernel
theorem d_X12_regret_180 : decode prog_14_method_149_code 180 = .ok (.lload 11, 2) := by decide +kernel
theorem d_X12_regret_182 : decode prog_14_method_149_code 182 = .ok (.goto 5, 3) := by decide +kernel
theorem d_X12_regret_185 : decode prog_14_method_149_code 185 = .ok (.lload 4, 2) := by decide +kernel
theorem d_X12_regret_187 : decode prog_14_method_149_code 187 = .ok (.lstore 4, 2) := by decide +kernel
theorem d_X12_regret_189 : decode prog_14_method_149_code 189 = .ok (.iinc 7 1, 3) := by decide +kernel
theorem d_X12_regret_192 : decode prog_14_method_149_code 192 = .ok (.goto (-147), 3) := by decide +kernel
theorem d_X12_regret_195 : decode prog_14_method_149_code 195 = .ok (.iload 6, 2) := by decide +kernel
theorem d_X12_regret_197 : decode prog_14_method_149_code 197 = .ok (.ifCond .eq 8, 3) := by decide +kernel
theorem d_X12_regret_200 : decode prog_14_method_149_code 200 = .ok (.lload 4, 2) := by decide +kernel
theorem d_X12_regret_202 : decode prog_14_method_149_code 202 = .ok (.goto 6, 3) := by decide +kernel
theorem d_X12_regret_205 : decode prog_14_method_149_code 205 = .ok (.ldc2_w 466, 3) := by decide +kernel
theorem d_X12_regret_208 : decode prog_14_method_149_code 208 = .ok (.lreturn, 1) := by decide +kernel
theorem v_X12_regret_0 {E : EE} {d : Nat} {Q : Option AV → AH → Prop} {x0 : Nat} {x1 : Int32} {x2 : Int32} {G : AH} (h0 : 0 < d) (h : isO E G x0 12 ∧ (wpI E (d - 1) M_X12_isProblem [vr x0, vi x1] G (fun r1 G2 => (r1 = 0 → Q (some (vj (-9223372036854775808))) G2) ∧ (¬ (r1 = 0) → wpI E (d - 1) M_X12_isLevel [vi x2] G2 (fun r3 G4 => (r3 = 0 → Q (some (vj (-9223372036854775808))) G4) ∧ (¬ (r3 = 0) → isO E G4 x0 12 ∧ (isO E G4 (gR G4 x0 32) 14 ∧ (vp_in x1 (gN G4 (gR G4 x0 32)) ∧ ((¬ (gI G4 (gR G4 x0 32) (Int32.toNatClampNeg x1)) = 0 → wpI E (d - 1) M_X12_handOf [vr x0, vi x1] G4 (fun r8 G9 => wp E d M_X12_regret 45 [some (vr x0), some (vi x1), some (vi x2), some (vi r8), some (vj (-9223372036854775808)), none, some (vi 1), some (vi 0), none, none, none, none, none] [] G9 Q)) ∧ ((gI G4 (gR G4 x0 32) (Int32.toNatClampNeg x1)) = 0 → Q (some (vj (-9223372036854775808))) G4)))))))))) : wp E d M_X12_regret 0 [some (vr x0), some (vi x1), some (vi x2), none, none, none, none, none, none, none, none, none, none] [] G Q := by
  refine wp_aload_n (pc := 0) d_X12_regret_0 rfl ?_
  refine wp_iload_n (pc := 1) d_X12_regret_1 rfl ?_
  obtain ⟨ho10, h⟩ := h
  refine wp_invV (pc := 2) (N := M_X12_isProblem) (As := [vi _]) (rest := []) (r := (cn_12, ct_12, 95)) d_X12_regret_2 ml_X12_453 mk_X12_isProblem mv_X12_isProblem h0 ho10 rfl rfl (Nat.le_of_ble_eq_true rfl) ?_
  refine wpM.mono h (fun rr G2 hr => ?_)
  obtain ⟨r1, rfl, h⟩ := hr
  show wp E d M_X12_regret 5 [some (vr _), some (vi _), some (vi _), none, none, none, none, none, none, none, none, none, none] [vi _] G2 Q
  refine wp_if_eq (pc := 5) (tgt := 24) d_X12_regret_5 (by decide) (fun hc => ?_) (fun hc => ?_)
  · have h := h.1 hc
    refine wp_ldc2 (pc := 24) (v := (-9223372036854775808)) d_X12_regret_24 cj_X12_466 ?_
    exact wp_lret (pc := 27) d_X12_regret_27 rfl h
  · have h := h.2 hc
    refine wp_iload_n (pc := 8) d_X12_regret_8 rfl ?_
    refine wp_invS (pc := 9) (N := M_X12_isLevel) (As := [vi _]) (rest := []) d_X12_regret_9 ml_X12_583 mk_X12_isLevel ms_X12_isLevel h0 (Nat.le_of_ble_eq_true rfl) ?_
    refine wpM.mono h (fun rr G4 hr => ?_)
    obtain ⟨r3, rfl, h⟩ := hr
    show wp E d M_X12_regret 12 [some (vr _), some (vi _), some (vi _), none, none, none, none, none, none, none, none, none, none] [vi _] G4 Q
    refine wp_if_eq (pc := 12) (tgt := 24) d_X12_regret_12 (by decide) (fun hc => ?_) (fun hc => ?_)
    · have h := h.1 hc
      refine wp_ldc2 (pc := 24) (v := (-9223372036854775808)) d_X12_regret_24 cj_X12_466 ?_
      exact wp_lret (pc := 27) d_X12_regret_27 rfl h
    · have h := h.2 hc
      refine wp_aload_n (pc := 15) d_X12_regret_15 rfl ?_
      obtain ⟨ho5, h⟩ := h
      refine wp_getR (pc := 16) d_X12_regret_16 fl_X12_103 (fun _ _ _ => rfl) ho5 ?_
      refine wp_iload_n (pc := 19) d_X12_regret_19 rfl ?_
      obtain ⟨ho6, h⟩ := h
      obtain ⟨hi7, h⟩ := h
      refine wp_iald (pc := 20) d_X12_regret_20 ho6 hi7 ?_
      refine wp_if_ne (pc := 21) (tgt := 28) d_X12_regret_21 (by decide) (fun hc => ?_) (fun hc => ?_)
      · have h := h.1 hc
        refine wp_aload_n (pc := 28) d_X12_regret_28 rfl ?_
        refine wp_iload_n (pc := 29) d_X12_regret_29 rfl ?_
        refine wp_invV (pc := 30) (N := M_X12_handOf) (As := [vi _]) (rest := []) (r := (cn_12, ct_12, 95)) d_X12_regret_30 ml_X12_580 mk_X12_handOf mv_X12_handOf h0 ho5 rfl rfl (Nat.le_of_ble_eq_true rfl) ?_
        refine wpM.mono h (fun rr G9 hr => ?_)
        obtain ⟨r8, rfl, h⟩ := hr
        show wp E d M_X12_regret 33 [some (vr _), some (vi _), some (vi _), none, none, none, none, none, none, none, none, none, none] [vi _] G9 Q
        refine wp_istore_n (pc := 33) (lv' := [some (vr _), some (vi _), some (vi _), some (vi _), none, none, none, none, none, none, none, none, none]) d_X12_regret_33 (by decide) rfl ?_
        refine wp_ldc2 (pc := 34) (v := (-9223372036854775808)) d_X12_regret_34 cj_X12_466 ?_
        refine wp_lstore (pc := 37) (lv' := [some (vr _), some (vi _), some (vi _), some (vi _), some (vj _), none, none, none, none, none, none, none, none]) d_X12_regret_37 (by decide) rfl ?_
        refine wp_iconst (pc := 39) (v := 1) d_X12_regret_39 rfl ?_
        refine wp_istore (pc := 40) (lv' := [some (vr _), some (vi _), some (vi _), some (vi _), some (vj _), none, some (vi _), none, none, none, none, none, none]) d_X12_regret_40 (by decide) rfl ?_
        refine wp_iconst (pc := 42) (v := 0) d_X12_regret_42 rfl ?_
        refine wp_istore (pc := 43) (lv' := [some (vr _), some (vi _), some (vi _), some (vi _), some (vj _), none, some (vi _), some (vi _), none, none, none, none, none]) d_X12_regret_43 (by decide) rfl ?_
        refine wp_sub ?_ h
        exact ⟨rfl, ⟨rfl, ⟨rfl, ⟨rfl, ⟨rfl, ⟨rfl, ⟨rfl, trivial⟩⟩⟩⟩⟩⟩⟩
      · have h := h.2 hc
        refine wp_ldc2 (pc := 24) (v := (-9223372036854775808)) d_X12_regret_24 cj_X12_466 ?_
        exact wp_lret (pc := 27) d_X12_regret_27 rfl h
theorem v_X12_regret_45 {E : EE} {d : Nat} {Q : Option AV → AH → Prop} {x0 : Nat} {x1 : Int32} {x2 : Int32} {x3 : Int32} {x4 : Int64} {x6 : Int32} {x7 : Int32} {G : AH} (h0 : 0 < d) (h : (x6 = 0 → wp E d M_X12_regret 195 [some (vr x0), some (vi x1), some (vi x2), some (vi x3), some (vj x4), none, some (vi x6), some (vi x7), none, none, none, none, none] [] G Q) ∧ (¬ (x6 = 0) → isO E G x0 12 ∧ (isO E G (gR G x0 32) 14 ∧ (vp_in x1 (gN G (gR G x0 32)) ∧ (((gI G (gR G x0 32) (Int32.toNatClampNeg x1)) ≤ x7 → wp E d M_X12_regret 195 [some (vr x0), some (vi x1), some (vi x2), some (vi x3), some (vj x4), none, some (vi x6), some (vi x7), none, none, none, none, none] [] G Q) ∧ (¬ ((gI G (gR G x0 32) (Int32.toNatClampNeg x1)) ≤ x7) → wpV E (d - 1) M_X12_weighAll [vr x0, vi x1, vi x7] G (fun G4 => wp E d M_X12_regret 77 [some (vr x0), some (vi x1), some (vi x2), some (vi x3), some (vj x4), none, some (vi x6), some (vi x7), some (vj 0), none, some (vi 0), some (vi 0), none] [] G4 Q))))))) : wp E d M_X12_regret 45 [some (vr x0), some (vi x1), some (vi x2), some (vi x3), some (vj x4), none, some (vi x6), some (vi x7), none, none, none, none, none] [] G Q := by
  refine wp_iload (pc := 45) d_X12_regret_45 rfl ?_
  refine wp_if_eq (pc := 47) (tgt := 195) d_X12_regret_47 (by decide) (fun hc => ?_) (fun hc => ?_)
  · have h := h.1 hc
    refine wp_sub ?_ h
    exact ⟨rfl, ⟨rfl, ⟨rfl, ⟨rfl, ⟨rfl, ⟨rfl, ⟨rfl, trivial⟩⟩⟩⟩⟩⟩⟩
  · have h := h.2 hc
    refine wp_iload (pc := 50) d_X12_regret_50 rfl ?_
    refine wp_aload_n (pc := 52) d_X12_regret_52 rfl ?_
    obtain ⟨ho1, h⟩ := h
    refine wp_getR (pc := 53) d_X12_regret_53 fl_X12_103 (fun _ _ _ => rfl) ho1 ?_
    refine wp_iload_n (pc := 56) d_X12_regret_56 rfl ?_
    obtain ⟨ho2, h⟩ := h
    obtain ⟨hi3, h⟩ := h
    refine wp_iald (pc := 57) d_X12_regret_57 ho2 hi3 ?_
    refine wp_icmp_ge (pc := 58) (tgt := 195) d_X12_regret_58 (by decide) (fun hc => ?_) (fun hc => ?_)
    · have h := h.1 hc
      refine wp_sub ?_ h
      exact ⟨rfl, ⟨rfl, ⟨rfl, ⟨rfl, ⟨rfl, ⟨rfl, ⟨rfl, trivial⟩⟩⟩⟩⟩⟩⟩
    · have h := h.2 hc
      refine wp_aload_n (pc := 61) d_X12_regret_61 rfl ?_
      refine wp_iload_n (pc := 62) d_X12_regret_62 rfl ?_
      refine wp_iload (pc := 63) d_X12_regret_63 rfl ?_
      refine wp_invV (pc := 65) (N := M_X12_weighAll) (As := [vi _, vi _]) (rest := []) (r := (cn_12, ct_12, 95)) d_X12_regret_65 ml_X12_553 mk_X12_weighAll mv_X12_weighAll h0 ho1 rfl rfl (Nat.le_of_ble_eq_true rfl) ?_
      refine wpM.mono h (fun rr G4 hr => ?_)
      obtain ⟨rfl, h⟩ := hr
      show wp E d M_X12_regret 68 [some (vr _), some (vi _), some (vi _), some (vi _), some (vj _), none, some (vi _), some (vi _), none, none, none, none, none] [] G4 Q
      refine wp_lconst (pc := 68) (v := 0) d_X12_regret_68 rfl ?_
      refine wp_lstore (pc := 69) (lv' := [some (vr _), some (vi _), some (vi _), some (vi _), some (vj _), none, some (vi _), some (vi _), some (vj _), none, none, none, none]) d_X12_regret_69 (by decide) rfl ?_
      refine wp_iconst (pc := 71) (v := 0) d_X12_regret_71 rfl ?_
      refine wp_istore (pc := 72) (lv' := [some (vr _), some (vi _), some (vi _), some (vi _), some (vj _), none, some (vi _), some (vi _), some (vj _), none, some (vi _), none, none]) d_X12_regret_72 (by decide) rfl ?_
      refine wp_iconst (pc := 74) (v := 0) d_X12_regret_74 rfl ?_
      refine wp_istore (pc := 75) (lv' := [some (vr _), some (vi _), some (vi _), some (vi _), some (vj _), none, some (vi _), some (vi _), some (vj _), none, some (vi _), some (vi _), none]) d_X12_regret_75 (by decide) rfl ?_
      refine wp_sub ?_ h
      exact ⟨rfl, ⟨rfl, ⟨rfl, ⟨rfl, ⟨rfl, ⟨rfl, ⟨rfl, ⟨rfl, ⟨rfl, ⟨rfl, trivial⟩⟩⟩⟩⟩⟩⟩⟩⟩⟩
theorem v_X12_regret_77 {E : EE} {d : Nat} {Q : Option AV → AH → Prop} {x0 : Nat} {x1 : Int32} {x2 : Int32} {x3 : Int32} {x4 : Int64} {x6 : Int32} {x7 : Int32} {x8 : Int64} {x10 : Int32} {x11 : Int32} {G : AH} (h0 : 0 < d) (h : isO E G x0 12 ∧ (isO E G (gR G x0 25) 14 ∧ (vp_in x1 (gN G (gR G x0 25)) ∧ (((gI G (gR G x0 25) (Int32.toNatClampNeg x1)) ≤ x11 → isO E G (gR G x0 66) 15 ∧ (vp_in ((20000 * x2) + x3) (gN G (gR G x0 66)) ∧ ((x7 = 0 → wp E d M_X12_regret 180 [some (vr x0), some (vi x1), some (vi x2), some (vi x3), some (vj x4), none, some (vi x10), some (vi x7), some (vj x8), none, some (vi x10), some (vj ((gJ G (gR G x0 66) (Int32.toNatClampNeg ((20000 * x2) + x3))) - x8)), none] [] G Q) ∧ (¬ (x7 = 0) → (((gJ G (gR G x0 66) (Int32.toNatClampNeg ((20000 * x2) + x3))) - x8) ≤ x4 → wp E d M_X12_regret 187 [some (vr x0), some (vi x1), some (vi x2), some (vi x3), some (vj x4), none, some (vi x10), some (vi x7), some (vj x8), none, some (vi x10), some (vj ((gJ G (gR G x0 66) (Int32.toNatClampNeg ((20000 * x2) + x3))) - x8)), none] [vj x4] G Q) ∧ (¬ (((gJ G (gR G x0 66) (Int32.toNatClampNeg ((20000 * x2) + x3))) - x8) ≤ x4) → wp E d M_X12_regret 180 [some (vr x0), some (vi x1), some (vi x2), some (vi x3), some (vj x4), none, some (vi x10), some (vi x7), some (vj x8), none, some (vi x10), some (vj ((gJ G (gR G x0 66) (Int32.toNatClampNeg ((20000 * x2) + x3))) - x8)), none] [] G Q))))) ∧ (¬ ((gI G (gR G x0 25) (Int32.toNatClampNeg x1)) ≤ x11) → wpI E (d - 1) M_X12_isGood [vr x0, vi x1, vi x11] G (fun r6 G7 => (r6 = 0 → wp E d M_X12_regret 140 [some (vr x0), some (vi x1), some (vi x2), some (vi x3), some (vj x4), none, some (vi x6), some (vi x7), some (vj x8), none, some (vi x10), some (vi x11), none] [] G7 Q) ∧ (¬ (r6 = 0) → (x10 = 0 → wp E d M_X12_regret 122 [some (vr x0), some (vi x1), some (vi x2), some (vi x3), some (vj x4), none, some (vi x6), some (vi x7), some (vj x8), none, some (vi x10), some (vi x11), none] [] G7 Q) ∧ (¬ (x10 = 0) → isO E G7 x0 12 ∧ (isO E G7 (gR G7 x0 66) 15 ∧ (vp_in ((20000 * x2) + x11) (gN G7 (gR G7 x0 66)) ∧ ((x8 ≤ (gJ G7 (gR G7 x0 66) (Int32.toNatClampNeg ((20000 * x2) + x11))) → wp E d M_X12_regret 140 [some (vr x0), some (vi x1), some (vi x2), some (vi x3), some (vj x4), none, some (vi x6), some (vi x7), some (vj x8), none, some (vi x10), some (vi x11), none] [] G7 Q) ∧ (¬ (x8 ≤ (gJ G7 (gR G7 x0 66) (Int32.toNatClampNeg ((20000 * x2) + x11)))) → wp E d M_X12_regret 122 [some (vr x0), some (vi x1), some (vi x2), some (vi x3), some (vj x4), none, some (vi x6), some (vi x7), some (vj x8), none, some (vi x10), some (vi x11), none] [] G7 Q)))))))))))) : wp E d M_X12_regret 77 [some (vr x0), some (vi x1), some (vi x2), some (vi x3), some (vj x4), none, some (vi x6), some (vi x7), some (vj x8), none, some (vi x10), some (vi x11), none] [] G Q := by
  refine wp_iload (pc := 77) d_X12_regret_77 rfl ?_
  refine wp_aload_n (pc := 79) d_X12_regret_79 rfl ?_
  obtain ⟨ho1, h⟩ := h
  refine wp_getR (pc := 80) d_X12_regret_80 fl_X12_82 (fun _ _ _ => rfl) ho1 ?_
  refine wp_iload_n (pc := 83) d_X12_regret_83 rfl ?_
  obtain ⟨ho2, h⟩ := h
  obtain ⟨hi3, h⟩ := h
  refine wp_iald (pc := 84) d_X12_regret_84 ho2 hi3 ?_
  refine wp_icmp_ge (pc := 85) (tgt := 146) d_X12_regret_85 (by decide) (fun hc => ?_) (fun hc => ?_)
  · have h := h.1 hc
    refine wp_iload (pc := 146) d_X12_regret_146 rfl ?_
    refine wp_istore (pc := 148) (lv' := [some (vr _), some (vi _), some (vi _), some (vi _), some (vj _), none, some (vi _), some (vi _), some (vj _), none, some (vi _), some (vi _), none]) d_X12_regret_148 (by decide) rfl ?_
    refine wp_aload_n (pc := 150) d_X12_regret_150 rfl ?_
    refine wp_getR (pc := 151) d_X12_regret_151 fl_X12_159 (fun _ _ _ => rfl) ho1 ?_
    refine wp_sipush (pc := 154) (v := 20000) d_X12_regret_154 rfl ?_
    refine wp_iload_n (pc := 157) d_X12_regret_157 rfl ?_
    refine wp_imul (pc := 158) d_X12_regret_158 ?_
    refine wp_iload_n (pc := 159) d_X12_regret_159 rfl ?_
    refine wp_iadd (pc := 160) d_X12_regret_160 ?_
    obtain ⟨ho4, h⟩ := h
    obtain ⟨hi5, h⟩ := h
    refine wp_lald (pc := 161) d_X12_regret_161 ho4 hi5 ?_
    refine wp_lload (pc := 162) d_X12_regret_162 rfl ?_
    refine wp_lsub (pc := 164) d_X12_regret_164 ?_
    refine wp_lstore (pc := 165) (lv' := [some (vr _), some (vi _), some (vi _), some (vi _), some (vj _), none, some (vi _), some (vi _), some (vj _), none, some (vi _), some (vj _), none]) d_X12_regret_165 (by decide) rfl ?_
    refine wp_iload (pc := 167) d_X12_regret_167 rfl ?_
    refine wp_if_eq (pc := 169) (tgt := 180) d_X12_regret_169 (by decide) (fun hc => ?_) (fun hc => ?_)
    · have h := h.1 hc
      refine wp_sub ?_ h
      exact ⟨rfl, ⟨rfl, ⟨rfl, ⟨rfl, ⟨rfl, ⟨rfl, ⟨rfl, ⟨rfl, ⟨rfl, ⟨rfl, trivial⟩⟩⟩⟩⟩⟩⟩⟩⟩⟩
    · have h := h.2 hc
      refine wp_lload (pc := 172) d_X12_regret_172 rfl ?_
      refine wp_lload (pc := 174) d_X12_regret_174 rfl ?_
      refine wp_lcmp_le (pc := 176) (tgt := 185) d_X12_regret_176 d_X12_regret_177 (by decide) (fun hc => ?_) (fun hc => ?_)
      · have h := h.1 hc
        refine wp_lload (pc := 185) d_X12_regret_185 rfl ?_
        refine wp_sub ?_ h
        exact ⟨rfl, ⟨rfl, ⟨rfl, ⟨rfl, ⟨rfl, ⟨rfl, ⟨rfl, ⟨rfl, ⟨rfl, ⟨rfl, trivial⟩⟩⟩⟩⟩⟩⟩⟩⟩⟩
      · have h := h.2 hc
        refine wp_sub ?_ h
        exact ⟨rfl, ⟨rfl, ⟨rfl, ⟨rfl, ⟨rfl, ⟨rfl, ⟨rfl, ⟨rfl, ⟨rfl, ⟨rfl, trivial⟩⟩⟩⟩⟩⟩⟩⟩⟩⟩
  · have h := h.2 hc
    refine wp_aload_n (pc := 88) d_X12_regret_88 rfl ?_
    refine wp_iload_n (pc := 89) d_X12_regret_89 rfl ?_
    refine wp_iload (pc := 90) d_X12_regret_90 rfl ?_
    refine wp_invV (pc := 92) (N := M_X12_isGood) (As := [vi _, vi _]) (rest := []) (r := (cn_12, ct_12, 95)) d_X12_regret_92 ml_X12_562 mk_X12_isGood mv_X12_isGood h0 ho1 rfl rfl (Nat.le_of_ble_eq_true rfl) ?_
    refine wpM.mono h (fun rr G7 hr => ?_)
    obtain ⟨r6, rfl, h⟩ := hr
    show wp E d M_X12_regret 95 [some (vr _), some (vi _), some (vi _), some (vi _), some (vj _), none, some (vi _), some (vi _), some (vj _), none, some (vi _), some (vi _), none] [vi _] G7 Q
    refine wp_if_eq (pc := 95) (tgt := 140) d_X12_regret_95 (by decide) (fun hc => ?_) (fun hc => ?_)
    · have h := h.1 hc
      refine wp_sub ?_ h
      exact ⟨rfl, ⟨rfl, ⟨rfl, ⟨rfl, ⟨rfl, ⟨rfl, ⟨rfl, ⟨rfl, ⟨rfl, ⟨rfl, trivial⟩⟩⟩⟩⟩⟩⟩⟩⟩⟩
    · have h := h.2 hc
      refine wp_iload (pc := 98) d_X12_regret_98 rfl ?_
      refine wp_if_eq (pc := 100) (tgt := 122) d_X12_regret_100 (by decide) (fun hc => ?_) (fun hc => ?_)
      · have h := h.1 hc
        refine wp_sub ?_ h
        exact ⟨rfl, ⟨rfl, ⟨rfl, ⟨rfl, ⟨rfl, ⟨rfl, ⟨rfl, ⟨rfl, ⟨rfl, ⟨rfl, trivial⟩⟩⟩⟩⟩⟩⟩⟩⟩⟩
      · have h := h.2 hc
        refine wp_aload_n (pc := 103) d_X12_regret_103 rfl ?_
        obtain ⟨ho8, h⟩ := h
        refine wp_getR (pc := 104) d_X12_regret_104 fl_X12_159 (fun _ _ _ => rfl) ho8 ?_
        refine wp_sipush (pc := 107) (v := 20000) d_X12_regret_107 rfl ?_
        refine wp_iload_n (pc := 110) d_X12_regret_110 rfl ?_
        refine wp_imul (pc := 111) d_X12_regret_111 ?_
        refine wp_iload (pc := 112) d_X12_regret_112 rfl ?_
        refine wp_iadd (pc := 114) d_X12_regret_114 ?_
        obtain ⟨ho9, h⟩ := h
        obtain ⟨hi10, h⟩ := h
        refine wp_lald (pc := 115) d_X12_regret_115 ho9 hi10 ?_
        refine wp_lload (pc := 116) d_X12_regret_116 rfl ?_
        refine wp_lcmp_ge (pc := 118) (tgt := 140) d_X12_regret_118 d_X12_regret_119 (by decide) (fun hc => ?_) (fun hc => ?_)
        · have h := h.1 hc
          refine wp_sub ?_ h
          exact ⟨rfl, ⟨rfl, ⟨rfl, ⟨rfl, ⟨rfl, ⟨rfl, ⟨rfl, ⟨rfl, ⟨rfl, ⟨rfl, trivial⟩⟩⟩⟩⟩⟩⟩⟩⟩⟩
        · have h := h.2 hc
          refine wp_sub ?_ h
          exact ⟨rfl, ⟨rfl, ⟨rfl, ⟨rfl, ⟨rfl, ⟨rfl, ⟨rfl, ⟨rfl, ⟨rfl, ⟨rfl, trivial⟩⟩⟩⟩⟩⟩⟩⟩⟩⟩
theorem v_X12_regret_122 {E : EE} {d : Nat} {Q : Option AV → AH → Prop} {x0 : Nat} {x1 : Int32} {x2 : Int32} {x3 : Int32} {x4 : Int64} {x6 : Int32} {x7 : Int32} {x8 : Int64} {x10 : Int32} {x11 : Int32} {G : AH} (h : isO E G x0 12 ∧ (isO E G (gR G x0 66) 15 ∧ (vp_in ((20000 * x2) + x11) (gN G (gR G x0 66)) ∧ (wp E d M_X12_regret 140 [some (vr x0), some (vi x1), some (vi x2), some (vi x3), some (vj x4), none, some (vi x6), some (vi x7), some (vj (gJ G (gR G x0 66) (Int32.toNatClampNeg ((20000 * x2) + x11)))), none, some (vi 1), some (vi x11), none] [] G Q)))) : wp E d M_X12_regret 122 [some (vr x0), some (vi x1), some (vi x2), some (vi x3), some (vj x4), none, some (vi x6), some (vi x7), some (vj x8), none, some (vi x10), some (vi x11), none] [] G Q := by
  refine wp_iconst (pc := 122) (v := 1) d_X12_regret_122 rfl ?_
  refine wp_istore (pc := 123) (lv' := [some (vr _), some (vi _), some (vi _), some (vi _), some (vj _), none, some (vi _), some (vi _), some (vj _), none, some (vi _), some (vi _), none]) d_X12_regret_123 (by decide) rfl ?_
  refine wp_aload_n (pc := 125) d_X12_regret_125 rfl ?_
  obtain ⟨ho1, h⟩ := h
  refine wp_getR (pc := 126) d_X12_regret_126 fl_X12_159 (fun _ _ _ => rfl) ho1 ?_
  refine wp_sipush (pc := 129) (v := 20000) d_X12_regret_129 rfl ?_
  refine wp_iload_n (pc := 132) d_X12_regret_132 rfl ?_
  refine wp_imul (pc := 133) d_X12_regret_133 ?_
  refine wp_iload (pc := 134) d_X12_regret_134 rfl ?_
  refine wp_iadd (pc := 136) d_X12_regret_136 ?_
  obtain ⟨ho2, h⟩ := h
  obtain ⟨hi3, h⟩ := h
  refine wp_lald (pc := 137) d_X12_regret_137 ho2 hi3 ?_
  refine wp_lstore (pc := 138) (lv' := [some (vr _), some (vi _), some (vi _), some (vi _), some (vj _), none, some (vi _), some (vi _), some (vj _), none, some (vi _), some (vi _), none]) d_X12_regret_138 (by decide) rfl ?_
  refine wp_sub ?_ h
  exact ⟨rfl, ⟨rfl, ⟨rfl, ⟨rfl, ⟨rfl, ⟨rfl, ⟨rfl, ⟨rfl, ⟨rfl, ⟨rfl, trivial⟩⟩⟩⟩⟩⟩⟩⟩⟩⟩
theorem v_X12_regret_140 {E : EE} {d : Nat} {Q : Option AV → AH → Prop} {x0 : Nat} {x1 : Int32} {x2 : Int32} {x3 : Int32} {x4 : Int64} {x6 : Int32} {x7 : Int32} {x8 : Int64} {x10 : Int32} {x11 : Int32} {G : AH} (h : wp E d M_X12_regret 77 [some (vr x0), some (vi x1), some (vi x2), some (vi x3), some (vj x4), none, some (vi x6), some (vi x7), some (vj x8), none, some (vi x10), some (vi (x11 + 1)), none] [] G Q) : wp E d M_X12_regret 140 [some (vr x0), some (vi x1), some (vi x2), some (vi x3), some (vj x4), none, some (vi x6), some (vi x7), some (vj x8), none, some (vi x10), some (vi x11), none] [] G Q := by
  refine wp_iinc (pc := 140) (v := 1) (lv' := [some (vr _), some (vi _), some (vi _), some (vi _), some (vj _), none, some (vi _), some (vi _), some (vj _), none, some (vi _), some (vi _), none]) d_X12_regret_140 (by decide) rfl rfl rfl ?_
  refine wp_goto (pc := 143) (tgt := 77) d_X12_regret_143 (by decide) ?_
  refine wp_sub ?_ h
  exact ⟨rfl, ⟨rfl, ⟨rfl, ⟨rfl, ⟨rfl, ⟨rfl, ⟨rfl, ⟨rfl, ⟨rfl, ⟨rfl, trivial⟩⟩⟩⟩⟩⟩⟩⟩⟩⟩
theorem v_X12_regret_180 {E : EE} {d : Nat} {Q : Option AV → AH → Prop} {x0 : Nat} {x1 : Int32} {x2 : Int32} {x3 : Int32} {x4 : Int64} {x6 : Int32} {x7 : Int32} {x8 : Int64} {x10 : Int32} {x11 : Int64} {G : AH} (h : wp E d M_X12_regret 187 [some (vr x0), some (vi x1), some (vi x2), some (vi x3), some (vj x4), none, some (vi x6), some (vi x7), some (vj x8), none, some (vi x10), some (vj x11), none] [vj x11] G Q) : wp E d M_X12_regret 180 [some (vr x0), some (vi x1), some (vi x2), some (vi x3), some (vj x4), none, some (vi x6), some (vi x7), some (vj x8), none, some (vi x10), some (vj x11), none] [] G Q := by
  refine wp_lload (pc := 180) d_X12_regret_180 rfl ?_
  refine wp_goto (pc := 182) (tgt := 187) d_X12_regret_182 (by decide) ?_
  refine wp_sub ?_ h
  exact ⟨rfl, ⟨rfl, ⟨rfl, ⟨rfl, ⟨rfl, ⟨rfl, ⟨rfl, ⟨rfl, ⟨rfl, ⟨rfl, trivial⟩⟩⟩⟩⟩⟩⟩⟩⟩⟩
theorem v_X12_regret_187 {E : EE} {d : Nat} {Q : Option AV → AH → Prop} {x0 : Nat} {x1 : Int32} {x2 : Int32} {x3 : Int32} {x4 : Int64} {x6 : Int32} {x7 : Int32} {x8 : Int64} {x10 : Int32} {x11 : Int64} {t0 : Int64} {G : AH} (h : wp E d M_X12_regret 45 [some (vr x0), some (vi x1), some (vi x2), some (vi x3), some (vj t0), none, some (vi x6), some (vi (x7 + 1)), none, none, none, none, none] [] G Q) : wp E d M_X12_regret 187 [some (vr x0), some (vi x1), some (vi x2), some (vi x3), some (vj x4), none, some (vi x6), some (vi x7), some (vj x8), none, some (vi x10), some (vj x11), none] [vj t0] G Q := by
  refine wp_lstore (pc := 187) (lv' := [some (vr _), some (vi _), some (vi _), some (vi _), some (vj _), none, some (vi _), some (vi _), some (vj _), none, some (vi _), some (vj _), none]) d_X12_regret_187 (by decide) rfl ?_
  refine wp_iinc (pc := 189) (v := 1) (lv' := [some (vr _), some (vi _), some (vi _), some (vi _), some (vj _), none, some (vi _), some (vi _), some (vj _), none, some (vi _), some (vj _), none]) d_X12_regret_189 (by decide) rfl rfl rfl ?_
  refine wp_goto (pc := 192) (tgt := 45) d_X12_regret_192 (by decide) ?_
  refine wp_sub ?_ h
  exact ⟨rfl, ⟨rfl, ⟨rfl, ⟨rfl, ⟨rfl, ⟨rfl, ⟨rfl, trivial⟩⟩⟩⟩⟩⟩⟩
theorem v_X12_regret_195 {E : EE} {d : Nat} {Q : Option AV → AH → Prop} {x0 : Nat} {x1 : Int32} {x2 : Int32} {x3 : Int32} {x4 : Int64} {x6 : Int32} {x7 : Int32} {G : AH} (h : (x6 = 0 → Q (some (vj (-9223372036854775808))) G) ∧ (¬ (x6 = 0) → Q (some (vj x4)) G)) : wp E d M_X12_regret 195 [some (vr x0), some (vi x1), some (vi x2), some (vi x3), some (vj x4), none, some (vi x6), some (vi x7), none, none, none, none, none] [] G Q := by
  refine wp_iload (pc := 195) d_X12_regret_195 rfl ?_
  refine wp_if_eq (pc := 197) (tgt := 205) d_X12_regret_197 (by decide) (fun hc => ?_) (fun hc => ?_)
  · have h := h.1 hc
    refine wp_ldc2 (pc := 205) (v := (-9223372036854775808)) d_X12_regret_205 cj_X12_466 ?_
    exact wp_lret (pc := 208) d_X12_regret_208 rfl h
  · have h := h.2 hc
    refine wp_lload (pc := 200) d_X12_regret_200 rfl ?_
    refine wp_goto (pc := 202) (tgt := 208) d_X12_regret_202 (by decide) ?_
    exact wp_lret (pc := 208) d_X12_regret_208 rfl h
theorem d_X12_isLevel_0 : decode prog_14_method_97_code 0 = .ok (.iload_n 0, 1) := by decide +kernel
theorem d_X12_isLevel_1 : decode prog_14_method_97_code 1 = .ok (.ifCond .lt 12, 3) := by decide +kernel
theorem d_X12_isLevel_4 : decode prog_14_method_97_code 4 = .ok (.iload_n 0, 1) := by decide +kernel
theorem d_X12_isLevel_5 : decode prog_14_method_97_code 5 = .ok (.iconst 3, 1) := by decide +kernel
theorem d_X12_isLevel_6 : decode prog_14_method_97_code 6 = .ok (.if_icmp .ge 7, 3) := by decide +kernel
theorem d_X12_isLevel_9 : decode prog_14_method_97_code 9 = .ok (.iconst 1, 1) := by decide +kernel
theorem d_X12_isLevel_10 : decode prog_14_method_97_code 10 = .ok (.goto 4, 3) := by decide +kernel
theorem d_X12_isLevel_13 : decode prog_14_method_97_code 13 = .ok (.iconst 0, 1) := by decide +kernel
theorem d_X12_isLevel_14 : decode prog_14_method_97_code 14 = .ok (.ireturn, 1) := by decide +kernel
theorem v_X12_isLevel_0 {E : EE} {d : Nat} {Q : Option AV → AH → Prop} {x0 : Int32} {G : AH} (h : (x0 < 0 → Q (some (vi 0)) G) ∧ (¬ (x0 < 0) → (3 ≤ x0 → Q (some (vi 0)) G) ∧ (¬ (3 ≤ x0) → Q (some (vi 1)) G))) : wp E d M_X12_isLevel 0 [some (vi x0)] [] G Q := by
  refine wp_iload_n (pc := 0) d_X12_isLevel_0 rfl ?_
  refine wp_if_lt (pc := 1) (tgt := 13) d_X12_isLevel_1 (by decide) (fun hc => ?_) (fun hc => ?_)
  · have h := h.1 hc
    refine wp_iconst (pc := 13) (v := 0) d_X12_isLevel_13 rfl ?_
    exact wp_zret (pc := 14) d_X12_isLevel_14 rfl rfl h
  · have h := h.2 hc
    refine wp_iload_n (pc := 4) d_X12_isLevel_4 rfl ?_
    refine wp_iconst (pc := 5) (v := 3) d_X12_isLevel_5 rfl ?_
    refine wp_icmp_ge (pc := 6) (tgt := 13) d_X12_isLevel_6 (by decide) (fun hc => ?_) (fun hc => ?_)
    · have h := h.1 hc
      refine wp_iconst (pc := 13) (v := 0) d_X12_isLevel_13 rfl ?_
      exact wp_zret (pc := 14) d_X12_isLevel_14 rfl rfl h
    · have h := h.2 hc
      refine wp_iconst (pc := 9) (v := 1) d_X12_isLevel_9 rfl ?_
      refine wp_goto (pc := 10) (tgt := 14) d_X12_isLevel_10 (by decide) ?_
      exact wp_zret (pc := 14) d_X12_isLevel_14 rfl rfl h
theorem d_X12_expected_0 : decode prog_14_method_148_code 0 = .ok (.aload_n 0, 1) := by decide +kernel
theorem d_X12_expected_1 : decode prog_14_method_148_code 1 = .ok (.iload_n 1, 1) := by decide +kernel
theorem d_X12_expected_2 : decode prog_14_method_148_code 2 = .ok (.invokevirtual 453, 3) := by decide +kernel
theorem d_X12_expected_5 : decode prog_14_method_148_code 5 = .ok (.ifCond .eq 19, 3) := by decide +kernel
theorem d_X12_expected_8 : decode prog_14_method_148_code 8 = .ok (.iload_n 2, 1) := by decide +kernel
theorem d_X12_expected_9 : decode prog_14_method_148_code 9 = .ok (.invokestatic 583, 3) := by decide +kernel
theorem d_X12_expected_12 : decode prog_14_method_148_code 12 = .ok (.ifCond .eq 12, 3) := by decide +kernel
theorem d_X12_expected_15 : decode prog_14_method_148_code 15 = .ok (.aload_n 0, 1) := by decide +kernel
theorem d_X12_expected_16 : decode prog_14_method_148_code 16 = .ok (.getfield 103, 3) := by decide +kernel
theorem d_X12_expected_19 : decode prog_14_method_148_code 19 = .ok (.iload_n 1, 1) := by decide +kernel
theorem d_X12_expected_20 : decode prog_14_method_148_code 20 = .ok (.iaload, 1) := by decide +kernel
theorem d_X12_expected_21 : decode prog_14_method_148_code 21 = .ok (.ifCond .ne 7, 3) := by decide +kernel
theorem d_X12_expected_24 : decode prog_14_method_148_code 24 = .ok (.ldc2_w 466, 3) := by decide +kernel
theorem d_X12_expected_27 : decode prog_14_method_148_code 27 = .ok (.lreturn, 1) := by decide +kernel
theorem d_X12_expected_28 : decode prog_14_method_148_code 28 = .ok (.aload_n 0, 1) := by decide +kernel
theorem d_X12_expected_29 : decode prog_14_method_148_code 29 = .ok (.iload_n 1, 1) := by decide +kernel
theorem d_X12_expected_30 : decode prog_14_method_148_code 30 = .ok (.invokevirtual 580, 3) := by decide +kernel
theorem d_X12_expected_33 : decode prog_14_method_148_code 33 = .ok (.istore_n 3, 1) := by decide +kernel
theorem d_X12_expected_34 : decode prog_14_method_148_code 34 = .ok (.lconst 0, 1) := by decide +kernel
theorem d_X12_expected_35 : decode prog_14_method_148_code 35 = .ok (.lstore 4, 2) := by decide +kernel
theorem d_X12_expected_37 : decode prog_14_method_148_code 37 = .ok (.lconst 0, 1) := by decide +kernel
theorem d_X12_expected_38 : decode prog_14_method_148_code 38 = .ok (.lstore 6, 2) := by decide +kernel
theorem d_X12_expected_40 : decode prog_14_method_148_code 40 = .ok (.aload_n 0, 1) := by decide +kernel
theorem d_X12_expected_41 : decode prog_14_method_148_code 41 = .ok (.iconst (-1), 1) := by decide +kernel
theorem d_X12_expected_42 : decode prog_14_method_148_code 42 = .ok (.putfield 146, 3) := by decide +kernel
theorem d_X12_expected_45 : decode prog_14_method_148_code 45 = .ok (.iconst 0, 1) := by decide +kernel
theorem d_X12_expected_46 : decode prog_14_method_148_code 46 = .ok (.istore 8, 2) := by decide +kernel
theorem d_X12_expected_48 : decode prog_14_method_148_code 48 = .ok (.iload 8, 2) := by decide +kernel
theorem d_X12_expected_50 : decode prog_14_method_148_code 50 = .ok (.aload_n 0, 1) := by decide +kernel
theorem d_X12_expected_51 : decode prog_14_method_148_code 51 = .ok (.getfield 103, 3) := by decide +kernel
theorem d_X12_expected_54 : decode prog_14_method_148_code 54 = .ok (.iload_n 1, 1) := by decide +kernel
theorem d_X12_expected_55 : decode prog_14_method_148_code 55 = .ok (.iaload, 1) := by decide +kernel
theorem d_X12_expected_56 : decode prog_14_method_148_code 56 = .ok (.if_icmp .ge 71, 3) := by decide +kernel
theorem d_X12_expected_59 : decode prog_14_method_148_code 59 = .ok (.aload_n 0, 1) := by decide +kernel
theorem d_X12_expected_60 : decode prog_14_method_148_code 60 = .ok (.iload_n 1, 1) := by decide +kernel
theorem d_X12_expected_61 : decode prog_14_method_148_code 61 = .ok (.iload 8, 2) := by decide +kernel
theorem d_X12_expected_63 : decode prog_14_method_148_code 63 = .ok (.invokevirtual 544, 3) := by decide +kernel
theorem d_X12_expected_66 : decode prog_14_method_148_code 66 = .ok (.aload_n 0, 1) := by decide +kernel
theorem d_X12_expected_67 : decode prog_14_method_148_code 67 = .ok (.iload_n 1, 1) := by decide +kernel
theorem d_X12_expected_68 : decode prog_14_method_148_code 68 = .ok (.iload_n 3, 1) := by decide +kernel
theorem d_X12_expected_69 : decode prog_14_method_148_code 69 = .ok (.invokevirtual 547, 3) := by decide +kernel
theorem d_X12_expected_72 : decode prog_14_method_148_code 72 = .ok (.lload 4, 2) := by decide +kernel
theorem d_X12_expected_74 : decode prog_14_method_148_code 74 = .ok (.aload_n 0, 1) := by decide +kernel
theorem d_X12_expected_75 : decode prog_14_method_148_code 75 = .ok (.getfield 106, 3) := by decide +kernel
theorem d_X12_expected_78 : decode prog_14_method_148_code 78 = .ok (.bipush 6, 2) := by decide +kernel
theorem d_X12_expected_80 : decode prog_14_method_148_code 80 = .ok (.iload_n 1, 1) := by decide +kernel
theorem d_X12_expected_81 : decode prog_14_method_148_code 81 = .ok (.imul, 1) := by decide +kernel
theorem d_X12_expected_82 : decode prog_14_method_148_code 82 = .ok (.iload 8, 2) := by decide +kernel
theorem d_X12_expected_84 : decode prog_14_method_148_code 84 = .ok (.iadd, 1) := by decide +kernel
theorem d_X12_expected_85 : decode prog_14_method_148_code 85 = .ok (.iaload, 1) := by decide +kernel
theorem d_X12_expected_86 : decode prog_14_method_148_code 86 = .ok (.i2l, 1) := by decide +kernel
theorem d_X12_expected_87 : decode prog_14_method_148_code 87 = .ok (.aload_n 0, 1) := by decide +kernel
theorem d_X12_expected_88 : decode prog_14_method_148_code 88 = .ok (.getfield 159, 3) := by decide +kernel
theorem d_X12_expected_91 : decode prog_14_method_148_code 91 = .ok (.sipush 20000, 3) := by decide +kernel
theorem d_X12_expected_94 : decode prog_14_method_148_code 94 = .ok (.iload_n 2, 1) := by decide +kernel
theorem d_X12_expected_95 : decode prog_14_method_148_code 95 = .ok (.imul, 1) := by decide +kernel
theorem d_X12_expected_96 : decode prog_14_method_148_code 96 = .ok (.iload_n 3, 1) := by decide +kernel
theorem d_X12_expected_97 : decode prog_14_method_148_code 97 = .ok (.iadd, 1) := by decide +kernel
theorem d_X12_expected_98 : decode prog_14_method_148_code 98 = .ok (.laload, 1) := by decide +kernel
theorem d_X12_expected_99 : decode prog_14_method_148_code 99 = .ok (.lmul, 1) := by decide +kernel
theorem d_X12_expected_100 : decode prog_14_method_148_code 100 = .ok (.ladd, 1) := by decide +kernel
theorem d_X12_expected_101 : decode prog_14_method_148_code 101 = .ok (.lstore 4, 2) := by decide +kernel
theorem d_X12_expected_103 : decode prog_14_method_148_code 103 = .ok (.lload 6, 2) := by decide +kernel
theorem d_X12_expected_105 : decode prog_14_method_148_code 105 = .ok (.aload_n 0, 1) := by decide +kernel
theorem d_X12_expected_106 : decode prog_14_method_148_code 106 = .ok (.getfield 106, 3) := by decide +kernel
theorem d_X12_expected_109 : decode prog_14_method_148_code 109 = .ok (.bipush 6, 2) := by decide +kernel
theorem d_X12_expected_111 : decode prog_14_method_148_code 111 = .ok (.iload_n 1, 1) := by decide +kernel
theorem d_X12_expected_112 : decode prog_14_method_148_code 112 = .ok (.imul, 1) := by decide +kernel
theorem d_X12_expected_113 : decode prog_14_method_148_code 113 = .ok (.iload 8, 2) := by decide +kernel
theorem d_X12_expected_115 : decode prog_14_method_148_code 115 = .ok (.iadd, 1) := by decide +kernel
theorem d_X12_expected_116 : decode prog_14_method_148_code 116 = .ok (.iaload, 1) := by decide +kernel
theorem d_X12_expected_117 : decode prog_14_method_148_code 117 = .ok (.i2l, 1) := by decide +kernel
theorem d_X12_expected_118 : decode prog_14_method_148_code 118 = .ok (.ladd, 1) := by decide +kernel
theorem d_X12_expected_119 : decode prog_14_method_148_code 119 = .ok (.lstore 6, 2) := by decide +kernel
theorem d_X12_expected_121 : decode prog_14_method_148_code 121 = .ok (.iinc 8 1, 3) := by decide +kernel
theorem d_X12_expected_124 : decode prog_14_method_148_code 124 = .ok (.goto (-76), 3) := by decide +kernel
theorem d_X12_expected_127 : decode prog_14_method_148_code 127 = .ok (.aload_n 0, 1) := by decide +kernel
theorem d_X12_expected_128 : decode prog_14_method_148_code 128 = .ok (.lload 4, 2) := by decide +kernel
theorem d_X12_expected_130 : decode prog_14_method_148_code 130 = .ok (.lload 6, 2) := by decide +kernel
theorem d_X12_expected_132 : decode prog_14_method_148_code 132 = .ok (.invokevirtual 608, 3) := by decide +kernel
theorem d_X12_expected_135 : decode prog_14_method_148_code 135 = .ok (.lload 4, 2) := by decide +kernel
theorem d_X12_expected_137 : decode prog_14_method_148_code 137 = .ok (.lreturn, 1) := by decide +kernel
theorem v_X12_expected_0 {E : EE} {d : Nat} {Q : Option AV → AH → Prop} {x0 : Nat} {x1 : Int32} {x2 : Int32} {G : AH} (h0 : 0 < d) (h : isO E G x0 12 ∧ (wpI E (d - 1) M_X12_isProblem [vr x0, vi x1] G (fun r1 G2 => (r1 = 0 → Q (some (vj (-9223372036854775808))) G2) ∧ (¬ (r1 = 0) → wpI E (d - 1) M_X12_isLevel [vi x2] G2 (fun r3 G4 => (r3 = 0 → Q (some (vj (-9223372036854775808))) G4) ∧ (¬ (r3 = 0) → isO E G4 x0 12 ∧ (isO E G4 (gR G4 x0 32) 14 ∧ (vp_in x1 (gN G4 (gR G4 x0 32)) ∧ ((¬ (gI G4 (gR G4 x0 32) (Int32.toNatClampNeg x1)) = 0 → wpI E (d - 1) M_X12_handOf [vr x0, vi x1] G4 (fun r8 G9 => isO E G9 x0 12 ∧ (wp E d M_X12_expected 48 [some (vr x0), some (vi x1), some (vi x2), some (vi r8), some (vj 0), none, some (vj 0), none, some (vi 0)] [] (sI G9 x0 62 (-1)) Q))) ∧ ((gI G4 (gR G4 x0 32) (Int32.toNatClampNeg x1)) = 0 → Q (some (vj (-9223372036854775808))) G4)))))))))) : wp E d M_X12_expected 0 [some (vr x0), some (vi x1), some (vi x2), none, none, none, none, none, none] [] G Q := by
  refine wp_aload_n (pc := 0) d_X12_expected_0 rfl ?_
  refine wp_iload_n (pc := 1) d_X12_expected_1 rfl ?_
  obtain ⟨ho11, h⟩ := h
  refine wp_invV (pc := 2) (N := M_X12_isProblem) (As := [vi _]) (rest := []) (r := (cn_12, ct_12, 95)) d_X12_expected_2 ml_X12_453 mk_X12_isProblem mv_X12_isProblem h0 ho11 rfl rfl (Nat.le_of_ble_eq_true rfl) ?_
  refine wpM.mono h (fun rr G2 hr => ?_)
  obtain ⟨r1, rfl, h⟩ := hr
  show wp E d M_X12_expected 5 [some (vr _), some (vi _), some (vi _), none, none, none, none, none, none] [vi _] G2 Q
  refine wp_if_eq (pc := 5) (tgt := 24) d_X12_expected_5 (by decide) (fun hc => ?_) (fun hc => ?_)
  · have h := h.1 hc
    refine wp_ldc2 (pc := 24) (v := (-9223372036854775808)) d_X12_expected_24 cj_X12_466 ?_
    exact wp_lret (pc := 27) d_X12_expected_27 rfl h
  · have h := h.2 hc
    refine wp_iload_n (pc := 8) d_X12_expected_8 rfl ?_
    refine wp_invS (pc := 9) (N := M_X12_isLevel) (As := [vi _]) (rest := []) d_X12_expected_9 ml_X12_583 mk_X12_isLevel ms_X12_isLevel h0 (Nat.le_of_ble_eq_true rfl) ?_
    refine wpM.mono h (fun rr G4 hr => ?_)
    obtain ⟨r3, rfl, h⟩ := hr
    show wp E d M_X12_expected 12 [some (vr _), some (vi _), some (vi _), none, none, none, none, none, none] [vi _] G4 Q
    refine wp_if_eq (pc := 12) (tgt := 24) d_X12_expected_12 (by decide) (fun hc => ?_) (fun hc => ?_)
    · have h := h.1 hc
      refine wp_ldc2 (pc := 24) (v := (-9223372036854775808)) d_X12_expected_24 cj_X12_466 ?_
      exact wp_lret (pc := 27) d_X12_expected_27 rfl h
    · have h := h.2 hc
      refine wp_aload_n (pc := 15) d_X12_expected_15 rfl ?_
      obtain ⟨ho5, h⟩ := h
      refine wp_getR (pc := 16) d_X12_expected_16 fl_X12_103 (fun _ _ _ => rfl) ho5 ?_
      refine wp_iload_n (pc := 19) d_X12_expected_19 rfl ?_
      obtain ⟨ho6, h⟩ := h
      obtain ⟨hi7, h⟩ := h
      refine wp_iald (pc := 20) d_X12_expected_20 ho6 hi7 ?_
      refine wp_if_ne (pc := 21) (tgt := 28) d_X12_expected_21 (by decide) (fun hc => ?_) (fun hc => ?_)
      · have h := h.1 hc
        refine wp_aload_n (pc := 28) d_X12_expected_28 rfl ?_
        refine wp_iload_n (pc := 29) d_X12_expected_29 rfl ?_
        refine wp_invV (pc := 30) (N := M_X12_handOf) (As := [vi _]) (rest := []) (r := (cn_12, ct_12, 95)) d_X12_expected_30 ml_X12_580 mk_X12_handOf mv_X12_handOf h0 ho5 rfl rfl (Nat.le_of_ble_eq_true rfl) ?_
        refine wpM.mono h (fun rr G9 hr => ?_)
        obtain ⟨r8, rfl, h⟩ := hr
        show wp E d M_X12_expected 33 [some (vr _), some (vi _), some (vi _), none, none, none, none, none, none] [vi _] G9 Q
        refine wp_istore_n (pc := 33) (lv' := [some (vr _), some (vi _), some (vi _), some (vi _), none, none, none, none, none]) d_X12_expected_33 (by decide) rfl ?_
        refine wp_lconst (pc := 34) (v := 0) d_X12_expected_34 rfl ?_
        refine wp_lstore (pc := 35) (lv' := [some (vr _), some (vi _), some (vi _), some (vi _), some (vj _), none, none, none, none]) d_X12_expected_35 (by decide) rfl ?_
        refine wp_lconst (pc := 37) (v := 0) d_X12_expected_37 rfl ?_
        refine wp_lstore (pc := 38) (lv' := [some (vr _), some (vi _), some (vi _), some (vi _), some (vj _), none, some (vj _), none, none]) d_X12_expected_38 (by decide) rfl ?_
        refine wp_aload_n (pc := 40) d_X12_expected_40 rfl ?_
        refine wp_iconst (pc := 41) (v := (-1)) d_X12_expected_41 rfl ?_
        obtain ⟨ho10, h⟩ := h
        refine wp_putI (pc := 42) d_X12_expected_42 fl_X12_146 (fun _ _ _ => rfl) (Or.inl rfl) ho10 (okI_int _) ?_
        refine wp_iconst (pc := 45) (v := 0) d_X12_expected_45 rfl ?_
        refine wp_istore (pc := 46) (lv' := [some (vr _), some (vi _), some (vi _), some (vi _), some (vj _), none, some (vj _), none, some (vi _)]) d_X12_expected_46 (by decide) rfl ?_
        refine wp_sub ?_ h
        exact ⟨rfl, ⟨rfl, ⟨rfl, ⟨rfl, ⟨rfl, ⟨rfl, ⟨rfl, trivial⟩⟩⟩⟩⟩⟩⟩
      · have h := h.2 hc
        refine wp_ldc2 (pc := 24) (v := (-9223372036854775808)) d_X12_expected_24 cj_X12_466 ?_
        exact wp_lret (pc := 27) d_X12_expected_27 rfl h
theorem v_X12_expected_48 {E : EE} {d : Nat} {Q : Option AV → AH → Prop} {x0 : Nat} {x1 : Int32} {x2 : Int32} {x3 : Int32} {x4 : Int64} {x6 : Int64} {x8 : Int32} {G : AH} (h0 : 0 < d) (h : isO E G x0 12 ∧ (isO E G (gR G x0 32) 14 ∧ (vp_in x1 (gN G (gR G x0 32)) ∧ (((gI G (gR G x0 32) (Int32.toNatClampNeg x1)) ≤ x8 → wpV E (d - 1) M_X12_show [vr x0, vj x4, vj x6] G (fun G4 => Q (some (vj x4)) G4)) ∧ (¬ ((gI G (gR G x0 32) (Int32.toNatClampNeg x1)) ≤ x8) → wpV E (d - 1) M_X12_takeFacts [vr x0, vi x1, vi x8] G (fun G5 => isO E G5 x0 12 ∧ (wpV E (d - 1) M_X12_weighPlan [vr x0, vi x1, vi x3] G5 (fun G6 => isO E G6 x0 12 ∧ (isO E G6 (gR G6 x0 33) 14 ∧ (vp_in ((6 * x1) + x8) (gN G6 (gR G6 x0 33)) ∧ (isO E G6 (gR G6 x0 66) 15 ∧ (vp_in ((20000 * x2) + x3) (gN G6 (gR G6 x0 66)) ∧ (vp_in ((6 * x1) + x8) (gN G6 (gR G6 x0 33)) ∧ (wp E d M_X12_expected 48 [some (vr x0), some (vi x1), some (vi x2), some (vi x3), some (vj (x4 + ((Int32.toInt64 (gI G6 (gR G6 x0 33) (Int32.toNatClampNeg ((6 * x1) + x8)))) * (gJ G6 (gR G6 x0 66) (Int32.toNatClampNeg ((20000 * x2) + x3)))))), none, some (vj (x6 + (Int32.toInt64 (gI G6 (gR G6 x0 33) (Int32.toNatClampNeg ((6 * x1) + x8)))))), none, some (vi (x8 + 1))] [] G6 Q)))))))))))))) : wp E d M_X12_expected 48 [some (vr x0), some (vi x1), some (vi x2), some (vi x3), some (vj x4), none, some (vj x6), none, some (vi x8)] [] G Q := by
  refine wp_iload (pc := 48) d_X12_expected_48 rfl ?_
  refine wp_aload_n (pc := 50) d_X12_expected_50 rfl ?_
  obtain ⟨ho1, h⟩ := h
  refine wp_getR (pc := 51) d_X12_expected_51 fl_X12_103 (fun _ _ _ => rfl) ho1 ?_
  refine wp_iload_n (pc := 54) d_X12_expected_54 rfl ?_
  obtain ⟨ho2, h⟩ := h
  obtain ⟨hi3, h⟩ := h
  refine wp_iald (pc := 55) d_X12_expected_55 ho2 hi3 ?_
  refine wp_icmp_ge (pc := 56) (tgt := 127) d_X12_expected_56 (by decide) (fun hc => ?_) (fun hc => ?_)
  · have h := h.1 hc
    refine wp_aload_n (pc := 127) d_X12_expected_127 rfl ?_
    refine wp_lload (pc := 128) d_X12_expected_128 rfl ?_
    refine wp_lload (pc := 130) d_X12_expected_130 rfl ?_
    refine wp_invV (pc := 132) (N := M_X12_show) (As := [vj _, vj _]) (rest := []) (r := (cn_12, ct_12, 95)) d_X12_expected_132 ml_X12_608 mk_X12_show mv_X12_show h0 ho1 rfl rfl (Nat.le_of_ble_eq_true rfl) ?_
    refine wpM.mono h (fun rr G4 hr => ?_)
    obtain ⟨rfl, h⟩ := hr
    show wp E d M_X12_expected 135 [some (vr _), some (vi _), some (vi _), some (vi _), some (vj _), none, some (vj _), none, some (vi _)] [] G4 Q
    refine wp_lload (pc := 135) d_X12_expected_135 rfl ?_
    exact wp_lret (pc := 137) d_X12_expected_137 rfl h
  · have h := h.2 hc
    refine wp_aload_n (pc := 59) d_X12_expected_59 rfl ?_
    refine wp_iload_n (pc := 60) d_X12_expected_60 rfl ?_
    refine wp_iload (pc := 61) d_X12_expected_61 rfl ?_
    refine wp_invV (pc := 63) (N := M_X12_takeFacts) (As := [vi _, vi _]) (rest := []) (r := (cn_12, ct_12, 95)) d_X12_expected_63 ml_X12_544 mk_X12_takeFacts mv_X12_takeFacts h0 ho1 rfl rfl (Nat.le_of_ble_eq_true rfl) ?_
    refine wpM.mono h (fun rr G5 hr => ?_)
    obtain ⟨rfl, h⟩ := hr
    show wp E d M_X12_expected 66 [some (vr _), some (vi _), some (vi _), some (vi _), some (vj _), none, some (vj _), none, some (vi _)] [] G5 Q
    refine wp_aload_n (pc := 66) d_X12_expected_66 rfl ?_
    refine wp_iload_n (pc := 67) d_X12_expected_67 rfl ?_
    refine wp_iload_n (pc := 68) d_X12_expected_68 rfl ?_
    obtain ⟨ho13, h⟩ := h
    refine wp_invV (pc := 69) (N := M_X12_weighPlan) (As := [vi _, vi _]) (rest := []) (r := (cn_12, ct_12, 95)) d_X12_expected_69 ml_X12_547 mk_X12_weighPlan mv_X12_weighPlan h0 ho13 rfl rfl (Nat.le_of_ble_eq_true rfl) ?_
    refine wpM.mono h (fun rr G6 hr => ?_)
    obtain ⟨rfl, h⟩ := hr
    show wp E d M_X12_expected 72 [some (vr _), some (vi _), some (vi _), some (vi _), some (vj _), none, some (vj _), none, some (vi _)] [] G6 Q
    refine wp_lload (pc := 72) d_X12_expected_72 rfl ?_
    refine wp_aload_n (pc := 74) d_X12_expected_74 rfl ?_
    obtain ⟨ho7, h⟩ := h
    refine wp_getR (pc := 75) d_X12_expected_75 fl_X12_106 (fun _ _ _ => rfl) ho7 ?_
    refine wp_bipush (pc := 78) (v := 6) d_X12_expected_78 rfl ?_
    refine wp_iload_n (pc := 80) d_X12_expected_80 rfl ?_
    refine wp_imul (pc := 81) d_X12_expected_81 ?_
    refine wp_iload (pc := 82) d_X12_expected_82 rfl ?_
    refine wp_iadd (pc := 84) d_X12_expected_84 ?_
    obtain ⟨ho8, h⟩ := h
    obtain ⟨hi9, h⟩ := h
    refine wp_iald (pc := 85) d_X12_expected_85 ho8 hi9 ?_
    refine wp_i2l (pc := 86) d_X12_expected_86 ?_
    refine wp_aload_n (pc := 87) d_X12_expected_87 rfl ?_
    refine wp_getR (pc := 88) d_X12_expected_88 fl_X12_159 (fun _ _ _ => rfl) ho7 ?_
    refine wp_sipush (pc := 91) (v := 20000) d_X12_expected_91 rfl ?_
    refine wp_iload_n (pc := 94) d_X12_expected_94 rfl ?_
    refine wp_imul (pc := 95) d_X12_expected_95 ?_
    refine wp_iload_n (pc := 96) d_X12_expected_96 rfl ?_
    refine wp_iadd (pc := 97) d_X12_expected_97 ?_
    obtain ⟨ho10, h⟩ := h
    obtain ⟨hi11, h⟩ := h
    refine wp_lald (pc := 98) d_X12_expected_98 ho10 hi11 ?_
    refine wp_lmul (pc := 99) d_X12_expected_99 ?_
    refine wp_ladd (pc := 100) d_X12_expected_100 ?_
    refine wp_lstore (pc := 101) (lv' := [some (vr _), some (vi _), some (vi _), some (vi _), some (vj _), none, some (vj _), none, some (vi _)]) d_X12_expected_101 (by decide) rfl ?_
    refine wp_lload (pc := 103) d_X12_expected_103 rfl ?_
    refine wp_aload_n (pc := 105) d_X12_expected_105 rfl ?_
    refine wp_getR (pc := 106) d_X12_expected_106 fl_X12_106 (fun _ _ _ => rfl) ho7 ?_
    refine wp_bipush (pc := 109) (v := 6) d_X12_expected_109 rfl ?_
    refine wp_iload_n (pc := 111) d_X12_expected_111 rfl ?_
    refine wp_imul (pc := 112) d_X12_expected_112 ?_
    refine wp_iload (pc := 113) d_X12_expected_113 rfl ?_
    refine wp_iadd (pc := 115) d_X12_expected_115 ?_
    obtain ⟨hi12, h⟩ := h
    refine wp_iald (pc := 116) d_X12_expected_116 ho8 hi12 ?_
    refine wp_i2l (pc := 117) d_X12_expected_117 ?_
    refine wp_ladd (pc := 118) d_X12_expected_118 ?_
    refine wp_lstore (pc := 119) (lv' := [some (vr _), some (vi _), some (vi _), some (vi _), some (vj _), none, some (vj _), none, some (vi _)]) d_X12_expected_119 (by decide) rfl ?_
    refine wp_iinc (pc := 121) (v := 1) (lv' := [some (vr _), some (vi _), some (vi _), some (vi _), some (vj _), none, some (vj _), none, some (vi _)]) d_X12_expected_121 (by decide) rfl rfl rfl ?_
    refine wp_goto (pc := 124) (tgt := 48) d_X12_expected_124 (by decide) ?_
    refine wp_sub ?_ h
    exact ⟨rfl, ⟨rfl, ⟨rfl, ⟨rfl, ⟨rfl, ⟨rfl, ⟨rfl, trivial⟩⟩⟩⟩⟩⟩⟩
theorem d_X12_show_0 : decode prog_14_method_122_code 0 = .ok (.lload_n 1, 1) := by decide +kernel
theorem d_X12_show_1 : decode prog_14_method_122_code 1 = .ok (.lconst 0, 1) := by decide +kernel
theorem d_X12_show_2 : decode prog_14_method_122_code 2 = .ok (.lcmp, 1) := by decide +kernel
theorem d_X12_show_3 : decode prog_14_method_122_code 3 = .ok (.ifCond .ge 8, 3) := by decide +kernel
theorem d_X12_show_6 : decode prog_14_method_122_code 6 = .ok (.lload_n 1, 1) := by decide +kernel
theorem d_X12_show_7 : decode prog_14_method_122_code 7 = .ok (.lneg, 1) := by decide +kernel
theorem d_X12_show_8 : decode prog_14_method_122_code 8 = .ok (.goto 4, 3) := by decide +kernel
theorem d_X12_show_11 : decode prog_14_method_122_code 11 = .ok (.lload_n 1, 1) := by decide +kernel
theorem d_X12_show_12 : decode prog_14_method_122_code 12 = .ok (.lstore 5, 2) := by decide +kernel
theorem d_X12_show_14 : decode prog_14_method_122_code 14 = .ok (.lload_n 3, 1) := by decide +kernel
theorem d_X12_show_15 : decode prog_14_method_122_code 15 = .ok (.lstore 7, 2) := by decide +kernel
theorem d_X12_show_17 : decode prog_14_method_122_code 17 = .ok (.lload 7, 2) := by decide +kernel
theorem d_X12_show_19 : decode prog_14_method_122_code 19 = .ok (.lconst 0, 1) := by decide +kernel
theorem d_X12_show_20 : decode prog_14_method_122_code 20 = .ok (.lcmp, 1) := by decide +kernel
theorem d_X12_show_21 : decode prog_14_method_122_code 21 = .ok (.ifCond .eq 21, 3) := by decide +kernel
theorem d_X12_show_24 : decode prog_14_method_122_code 24 = .ok (.lload 5, 2) := by decide +kernel
theorem d_X12_show_26 : decode prog_14_method_122_code 26 = .ok (.lload 7, 2) := by decide +kernel
theorem d_X12_show_28 : decode prog_14_method_122_code 28 = .ok (.lrem, 1) := by decide +kernel
theorem d_X12_show_29 : decode prog_14_method_122_code 29 = .ok (.lstore 9, 2) := by decide +kernel
theorem d_X12_show_31 : decode prog_14_method_122_code 31 = .ok (.lload 7, 2) := by decide +kernel
theorem d_X12_show_33 : decode prog_14_method_122_code 33 = .ok (.lstore 5, 2) := by decide +kernel
theorem d_X12_show_35 : decode prog_14_method_122_code 35 = .ok (.lload 9, 2) := by decide +kernel
theorem d_X12_show_37 : decode prog_14_method_122_code 37 = .ok (.lstore 7, 2) := by decide +kernel
theorem d_X12_show_39 : decode prog_14_method_122_code 39 = .ok (.goto (-22), 3) := by decide +kernel
theorem d_X12_show_42 : decode prog_14_method_122_code 42 = .ok (.aload_n 0, 1) := by decide +kernel
theorem d_X12_show_43 : decode prog_14_method_122_code 43 = .ok (.lload_n 1, 1) := by decide +kernel
theorem d_X12_show_44 : decode prog_14_method_122_code 44 = .ok (.lload 5, 2) := by decide +kernel
theorem d_X12_show_46 : decode prog_14_method_122_code 46 = .ok (.ldiv, 1) := by decide +kernel
theorem d_X12_show_47 : decode prog_14_method_122_code 47 = .ok (.putfield 605, 3) := by decide +kernel
theorem d_X12_show_50 : decode prog_14_method_122_code 50 = .ok (.aload_n 0, 1) := by decide +kernel
theorem d_X12_show_51 : decode prog_14_method_122_code 51 = .ok (.lload_n 3, 1) := by decide +kernel
theorem d_X12_show_52 : decode prog_14_method_122_code 52 = .ok (.lload 5, 2) := by decide +kernel
theorem d_X12_show_54 : decode prog_14_method_122_code 54 = .ok (.ldiv, 1) := by decide +kernel
theorem d_X12_show_55 : decode prog_14_method_122_code 55 = .ok (.putfield 15, 3) := by decide +kernel
theorem d_X12_show_58 : decode prog_14_method_122_code 58 = .ok (.return_, 1) := by decide +kernel
theorem v_X12_show_0 {E : EE} {d : Nat} {Q : Option AV → AH → Prop} {x0 : Nat} {x1 : Int64} {x3 : Int64} {G : AH} (h : (0 ≤ x1 → wp E d M_X12_show 12 [some (vr x0), some (vj x1), none, some (vj x3), none, none, none, none, none, none, none] [vj x1] G Q) ∧ (¬ (0 ≤ x1) → wp E d M_X12_show 12 [some (vr x0), some (vj x1), none, some (vj x3), none, none, none, none, none, none, none] [vj (-x1)] G Q)) : wp E d M_X12_show 0 [some (vr x0), some (vj x1), none, some (vj x3), none, none, none, none, none, none, none] [] G Q := by
  refine wp_lload_n (pc := 0) d_X12_show_0 rfl ?_
  refine wp_lconst (pc := 1) (v := 0) d_X12_show_1 rfl ?_
  refine wp_lcmp_ge (pc := 2) (tgt := 11) d_X12_show_2 d_X12_show_3 (by decide) (fun hc => ?_) (fun hc => ?_)
  · have h := h.1 hc
    refine wp_lload_n (pc := 11) d_X12_show_11 rfl ?_
    refine wp_sub ?_ h
    exact ⟨rfl, ⟨rfl, ⟨rfl, trivial⟩⟩⟩
  · have h := h.2 hc
    refine wp_lload_n (pc := 6) d_X12_show_6 rfl ?_
    refine wp_lneg (pc := 7) d_X12_show_7 ?_
    refine wp_goto (pc := 8) (tgt := 12) d_X12_show_8 (by decide) ?_
    refine wp_sub ?_ h
    exact ⟨rfl, ⟨rfl, ⟨rfl, trivial⟩⟩⟩
theorem v_X12_show_12 {E : EE} {d : Nat} {Q : Option AV → AH → Prop} {x0 : Nat} {x1 : Int64} {x3 : Int64} {t0 : Int64} {G : AH} (h : wp E d M_X12_show 17 [some (vr x0), some (vj x1), none, some (vj x3), none, some (vj t0), none, some (vj x3), none, none, none] [] G Q) : wp E d M_X12_show 12 [some (vr x0), some (vj x1), none, some (vj x3), none, none, none, none, none, none, none] [vj t0] G Q := by
  refine wp_lstore (pc := 12) (lv' := [some (vr _), some (vj _), none, some (vj _), none, some (vj _), none, none, none, none, none]) d_X12_show_12 (by decide) rfl ?_
  refine wp_lload_n (pc := 14) d_X12_show_14 rfl ?_
  refine wp_lstore (pc := 15) (lv' := [some (vr _), some (vj _), none, some (vj _), none, some (vj _), none, some (vj _), none, none, none]) d_X12_show_15 (by decide) rfl ?_
  refine wp_sub ?_ h
  exact ⟨rfl, ⟨rfl, ⟨rfl, ⟨rfl, ⟨rfl, trivial⟩⟩⟩⟩⟩
theorem v_X12_show_17 {E : EE} {d : Nat} {Q : Option AV → AH → Prop} {x0 : Nat} {x1 : Int64} {x3 : Int64} {x5 : Int64} {x7 : Int64} {G : AH} (h : (x7 = 0 → ¬ x5 = 0 ∧ (isO E G x0 12 ∧ (∀ G3 : AH, G3 = sJ G x0 2 (x1 / x5) → ¬ x5 = 0 ∧ (∀ G6 : AH, G6 = sJ G3 x0 3 (x3 / x5) → Q none G6)))) ∧ (¬ (x7 = 0) → ¬ x7 = 0 ∧ (wp E d M_X12_show 17 [some (vr x0), some (vj x1), none, some (vj x3), none, some (vj x7), none, some (vj (x5 - x5 / x7 * x7)), none, none, none] [] G Q))) : wp E d M_X12_show 17 [some (vr x0), some (vj x1), none, some (vj x3), none, some (vj x5), none, some (vj x7), none, none, none] [] G Q := by
  refine wp_lload (pc := 17) d_X12_show_17 rfl ?_
  refine wp_lconst (pc := 19) (v := 0) d_X12_show_19 rfl ?_
  refine wp_lcmp_eq (pc := 20) (tgt := 42) d_X12_show_20 d_X12_show_21 (by decide) (fun hc => ?_) (fun hc => ?_)
  · have h := h.1 hc
    refine wp_aload_n (pc := 42) d_X12_show_42 rfl ?_
    refine wp_lload_n (pc := 43) d_X12_show_43 rfl ?_
    refine wp_lload (pc := 44) d_X12_show_44 rfl ?_
    obtain ⟨hz1, h⟩ := h
    refine wp_ldiv (pc := 46) d_X12_show_46 hz1 ?_
    obtain ⟨ho2, h⟩ := h
    refine wp_putJ (pc := 47) d_X12_show_47 fl_X12_605 (fun _ _ _ => rfl) rfl (Or.inl rfl) ho2 ?_
    refine wp_nm (fun G3 eG3 => ?_)
    have h := h G3 eG3
    have ho4 := isO_sJ eG3 ho2
    refine wp_aload_n (pc := 50) d_X12_show_50 rfl ?_
    refine wp_lload_n (pc := 51) d_X12_show_51 rfl ?_
    refine wp_lload (pc := 52) d_X12_show_52 rfl ?_
    obtain ⟨hz5, h⟩ := h
    refine wp_ldiv (pc := 54) d_X12_show_54 hz5 ?_
    refine wp_putJ (pc := 55) d_X12_show_55 fl_X12_15 (fun _ _ _ => rfl) rfl (Or.inl rfl) ho4 ?_
    refine wp_nm (fun G6 eG6 => ?_)
    have h := h G6 eG6
    have ho7 := isO_sJ eG6 ho4
    exact wp_vret (pc := 58) d_X12_show_58 rfl h
  · have h := h.2 hc
    refine wp_lload (pc := 24) d_X12_show_24 rfl ?_
    refine wp_lload (pc := 26) d_X12_show_26 rfl ?_
    obtain ⟨hz8, h⟩ := h
    refine wp_lrem (pc := 28) d_X12_show_28 hz8 ?_
    refine wp_lstore (pc := 29) (lv' := [some (vr _), some (vj _), none, some (vj _), none, some (vj _), none, some (vj _), none, some (vj _), none]) d_X12_show_29 (by decide) rfl ?_
    refine wp_lload (pc := 31) d_X12_show_31 rfl ?_
    refine wp_lstore (pc := 33) (lv' := [some (vr _), some (vj _), none, some (vj _), none, some (vj _), none, some (vj _), none, some (vj _), none]) d_X12_show_33 (by decide) rfl ?_
    refine wp_lload (pc := 35) d_X12_show_35 rfl ?_
    refine wp_lstore (pc := 37) (lv' := [some (vr _), some (vj _), none, some (vj _), none, some (vj _), none, some (vj _), none, some (vj _), none]) d_X12_show_37 (by decide) rfl ?_
    refine wp_goto (pc := 39) (tgt := 17) d_X12_show_39 (by decide) ?_
    refine wp_sub ?_ h
    exact ⟨rfl, ⟨rfl, ⟨rfl, ⟨rfl, ⟨rfl, trivial⟩⟩⟩⟩⟩
theorem d_X12_robust_0 : decode prog_14_method_147_code 0 = .ok (.aload_n 0, 1) := by decide +kernel
theorem d_X12_robust_1 : decode prog_14_method_147_code 1 = .ok (.iload_n 1, 1) := by decide +kernel
theorem d_X12_robust_2 : decode prog_14_method_147_code 2 = .ok (.invokevirtual 453, 3) := by decide +kernel
theorem d_X12_robust_5 : decode prog_14_method_147_code 5 = .ok (.ifCond .ne 5, 3) := by decide +kernel
theorem d_X12_robust_8 : decode prog_14_method_147_code 8 = .ok (.iconst (-1), 1) := by decide +kernel
theorem d_X12_robust_9 : decode prog_14_method_147_code 9 = .ok (.ireturn, 1) := by decide +kernel
theorem d_X12_robust_10 : decode prog_14_method_147_code 10 = .ok (.aload_n 0, 1) := by decide +kernel
theorem d_X12_robust_11 : decode prog_14_method_147_code 11 = .ok (.getfield 103, 3) := by decide +kernel
theorem d_X12_robust_14 : decode prog_14_method_147_code 14 = .ok (.iload_n 1, 1) := by decide +kernel
theorem d_X12_robust_15 : decode prog_14_method_147_code 15 = .ok (.iaload, 1) := by decide +kernel
theorem d_X12_robust_16 : decode prog_14_method_147_code 16 = .ok (.ifCond .ne 5, 3) := by decide +kernel
theorem d_X12_robust_19 : decode prog_14_method_147_code 19 = .ok (.iconst 0, 1) := by decide +kernel
theorem d_X12_robust_20 : decode prog_14_method_147_code 20 = .ok (.ireturn, 1) := by decide +kernel
theorem d_X12_robust_21 : decode prog_14_method_147_code 21 = .ok (.iconst 0, 1) := by decide +kernel
theorem d_X12_robust_22 : decode prog_14_method_147_code 22 = .ok (.istore_n 2, 1) := by decide +kernel
theorem d_X12_robust_23 : decode prog_14_method_147_code 23 = .ok (.iload_n 2, 1) := by decide +kernel
theorem d_X12_robust_24 : decode prog_14_method_147_code 24 = .ok (.aload_n 0, 1) := by decide +kernel
theorem d_X12_robust_25 : decode prog_14_method_147_code 25 = .ok (.getfield 82, 3) := by decide +kernel
theorem d_X12_robust_28 : decode prog_14_method_147_code 28 = .ok (.iload_n 1, 1) := by decide +kernel
theorem d_X12_robust_29 : decode prog_14_method_147_code 29 = .ok (.iaload, 1) := by decide +kernel
theorem d_X12_robust_30 : decode prog_14_method_147_code 30 = .ok (.if_icmp .ge 39, 3) := by decide +kernel
theorem d_X12_robust_33 : decode prog_14_method_147_code 33 = .ok (.aload_n 0, 1) := by decide +kernel
theorem d_X12_robust_34 : decode prog_14_method_147_code 34 = .ok (.getfield 175, 3) := by decide +kernel
theorem d_X12_robust_37 : decode prog_14_method_147_code 37 = .ok (.iload_n 2, 1) := by decide +kernel
theorem d_X12_robust_38 : decode prog_14_method_147_code 38 = .ok (.lconst 0, 1) := by decide +kernel
theorem d_X12_robust_39 : decode prog_14_method_147_code 39 = .ok (.lastore, 1) := by decide +kernel
theorem d_X12_robust_40 : decode prog_14_method_147_code 40 = .ok (.aload_n 0, 1) := by decide +kernel
theorem d_X12_robust_41 : decode prog_14_method_147_code 41 = .ok (.getfield 175, 3) := by decide +kernel
theorem d_X12_robust_44 : decode prog_14_method_147_code 44 = .ok (.sipush 20000, 3) := by decide +kernel
theorem d_X12_robust_47 : decode prog_14_method_147_code 47 = .ok (.iload_n 2, 1) := by decide +kernel
theorem d_X12_robust_48 : decode prog_14_method_147_code 48 = .ok (.iadd, 1) := by decide +kernel
theorem d_X12_robust_49 : decode prog_14_method_147_code 49 = .ok (.lconst 0, 1) := by decide +kernel
theorem d_X12_robust_50 : decode prog_14_method_147_code 50 = .ok (.lastore, 1) := by decide +kernel
theorem d_X12_robust_51 : decode prog_14_method_147_code 51 = .ok (.aload_n 0, 1) := by decide +kernel
theorem d_X12_robust_52 : decode prog_14_method_147_code 52 = .ok (.getfield 178, 3) := by decide +kernel
theorem d_X12_robust_55 : decode prog_14_method_147_code 55 = .ok (.iload_n 2, 1) := by decide +kernel
theorem d_X12_robust_56 : decode prog_14_method_147_code 56 = .ok (.aload_n 0, 1) := by decide +kernel
theorem d_X12_robust_57 : decode prog_14_method_147_code 57 = .ok (.iload_n 1, 1) := by decide +kernel
theorem d_X12_robust_58 : decode prog_14_method_147_code 58 = .ok (.iload_n 2, 1) := by decide +kernel
theorem d_X12_robust_59 : decode prog_14_method_147_code 59 = .ok (.invokevirtual 559, 3) := by decide +kernel
theorem d_X12_robust_62 : decode prog_14_method_147_code 62 = .ok (.bastore, 1) := by decide +kernel
theorem d_X12_robust_63 : decode prog_14_method_147_code 63 = .ok (.iinc 2 1, 3) := by decide +kernel
theorem d_X12_robust_66 : decode prog_14_method_147_code 66 = .ok (.goto (-43), 3) := by decide +kernel
theorem d_X12_robust_69 : decode prog_14_method_147_code 69 = .ok (.iconst 0, 1) := by decide +kernel
theorem d_X12_robust_70 : decode prog_14_method_147_code 70 = .ok (.istore_n 2, 1) := by decide +kernel
theorem d_X12_robust_71 : decode prog_14_method_147_code 71 = .ok (.iload_n 2, 1) := by decide +kernel
theorem d_X12_robust_72 : decode prog_14_method_147_code 72 = .ok (.aload_n 0, 1) := by decide +kernel
theorem d_X12_robust_73 : decode prog_14_method_147_code 73 = .ok (.getfield 103, 3) := by decide +kernel
theorem d_X12_robust_76 : decode prog_14_method_147_code 76 = .ok (.iload_n 1, 1) := by decide +kernel
theorem d_X12_robust_77 : decode prog_14_method_147_code 77 = .ok (.iaload, 1) := by decide +kernel
theorem d_X12_robust_78 : decode prog_14_method_147_code 78 = .ok (.if_icmp .ge 128, 3) := by decide +kernel
theorem d_X12_robust_81 : decode prog_14_method_147_code 81 = .ok (.aload_n 0, 1) := by decide +kernel
theorem d_X12_robust_82 : decode prog_14_method_147_code 82 = .ok (.iload_n 1, 1) := by decide +kernel
theorem d_X12_robust_83 : decode prog_14_method_147_code 83 = .ok (.iload_n 2, 1) := by decide +kernel
theorem d_X12_robust_84 : decode prog_14_method_147_code 84 = .ok (.invokevirtual 553, 3) := by decide +kernel
theorem d_X12_robust_87 : decode prog_14_method_147_code 87 = .ok (.iconst 0, 1) := by decide +kernel
theorem d_X12_robust_88 : decode prog_14_method_147_code 88 = .ok (.istore_n 3, 1) := by decide +kernel
theorem d_X12_robust_89 : decode prog_14_method_147_code 89 = .ok (.iload_n 3, 1) := by decide +kernel
theorem d_X12_robust_90 : decode prog_14_method_147_code 90 = .ok (.aload_n 0, 1) := by decide +kernel
theorem d_X12_robust_91 : decode prog_14_method_147_code 91 = .ok (.getfield 82, 3) := by decide +kernel
theorem d_X12_robust_94 : decode prog_14_method_147_code 94 = .ok (.iload_n 1, 1) := by decide +kernel
theorem d_X12_robust_95 : decode prog_14_method_147_code 95 = .ok (.iaload, 1) := by decide +kernel
theorem d_X12_robust_96 : decode prog_14_method_147_code 96 = .ok (.if_icmp .ge 104, 3) := by decide +kernel
theorem d_X12_robust_99 : decode prog_14_method_147_code 99 = .ok (.aload_n 0, 1) := by decide +kernel
theorem d_X12_robust_100 : decode prog_14_method_147_code 100 = .ok (.getfield 175, 3) := by decide +kernel
theorem d_X12_robust_103 : decode prog_14_method_147_code 103 = .ok (.iload_n 3, 1) := by decide +kernel
theorem d_X12_robust_104 : decode prog_14_method_147_code 104 = .ok (.dup2, 1) := by decide +kernel
theorem d_X12_robust_105 : decode prog_14_method_147_code 105 = .ok (.laload, 1) := by decide +kernel
theorem d_X12_robust_106 : decode prog_14_method_147_code 106 = .ok (.aload_n 0, 1) := by decide +kernel
theorem d_X12_robust_107 : decode prog_14_method_147_code 107 = .ok (.getfield 106, 3) := by decide +kernel
theorem d_X12_robust_110 : decode prog_14_method_147_code 110 = .ok (.bipush 6, 2) := by decide +kernel
theorem d_X12_robust_112 : decode prog_14_method_147_code 112 = .ok (.iload_n 1, 1) := by decide +kernel
theorem d_X12_robust_113 : decode prog_14_method_147_code 113 = .ok (.imul, 1) := by decide +kernel
theorem d_X12_robust_114 : decode prog_14_method_147_code 114 = .ok (.iload_n 2, 1) := by decide +kernel
theorem d_X12_robust_115 : decode prog_14_method_147_code 115 = .ok (.iadd, 1) := by decide +kernel
theorem d_X12_robust_116 : decode prog_14_method_147_code 116 = .ok (.iaload, 1) := by decide +kernel
theorem d_X12_robust_117 : decode prog_14_method_147_code 117 = .ok (.i2l, 1) := by decide +kernel
theorem d_X12_robust_118 : decode prog_14_method_147_code 118 = .ok (.aload_n 0, 1) := by decide +kernel
theorem d_X12_robust_119 : decode prog_14_method_147_code 119 = .ok (.getfield 159, 3) := by decide +kernel
theorem d_X12_robust_122 : decode prog_14_method_147_code 122 = .ok (.sipush 20000, 3) := by decide +kernel
theorem d_X12_robust_125 : decode prog_14_method_147_code 125 = .ok (.iload_n 3, 1) := by decide +kernel
theorem d_X12_robust_126 : decode prog_14_method_147_code 126 = .ok (.iadd, 1) := by decide +kernel
theorem d_X12_robust_127 : decode prog_14_method_147_code 127 = .ok (.laload, 1) := by decide +kernel
theorem d_X12_robust_128 : decode prog_14_method_147_code 128 = .ok (.lmul, 1) := by decide +kernel
theorem d_X12_robust_129 : decode prog_14_method_147_code 129 = .ok (.ladd, 1) := by decide +kernel
theorem d_X12_robust_130 : decode prog_14_method_147_code 130 = .ok (.lastore, 1) := by decide +kernel
theorem d_X12_robust_131 : decode prog_14_method_147_code 131 = .ok (.aload_n 0, 1) := by decide +kernel
theorem d_X12_robust_132 : decode prog_14_method_147_code 132 = .ok (.getfield 175, 3) := by decide +kernel
theorem d_X12_robust_135 : decode prog_14_method_147_code 135 = .ok (.sipush 20000, 3) := by decide +kernel
theorem d_X12_robust_138 : decode prog_14_method_147_code 138 = .ok (.iload_n 3, 1) := by decide +kernel
theorem d_X12_robust_139 : decode prog_14_method_147_code 139 = .ok (.iadd, 1) := by decide +kernel
theorem d_X12_robust_140 : decode prog_14_method_147_code 140 = .ok (.dup2, 1) := by decide +kernel
theorem d_X12_robust_141 : decode prog_14_method_147_code 141 = .ok (.laload, 1) := by decide +kernel
theorem d_X12_robust_142 : decode prog_14_method_147_code 142 = .ok (.aload_n 0, 1) := by decide +kernel
theorem d_X12_robust_143 : decode prog_14_method_147_code 143 = .ok (.getfield 106, 3) := by decide +kernel
theorem d_X12_robust_146 : decode prog_14_method_147_code 146 = .ok (.bipush 6, 2) := by decide +kernel
theorem d_X12_robust_148 : decode prog_14_method_147_code 148 = .ok (.iload_n 1, 1) := by decide +kernel
theorem d_X12_robust_149 : decode prog_14_method_147_code 149 = .ok (.imul, 1) := by decide +kernel
theorem d_X12_robust_150 : decode prog_14_method_147_code 150 = .ok (.iload_n 2, 1) := by decide +kernel
theorem d_X12_robust_151 : decode prog_14_method_147_code 151 = .ok (.iadd, 1) := by decide +kernel
theorem d_X12_robust_152 : decode prog_14_method_147_code 152 = .ok (.iaload, 1) := by decide +kernel
theorem d_X12_robust_153 : decode prog_14_method_147_code 153 = .ok (.i2l, 1) := by decide +kernel
theorem d_X12_robust_154 : decode prog_14_method_147_code 154 = .ok (.aload_n 0, 1) := by decide +kernel
theorem d_X12_robust_155 : decode prog_14_method_147_code 155 = .ok (.getfield 159, 3) := by decide +kernel
theorem d_X12_robust_158 : decode prog_14_method_147_code 158 = .ok (.ldc 174, 2) := by decide +kernel
theorem d_X12_robust_160 : decode prog_14_method_147_code 160 = .ok (.iload_n 3, 1) := by decide +kernel
theorem d_X12_robust_161 : decode prog_14_method_147_code 161 = .ok (.iadd, 1) := by decide +kernel
theorem d_X12_robust_162 : decode prog_14_method_147_code 162 = .ok (.laload, 1) := by decide +kernel
theorem d_X12_robust_163 : decode prog_14_method_147_code 163 = .ok (.lmul, 1) := by decide +kernel
theorem d_X12_robust_164 : decode prog_14_method_147_code 164 = .ok (.ladd, 1) := by decide +kernel
theorem d_X12_robust_165 : decode prog_14_method_147_code 165 = .ok (.lastore, 1) := by decide +kernel
theorem d_X12_robust_166 : decode prog_14_method_147_code 166 = .ok (.aload_n 0, 1) := by decide +kernel
theorem d_X12_robust_167 : decode prog_14_method_147_code 167 = .ok (.getfield 178, 3) := by decide +kernel
theorem d_X12_robust_170 : decode prog_14_method_147_code 170 = .ok (.iload_n 3, 1) := by decide +kernel
theorem d_X12_robust_171 : decode prog_14_method_147_code 171 = .ok (.aload_n 0, 1) := by decide +kernel
theorem d_X12_robust_172 : decode prog_14_method_147_code 172 = .ok (.getfield 178, 3) := by decide +kernel
theorem d_X12_robust_175 : decode prog_14_method_147_code 175 = .ok (.iload_n 3, 1) := by decide +kernel
theorem d_X12_robust_176 : decode prog_14_method_147_code 176 = .ok (.baload, 1) := by decide +kernel
theorem d_X12_robust_177 : decode prog_14_method_147_code 177 = .ok (.ifCond .eq 15, 3) := by decide +kernel
theorem d_X12_robust_180 : decode prog_14_method_147_code 180 = .ok (.aload_n 0, 1) := by decide +kernel
theorem d_X12_robust_181 : decode prog_14_method_147_code 181 = .ok (.iload_n 3, 1) := by decide +kernel
theorem d_X12_robust_182 : decode prog_14_method_147_code 182 = .ok (.invokevirtual 556, 3) := by decide +kernel
theorem d_X12_robust_185 : decode prog_14_method_147_code 185 = .ok (.ifCond .eq 7, 3) := by decide +kernel
theorem d_X12_robust_188 : decode prog_14_method_147_code 188 = .ok (.iconst 1, 1) := by decide +kernel
theorem d_X12_robust_189 : decode prog_14_method_147_code 189 = .ok (.goto 4, 3) := by decide +kernel
theorem d_X12_robust_192 : decode prog_14_method_147_code 192 = .ok (.iconst 0, 1) := by decide +kernel
theorem d_X12_robust_193 : decode prog_14_method_147_code 193 = .ok (.bastore, 1) := by decide +kernel
theorem d_X12_robust_194 : decode prog_14_method_147_code 194 = .ok (.iinc 3 1, 3) := by decide +kernel
theorem d_X12_robust_197 : decode prog_14_method_147_code 197 = .ok (.goto (-108), 3) := by decide +kernel
theorem d_X12_robust_200 : decode prog_14_method_147_code 200 = .ok (.iinc 2 1, 3) := by decide +kernel
theorem d_X12_robust_203 : decode prog_14_method_147_code 203 = .ok (.goto (-132), 3) := by decide +kernel
theorem d_X12_robust_206 : decode prog_14_method_147_code 206 = .ok (.iconst (-1), 1) := by decide +kernel
theorem d_X12_robust_207 : decode prog_14_method_147_code 207 = .ok (.istore_n 2, 1) := by decide +kernel
theorem d_X12_robust_208 : decode prog_14_method_147_code 208 = .ok (.iconst 0, 1) := by decide +kernel
theorem d_X12_robust_209 : decode prog_14_method_147_code 209 = .ok (.istore_n 3, 1) := by decide +kernel
theorem d_X12_robust_210 : decode prog_14_method_147_code 210 = .ok (.iload_n 3, 1) := by decide +kernel
theorem d_X12_robust_211 : decode prog_14_method_147_code 211 = .ok (.aload_n 0, 1) := by decide +kernel
theorem d_X12_robust_212 : decode prog_14_method_147_code 212 = .ok (.getfield 82, 3) := by decide +kernel
theorem d_X12_robust_215 : decode prog_14_method_147_code 215 = .ok (.iload_n 1, 1) := by decide +kernel
theorem d_X12_robust_216 : decode prog_14_method_147_code 216 = .ok (.iaload, 1) := by decide +kernel
theorem d_X12_robust_217 : decode prog_14_method_147_code 217 = .ok (.if_icmp .ge 96, 3) := by decide +kernel
theorem d_X12_robust_220 : decode prog_14_method_147_code 220 = .ok (.aload_n 0, 1) := by decide +kernel
theorem d_X12_robust_221 : decode prog_14_method_147_code 221 = .ok (.getfield 178, 3) := by decide +kernel
theorem d_X12_robust_224 : decode prog_14_method_147_code 224 = .ok (.iload_n 3, 1) := by decide +kernel
theorem d_X12_robust_225 : decode prog_14_method_147_code 225 = .ok (.baload, 1) := by decide +kernel
theorem d_X12_robust_226 : decode prog_14_method_147_code 226 = .ok (.ifCond .eq 67, 3) := by decide +kernel
theorem d_X12_robust_229 : decode prog_14_method_147_code 229 = .ok (.iload_n 2, 1) := by decide +kernel
theorem d_X12_robust_230 : decode prog_14_method_147_code 230 = .ok (.ifCond .lt 59, 3) := by decide +kernel
theorem d_X12_robust_233 : decode prog_14_method_147_code 233 = .ok (.aload_n 0, 1) := by decide +kernel
theorem d_X12_robust_234 : decode prog_14_method_147_code 234 = .ok (.getfield 175, 3) := by decide +kernel
theorem d_X12_robust_237 : decode prog_14_method_147_code 237 = .ok (.iload_n 3, 1) := by decide +kernel
theorem d_X12_robust_238 : decode prog_14_method_147_code 238 = .ok (.laload, 1) := by decide +kernel
theorem d_X12_robust_239 : decode prog_14_method_147_code 239 = .ok (.aload_n 0, 1) := by decide +kernel
theorem d_X12_robust_240 : decode prog_14_method_147_code 240 = .ok (.getfield 175, 3) := by decide +kernel
theorem d_X12_robust_243 : decode prog_14_method_147_code 243 = .ok (.iload_n 2, 1) := by decide +kernel
theorem d_X12_robust_244 : decode prog_14_method_147_code 244 = .ok (.laload, 1) := by decide +kernel
theorem d_X12_robust_245 : decode prog_14_method_147_code 245 = .ok (.lcmp, 1) := by decide +kernel
theorem d_X12_robust_246 : decode prog_14_method_147_code 246 = .ok (.ifCond .lt 43, 3) := by decide +kernel
theorem d_X12_robust_249 : decode prog_14_method_147_code 249 = .ok (.aload_n 0, 1) := by decide +kernel
theorem d_X12_robust_250 : decode prog_14_method_147_code 250 = .ok (.getfield 175, 3) := by decide +kernel
theorem d_X12_robust_253 : decode prog_14_method_147_code 253 = .ok (.iload_n 3, 1) := by decide +kernel
theorem d_X12_robust_254 : decode prog_14_method_147_code 254 = .ok (.laload, 1) := by decide +kernel
theorem d_X12_robust_255 : decode prog_14_method_147_code 255 = .ok (.aload_n 0, 1) := by decide +kernel
theorem d_X12_robust_256 : decode prog_14_method_147_code 256 = .ok (.getfield 175, 3) := by decide +kernel
theorem d_X12_robust_259 : decode prog_14_method_147_code 259 = .ok (.iload_n 2, 1) := by decide +kernel
theorem d_X12_robust_260 : decode prog_14_method_147_code 260 = .ok (.laload, 1) := by decide +kernel
theorem d_X12_robust_261 : decode prog_14_method_147_code 261 = .ok (.lcmp, 1) := by decide +kernel
theorem d_X12_robust_262 : decode prog_14_method_147_code 262 = .ok (.ifCond .ne 31, 3) := by decide +kernel
theorem d_X12_robust_265 : decode prog_14_method_147_code 265 = .ok (.aload_n 0, 1) := by decide +kernel
theorem d_X12_robust_266 : decode prog_14_method_147_code 266 = .ok (.getfield 175, 3) := by decide +kernel
theorem d_X12_robust_269 : decode prog_14_method_147_code 269 = .ok (.sipush 20000, 3) := by decide +kernel
theorem d_X12_robust_272 : decode prog_14_method_147_code 272 = .ok (.iload_n 3, 1) := by decide +kernel
theorem d_X12_robust_273 : decode prog_14_method_147_code 273 = .ok (.iadd, 1) := by decide +kernel
theorem d_X12_robust_274 : decode prog_14_method_147_code 274 = .ok (.laload, 1) := by decide +kernel
theorem d_X12_robust_275 : decode prog_14_method_147_code 275 = .ok (.aload_n 0, 1) := by decide +kernel
theorem d_X12_robust_276 : decode prog_14_method_147_code 276 = .ok (.getfield 175, 3) := by decide +kernel
theorem d_X12_robust_279 : decode prog_14_method_147_code 279 = .ok (.sipush 20000, 3) := by decide +kernel
theorem d_X12_robust_282 : decode prog_14_method_147_code 282 = .ok (.iload_n 2, 1) := by decide +kernel
theorem d_X12_robust_283 : decode prog_14_method_147_code 283 = .ok (.iadd, 1) := by decide +kernel
theorem d_X12_robust_284 : decode prog_14_method_147_code 284 = .ok (.laload, 1) := by decide +kernel
theorem d_X12_robust_285 : decode prog_14_method_147_code 285 = .ok (.lcmp, 1) := by decide +kernel
theorem d_X12_robust_286 : decode prog_14_method_147_code 286 = .ok (.ifCond .ge 7, 3) := by decide +kernel
theorem d_X12_robust_289 : decode prog_14_method_147_code 289 = .ok (.iconst 1, 1) := by decide +kernel
theorem d_X12_robust_290 : decode prog_14_method_147_code 290 = .ok (.goto 4, 3) := by decide +kernel
theorem d_X12_robust_293 : decode prog_14_method_147_code 293 = .ok (.iconst 0, 1) := by decide +kernel
theorem d_X12_robust_294 : decode prog_14_method_147_code 294 = .ok (.istore 4, 2) := by decide +kernel
theorem d_X12_robust_296 : decode prog_14_method_147_code 296 = .ok (.iload 4, 2) := by decide +kernel
theorem d_X12_robust_298 : decode prog_14_method_147_code 298 = .ok (.ifCond .eq 7, 3) := by decide +kernel
theorem d_X12_robust_301 : decode prog_14_method_147_code 301 = .ok (.iload_n 3, 1) := by decide +kernel
theorem d_X12_robust_302 : decode prog_14_method_147_code 302 = .ok (.goto 4, 3) := by decide +kernel
theorem d_X12_robust_305 : decode prog_14_method_147_code 305 = .ok (.iload_n 2, 1) := by decide +kernel
theorem d_X12_robust_306 : decode prog_14_method_147_code 306 = .ok (.istore_n 2, 1) := by decide +kernel
theorem d_X12_robust_307 : decode prog_14_method_147_code 307 = .ok (.iinc 3 1, 3) := by decide +kernel
theorem d_X12_robust_310 : decode prog_14_method_147_code 310 = .ok (.goto (-100), 3) := by decide +kernel
theorem d_X12_robust_313 : decode prog_14_method_147_code 313 = .ok (.iload_n 2, 1) := by decide +kernel
theorem d_X12_robust_314 : decode prog_14_method_147_code 314 = .ok (.ifCond .ge 5, 3) := by decide +kernel
theorem d_X12_robust_317 : decode prog_14_method_147_code 317 = .ok (.iconst 0, 1) := by decide +kernel
theorem d_X12_robust_318 : decode prog_14_method_147_code 318 = .ok (.ireturn, 1) := by decide +kernel
theorem d_X12_robust_319 : decode prog_14_method_147_code 319 = .ok (.aload_n 0, 1) := by decide +kernel
theorem d_X12_robust_320 : decode prog_14_method_147_code 320 = .ok (.iload_n 1, 1) := by decide +kernel
theorem d_X12_robust_321 : decode prog_14_method_147_code 321 = .ok (.iload_n 2, 1) := by decide +kernel
theorem d_X12_robust_322 : decode prog_14_method_147_code 322 = .ok (.invokevirtual 595, 3) := by decide +kernel
theorem d_X12_robust_325 : decode prog_14_method_147_code 325 = .ok (.iconst 1, 1) := by decide +kernel
theorem d_X12_robust_326 : decode prog_14_method_147_code 326 = .ok (.ireturn, 1) := by decide +kernel
theorem v_X12_robust_0 {E : EE} {d : Nat} {Q : Option AV → AH → Prop} {x0 : Nat} {x1 : Int32} {G : AH} (h0 : 0 < d) (h : isO E G x0 12 ∧ (wpI E (d - 1) M_X12_isProblem [vr x0, vi x1] G (fun r1 G2 => (¬ r1 = 0 → isO E G2 x0 12 ∧ (isO E G2 (gR G2 x0 32) 14 ∧ (vp_in x1 (gN G2 (gR G2 x0 32)) ∧ ((¬ (gI G2 (gR G2 x0 32) (Int32.toNatClampNeg x1)) = 0 → wp E d M_X12_robust 23 [some (vr x0), some (vi x1), some (vi 0), none, none] [] G2 Q) ∧ ((gI G2 (gR G2 x0 32) (Int32.toNatClampNeg x1)) = 0 → Q (some (vi 0)) G2))))) ∧ (r1 = 0 → Q (some (vi (-1))) G2)))) : wp E d M_X12_robust 0 [some (vr x0), some (vi x1), none, none, none] [] G Q := by
  refine wp_aload_n (pc := 0) d_X12_robust_0 rfl ?_
  refine wp_iload_n (pc := 1) d_X12_robust_1 rfl ?_
  obtain ⟨ho6, h⟩ := h
  refine wp_invV (pc := 2) (N := M_X12_isProblem) (As := [vi _]) (rest := []) (r := (cn_12, ct_12, 95)) d_X12_robust_2 ml_X12_453 mk_X12_isProblem mv_X12_isProblem h0 ho6 rfl rfl (Nat.le_of_ble_eq_true rfl) ?_
  refine wpM.mono h (fun rr G2 hr => ?_)
  obtain ⟨r1, rfl, h⟩ := hr
  show wp E d M_X12_robust 5 [some (vr _), some (vi _), none, none, none] [vi _] G2 Q
  refine wp_if_ne (pc := 5) (tgt := 10) d_X12_robust_5 (by decide) (fun hc => ?_) (fun hc => ?_)
  · have h := h.1 hc
    refine wp_aload_n (pc := 10) d_X12_robust_10 rfl ?_
    obtain ⟨ho3, h⟩ := h
    refine wp_getR (pc := 11) d_X12_robust_11 fl_X12_103 (fun _ _ _ => rfl) ho3 ?_
    refine wp_iload_n (pc := 14) d_X12_robust_14 rfl ?_
    obtain ⟨ho4, h⟩ := h
    obtain ⟨hi5, h⟩ := h
    refine wp_iald (pc := 15) d_X12_robust_15 ho4 hi5 ?_
    refine wp_if_ne (pc := 16) (tgt := 21) d_X12_robust_16 (by decide) (fun hc => ?_) (fun hc => ?_)
    · have h := h.1 hc
      refine wp_iconst (pc := 21) (v := 0) d_X12_robust_21 rfl ?_
      refine wp_istore_n (pc := 22) (lv' := [some (vr _), some (vi _), some (vi _), none, none]) d_X12_robust_22 (by decide) rfl ?_
      refine wp_sub ?_ h
      exact ⟨rfl, ⟨rfl, ⟨rfl, trivial⟩⟩⟩
    · have h := h.2 hc
      refine wp_iconst (pc := 19) (v := 0) d_X12_robust_19 rfl ?_
      exact wp_iret (pc := 20) d_X12_robust_20 rfl h
  · have h := h.2 hc
    refine wp_iconst (pc := 8) (v := (-1)) d_X12_robust_8 rfl ?_
    exact wp_iret (pc := 9) d_X12_robust_9 rfl h
theorem v_X12_robust_23 {E : EE} {d : Nat} {Q : Option AV → AH → Prop} {x0 : Nat} {x1 : Int32} {x2 : Int32} {G : AH} (h0 : 0 < d) (h : isO E G x0 12 ∧ (isO E G (gR G x0 25) 14 ∧ (vp_in x1 (gN G (gR G x0 25)) ∧ (((gI G (gR G x0 25) (Int32.toNatClampNeg x1)) ≤ x2 → wp E d M_X12_robust 71 [some (vr x0), some (vi x1), some (vi 0), none, none] [] G Q) ∧ (¬ ((gI G (gR G x0 25) (Int32.toNatClampNeg x1)) ≤ x2) → isO E G (gR G x0 74) 15 ∧ (vp_in x2 (gN G (gR G x0 74)) ∧ (∀ G6 : AH, G6 = sJ G (gR G x0 74) (Int32.toNatClampNeg x2) 0 → isO E G6 (gR G6 x0 74) 15 ∧ (vp_in (20000 + x2) (gN G6 (gR G6 x0 74)) ∧ (∀ G10 : AH, G10 = sJ G6 (gR G6 x0 74) (Int32.toNatClampNeg (20000 + x2)) 0 → wpI E (d - 1) M_X12_isAllowed [vr x0, vi x1, vi x2] G10 (fun r12 G13 => isO E G13 (gR G10 x0 75) 16 ∧ (vp_in x2 (gN G13 (gR G10 x0 75)) ∧ (∀ G16 : AH, G16 = sI G13 (gR G10 x0 75) (Int32.toNatClampNeg x2) (nz r12) → wp E d M_X12_robust 23 [some (vr x0), some (vi x1), some (vi (x2 + 1)), none, none] [] G16 Q)))))))))))) : wp E d M_X12_robust 23 [some (vr x0), some (vi x1), some (vi x2), none, none] [] G Q := by
  refine wp_iload_n (pc := 23) d_X12_robust_23 rfl ?_
  refine wp_aload_n (pc := 24) d_X12_robust_24 rfl ?_
  obtain ⟨ho1, h⟩ := h
  refine wp_getR (pc := 25) d_X12_robust_25 fl_X12_82 (fun _ _ _ => rfl) ho1 ?_
  refine wp_iload_n (pc := 28) d_X12_robust_28 rfl ?_
  obtain ⟨ho2, h⟩ := h
  obtain ⟨hi3, h⟩ := h
  refine wp_iald (pc := 29) d_X12_robust_29 ho2 hi3 ?_
  refine wp_icmp_ge (pc := 30) (tgt := 69) d_X12_robust_30 (by decide) (fun hc => ?_) (fun hc => ?_)
  · have h := h.1 hc
    refine wp_iconst (pc := 69) (v := 0) d_X12_robust_69 rfl ?_
    refine wp_istore_n (pc := 70) (lv' := [some (vr _), some (vi _), some (vi _), none, none]) d_X12_robust_70 (by decide) rfl ?_
    refine wp_sub ?_ h
    exact ⟨rfl, ⟨rfl, ⟨rfl, trivial⟩⟩⟩
  · have h := h.2 hc
    refine wp_aload_n (pc := 33) d_X12_robust_33 rfl ?_
    refine wp_getR (pc := 34) d_X12_robust_34 fl_X12_175 (fun _ _ _ => rfl) ho1 ?_
    refine wp_iload_n (pc := 37) d_X12_robust_37 rfl ?_
    refine wp_lconst (pc := 38) (v := 0) d_X12_robust_38 rfl ?_
    obtain ⟨ho4, h⟩ := h
    obtain ⟨hi5, h⟩ := h
    refine wp_last (pc := 39) d_X12_robust_39 ho4 hi5 ?_
    refine wp_nm (fun G6 eG6 => ?_)
    have h := h G6 eG6
    have ho7 := isO_sJ eG6 ho1
    refine wp_aload_n (pc := 40) d_X12_robust_40 rfl ?_
    refine wp_getR (pc := 41) d_X12_robust_41 fl_X12_175 (fun _ _ _ => rfl) ho7 ?_
    refine wp_sipush (pc := 44) (v := 20000) d_X12_robust_44 rfl ?_
    refine wp_iload_n (pc := 47) d_X12_robust_47 rfl ?_
    refine wp_iadd (pc := 48) d_X12_robust_48 ?_
    refine wp_lconst (pc := 49) (v := 0) d_X12_robust_49 rfl ?_
    obtain ⟨ho8, h⟩ := h
    obtain ⟨hi9, h⟩ := h
    refine wp_last (pc := 50) d_X12_robust_50 ho8 hi9 ?_
    refine wp_nm (fun G10 eG10 => ?_)
    have h := h G10 eG10
    have ho11 := isO_sJ eG10 ho7
    refine wp_aload_n (pc := 51) d_X12_robust_51 rfl ?_
    refine wp_getR (pc := 52) d_X12_robust_52 fl_X12_178 (fun _ _ _ => rfl) ho11 ?_
    refine wp_iload_n (pc := 55) d_X12_robust_55 rfl ?_
    refine wp_aload_n (pc := 56) d_X12_robust_56 rfl ?_
    refine wp_iload_n (pc := 57) d_X12_robust_57 rfl ?_
    refine wp_iload_n (pc := 58) d_X12_robust_58 rfl ?_
    refine wp_invV (pc := 59) (N := M_X12_isAllowed) (As := [vi _, vi _]) (rest := [vi _, vr _]) (r := (cn_12, ct_12, 95)) d_X12_robust_59 ml_X12_559 mk_X12_isAllowed mv_X12_isAllowed h0 ho11 rfl rfl (Nat.le_of_ble_eq_true rfl) ?_
    refine wpM.mono h (fun rr G13 hr => ?_)
    obtain ⟨r12, rfl, h⟩ := hr
    show wp E d M_X12_robust 62 [some (vr _), some (vi _), some (vi _), none, none] [vi _, vi _, vr _] G13 Q
    obtain ⟨ho14, h⟩ := h
    obtain ⟨hi15, h⟩ := h
    refine wp_zast (pc := 62) d_X12_robust_62 ho14 hi15 ?_
    refine wp_nm (fun G16 eG16 => ?_)
    have h := h G16 eG16
    refine wp_iinc (pc := 63) (v := 1) (lv' := [some (vr _), some (vi _), some (vi _), none, none]) d_X12_robust_63 (by decide) rfl rfl rfl ?_
    refine wp_goto (pc := 66) (tgt := 23) d_X12_robust_66 (by decide) ?_
    refine wp_sub ?_ h
    exact ⟨rfl, ⟨rfl, ⟨rfl, trivial⟩⟩⟩
theorem v_X12_robust_71 {E : EE} {d : Nat} {Q : Option AV → AH → Prop} {x0 : Nat} {x1 : Int32} {x2 : Int32} {G : AH} (h0 : 0 < d) (h : isO E G x0 12 ∧ (isO E G (gR G x0 32) 14 ∧ (vp_in x1 (gN G (gR G x0 32)) ∧ (((gI G (gR G x0 32) (Int32.toNatClampNeg x1)) ≤ x2 → wp E d M_X12_robust 210 [some (vr x0), some (vi x1), some (vi (-1)), some (vi 0), none] [] G Q) ∧ (¬ ((gI G (gR G x0 32) (Int32.toNatClampNeg x1)) ≤ x2) → wpV E (d - 1) M_X12_weighAll [vr x0, vi x1, vi x2] G (fun G4 => wp E d M_X12_robust 89 [some (vr x0), some (vi x1), some (vi x2), some (vi 0), none] [] G4 Q)))))) : wp E d M_X12_robust 71 [some (vr x0), some (vi x1), some (vi x2), none, none] [] G Q := by
  refine wp_iload_n (pc := 71) d_X12_robust_71 rfl ?_
  refine wp_aload_n (pc := 72) d_X12_robust_72 rfl ?_
  obtain ⟨ho1, h⟩ := h
  refine wp_getR (pc := 73) d_X12_robust_73 fl_X12_103 (fun _ _ _ => rfl) ho1 ?_
  refine wp_iload_n (pc := 76) d_X12_robust_76 rfl ?_
  obtain ⟨ho2, h⟩ := h
  obtain ⟨hi3, h⟩ := h
  refine wp_iald (pc := 77) d_X12_robust_77 ho2 hi3 ?_
  refine wp_icmp_ge (pc := 78) (tgt := 206) d_X12_robust_78 (by decide) (fun hc => ?_) (fun hc => ?_)
  · have h := h.1 hc
    refine wp_iconst (pc := 206) (v := (-1)) d_X12_robust_206 rfl ?_
    refine wp_istore_n (pc := 207) (lv' := [some (vr _), some (vi _), some (vi _), none, none]) d_X12_robust_207 (by decide) rfl ?_
    refine wp_iconst (pc := 208) (v := 0) d_X12_robust_208 rfl ?_
    refine wp_istore_n (pc := 209) (lv' := [some (vr _), some (vi _), some (vi _), some (vi _), none]) d_X12_robust_209 (by decide) rfl ?_
    refine wp_sub ?_ h
    exact ⟨rfl, ⟨rfl, ⟨rfl, ⟨rfl, trivial⟩⟩⟩⟩
  · have h := h.2 hc
    refine wp_aload_n (pc := 81) d_X12_robust_81 rfl ?_
    refine wp_iload_n (pc := 82) d_X12_robust_82 rfl ?_
    refine wp_iload_n (pc := 83) d_X12_robust_83 rfl ?_
    refine wp_invV (pc := 84) (N := M_X12_weighAll) (As := [vi _, vi _]) (rest := []) (r := (cn_12, ct_12, 95)) d_X12_robust_84 ml_X12_553 mk_X12_weighAll mv_X12_weighAll h0 ho1 rfl rfl (Nat.le_of_ble_eq_true rfl) ?_
    refine wpM.mono h (fun rr G4 hr => ?_)
    obtain ⟨rfl, h⟩ := hr
    show wp E d M_X12_robust 87 [some (vr _), some (vi _), some (vi _), none, none] [] G4 Q
    refine wp_iconst (pc := 87) (v := 0) d_X12_robust_87 rfl ?_
    refine wp_istore_n (pc := 88) (lv' := [some (vr _), some (vi _), some (vi _), some (vi _), none]) d_X12_robust_88 (by decide) rfl ?_
    refine wp_sub ?_ h
    exact ⟨rfl, ⟨rfl, ⟨rfl, ⟨rfl, trivial⟩⟩⟩⟩
theorem v_X12_robust_89 {E : EE} {d : Nat} {Q : Option AV → AH → Prop} {x0 : Nat} {x1 : Int32} {x2 : Int32} {x3 : Int32} {G : AH} (h0 : 0 < d) (h : isO E G x0 12 ∧ (isO E G (gR G x0 25) 14 ∧ (vp_in x1 (gN G (gR G x0 25)) ∧ (((gI G (gR G x0 25) (Int32.toNatClampNeg x1)) ≤ x3 → wp E d M_X12_robust 71 [some (vr x0), some (vi x1), some (vi (x2 + 1)), none, none] [] G Q) ∧ (¬ ((gI G (gR G x0 25) (Int32.toNatClampNeg x1)) ≤ x3) → isO E G (gR G x0 74) 15 ∧ (vp_in x3 (gN G (gR G x0 74)) ∧ (isO E G (gR G x0 33) 14 ∧ (vp_in ((6 * x1) + x2) (gN G (gR G x0 33)) ∧ (isO E G (gR G x0 66) 15 ∧ (vp_in (20000 + x3) (gN G (gR G x0 66)) ∧ (vp_in x3 (gN G (gR G x0 74)) ∧ (∀ G11 : AH, G11 = sJ G (gR G x0 74) (Int32.toNatClampNeg x3) ((gJ G (gR G x0 74) (Int32.toNatClampNeg x3)) + ((Int32.toInt64 (gI G (gR G x0 33) (Int32.toNatClampNeg ((6 * x1) + x2)))) * (gJ G (gR G x0 66) (Int32.toNatClampNeg (20000 + x3))))) → isO E G11 (gR G11 x0 74) 15 ∧ (vp_in (20000 + x3) (gN G11 (gR G11 x0 74)) ∧ (isO E G11 (gR G11 x0 33) 14 ∧ (vp_in ((6 * x1) + x2) (gN G11 (gR G11 x0 33)) ∧ (isO E G11 (gR G11 x0 66) 15 ∧ (vp_in (40000 + x3) (gN G11 (gR G11 x0 66)) ∧ (vp_in (20000 + x3) (gN G11 (gR G11 x0 74)) ∧ (∀ G20 : AH, G20 = sJ G11 (gR G11 x0 74) (Int32.toNatClampNeg (20000 + x3)) ((gJ G11 (gR G11 x0 74) (Int32.toNatClampNeg (20000 + x3))) + ((Int32.toInt64 (gI G11 (gR G11 x0 33) (Int32.toNatClampNeg ((6 * x1) + x2)))) * (gJ G11 (gR G11 x0 66) (Int32.toNatClampNeg (40000 + x3))))) → isO E G20 (gR G20 x0 75) 16 ∧ (vp_in x3 (gN G20 (gR G20 x0 75)) ∧ (((gI G20 (gR G20 x0 75) (Int32.toNatClampNeg x3)) = 0 → wp E d M_X12_robust 192 [some (vr x0), some (vi x1), some (vi x2), some (vi x3), none] [vi x3, vr (gR G20 x0 75)] G20 Q) ∧ (¬ ((gI G20 (gR G20 x0 75) (Int32.toNatClampNeg x3)) = 0) → wpI E (d - 1) M_X12_isFeasible [vr x0, vi x3] G20 (fun r24 G25 => (r24 = 0 → wp E d M_X12_robust 192 [some (vr x0), some (vi x1), some (vi x2), some (vi x3), none] [vi x3, vr (gR G20 x0 75)] G25 Q) ∧ (¬ (r24 = 0) → wp E d M_X12_robust 193 [some (vr x0), some (vi x1), some (vi x2), some (vi x3), none] [vi 1, vi x3, vr (gR G20 x0 75)] G25 Q)))))))))))))))))))))))) : wp E d M_X12_robust 89 [some (vr x0), some (vi x1), some (vi x2), some (vi x3), none] [] G Q := by
  refine wp_iload_n (pc := 89) d_X12_robust_89 rfl ?_
  refine wp_aload_n (pc := 90) d_X12_robust_90 rfl ?_
  obtain ⟨ho1, h⟩ := h
  refine wp_getR (pc := 91) d_X12_robust_91 fl_X12_82 (fun _ _ _ => rfl) ho1 ?_
  refine wp_iload_n (pc := 94) d_X12_robust_94 rfl ?_
  obtain ⟨ho2, h⟩ := h
  obtain ⟨hi3, h⟩ := h
  refine wp_iald (pc := 95) d_X12_robust_95 ho2 hi3 ?_
  refine wp_icmp_ge (pc := 96) (tgt := 200) d_X12_robust_96 (by decide) (fun hc => ?_) (fun hc => ?_)
  · have h := h.1 hc
    refine wp_iinc (pc := 200) (v := 1) (lv' := [some (vr _), some (vi _), some (vi _), some (vi _), none]) d_X12_robust_200 (by decide) rfl rfl rfl ?_
    refine wp_goto (pc := 203) (tgt := 71) d_X12_robust_203 (by decide) ?_
    refine wp_sub ?_ h
    exact ⟨rfl, ⟨rfl, ⟨rfl, trivial⟩⟩⟩
  · have h := h.2 hc
    refine wp_aload_n (pc := 99) d_X12_robust_99 rfl ?_
    refine wp_getR (pc := 100) d_X12_robust_100 fl_X12_175 (fun _ _ _ => rfl) ho1 ?_
    refine wp_iload_n (pc := 103) d_X12_robust_103 rfl ?_
    refine wp_dup2 (pc := 104) d_X12_robust_104 (c1_i _) (c1_r _) ?_
    obtain ⟨ho4, h⟩ := h
    obtain ⟨hi5, h⟩ := h
    refine wp_lald (pc := 105) d_X12_robust_105 ho4 hi5 ?_
    refine wp_aload_n (pc := 106) d_X12_robust_106 rfl ?_
    refine wp_getR (pc := 107) d_X12_robust_107 fl_X12_106 (fun _ _ _ => rfl) ho1 ?_
    refine wp_bipush (pc := 110) (v := 6) d_X12_robust_110 rfl ?_
    refine wp_iload_n (pc := 112) d_X12_robust_112 rfl ?_
    refine wp_imul (pc := 113) d_X12_robust_113 ?_
    refine wp_iload_n (pc := 114) d_X12_robust_114 rfl ?_
    refine wp_iadd (pc := 115) d_X12_robust_115 ?_
    obtain ⟨ho6, h⟩ := h
    obtain ⟨hi7, h⟩ := h
    refine wp_iald (pc := 116) d_X12_robust_116 ho6 hi7 ?_
    refine wp_i2l (pc := 117) d_X12_robust_117 ?_
    refine wp_aload_n (pc := 118) d_X12_robust_118 rfl ?_
    refine wp_getR (pc := 119) d_X12_robust_119 fl_X12_159 (fun _ _ _ => rfl) ho1 ?_
    refine wp_sipush (pc := 122) (v := 20000) d_X12_robust_122 rfl ?_
    refine wp_iload_n (pc := 125) d_X12_robust_125 rfl ?_
    refine wp_iadd (pc := 126) d_X12_robust_126 ?_
    obtain ⟨ho8, h⟩ := h
    obtain ⟨hi9, h⟩ := h
    refine wp_lald (pc := 127) d_X12_robust_127 ho8 hi9 ?_
    refine wp_lmul (pc := 128) d_X12_robust_128 ?_
    refine wp_ladd (pc := 129) d_X12_robust_129 ?_
    obtain ⟨hi10, h⟩ := h
    refine wp_last (pc := 130) d_X12_robust_130 ho4 hi10 ?_
    refine wp_nm (fun G11 eG11 => ?_)
    have h := h G11 eG11
    have ho12 := isO_sJ eG11 ho1
    refine wp_aload_n (pc := 131) d_X12_robust_131 rfl ?_
    refine wp_getR (pc := 132) d_X12_robust_132 fl_X12_175 (fun _ _ _ => rfl) ho12 ?_
    refine wp_sipush (pc := 135) (v := 20000) d_X12_robust_135 rfl ?_
    refine wp_iload_n (pc := 138) d_X12_robust_138 rfl ?_
    refine wp_iadd (pc := 139) d_X12_robust_139 ?_
    refine wp_dup2 (pc := 140) d_X12_robust_140 (c1_i _) (c1_r _) ?_
    obtain ⟨ho13, h⟩ := h
    obtain ⟨hi14, h⟩ := h
    refine wp_lald (pc := 141) d_X12_robust_141 ho13 hi14 ?_
    refine wp_aload_n (pc := 142) d_X12_robust_142 rfl ?_
    refine wp_getR (pc := 143) d_X12_robust_143 fl_X12_106 (fun _ _ _ => rfl) ho12 ?_
    refine wp_bipush (pc := 146) (v := 6) d_X12_robust_146 rfl ?_
    refine wp_iload_n (pc := 148) d_X12_robust_148 rfl ?_
    refine wp_imul (pc := 149) d_X12_robust_149 ?_
    refine wp_iload_n (pc := 150) d_X12_robust_150 rfl ?_
    refine wp_iadd (pc := 151) d_X12_robust_151 ?_
    obtain ⟨ho15, h⟩ := h
    obtain ⟨hi16, h⟩ := h
    refine wp_iald (pc := 152) d_X12_robust_152 ho15 hi16 ?_
    refine wp_i2l (pc := 153) d_X12_robust_153 ?_
    refine wp_aload_n (pc := 154) d_X12_robust_154 rfl ?_
    refine wp_getR (pc := 155) d_X12_robust_155 fl_X12_159 (fun _ _ _ => rfl) ho12 ?_
    refine wp_ldc (pc := 158) (v := 40000) d_X12_robust_158 ci_X12_174 ?_
    refine wp_iload_n (pc := 160) d_X12_robust_160 rfl ?_
    refine wp_iadd (pc := 161) d_X12_robust_161 ?_
    obtain ⟨ho17, h⟩ := h
    obtain ⟨hi18, h⟩ := h
    refine wp_lald (pc := 162) d_X12_robust_162 ho17 hi18 ?_
    refine wp_lmul (pc := 163) d_X12_robust_163 ?_
    refine wp_ladd (pc := 164) d_X12_robust_164 ?_
    obtain ⟨hi19, h⟩ := h
    refine wp_last (pc := 165) d_X12_robust_165 ho13 hi19 ?_
    refine wp_nm (fun G20 eG20 => ?_)
    have h := h G20 eG20
    have ho21 := isO_sJ eG20 ho12
    refine wp_aload_n (pc := 166) d_X12_robust_166 rfl ?_
    refine wp_getR (pc := 167) d_X12_robust_167 fl_X12_178 (fun _ _ _ => rfl) ho21 ?_
    refine wp_iload_n (pc := 170) d_X12_robust_170 rfl ?_
    refine wp_aload_n (pc := 171) d_X12_robust_171 rfl ?_
    refine wp_getR (pc := 172) d_X12_robust_172 fl_X12_178 (fun _ _ _ => rfl) ho21 ?_
    refine wp_iload_n (pc := 175) d_X12_robust_175 rfl ?_
    obtain ⟨ho22, h⟩ := h
    obtain ⟨hi23, h⟩ := h
    refine wp_zald (pc := 176) d_X12_robust_176 ho22 hi23 ?_
    refine wp_if_eq (pc := 177) (tgt := 192) d_X12_robust_177 (by decide) (fun hc => ?_) (fun hc => ?_)
    · have h := h.1 hc
      refine wp_sub ?_ h
      exact ⟨rfl, ⟨rfl, ⟨rfl, ⟨rfl, trivial⟩⟩⟩⟩
    · have h := h.2 hc
      refine wp_aload_n (pc := 180) d_X12_robust_180 rfl ?_
      refine wp_iload_n (pc := 181) d_X12_robust_181 rfl ?_
      refine wp_invV (pc := 182) (N := M_X12_isFeasible) (As := [vi _]) (rest := [vi _, vr _]) (r := (cn_12, ct_12, 95)) d_X12_robust_182 ml_X12_556 mk_X12_isFeasible mv_X12_isFeasible h0 ho21 rfl rfl (Nat.le_of_ble_eq_true rfl) ?_
      refine wpM.mono h (fun rr G25 hr => ?_)
      obtain ⟨r24, rfl, h⟩ := hr
      show wp E d M_X12_robust 185 [some (vr _), some (vi _), some (vi _), some (vi _), none] [vi _, vi _, vr _] G25 Q
      refine wp_if_eq (pc := 185) (tgt := 192) d_X12_robust_185 (by decide) (fun hc => ?_) (fun hc => ?_)
      · have h := h.1 hc
        refine wp_sub ?_ h
        exact ⟨rfl, ⟨rfl, ⟨rfl, ⟨rfl, trivial⟩⟩⟩⟩
      · have h := h.2 hc
        refine wp_iconst (pc := 188) (v := 1) d_X12_robust_188 rfl ?_
        refine wp_goto (pc := 189) (tgt := 193) d_X12_robust_189 (by decide) ?_
        refine wp_sub ?_ h
        exact ⟨rfl, ⟨rfl, ⟨rfl, ⟨rfl, trivial⟩⟩⟩⟩
theorem v_X12_robust_192 {E : EE} {d : Nat} {Q : Option AV → AH → Prop} {x0 : Nat} {x1 : Int32} {x2 : Int32} {x3 : Int32} {t0 : Nat} {t1 : Int32} {G : AH} (h : wp E d M_X12_robust 193 [some (vr x0), some (vi x1), some (vi x2), some (vi x3), none] [vi 0, vi t1, vr t0] G Q) : wp E d M_X12_robust 192 [some (vr x0), some (vi x1), some (vi x2), some (vi x3), none] [vi t1, vr t0] G Q := by
  refine wp_iconst (pc := 192) (v := 0) d_X12_robust_192 rfl ?_
  refine wp_sub ?_ h
  exact ⟨rfl, ⟨rfl, ⟨rfl, ⟨rfl, trivial⟩⟩⟩⟩
theorem v_X12_robust_193 {E : EE} {d : Nat} {Q : Option AV → AH → Prop} {x0 : Nat} {x1 : Int32} {x2 : Int32} {x3 : Int32} {t0 : Nat} {t1 : Int32} {t2 : Int32} {G : AH} (h : isO E G t0 16 ∧ (vp_in t1 (gN G t0) ∧ (wp E d M_X12_robust 89 [some (vr x0), some (vi x1), some (vi x2), some (vi (x3 + 1)), none] [] (sI G t0 (Int32.toNatClampNeg t1) (nz t2)) Q))) : wp E d M_X12_robust 193 [some (vr x0), some (vi x1), some (vi x2), some (vi x3), none] [vi t2, vi t1, vr t0] G Q := by
  obtain ⟨ho1, h⟩ := h
  obtain ⟨hi2, h⟩ := h
  refine wp_zast (pc := 193) d_X12_robust_193 ho1 hi2 ?_
  refine wp_iinc (pc := 194) (v := 1) (lv' := [some (vr _), some (vi _), some (vi _), some (vi _), none]) d_X12_robust_194 (by decide) rfl rfl rfl ?_
  refine wp_goto (pc := 197) (tgt := 89) d_X12_robust_197 (by decide) ?_
  refine wp_sub ?_ h
  exact ⟨rfl, ⟨rfl, ⟨rfl, ⟨rfl, trivial⟩⟩⟩⟩
theorem v_X12_robust_210 {E : EE} {d : Nat} {Q : Option AV → AH → Prop} {x0 : Nat} {x1 : Int32} {x2 : Int32} {x3 : Int32} {G : AH} (h0 : 0 < d) (h : isO E G x0 12 ∧ (isO E G (gR G x0 25) 14 ∧ (vp_in x1 (gN G (gR G x0 25)) ∧ (((gI G (gR G x0 25) (Int32.toNatClampNeg x1)) ≤ x3 → (0 ≤ x2 → wpV E (d - 1) M_X12_putAtHand [vr x0, vi x1, vi x2] G (fun G4 => Q (some (vi 1)) G4)) ∧ (¬ (0 ≤ x2) → Q (some (vi 0)) G)) ∧ (¬ ((gI G (gR G x0 25) (Int32.toNatClampNeg x1)) ≤ x3) → isO E G (gR G x0 75) 16 ∧ (vp_in x3 (gN G (gR G x0 75)) ∧ (((gI G (gR G x0 75) (Int32.toNatClampNeg x3)) = 0 → wp E d M_X12_robust 293 [some (vr x0), some (vi x1), some (vi x2), some (vi x3), none] [] G Q) ∧ (¬ ((gI G (gR G x0 75) (Int32.toNatClampNeg x3)) = 0) → (x2 < 0 → wp E d M_X12_robust 289 [some (vr x0), some (vi x1), some (vi x2), some (vi x3), none] [] G Q) ∧ (¬ (x2 < 0) → isO E G (gR G x0 74) 15 ∧ (vp_in x3 (gN G (gR G x0 74)) ∧ (vp_in x2 (gN G (gR G x0 74)) ∧ (((gJ G (gR G x0 74) (Int32.toNatClampNeg x3)) < (gJ G (gR G x0 74) (Int32.toNatClampNeg x2)) → wp E d M_X12_robust 289 [some (vr x0), some (vi x1), some (vi x2), some (vi x3), none] [] G Q) ∧ (¬ ((gJ G (gR G x0 74) (Int32.toNatClampNeg x3)) < (gJ G (gR G x0 74) (Int32.toNatClampNeg x2))) → vp_in x3 (gN G (gR G x0 74)) ∧ (vp_in x2 (gN G (gR G x0 74)) ∧ ((¬ (gJ G (gR G x0 74) (Int32.toNatClampNeg x3)) = (gJ G (gR G x0 74) (Int32.toNatClampNeg x2)) → wp E d M_X12_robust 293 [some (vr x0), some (vi x1), some (vi x2), some (vi x3), none] [] G Q) ∧ ((gJ G (gR G x0 74) (Int32.toNatClampNeg x3)) = (gJ G (gR G x0 74) (Int32.toNatClampNeg x2)) → vp_in (20000 + x3) (gN G (gR G x0 74)) ∧ (vp_in (20000 + x2) (gN G (gR G x0 74)) ∧ (((gJ G (gR G x0 74) (Int32.toNatClampNeg (20000 + x2))) ≤ (gJ G (gR G x0 74) (Int32.toNatClampNeg (20000 + x3))) → wp E d M_X12_robust 293 [some (vr x0), some (vi x1), some (vi x2), some (vi x3), none] [] G Q) ∧ (¬ ((gJ G (gR G x0 74) (Int32.toNatClampNeg (20000 + x2))) ≤ (gJ G (gR G x0 74) (Int32.toNatClampNeg (20000 + x3)))) → wp E d M_X12_robust 289 [some (vr x0), some (vi x1), some (vi x2), some (vi x3), none] [] G Q))))))))))))))))))) : wp E d M_X12_robust 210 [some (vr x0), some (vi x1), some (vi x2), some (vi x3), none] [] G Q := by
  refine wp_iload_n (pc := 210) d_X12_robust_210 rfl ?_
  refine wp_aload_n (pc := 211) d_X12_robust_211 rfl ?_
  obtain ⟨ho1, h⟩ := h
  refine wp_getR (pc := 212) d_X12_robust_212 fl_X12_82 (fun _ _ _ => rfl) ho1 ?_
  refine wp_iload_n (pc := 215) d_X12_robust_215 rfl ?_
  obtain ⟨ho2, h⟩ := h
  obtain ⟨hi3, h⟩ := h
  refine wp_iald (pc := 216) d_X12_robust_216 ho2 hi3 ?_
  refine wp_icmp_ge (pc := 217) (tgt := 313) d_X12_robust_217 (by decide) (fun hc => ?_) (fun hc => ?_)
  · have h := h.1 hc
    refine wp_iload_n (pc := 313) d_X12_robust_313 rfl ?_
    refine wp_if_ge (pc := 314) (tgt := 319) d_X12_robust_314 (by decide) (fun hc => ?_) (fun hc => ?_)
    · have h := h.1 hc
      refine wp_aload_n (pc := 319) d_X12_robust_319 rfl ?_
      refine wp_iload_n (pc := 320) d_X12_robust_320 rfl ?_
      refine wp_iload_n (pc := 321) d_X12_robust_321 rfl ?_
      refine wp_invV (pc := 322) (N := M_X12_putAtHand) (As := [vi _, vi _]) (rest := []) (r := (cn_12, ct_12, 95)) d_X12_robust_322 ml_X12_595 mk_X12_putAtHand mv_X12_putAtHand h0 ho1 rfl rfl (Nat.le_of_ble_eq_true rfl) ?_
      refine wpM.mono h (fun rr G4 hr => ?_)
      obtain ⟨rfl, h⟩ := hr
      show wp E d M_X12_robust 325 [some (vr _), some (vi _), some (vi _), some (vi _), none] [] G4 Q
      refine wp_iconst (pc := 325) (v := 1) d_X12_robust_325 rfl ?_
      exact wp_iret (pc := 326) d_X12_robust_326 rfl h
    · have h := h.2 hc
      refine wp_iconst (pc := 317) (v := 0) d_X12_robust_317 rfl ?_
      exact wp_iret (pc := 318) d_X12_robust_318 rfl h
  · have h := h.2 hc
    refine wp_aload_n (pc := 220) d_X12_robust_220 rfl ?_
    refine wp_getR (pc := 221) d_X12_robust_221 fl_X12_178 (fun _ _ _ => rfl) ho1 ?_
    refine wp_iload_n (pc := 224) d_X12_robust_224 rfl ?_
    obtain ⟨ho5, h⟩ := h
    obtain ⟨hi6, h⟩ := h
    refine wp_zald (pc := 225) d_X12_robust_225 ho5 hi6 ?_
    refine wp_if_eq (pc := 226) (tgt := 293) d_X12_robust_226 (by decide) (fun hc => ?_) (fun hc => ?_)
    · have h := h.1 hc
      refine wp_sub ?_ h
      exact ⟨rfl, ⟨rfl, ⟨rfl, ⟨rfl, trivial⟩⟩⟩⟩
    · have h := h.2 hc
      refine wp_iload_n (pc := 229) d_X12_robust_229 rfl ?_
      refine wp_if_lt (pc := 230) (tgt := 289) d_X12_robust_230 (by decide) (fun hc => ?_) (fun hc => ?_)
      · have h := h.1 hc
        refine wp_sub ?_ h
        exact ⟨rfl, ⟨rfl, ⟨rfl, ⟨rfl, trivial⟩⟩⟩⟩
      · have h := h.2 hc
        refine wp_aload_n (pc := 233) d_X12_robust_233 rfl ?_
        refine wp_getR (pc := 234) d_X12_robust_234 fl_X12_175 (fun _ _ _ => rfl) ho1 ?_
        refine wp_iload_n (pc := 237) d_X12_robust_237 rfl ?_
        obtain ⟨ho7, h⟩ := h
        obtain ⟨hi8, h⟩ := h
        refine wp_lald (pc := 238) d_X12_robust_238 ho7 hi8 ?_
        refine wp_aload_n (pc := 239) d_X12_robust_239 rfl ?_
        refine wp_getR (pc := 240) d_X12_robust_240 fl_X12_175 (fun _ _ _ => rfl) ho1 ?_
        refine wp_iload_n (pc := 243) d_X12_robust_243 rfl ?_
        obtain ⟨hi9, h⟩ := h
        refine wp_lald (pc := 244) d_X12_robust_244 ho7 hi9 ?_
        refine wp_lcmp_lt (pc := 245) (tgt := 289) d_X12_robust_245 d_X12_robust_246 (by decide) (fun hc => ?_) (fun hc => ?_)
        · have h := h.1 hc
          refine wp_sub ?_ h
          exact ⟨rfl, ⟨rfl, ⟨rfl, ⟨rfl, trivial⟩⟩⟩⟩
        · have h := h.2 hc
          refine wp_aload_n (pc := 249) d_X12_robust_249 rfl ?_
          refine wp_getR (pc := 250) d_X12_robust_250 fl_X12_175 (fun _ _ _ => rfl) ho1 ?_
          refine wp_iload_n (pc := 253) d_X12_robust_253 rfl ?_
          obtain ⟨hi10, h⟩ := h
          refine wp_lald (pc := 254) d_X12_robust_254 ho7 hi10 ?_
          refine wp_aload_n (pc := 255) d_X12_robust_255 rfl ?_
          refine wp_getR (pc := 256) d_X12_robust_256 fl_X12_175 (fun _ _ _ => rfl) ho1 ?_
          refine wp_iload_n (pc := 259) d_X12_robust_259 rfl ?_
          obtain ⟨hi11, h⟩ := h
          refine wp_lald (pc := 260) d_X12_robust_260 ho7 hi11 ?_
          refine wp_lcmp_ne (pc := 261) (tgt := 293) d_X12_robust_261 d_X12_robust_262 (by decide) (fun hc => ?_) (fun hc => ?_)
          · have h := h.1 hc
            refine wp_sub ?_ h
            exact ⟨rfl, ⟨rfl, ⟨rfl, ⟨rfl, trivial⟩⟩⟩⟩
          · have h := h.2 hc
            refine wp_aload_n (pc := 265) d_X12_robust_265 rfl ?_
            refine wp_getR (pc := 266) d_X12_robust_266 fl_X12_175 (fun _ _ _ => rfl) ho1 ?_
            refine wp_sipush (pc := 269) (v := 20000) d_X12_robust_269 rfl ?_
            refine wp_iload_n (pc := 272) d_X12_robust_272 rfl ?_
            refine wp_iadd (pc := 273) d_X12_robust_273 ?_
            obtain ⟨hi12, h⟩ := h
            refine wp_lald (pc := 274) d_X12_robust_274 ho7 hi12 ?_
            refine wp_aload_n (pc := 275) d_X12_robust_275 rfl ?_
            refine wp_getR (pc := 276) d_X12_robust_276 fl_X12_175 (fun _ _ _ => rfl) ho1 ?_
            refine wp_sipush (pc := 279) (v := 20000) d_X12_robust_279 rfl ?_
            refine wp_iload_n (pc := 282) d_X12_robust_282 rfl ?_
            refine wp_iadd (pc := 283) d_X12_robust_283 ?_
            obtain ⟨hi13, h⟩ := h
            refine wp_lald (pc := 284) d_X12_robust_284 ho7 hi13 ?_
            refine wp_lcmp_ge (pc := 285) (tgt := 293) d_X12_robust_285 d_X12_robust_286 (by decide) (fun hc => ?_) (fun hc => ?_)
            · have h := h.1 hc
              refine wp_sub ?_ h
              exact ⟨rfl, ⟨rfl, ⟨rfl, ⟨rfl, trivial⟩⟩⟩⟩
            · have h := h.2 hc
              refine wp_sub ?_ h
              exact ⟨rfl, ⟨rfl, ⟨rfl, ⟨rfl, trivial⟩⟩⟩⟩
theorem v_X12_robust_289 {E : EE} {d : Nat} {Q : Option AV → AH → Prop} {x0 : Nat} {x1 : Int32} {x2 : Int32} {x3 : Int32} {G : AH} (h : wp E d M_X12_robust 294 [some (vr x0), some (vi x1), some (vi x2), some (vi x3), none] [vi 1] G Q) : wp E d M_X12_robust 289 [some (vr x0), some (vi x1), some (vi x2), some (vi x3), none] [] G Q := by
  refine wp_iconst (pc := 289) (v := 1) d_X12_robust_289 rfl ?_
  refine wp_goto (pc := 290) (tgt := 294) d_X12_robust_290 (by decide) ?_
  refine wp_sub ?_ h
  exact ⟨rfl, ⟨rfl, ⟨rfl, ⟨rfl, trivial⟩⟩⟩⟩
theorem v_X12_robust_293 {E : EE} {d : Nat} {Q : Option AV → AH → Prop} {x0 : Nat} {x1 : Int32} {x2 : Int32} {x3 : Int32} {G : AH} (h : wp E d M_X12_robust 294 [some (vr x0), some (vi x1), some (vi x2), some (vi x3), none] [vi 0] G Q) : wp E d M_X12_robust 293 [some (vr x0), some (vi x1), some (vi x2), some (vi x3), none] [] G Q := by
  refine wp_iconst (pc := 293) (v := 0) d_X12_robust_293 rfl ?_
  refine wp_sub ?_ h
  exact ⟨rfl, ⟨rfl, ⟨rfl, ⟨rfl, trivial⟩⟩⟩⟩
theorem v_X12_robust_294 {E : EE} {d : Nat} {Q : Option AV → AH → Prop} {x0 : Nat} {x1 : Int32} {x2 : Int32} {x3 : Int32} {t0 : Int32} {G : AH} (h : (t0 = 0 → wp E d M_X12_robust 306 [some (vr x0), some (vi x1), some (vi x2), some (vi x3), some (vi t0)] [vi x2] G Q) ∧ (¬ (t0 = 0) → wp E d M_X12_robust 306 [some (vr x0), some (vi x1), some (vi x2), some (vi x3), some (vi t0)] [vi x3] G Q)) : wp E d M_X12_robust 294 [some (vr x0), some (vi x1), some (vi x2), some (vi x3), none] [vi t0] G Q := by
  refine wp_istore (pc := 294) (lv' := [some (vr _), some (vi _), some (vi _), some (vi _), some (vi _)]) d_X12_robust_294 (by decide) rfl ?_
  refine wp_iload (pc := 296) d_X12_robust_296 rfl ?_
  refine wp_if_eq (pc := 298) (tgt := 305) d_X12_robust_298 (by decide) (fun hc => ?_) (fun hc => ?_)
  · have h := h.1 hc
    refine wp_iload_n (pc := 305) d_X12_robust_305 rfl ?_
    refine wp_sub ?_ h
    exact ⟨rfl, ⟨rfl, ⟨rfl, ⟨rfl, ⟨rfl, trivial⟩⟩⟩⟩⟩
  · have h := h.2 hc
    refine wp_iload_n (pc := 301) d_X12_robust_301 rfl ?_
    refine wp_goto (pc := 302) (tgt := 306) d_X12_robust_302 (by decide) ?_
    refine wp_sub ?_ h
    exact ⟨rfl, ⟨rfl, ⟨rfl, ⟨rfl, ⟨rfl, trivial⟩⟩⟩⟩⟩
theorem v_X12_robust_306 {E : EE} {d : Nat} {Q : Option AV → AH → Prop} {x0 : Nat} {x1 : Int32} {x2 : Int32} {x3 : Int32} {x4 : Int32} {t0 : Int32} {G : AH} (h : wp E d M_X12_robust 210 [some (vr x0), some (vi x1), some (vi t0), some (vi (x3 + 1)), none] [] G Q) : wp E d M_X12_robust 306 [some (vr x0), some (vi x1), some (vi x2), some (vi x3), some (vi x4)] [vi t0] G Q := by
  refine wp_istore_n (pc := 306) (lv' := [some (vr _), some (vi _), some (vi _), some (vi _), some (vi _)]) d_X12_robust_306 (by decide) rfl ?_
  refine wp_iinc (pc := 307) (v := 1) (lv' := [some (vr _), some (vi _), some (vi _), some (vi _), some (vi _)]) d_X12_robust_307 (by decide) rfl rfl rfl ?_
  refine wp_goto (pc := 310) (tgt := 210) d_X12_robust_310 (by decide) ?_
  refine wp_sub ?_ h
  exact ⟨rfl, ⟨rfl, ⟨rfl, ⟨rfl, trivial⟩⟩⟩⟩
theorem d_X12_unfold_0 : decode prog_14_method_146_code 0 = .ok (.aload_n 0, 1) := by decide +kernel
theorem d_X12_unfold_1 : decode prog_14_method_146_code 1 = .ok (.iload_n 1, 1) := by decide +kernel
theorem d_X12_unfold_2 : decode prog_14_method_146_code 2 = .ok (.invokevirtual 453, 3) := by decide +kernel
theorem d_X12_unfold_5 : decode prog_14_method_146_code 5 = .ok (.ifCond .ne 5, 3) := by decide +kernel
theorem d_X12_unfold_8 : decode prog_14_method_146_code 8 = .ok (.iconst (-1), 1) := by decide +kernel
theorem d_X12_unfold_9 : decode prog_14_method_146_code 9 = .ok (.ireturn, 1) := by decide +kernel
theorem d_X12_unfold_10 : decode prog_14_method_146_code 10 = .ok (.aload_n 0, 1) := by decide +kernel
theorem d_X12_unfold_11 : decode prog_14_method_146_code 11 = .ok (.getfield 103, 3) := by decide +kernel
theorem d_X12_unfold_14 : decode prog_14_method_146_code 14 = .ok (.iload_n 1, 1) := by decide +kernel
theorem d_X12_unfold_15 : decode prog_14_method_146_code 15 = .ok (.iaload, 1) := by decide +kernel
theorem d_X12_unfold_16 : decode prog_14_method_146_code 16 = .ok (.istore_n 2, 1) := by decide +kernel
theorem d_X12_unfold_17 : decode prog_14_method_146_code 17 = .ok (.aload_n 0, 1) := by decide +kernel
theorem d_X12_unfold_18 : decode prog_14_method_146_code 18 = .ok (.getfield 103, 3) := by decide +kernel
theorem d_X12_unfold_21 : decode prog_14_method_146_code 21 = .ok (.iload_n 1, 1) := by decide +kernel
theorem d_X12_unfold_22 : decode prog_14_method_146_code 22 = .ok (.iconst 0, 1) := by decide +kernel
theorem d_X12_unfold_23 : decode prog_14_method_146_code 23 = .ok (.iastore, 1) := by decide +kernel
theorem d_X12_unfold_24 : decode prog_14_method_146_code 24 = .ok (.iload_n 2, 1) := by decide +kernel
theorem d_X12_unfold_25 : decode prog_14_method_146_code 25 = .ok (.ireturn, 1) := by decide +kernel
theorem v_X12_unfold_0 {E : EE} {d : Nat} {Q : Option AV → AH → Prop} {x0 : Nat} {x1 : Int32} {G : AH} (h0 : 0 < d) (h : isO E G x0 12 ∧ (wpI E (d - 1) M_X12_isProblem [vr x0, vi x1] G (fun r1 G2 => (¬ r1 = 0 → isO E G2 x0 12 ∧ (isO E G2 (gR G2 x0 32) 14 ∧ (vp_in x1 (gN G2 (gR G2 x0 32)) ∧ (vp_in x1 (gN G2 (gR G2 x0 32)) ∧ (Q (some (vi (gI G2 (gR G2 x0 32) (Int32.toNatClampNeg x1)))) (sI G2 (gR G2 x0 32) (Int32.toNatClampNeg x1) 0)))))) ∧ (r1 = 0 → Q (some (vi (-1))) G2)))) : wp E d M_X12_unfold 0 [some (vr x0), some (vi x1), none] [] G Q := by
  refine wp_aload_n (pc := 0) d_X12_unfold_0 rfl ?_
  refine wp_iload_n (pc := 1) d_X12_unfold_1 rfl ?_
  obtain ⟨ho7, h⟩ := h
  refine wp_invV (pc := 2) (N := M_X12_isProblem) (As := [vi _]) (rest := []) (r := (cn_12, ct_12, 95)) d_X12_unfold_2 ml_X12_453 mk_X12_isProblem mv_X12_isProblem h0 ho7 rfl rfl (Nat.le_of_ble_eq_true rfl) ?_
  refine wpM.mono h (fun rr G2 hr => ?_)
  obtain ⟨r1, rfl, h⟩ := hr
  show wp E d M_X12_unfold 5 [some (vr _), some (vi _), none] [vi _] G2 Q
  refine wp_if_ne (pc := 5) (tgt := 10) d_X12_unfold_5 (by decide) (fun hc => ?_) (fun hc => ?_)
  · have h := h.1 hc
    refine wp_aload_n (pc := 10) d_X12_unfold_10 rfl ?_
    obtain ⟨ho3, h⟩ := h
    refine wp_getR (pc := 11) d_X12_unfold_11 fl_X12_103 (fun _ _ _ => rfl) ho3 ?_
    refine wp_iload_n (pc := 14) d_X12_unfold_14 rfl ?_
    obtain ⟨ho4, h⟩ := h
    obtain ⟨hi5, h⟩ := h
    refine wp_iald (pc := 15) d_X12_unfold_15 ho4 hi5 ?_
    refine wp_istore_n (pc := 16) (lv' := [some (vr _), some (vi _), some (vi _)]) d_X12_unfold_16 (by decide) rfl ?_
    refine wp_aload_n (pc := 17) d_X12_unfold_17 rfl ?_
    refine wp_getR (pc := 18) d_X12_unfold_18 fl_X12_103 (fun _ _ _ => rfl) ho3 ?_
    refine wp_iload_n (pc := 21) d_X12_unfold_21 rfl ?_
    refine wp_iconst (pc := 22) (v := 0) d_X12_unfold_22 rfl ?_
    obtain ⟨hi6, h⟩ := h
    refine wp_iast (pc := 23) d_X12_unfold_23 ho4 hi6 ?_
    refine wp_iload_n (pc := 24) d_X12_unfold_24 rfl ?_
    exact wp_iret (pc := 25) d_X12_unfold_25 rfl h
  · have h := h.2 hc
    refine wp_iconst (pc := 8) (v := (-1)) d_X12_unfold_8 rfl ?_
    exact wp_iret (pc := 9) d_X12_unfold_9 rfl h
theorem d_X12_told_0 : decode prog_14_method_145_code 0 = .ok (.aload_n 0, 1) := by decide +kernel
theorem d_X12_told_1 : decode prog_14_method_145_code 1 = .ok (.iload_n 1, 1) := by decide +kernel
theorem d_X12_told_2 : decode prog_14_method_145_code 2 = .ok (.iload_n 3, 1) := by decide +kernel
theorem d_X12_told_3 : decode prog_14_method_145_code 3 = .ok (.invokevirtual 574, 3) := by decide +kernel
theorem d_X12_told_6 : decode prog_14_method_145_code 6 = .ok (.ifCond .eq 33, 3) := by decide +kernel
theorem d_X12_told_9 : decode prog_14_method_145_code 9 = .ok (.iload_n 2, 1) := by decide +kernel
theorem d_X12_told_10 : decode prog_14_method_145_code 10 = .ok (.ifCond .lt 29, 3) := by decide +kernel
theorem d_X12_told_13 : decode prog_14_method_145_code 13 = .ok (.iload_n 2, 1) := by decide +kernel
theorem d_X12_told_14 : decode prog_14_method_145_code 14 = .ok (.aload_n 0, 1) := by decide +kernel
theorem d_X12_told_15 : decode prog_14_method_145_code 15 = .ok (.getfield 103, 3) := by decide +kernel
theorem d_X12_told_18 : decode prog_14_method_145_code 18 = .ok (.iload_n 1, 1) := by decide +kernel
theorem d_X12_told_19 : decode prog_14_method_145_code 19 = .ok (.iaload, 1) := by decide +kernel
theorem d_X12_told_20 : decode prog_14_method_145_code 20 = .ok (.if_icmp .ge 19, 3) := by decide +kernel
theorem d_X12_told_23 : decode prog_14_method_145_code 23 = .ok (.iload 4, 2) := by decide +kernel
theorem d_X12_told_25 : decode prog_14_method_145_code 25 = .ok (.sipush (-9999), 3) := by decide +kernel
theorem d_X12_told_28 : decode prog_14_method_145_code 28 = .ok (.if_icmp .lt 11, 3) := by decide +kernel
theorem d_X12_told_31 : decode prog_14_method_145_code 31 = .ok (.iload 4, 2) := by decide +kernel
theorem d_X12_told_33 : decode prog_14_method_145_code 33 = .ok (.sipush 9999, 3) := by decide +kernel
theorem d_X12_told_36 : decode prog_14_method_145_code 36 = .ok (.if_icmp .le 5, 3) := by decide +kernel
theorem d_X12_told_39 : decode prog_14_method_145_code 39 = .ok (.iconst 0, 1) := by decide +kernel
theorem d_X12_told_40 : decode prog_14_method_145_code 40 = .ok (.ireturn, 1) := by decide +kernel
theorem d_X12_told_41 : decode prog_14_method_145_code 41 = .ok (.aload_n 0, 1) := by decide +kernel
theorem d_X12_told_42 : decode prog_14_method_145_code 42 = .ok (.getfield 109, 3) := by decide +kernel
theorem d_X12_told_45 : decode prog_14_method_145_code 45 = .ok (.bipush 16, 2) := by decide +kernel
theorem d_X12_told_47 : decode prog_14_method_145_code 47 = .ok (.bipush 6, 2) := by decide +kernel
theorem d_X12_told_49 : decode prog_14_method_145_code 49 = .ok (.iload_n 1, 1) := by decide +kernel
theorem d_X12_told_50 : decode prog_14_method_145_code 50 = .ok (.imul, 1) := by decide +kernel
theorem d_X12_told_51 : decode prog_14_method_145_code 51 = .ok (.iload_n 2, 1) := by decide +kernel
theorem d_X12_told_52 : decode prog_14_method_145_code 52 = .ok (.iadd, 1) := by decide +kernel
theorem d_X12_told_53 : decode prog_14_method_145_code 53 = .ok (.imul, 1) := by decide +kernel
theorem d_X12_told_54 : decode prog_14_method_145_code 54 = .ok (.iload_n 3, 1) := by decide +kernel
theorem d_X12_told_55 : decode prog_14_method_145_code 55 = .ok (.iadd, 1) := by decide +kernel
theorem d_X12_told_56 : decode prog_14_method_145_code 56 = .ok (.iconst 1, 1) := by decide +kernel
theorem d_X12_told_57 : decode prog_14_method_145_code 57 = .ok (.bastore, 1) := by decide +kernel
theorem d_X12_told_58 : decode prog_14_method_145_code 58 = .ok (.aload_n 0, 1) := by decide +kernel
theorem d_X12_told_59 : decode prog_14_method_145_code 59 = .ok (.getfield 112, 3) := by decide +kernel
theorem d_X12_told_62 : decode prog_14_method_145_code 62 = .ok (.bipush 16, 2) := by decide +kernel
theorem d_X12_told_64 : decode prog_14_method_145_code 64 = .ok (.bipush 6, 2) := by decide +kernel
theorem d_X12_told_66 : decode prog_14_method_145_code 66 = .ok (.iload_n 1, 1) := by decide +kernel
theorem d_X12_told_67 : decode prog_14_method_145_code 67 = .ok (.imul, 1) := by decide +kernel
theorem d_X12_told_68 : decode prog_14_method_145_code 68 = .ok (.iload_n 2, 1) := by decide +kernel
theorem d_X12_told_69 : decode prog_14_method_145_code 69 = .ok (.iadd, 1) := by decide +kernel
theorem d_X12_told_70 : decode prog_14_method_145_code 70 = .ok (.imul, 1) := by decide +kernel
theorem d_X12_told_71 : decode prog_14_method_145_code 71 = .ok (.iload_n 3, 1) := by decide +kernel
theorem d_X12_told_72 : decode prog_14_method_145_code 72 = .ok (.iadd, 1) := by decide +kernel
theorem d_X12_told_73 : decode prog_14_method_145_code 73 = .ok (.iload 4, 2) := by decide +kernel
theorem d_X12_told_75 : decode prog_14_method_145_code 75 = .ok (.iastore, 1) := by decide +kernel
theorem d_X12_told_76 : decode prog_14_method_145_code 76 = .ok (.iconst 1, 1) := by decide +kernel
theorem d_X12_told_77 : decode prog_14_method_145_code 77 = .ok (.ireturn, 1) := by decide +kernel
theorem v_X12_told_0 {E : EE} {d : Nat} {Q : Option AV → AH → Prop} {x0 : Nat} {x1 : Int32} {x2 : Int32} {x3 : Int32} {x4 : Int32} {G : AH} (h0 : 0 < d) (h : isO E G x0 12 ∧ (wpI E (d - 1) M_X12_isFact [vr x0, vi x1, vi x3] G (fun r1 G2 => (r1 = 0 → Q (some (vi 0)) G2) ∧ (¬ (r1 = 0) → (x2 < 0 → Q (some (vi 0)) G2) ∧ (¬ (x2 < 0) → isO E G2 x0 12 ∧ (isO E G2 (gR G2 x0 32) 14 ∧ (vp_in x1 (gN G2 (gR G2 x0 32)) ∧ (((gI G2 (gR G2 x0 32) (Int32.toNatClampNeg x1)) ≤ x2 → Q (some (vi 0)) G2) ∧ (¬ ((gI G2 (gR G2 x0 32) (Int32.toNatClampNeg x1)) ≤ x2) → (x4 < (-9999) → Q (some (vi 0)) G2) ∧ (¬ (x4 < (-9999)) → (x4 ≤ 9999 → isO E G2 (gR G2 x0 34) 16 ∧ (vp_in ((16 * ((6 * x1) + x2)) + x3) (gN G2 (gR G2 x0 34)) ∧ (∀ G8 : AH, G8 = sI G2 (gR G2 x0 34) (Int32.toNatClampNeg ((16 * ((6 * x1) + x2)) + x3)) (nz 1) → isO E G8 (gR G8 x0 35) 14 ∧ (vp_in ((16 * ((6 * x1) + x2)) + x3) (gN G8 (gR G8 x0 35)) ∧ (∀ G12 : AH, G12 = sI G8 (gR G8 x0 35) (Int32.toNatClampNeg ((16 * ((6 * x1) + x2)) + x3)) x4 → Q (some (vi 1)) G12))))) ∧ (¬ (x4 ≤ 9999) → Q (some (vi 0)) G2))))))))))) : wp E d M_X12_told 0 [some (vr x0), some (vi x1), some (vi x2), some (vi x3), some (vi x4)] [] G Q := by
  refine wp_aload_n (pc := 0) d_X12_told_0 rfl ?_
  refine wp_iload_n (pc := 1) d_X12_told_1 rfl ?_
  refine wp_iload_n (pc := 2) d_X12_told_2 rfl ?_
  obtain ⟨ho14, h⟩ := h
  refine wp_invV (pc := 3) (N := M_X12_isFact) (As := [vi _, vi _]) (rest := []) (r := (cn_12, ct_12, 95)) d_X12_told_3 ml_X12_574 mk_X12_isFact mv_X12_isFact h0 ho14 rfl rfl (Nat.le_of_ble_eq_true rfl) ?_
  refine wpM.mono h (fun rr G2 hr => ?_)
  obtain ⟨r1, rfl, h⟩ := hr
  show wp E d M_X12_told 6 [some (vr _), some (vi _), some (vi _), some (vi _), some (vi _)] [vi _] G2 Q
  refine wp_if_eq (pc := 6) (tgt := 39) d_X12_told_6 (by decide) (fun hc => ?_) (fun hc => ?_)
  · have h := h.1 hc
    refine wp_iconst (pc := 39) (v := 0) d_X12_told_39 rfl ?_
    exact wp_zret (pc := 40) d_X12_told_40 rfl rfl h
  · have h := h.2 hc
    refine wp_iload_n (pc := 9) d_X12_told_9 rfl ?_
    refine wp_if_lt (pc := 10) (tgt := 39) d_X12_told_10 (by decide) (fun hc => ?_) (fun hc => ?_)
    · have h := h.1 hc
      refine wp_iconst (pc := 39) (v := 0) d_X12_told_39 rfl ?_
      exact wp_zret (pc := 40) d_X12_told_40 rfl rfl h
    · have h := h.2 hc
      refine wp_iload_n (pc := 13) d_X12_told_13 rfl ?_
      refine wp_aload_n (pc := 14) d_X12_told_14 rfl ?_
      obtain ⟨ho3, h⟩ := h
      refine wp_getR (pc := 15) d_X12_told_15 fl_X12_103 (fun _ _ _ => rfl) ho3 ?_
      refine wp_iload_n (pc := 18) d_X12_told_18 rfl ?_
      obtain ⟨ho4, h⟩ := h
      obtain ⟨hi5, h⟩ := h
      refine wp_iald (pc := 19) d_X12_told_19 ho4 hi5 ?_
      refine wp_icmp_ge (pc := 20) (tgt := 39) d_X12_told_20 (by decide) (fun hc => ?_) (fun hc => ?_)
      · have h := h.1 hc
        refine wp_iconst (pc := 39) (v := 0) d_X12_told_39 rfl ?_
        exact wp_zret (pc := 40) d_X12_told_40 rfl rfl h
      · have h := h.2 hc
        refine wp_iload (pc := 23) d_X12_told_23 rfl ?_
        refine wp_sipush (pc := 25) (v := (-9999)) d_X12_told_25 rfl ?_
        refine wp_icmp_lt (pc := 28) (tgt := 39) d_X12_told_28 (by decide) (fun hc => ?_) (fun hc => ?_)
        · have h := h.1 hc
          refine wp_iconst (pc := 39) (v := 0) d_X12_told_39 rfl ?_
          exact wp_zret (pc := 40) d_X12_told_40 rfl rfl h
        · have h := h.2 hc
          refine wp_iload (pc := 31) d_X12_told_31 rfl ?_
          refine wp_sipush (pc := 33) (v := 9999) d_X12_told_33 rfl ?_
          refine wp_icmp_le (pc := 36) (tgt := 41) d_X12_told_36 (by decide) (fun hc => ?_) (fun hc => ?_)
          · have h := h.1 hc
            refine wp_aload_n (pc := 41) d_X12_told_41 rfl ?_
            refine wp_getR (pc := 42) d_X12_told_42 fl_X12_109 (fun _ _ _ => rfl) ho3 ?_
            refine wp_bipush (pc := 45) (v := 16) d_X12_told_45 rfl ?_
            refine wp_bipush (pc := 47) (v := 6) d_X12_told_47 rfl ?_
            refine wp_iload_n (pc := 49) d_X12_told_49 rfl ?_
            refine wp_imul (pc := 50) d_X12_told_50 ?_
            refine wp_iload_n (pc := 51) d_X12_told_51 rfl ?_
            refine wp_iadd (pc := 52) d_X12_told_52 ?_
            refine wp_imul (pc := 53) d_X12_told_53 ?_
            refine wp_iload_n (pc := 54) d_X12_told_54 rfl ?_
            refine wp_iadd (pc := 55) d_X12_told_55 ?_
            refine wp_iconst (pc := 56) (v := 1) d_X12_told_56 rfl ?_
            obtain ⟨ho6, h⟩ := h
            obtain ⟨hi7, h⟩ := h
            refine wp_zast (pc := 57) d_X12_told_57 ho6 hi7 ?_
            refine wp_nm (fun G8 eG8 => ?_)
            have h := h G8 eG8
            have ho9 := isO_sI eG8 ho3
            refine wp_aload_n (pc := 58) d_X12_told_58 rfl ?_
            refine wp_getR (pc := 59) d_X12_told_59 fl_X12_112 (fun _ _ _ => rfl) ho9 ?_
            refine wp_bipush (pc := 62) (v := 16) d_X12_told_62 rfl ?_
            refine wp_bipush (pc := 64) (v := 6) d_X12_told_64 rfl ?_
            refine wp_iload_n (pc := 66) d_X12_told_66 rfl ?_
            refine wp_imul (pc := 67) d_X12_told_67 ?_
            refine wp_iload_n (pc := 68) d_X12_told_68 rfl ?_
            refine wp_iadd (pc := 69) d_X12_told_69 ?_
            refine wp_imul (pc := 70) d_X12_told_70 ?_
            refine wp_iload_n (pc := 71) d_X12_told_71 rfl ?_
            refine wp_iadd (pc := 72) d_X12_told_72 ?_
            refine wp_iload (pc := 73) d_X12_told_73 rfl ?_
            obtain ⟨ho10, h⟩ := h
            obtain ⟨hi11, h⟩ := h
            refine wp_iast (pc := 75) d_X12_told_75 ho10 hi11 ?_
            refine wp_nm (fun G12 eG12 => ?_)
            have h := h G12 eG12
            have ho13 := isO_sI eG12 ho9
            refine wp_iconst (pc := 76) (v := 1) d_X12_told_76 rfl ?_
            exact wp_zret (pc := 77) d_X12_told_77 rfl rfl h
          · have h := h.2 hc
            refine wp_iconst (pc := 39) (v := 0) d_X12_told_39 rfl ?_
            exact wp_zret (pc := 40) d_X12_told_40 rfl rfl h
theorem d_X12_isFact_0 : decode prog_14_method_57_code 0 = .ok (.aload_n 0, 1) := by decide +kernel
theorem d_X12_isFact_1 : decode prog_14_method_57_code 1 = .ok (.iload_n 1, 1) := by decide +kernel
theorem d_X12_isFact_2 : decode prog_14_method_57_code 2 = .ok (.invokevirtual 453, 3) := by decide +kernel
theorem d_X12_isFact_5 : decode prog_14_method_57_code 5 = .ok (.ifCond .eq 23, 3) := by decide +kernel
theorem d_X12_isFact_8 : decode prog_14_method_57_code 8 = .ok (.iload_n 2, 1) := by decide +kernel
theorem d_X12_isFact_9 : decode prog_14_method_57_code 9 = .ok (.ifCond .lt 19, 3) := by decide +kernel
theorem d_X12_isFact_12 : decode prog_14_method_57_code 12 = .ok (.iload_n 2, 1) := by decide +kernel
theorem d_X12_isFact_13 : decode prog_14_method_57_code 13 = .ok (.aload_n 0, 1) := by decide +kernel
theorem d_X12_isFact_14 : decode prog_14_method_57_code 14 = .ok (.getfield 58, 3) := by decide +kernel
theorem d_X12_isFact_17 : decode prog_14_method_57_code 17 = .ok (.iconst 4, 1) := by decide +kernel
theorem d_X12_isFact_18 : decode prog_14_method_57_code 18 = .ok (.iload_n 1, 1) := by decide +kernel
theorem d_X12_isFact_19 : decode prog_14_method_57_code 19 = .ok (.imul, 1) := by decide +kernel
theorem d_X12_isFact_20 : decode prog_14_method_57_code 20 = .ok (.iaload, 1) := by decide +kernel
theorem d_X12_isFact_21 : decode prog_14_method_57_code 21 = .ok (.if_icmp .ge 7, 3) := by decide +kernel
theorem d_X12_isFact_24 : decode prog_14_method_57_code 24 = .ok (.iconst 1, 1) := by decide +kernel
theorem d_X12_isFact_25 : decode prog_14_method_57_code 25 = .ok (.goto 4, 3) := by decide +kernel
theorem d_X12_isFact_28 : decode prog_14_method_57_code 28 = .ok (.iconst 0, 1) := by decide +kernel
theorem d_X12_isFact_29 : decode prog_14_method_57_code 29 = .ok (.ireturn, 1) := by decide +kernel
theorem v_X12_isFact_0 {E : EE} {d : Nat} {Q : Option AV → AH → Prop} {x0 : Nat} {x1 : Int32} {x2 : Int32} {G : AH} (h0 : 0 < d) (h : isO E G x0 12 ∧ (wpI E (d - 1) M_X12_isProblem [vr x0, vi x1] G (fun r1 G2 => (r1 = 0 → Q (some (vi 0)) G2) ∧ (¬ (r1 = 0) → (x2 < 0 → Q (some (vi 0)) G2) ∧ (¬ (x2 < 0) → isO E G2 x0 12 ∧ (isO E G2 (gR G2 x0 17) 14 ∧ (vp_in (4 * x1) (gN G2 (gR G2 x0 17)) ∧ (((gI G2 (gR G2 x0 17) (Int32.toNatClampNeg (4 * x1))) ≤ x2 → Q (some (vi 0)) G2) ∧ (¬ ((gI G2 (gR G2 x0 17) (Int32.toNatClampNeg (4 * x1))) ≤ x2) → Q (some (vi 1)) G2))))))))) : wp E d M_X12_isFact 0 [some (vr x0), some (vi x1), some (vi x2)] [] G Q := by
  refine wp_aload_n (pc := 0) d_X12_isFact_0 rfl ?_
  refine wp_iload_n (pc := 1) d_X12_isFact_1 rfl ?_
  obtain ⟨ho6, h⟩ := h
  refine wp_invV (pc := 2) (N := M_X12_isProblem) (As := [vi _]) (rest := []) (r := (cn_12, ct_12, 95)) d_X12_isFact_2 ml_X12_453 mk_X12_isProblem mv_X12_isProblem h0 ho6 rfl rfl (Nat.le_of_ble_eq_true rfl) ?_
  refine wpM.mono h (fun rr G2 hr => ?_)
  obtain ⟨r1, rfl, h⟩ := hr
  show wp E d M_X12_isFact 5 [some (vr _), some (vi _), some (vi _)] [vi _] G2 Q
  refine wp_if_eq (pc := 5) (tgt := 28) d_X12_isFact_5 (by decide) (fun hc => ?_) (fun hc => ?_)
  · have h := h.1 hc
    refine wp_iconst (pc := 28) (v := 0) d_X12_isFact_28 rfl ?_
    exact wp_zret (pc := 29) d_X12_isFact_29 rfl rfl h
  · have h := h.2 hc
    refine wp_iload_n (pc := 8) d_X12_isFact_8 rfl ?_
    refine wp_if_lt (pc := 9) (tgt := 28) d_X12_isFact_9 (by decide) (fun hc => ?_) (fun hc => ?_)
    · have h := h.1 hc
      refine wp_iconst (pc := 28) (v := 0) d_X12_isFact_28 rfl ?_
      exact wp_zret (pc := 29) d_X12_isFact_29 rfl rfl h
    · have h := h.2 hc
      refine wp_iload_n (pc := 12) d_X12_isFact_12 rfl ?_
      refine wp_aload_n (pc := 13) d_X12_isFact_13 rfl ?_
      obtain ⟨ho3, h⟩ := h
      refine wp_getR (pc := 14) d_X12_isFact_14 fl_X12_58 (fun _ _ _ => rfl) ho3 ?_
      refine wp_iconst (pc := 17) (v := 4) d_X12_isFact_17 rfl ?_
      refine wp_iload_n (pc := 18) d_X12_isFact_18 rfl ?_
      refine wp_imul (pc := 19) d_X12_isFact_19 ?_
      obtain ⟨ho4, h⟩ := h
      obtain ⟨hi5, h⟩ := h
      refine wp_iald (pc := 20) d_X12_isFact_20 ho4 hi5 ?_
      refine wp_icmp_ge (pc := 21) (tgt := 28) d_X12_isFact_21 (by decide) (fun hc => ?_) (fun hc => ?_)
      · have h := h.1 hc
        refine wp_iconst (pc := 28) (v := 0) d_X12_isFact_28 rfl ?_
        exact wp_zret (pc := 29) d_X12_isFact_29 rfl rfl h
      · have h := h.2 hc
        refine wp_iconst (pc := 24) (v := 1) d_X12_isFact_24 rfl ?_
        refine wp_goto (pc := 25) (tgt := 29) d_X12_isFact_25 (by decide) ?_
        exact wp_zret (pc := 29) d_X12_isFact_29 rfl rfl h
theorem d_X12_future_0 : decode prog_14_method_144_code 0 = .ok (.aload_n 0, 1) := by decide +kernel
theorem d_X12_future_1 : decode prog_14_method_144_code 1 = .ok (.iload_n 1, 1) := by decide +kernel
theorem d_X12_future_2 : decode prog_14_method_144_code 2 = .ok (.invokevirtual 453, 3) := by decide +kernel
theorem d_X12_future_5 : decode prog_14_method_144_code 5 = .ok (.ifCond .eq 14, 3) := by decide +kernel
theorem d_X12_future_8 : decode prog_14_method_144_code 8 = .ok (.iload_n 2, 1) := by decide +kernel
theorem d_X12_future_9 : decode prog_14_method_144_code 9 = .ok (.iconst 1, 1) := by decide +kernel
theorem d_X12_future_10 : decode prog_14_method_144_code 10 = .ok (.if_icmp .lt 9, 3) := by decide +kernel
theorem d_X12_future_13 : decode prog_14_method_144_code 13 = .ok (.iload_n 2, 1) := by decide +kernel
theorem d_X12_future_14 : decode prog_14_method_144_code 14 = .ok (.bipush 100, 2) := by decide +kernel
theorem d_X12_future_16 : decode prog_14_method_144_code 16 = .ok (.if_icmp .le 5, 3) := by decide +kernel
theorem d_X12_future_19 : decode prog_14_method_144_code 19 = .ok (.iconst (-1), 1) := by decide +kernel
theorem d_X12_future_20 : decode prog_14_method_144_code 20 = .ok (.ireturn, 1) := by decide +kernel
theorem d_X12_future_21 : decode prog_14_method_144_code 21 = .ok (.aload_n 0, 1) := by decide +kernel
theorem d_X12_future_22 : decode prog_14_method_144_code 22 = .ok (.getfield 103, 3) := by decide +kernel
theorem d_X12_future_25 : decode prog_14_method_144_code 25 = .ok (.iload_n 1, 1) := by decide +kernel
theorem d_X12_future_26 : decode prog_14_method_144_code 26 = .ok (.iaload, 1) := by decide +kernel
theorem d_X12_future_27 : decode prog_14_method_144_code 27 = .ok (.bipush 6, 2) := by decide +kernel
theorem d_X12_future_29 : decode prog_14_method_144_code 29 = .ok (.if_icmp .ne 6, 3) := by decide +kernel
theorem d_X12_future_32 : decode prog_14_method_144_code 32 = .ok (.ldc 220, 2) := by decide +kernel
theorem d_X12_future_34 : decode prog_14_method_144_code 34 = .ok (.ireturn, 1) := by decide +kernel
theorem d_X12_future_35 : decode prog_14_method_144_code 35 = .ok (.aload_n 0, 1) := by decide +kernel
theorem d_X12_future_36 : decode prog_14_method_144_code 36 = .ok (.getfield 103, 3) := by decide +kernel
theorem d_X12_future_39 : decode prog_14_method_144_code 39 = .ok (.iload_n 1, 1) := by decide +kernel
theorem d_X12_future_40 : decode prog_14_method_144_code 40 = .ok (.iaload, 1) := by decide +kernel
theorem d_X12_future_41 : decode prog_14_method_144_code 41 = .ok (.istore_n 3, 1) := by decide +kernel
theorem d_X12_future_42 : decode prog_14_method_144_code 42 = .ok (.aload_n 0, 1) := by decide +kernel
theorem d_X12_future_43 : decode prog_14_method_144_code 43 = .ok (.getfield 106, 3) := by decide +kernel
theorem d_X12_future_46 : decode prog_14_method_144_code 46 = .ok (.bipush 6, 2) := by decide +kernel
theorem d_X12_future_48 : decode prog_14_method_144_code 48 = .ok (.iload_n 1, 1) := by decide +kernel
theorem d_X12_future_49 : decode prog_14_method_144_code 49 = .ok (.imul, 1) := by decide +kernel
theorem d_X12_future_50 : decode prog_14_method_144_code 50 = .ok (.iload_n 3, 1) := by decide +kernel
theorem d_X12_future_51 : decode prog_14_method_144_code 51 = .ok (.iadd, 1) := by decide +kernel
theorem d_X12_future_52 : decode prog_14_method_144_code 52 = .ok (.iload_n 2, 1) := by decide +kernel
theorem d_X12_future_53 : decode prog_14_method_144_code 53 = .ok (.iastore, 1) := by decide +kernel
theorem d_X12_future_54 : decode prog_14_method_144_code 54 = .ok (.iconst 0, 1) := by decide +kernel
theorem d_X12_future_55 : decode prog_14_method_144_code 55 = .ok (.istore 4, 2) := by decide +kernel
theorem d_X12_future_57 : decode prog_14_method_144_code 57 = .ok (.iload 4, 2) := by decide +kernel
theorem d_X12_future_59 : decode prog_14_method_144_code 59 = .ok (.bipush 16, 2) := by decide +kernel
theorem d_X12_future_61 : decode prog_14_method_144_code 61 = .ok (.if_icmp .ge 27, 3) := by decide +kernel
theorem d_X12_future_64 : decode prog_14_method_144_code 64 = .ok (.aload_n 0, 1) := by decide +kernel
theorem d_X12_future_65 : decode prog_14_method_144_code 65 = .ok (.getfield 109, 3) := by decide +kernel
theorem d_X12_future_68 : decode prog_14_method_144_code 68 = .ok (.bipush 16, 2) := by decide +kernel
theorem d_X12_future_70 : decode prog_14_method_144_code 70 = .ok (.bipush 6, 2) := by decide +kernel
theorem d_X12_future_72 : decode prog_14_method_144_code 72 = .ok (.iload_n 1, 1) := by decide +kernel
theorem d_X12_future_73 : decode prog_14_method_144_code 73 = .ok (.imul, 1) := by decide +kernel
theorem d_X12_future_74 : decode prog_14_method_144_code 74 = .ok (.iload_n 3, 1) := by decide +kernel
theorem d_X12_future_75 : decode prog_14_method_144_code 75 = .ok (.iadd, 1) := by decide +kernel
theorem d_X12_future_76 : decode prog_14_method_144_code 76 = .ok (.imul, 1) := by decide +kernel
theorem d_X12_future_77 : decode prog_14_method_144_code 77 = .ok (.iload 4, 2) := by decide +kernel
theorem d_X12_future_79 : decode prog_14_method_144_code 79 = .ok (.iadd, 1) := by decide +kernel
theorem d_X12_future_80 : decode prog_14_method_144_code 80 = .ok (.iconst 0, 1) := by decide +kernel
theorem d_X12_future_81 : decode prog_14_method_144_code 81 = .ok (.bastore, 1) := by decide +kernel
theorem d_X12_future_82 : decode prog_14_method_144_code 82 = .ok (.iinc 4 1, 3) := by decide +kernel
theorem d_X12_future_85 : decode prog_14_method_144_code 85 = .ok (.goto (-28), 3) := by decide +kernel
theorem d_X12_future_88 : decode prog_14_method_144_code 88 = .ok (.aload_n 0, 1) := by decide +kernel
theorem d_X12_future_89 : decode prog_14_method_144_code 89 = .ok (.getfield 103, 3) := by decide +kernel
theorem d_X12_future_92 : decode prog_14_method_144_code 92 = .ok (.iload_n 1, 1) := by decide +kernel
theorem d_X12_future_93 : decode prog_14_method_144_code 93 = .ok (.dup2, 1) := by decide +kernel
theorem d_X12_future_94 : decode prog_14_method_144_code 94 = .ok (.iaload, 1) := by decide +kernel
theorem d_X12_future_95 : decode prog_14_method_144_code 95 = .ok (.iconst 1, 1) := by decide +kernel
theorem d_X12_future_96 : decode prog_14_method_144_code 96 = .ok (.iadd, 1) := by decide +kernel
theorem d_X12_future_97 : decode prog_14_method_144_code 97 = .ok (.iastore, 1) := by decide +kernel
theorem d_X12_future_98 : decode prog_14_method_144_code 98 = .ok (.iload_n 3, 1) := by decide +kernel
theorem d_X12_future_99 : decode prog_14_method_144_code 99 = .ok (.ireturn, 1) := by decide +kernel
theorem v_X12_future_0 {E : EE} {d : Nat} {Q : Option AV → AH → Prop} {x0 : Nat} {x1 : Int32} {x2 : Int32} {G : AH} (h0 : 0 < d) (h : isO E G x0 12 ∧ (wpI E (d - 1) M_X12_isProblem [vr x0, vi x1] G (fun r1 G2 => (r1 = 0 → Q (some (vi (-1))) G2) ∧ (¬ (r1 = 0) → (x2 < 1 → Q (some (vi (-1))) G2) ∧ (¬ (x2 < 1) → (x2 ≤ 100 → isO E G2 x0 12 ∧ (isO E G2 (gR G2 x0 32) 14 ∧ (vp_in x1 (gN G2 (gR G2 x0 32)) ∧ ((¬ (gI G2 (gR G2 x0 32) (Int32.toNatClampNeg x1)) = 6 → vp_in x1 (gN G2 (gR G2 x0 32)) ∧ (isO E G2 (gR G2 x0 33) 14 ∧ (vp_in ((6 * x1) + (gI G2 (gR G2 x0 32) (Int32.toNatClampNeg x1))) (gN G2 (gR G2 x0 33)) ∧ (wp E d M_X12_future 57 [some (vr x0), some (vi x1), some (vi x2), some (vi (gI G2 (gR G2 x0 32) (Int32.toNatClampNeg x1))), some (vi 0)] [] (sI G2 (gR G2 x0 33) (Int32.toNatClampNeg ((6 * x1) + (gI G2 (gR G2 x0 32) (Int32.toNatClampNeg x1)))) x2) Q)))) ∧ ((gI G2 (gR G2 x0 32) (Int32.toNatClampNeg x1)) = 6 → Q (some (vi (-100000))) G2))))) ∧ (¬ (x2 ≤ 100) → Q (some (vi (-1))) G2)))))) : wp E d M_X12_future 0 [some (vr x0), some (vi x1), some (vi x2), none, none] [] G Q := by
  refine wp_aload_n (pc := 0) d_X12_future_0 rfl ?_
  refine wp_iload_n (pc := 1) d_X12_future_1 rfl ?_
  obtain ⟨ho9, h⟩ := h
  refine wp_invV (pc := 2) (N := M_X12_isProblem) (As := [vi _]) (rest := []) (r := (cn_12, ct_12, 95)) d_X12_future_2 ml_X12_453 mk_X12_isProblem mv_X12_isProblem h0 ho9 rfl rfl (Nat.le_of_ble_eq_true rfl) ?_
  refine wpM.mono h (fun rr G2 hr => ?_)
  obtain ⟨r1, rfl, h⟩ := hr
  show wp E d M_X12_future 5 [some (vr _), some (vi _), some (vi _), none, none] [vi _] G2 Q
  refine wp_if_eq (pc := 5) (tgt := 19) d_X12_future_5 (by decide) (fun hc => ?_) (fun hc => ?_)
  · have h := h.1 hc
    refine wp_iconst (pc := 19) (v := (-1)) d_X12_future_19 rfl ?_
    exact wp_iret (pc := 20) d_X12_future_20 rfl h
  · have h := h.2 hc
    refine wp_iload_n (pc := 8) d_X12_future_8 rfl ?_
    refine wp_iconst (pc := 9) (v := 1) d_X12_future_9 rfl ?_
    refine wp_icmp_lt (pc := 10) (tgt := 19) d_X12_future_10 (by decide) (fun hc => ?_) (fun hc => ?_)
    · have h := h.1 hc
      refine wp_iconst (pc := 19) (v := (-1)) d_X12_future_19 rfl ?_
      exact wp_iret (pc := 20) d_X12_future_20 rfl h
    · have h := h.2 hc
      refine wp_iload_n (pc := 13) d_X12_future_13 rfl ?_
      refine wp_bipush (pc := 14) (v := 100) d_X12_future_14 rfl ?_
      refine wp_icmp_le (pc := 16) (tgt := 21) d_X12_future_16 (by decide) (fun hc => ?_) (fun hc => ?_)
      · have h := h.1 hc
        refine wp_aload_n (pc := 21) d_X12_future_21 rfl ?_
        obtain ⟨ho3, h⟩ := h
        refine wp_getR (pc := 22) d_X12_future_22 fl_X12_103 (fun _ _ _ => rfl) ho3 ?_
        refine wp_iload_n (pc := 25) d_X12_future_25 rfl ?_
        obtain ⟨ho4, h⟩ := h
        obtain ⟨hi5, h⟩ := h
        refine wp_iald (pc := 26) d_X12_future_26 ho4 hi5 ?_
        refine wp_bipush (pc := 27) (v := 6) d_X12_future_27 rfl ?_
        refine wp_icmp_ne (pc := 29) (tgt := 35) d_X12_future_29 (by decide) (fun hc => ?_) (fun hc => ?_)
        · have h := h.1 hc
          refine wp_aload_n (pc := 35) d_X12_future_35 rfl ?_
          refine wp_getR (pc := 36) d_X12_future_36 fl_X12_103 (fun _ _ _ => rfl) ho3 ?_
          refine wp_iload_n (pc := 39) d_X12_future_39 rfl ?_
          obtain ⟨hi6, h⟩ := h
          refine wp_iald (pc := 40) d_X12_future_40 ho4 hi6 ?_
          refine wp_istore_n (pc := 41) (lv' := [some (vr _), some (vi _), some (vi _), some (vi _), none]) d_X12_future_41 (by decide) rfl ?_
          refine wp_aload_n (pc := 42) d_X12_future_42 rfl ?_
          refine wp_getR (pc := 43) d_X12_future_43 fl_X12_106 (fun _ _ _ => rfl) ho3 ?_
          refine wp_bipush (pc := 46) (v := 6) d_X12_future_46 rfl ?_
          refine wp_iload_n (pc := 48) d_X12_future_48 rfl ?_
          refine wp_imul (pc := 49) d_X12_future_49 ?_
          refine wp_iload_n (pc := 50) d_X12_future_50 rfl ?_
          refine wp_iadd (pc := 51) d_X12_future_51 ?_
          refine wp_iload_n (pc := 52) d_X12_future_52 rfl ?_
          obtain ⟨ho7, h⟩ := h
          obtain ⟨hi8, h⟩ := h
          refine wp_iast (pc := 53) d_X12_future_53 ho7 hi8 ?_
          refine wp_iconst (pc := 54) (v := 0) d_X12_future_54 rfl ?_
          refine wp_istore (pc := 55) (lv' := [some (vr _), some (vi _), some (vi _), some (vi _), some (vi _)]) d_X12_future_55 (by decide) rfl ?_
          refine wp_sub ?_ h
          exact ⟨rfl, ⟨rfl, ⟨rfl, ⟨rfl, ⟨rfl, trivial⟩⟩⟩⟩⟩
        · have h := h.2 hc
          refine wp_ldc (pc := 32) (v := (-100000)) d_X12_future_32 ci_X12_220 ?_
          exact wp_iret (pc := 34) d_X12_future_34 rfl h
      · have h := h.2 hc
        refine wp_iconst (pc := 19) (v := (-1)) d_X12_future_19 rfl ?_
        exact wp_iret (pc := 20) d_X12_future_20 rfl h
theorem v_X12_future_57 {E : EE} {d : Nat} {Q : Option AV → AH → Prop} {x0 : Nat} {x1 : Int32} {x2 : Int32} {x3 : Int32} {x4 : Int32} {G : AH} (h : (16 ≤ x4 → isO E G x0 12 ∧ (isO E G (gR G x0 32) 14 ∧ (vp_in x1 (gN G (gR G x0 32)) ∧ (vp_in x1 (gN G (gR G x0 32)) ∧ (Q (some (vi x3)) (sI G (gR G x0 32) (Int32.toNatClampNeg x1) ((gI G (gR G x0 32) (Int32.toNatClampNeg x1)) + 1))))))) ∧ (¬ (16 ≤ x4) → isO E G x0 12 ∧ (isO E G (gR G x0 34) 16 ∧ (vp_in ((16 * ((6 * x1) + x3)) + x4) (gN G (gR G x0 34)) ∧ (wp E d M_X12_future 57 [some (vr x0), some (vi x1), some (vi x2), some (vi x3), some (vi (x4 + 1))] [] (sI G (gR G x0 34) (Int32.toNatClampNeg ((16 * ((6 * x1) + x3)) + x4)) (nz 0)) Q))))) : wp E d M_X12_future 57 [some (vr x0), some (vi x1), some (vi x2), some (vi x3), some (vi x4)] [] G Q := by
  refine wp_iload (pc := 57) d_X12_future_57 rfl ?_
  refine wp_bipush (pc := 59) (v := 16) d_X12_future_59 rfl ?_
  refine wp_icmp_ge (pc := 61) (tgt := 88) d_X12_future_61 (by decide) (fun hc => ?_) (fun hc => ?_)
  · have h := h.1 hc
    refine wp_aload_n (pc := 88) d_X12_future_88 rfl ?_
    obtain ⟨ho1, h⟩ := h
    refine wp_getR (pc := 89) d_X12_future_89 fl_X12_103 (fun _ _ _ => rfl) ho1 ?_
    refine wp_iload_n (pc := 92) d_X12_future_92 rfl ?_
    refine wp_dup2 (pc := 93) d_X12_future_93 (c1_i _) (c1_r _) ?_
    obtain ⟨ho2, h⟩ := h
    obtain ⟨hi3, h⟩ := h
    refine wp_iald (pc := 94) d_X12_future_94 ho2 hi3 ?_
    refine wp_iconst (pc := 95) (v := 1) d_X12_future_95 rfl ?_
    refine wp_iadd (pc := 96) d_X12_future_96 ?_
    obtain ⟨hi4, h⟩ := h
    refine wp_iast (pc := 97) d_X12_future_97 ho2 hi4 ?_
    refine wp_iload_n (pc := 98) d_X12_future_98 rfl ?_
    exact wp_iret (pc := 99) d_X12_future_99 rfl h
  · have h := h.2 hc
    refine wp_aload_n (pc := 64) d_X12_future_64 rfl ?_
    obtain ⟨ho5, h⟩ := h
    refine wp_getR (pc := 65) d_X12_future_65 fl_X12_109 (fun _ _ _ => rfl) ho5 ?_
    refine wp_bipush (pc := 68) (v := 16) d_X12_future_68 rfl ?_
    refine wp_bipush (pc := 70) (v := 6) d_X12_future_70 rfl ?_
    refine wp_iload_n (pc := 72) d_X12_future_72 rfl ?_
    refine wp_imul (pc := 73) d_X12_future_73 ?_
    refine wp_iload_n (pc := 74) d_X12_future_74 rfl ?_
    refine wp_iadd (pc := 75) d_X12_future_75 ?_
    refine wp_imul (pc := 76) d_X12_future_76 ?_
    refine wp_iload (pc := 77) d_X12_future_77 rfl ?_
    refine wp_iadd (pc := 79) d_X12_future_79 ?_
    refine wp_iconst (pc := 80) (v := 0) d_X12_future_80 rfl ?_
    obtain ⟨ho6, h⟩ := h
    obtain ⟨hi7, h⟩ := h
    refine wp_zast (pc := 81) d_X12_future_81 ho6 hi7 ?_
    refine wp_iinc (pc := 82) (v := 1) (lv' := [some (vr _), some (vi _), some (vi _), some (vi _), some (vi _)]) d_X12_future_82 (by decide) rfl rfl rfl ?_
    refine wp_goto (pc := 85) (tgt := 57) d_X12_future_85 (by decide) ?_
    refine wp_sub ?_ h
    exact ⟨rfl, ⟨rfl, ⟨rfl, ⟨rfl, ⟨rfl, trivial⟩⟩⟩⟩⟩
theorem d_X12_because_0 : decode prog_14_method_143_code 0 = .ok (.aload_n 0, 1) := by decide +kernel
theorem d_X12_because_1 : decode prog_14_method_143_code 1 = .ok (.iload_n 1, 1) := by decide +kernel
theorem d_X12_because_2 : decode prog_14_method_143_code 2 = .ok (.iload_n 2, 1) := by decide +kernel
theorem d_X12_because_3 : decode prog_14_method_143_code 3 = .ok (.invokevirtual 462, 3) := by decide +kernel
theorem d_X12_because_6 : decode prog_14_method_143_code 6 = .ok (.ifCond .ne 5, 3) := by decide +kernel
theorem d_X12_because_9 : decode prog_14_method_143_code 9 = .ok (.iconst (-1), 1) := by decide +kernel
theorem d_X12_because_10 : decode prog_14_method_143_code 10 = .ok (.ireturn, 1) := by decide +kernel
theorem d_X12_because_11 : decode prog_14_method_143_code 11 = .ok (.aload_n 0, 1) := by decide +kernel
theorem d_X12_because_12 : decode prog_14_method_143_code 12 = .ok (.iload_n 1, 1) := by decide +kernel
theorem d_X12_because_13 : decode prog_14_method_143_code 13 = .ok (.invokevirtual 571, 3) := by decide +kernel
theorem d_X12_because_16 : decode prog_14_method_143_code 16 = .ok (.aload_n 0, 1) := by decide +kernel
theorem d_X12_because_17 : decode prog_14_method_143_code 17 = .ok (.iload_n 1, 1) := by decide +kernel
theorem d_X12_because_18 : decode prog_14_method_143_code 18 = .ok (.iload_n 2, 1) := by decide +kernel
theorem d_X12_because_19 : decode prog_14_method_143_code 19 = .ok (.iload_n 3, 1) := by decide +kernel
theorem d_X12_because_20 : decode prog_14_method_143_code 20 = .ok (.invokevirtual 643, 3) := by decide +kernel
theorem d_X12_because_23 : decode prog_14_method_143_code 23 = .ok (.istore 4, 2) := by decide +kernel
theorem d_X12_because_25 : decode prog_14_method_143_code 25 = .ok (.aload_n 0, 1) := by decide +kernel
theorem d_X12_because_26 : decode prog_14_method_143_code 26 = .ok (.iload_n 1, 1) := by decide +kernel
theorem d_X12_because_27 : decode prog_14_method_143_code 27 = .ok (.iconst (-1), 1) := by decide +kernel
theorem d_X12_because_28 : decode prog_14_method_143_code 28 = .ok (.iconst 0, 1) := by decide +kernel
theorem d_X12_because_29 : decode prog_14_method_143_code 29 = .ok (.invokevirtual 592, 3) := by decide +kernel
theorem d_X12_because_32 : decode prog_14_method_143_code 32 = .ok (.istore 5, 2) := by decide +kernel
theorem d_X12_because_34 : decode prog_14_method_143_code 34 = .ok (.iconst 0, 1) := by decide +kernel
theorem d_X12_because_35 : decode prog_14_method_143_code 35 = .ok (.istore 6, 2) := by decide +kernel
theorem d_X12_because_37 : decode prog_14_method_143_code 37 = .ok (.iload 4, 2) := by decide +kernel
theorem d_X12_because_39 : decode prog_14_method_143_code 39 = .ok (.ifCond .lt 53, 3) := by decide +kernel
theorem d_X12_because_42 : decode prog_14_method_143_code 42 = .ok (.iload 6, 2) := by decide +kernel
theorem d_X12_because_44 : decode prog_14_method_143_code 44 = .ok (.aload_n 0, 1) := by decide +kernel
theorem d_X12_because_45 : decode prog_14_method_143_code 45 = .ok (.iload_n 1, 1) := by decide +kernel
theorem d_X12_because_46 : decode prog_14_method_143_code 46 = .ok (.invokevirtual 459, 3) := by decide +kernel
theorem d_X12_because_49 : decode prog_14_method_143_code 49 = .ok (.if_icmp .ge 43, 3) := by decide +kernel
theorem d_X12_because_52 : decode prog_14_method_143_code 52 = .ok (.aload_n 0, 1) := by decide +kernel
theorem d_X12_because_53 : decode prog_14_method_143_code 53 = .ok (.getfield 151, 3) := by decide +kernel
theorem d_X12_because_56 : decode prog_14_method_143_code 56 = .ok (.sipush 20000, 3) := by decide +kernel
theorem d_X12_because_59 : decode prog_14_method_143_code 59 = .ok (.iload 6, 2) := by decide +kernel
theorem d_X12_because_61 : decode prog_14_method_143_code 61 = .ok (.imul, 1) := by decide +kernel
theorem d_X12_because_62 : decode prog_14_method_143_code 62 = .ok (.iload 4, 2) := by decide +kernel
theorem d_X12_because_64 : decode prog_14_method_143_code 64 = .ok (.iadd, 1) := by decide +kernel
theorem d_X12_because_65 : decode prog_14_method_143_code 65 = .ok (.iaload, 1) := by decide +kernel
theorem d_X12_because_66 : decode prog_14_method_143_code 66 = .ok (.aload_n 0, 1) := by decide +kernel
theorem d_X12_because_67 : decode prog_14_method_143_code 67 = .ok (.getfield 151, 3) := by decide +kernel
theorem d_X12_because_70 : decode prog_14_method_143_code 70 = .ok (.sipush 20000, 3) := by decide +kernel
theorem d_X12_because_73 : decode prog_14_method_143_code 73 = .ok (.iload 6, 2) := by decide +kernel
theorem d_X12_because_75 : decode prog_14_method_143_code 75 = .ok (.imul, 1) := by decide +kernel
theorem d_X12_because_76 : decode prog_14_method_143_code 76 = .ok (.iload 5, 2) := by decide +kernel
theorem d_X12_because_78 : decode prog_14_method_143_code 78 = .ok (.iadd, 1) := by decide +kernel
theorem d_X12_because_79 : decode prog_14_method_143_code 79 = .ok (.iaload, 1) := by decide +kernel
theorem d_X12_because_80 : decode prog_14_method_143_code 80 = .ok (.if_icmp .le 6, 3) := by decide +kernel
theorem d_X12_because_83 : decode prog_14_method_143_code 83 = .ok (.iload 6, 2) := by decide +kernel
theorem d_X12_because_85 : decode prog_14_method_143_code 85 = .ok (.ireturn, 1) := by decide +kernel
theorem d_X12_because_86 : decode prog_14_method_143_code 86 = .ok (.iinc 6 1, 3) := by decide +kernel
theorem d_X12_because_89 : decode prog_14_method_143_code 89 = .ok (.goto (-52), 3) := by decide +kernel
theorem d_X12_because_92 : decode prog_14_method_143_code 92 = .ok (.iconst (-1), 1) := by decide +kernel
theorem d_X12_because_93 : decode prog_14_method_143_code 93 = .ok (.ireturn, 1) := by decide +kernel
theorem v_X12_because_0 {E : EE} {d : Nat} {Q : Option AV → AH → Prop} {x0 : Nat} {x1 : Int32} {x2 : Int32} {x3 : Int32} {G : AH} (h0 : 0 < d) (h : isO E G x0 12 ∧ (wpI E (d - 1) M_X12_isVar [vr x0, vi x1, vi x2] G (fun r1 G2 => (¬ r1 = 0 → isO E G2 x0 12 ∧ (wpV E (d - 1) M_X12_know [vr x0, vi x1] G2 (fun G3 => isO E G3 x0 12 ∧ (wpI E (d - 1) M_X12_bestWith [vr x0, vi x1, vi x2, vi x3] G3 (fun r4 G5 => isO E G5 x0 12 ∧ (wpI E (d - 1) M_X12_firstBest [vr x0, vi x1, vi (-1), vi 0] G5 (fun r6 G7 => wp E d M_X12_because 37 [some (vr x0), some (vi x1), some (vi x2), some (vi x3), some (vi r4), some (vi r6), some (vi 0)] [] G7 Q))))))) ∧ (r1 = 0 → Q (some (vi (-1))) G2)))) : wp E d M_X12_because 0 [some (vr x0), some (vi x1), some (vi x2), some (vi x3), none, none, none] [] G Q := by
  refine wp_aload_n (pc := 0) d_X12_because_0 rfl ?_
  refine wp_iload_n (pc := 1) d_X12_because_1 rfl ?_
  refine wp_iload_n (pc := 2) d_X12_because_2 rfl ?_
  obtain ⟨ho11, h⟩ := h
  refine wp_invV (pc := 3) (N := M_X12_isVar) (As := [vi _, vi _]) (rest := []) (r := (cn_12, ct_12, 95)) d_X12_because_3 ml_X12_462 mk_X12_isVar mv_X12_isVar h0 ho11 rfl rfl (Nat.le_of_ble_eq_true rfl) ?_
  refine wpM.mono h (fun rr G2 hr => ?_)
  obtain ⟨r1, rfl, h⟩ := hr
  show wp E d M_X12_because 6 [some (vr _), some (vi _), some (vi _), some (vi _), none, none, none] [vi _] G2 Q
  refine wp_if_ne (pc := 6) (tgt := 11) d_X12_because_6 (by decide) (fun hc => ?_) (fun hc => ?_)
  · have h := h.1 hc
    refine wp_aload_n (pc := 11) d_X12_because_11 rfl ?_
    refine wp_iload_n (pc := 12) d_X12_because_12 rfl ?_
    obtain ⟨ho10, h⟩ := h
    refine wp_invV (pc := 13) (N := M_X12_know) (As := [vi _]) (rest := []) (r := (cn_12, ct_12, 95)) d_X12_because_13 ml_X12_571 mk_X12_know mv_X12_know h0 ho10 rfl rfl (Nat.le_of_ble_eq_true rfl) ?_
    refine wpM.mono h (fun rr G3 hr => ?_)
    obtain ⟨rfl, h⟩ := hr
    show wp E d M_X12_because 16 [some (vr _), some (vi _), some (vi _), some (vi _), none, none, none] [] G3 Q
    refine wp_aload_n (pc := 16) d_X12_because_16 rfl ?_
    refine wp_iload_n (pc := 17) d_X12_because_17 rfl ?_
    refine wp_iload_n (pc := 18) d_X12_because_18 rfl ?_
    refine wp_iload_n (pc := 19) d_X12_because_19 rfl ?_
    obtain ⟨ho9, h⟩ := h
    refine wp_invV (pc := 20) (N := M_X12_bestWith) (As := [vi _, vi _, vi _]) (rest := []) (r := (cn_12, ct_12, 95)) d_X12_because_20 ml_X12_643 mk_X12_bestWith mv_X12_bestWith h0 ho9 rfl rfl (Nat.le_of_ble_eq_true rfl) ?_
    refine wpM.mono h (fun rr G5 hr => ?_)
    obtain ⟨r4, rfl, h⟩ := hr
    show wp E d M_X12_because 23 [some (vr _), some (vi _), some (vi _), some (vi _), none, none, none] [vi _] G5 Q
    refine wp_istore (pc := 23) (lv' := [some (vr _), some (vi _), some (vi _), some (vi _), some (vi _), none, none]) d_X12_because_23 (by decide) rfl ?_
    refine wp_aload_n (pc := 25) d_X12_because_25 rfl ?_
    refine wp_iload_n (pc := 26) d_X12_because_26 rfl ?_
    refine wp_iconst (pc := 27) (v := (-1)) d_X12_because_27 rfl ?_
    refine wp_iconst (pc := 28) (v := 0) d_X12_because_28 rfl ?_
    obtain ⟨ho8, h⟩ := h
    refine wp_invV (pc := 29) (N := M_X12_firstBest) (As := [vi _, vi _, vi _]) (rest := []) (r := (cn_12, ct_12, 95)) d_X12_because_29 ml_X12_592 mk_X12_firstBest mv_X12_firstBest h0 ho8 rfl rfl (Nat.le_of_ble_eq_true rfl) ?_
    refine wpM.mono h (fun rr G7 hr => ?_)
    obtain ⟨r6, rfl, h⟩ := hr
    show wp E d M_X12_because 32 [some (vr _), some (vi _), some (vi _), some (vi _), some (vi _), none, none] [vi _] G7 Q
    refine wp_istore (pc := 32) (lv' := [some (vr _), some (vi _), some (vi _), some (vi _), some (vi _), some (vi _), none]) d_X12_because_32 (by decide) rfl ?_
    refine wp_iconst (pc := 34) (v := 0) d_X12_because_34 rfl ?_
    refine wp_istore (pc := 35) (lv' := [some (vr _), some (vi _), some (vi _), some (vi _), some (vi _), some (vi _), some (vi _)]) d_X12_because_35 (by decide) rfl ?_
    refine wp_sub ?_ h
    exact ⟨rfl, ⟨rfl, ⟨rfl, ⟨rfl, ⟨rfl, ⟨rfl, ⟨rfl, trivial⟩⟩⟩⟩⟩⟩⟩
  · have h := h.2 hc
    refine wp_iconst (pc := 9) (v := (-1)) d_X12_because_9 rfl ?_
    exact wp_iret (pc := 10) d_X12_because_10 rfl h
theorem v_X12_because_37 {E : EE} {d : Nat} {Q : Option AV → AH → Prop} {x0 : Nat} {x1 : Int32} {x2 : Int32} {x3 : Int32} {x4 : Int32} {x5 : Int32} {x6 : Int32} {G : AH} (h0 : 0 < d) (h : (x4 < 0 → Q (some (vi (-1))) G) ∧ (¬ (x4 < 0) → isO E G x0 12 ∧ (wpI E (d - 1) M_X12_rulesOf [vr x0, vi x1] G (fun r1 G2 => (r1 ≤ x6 → Q (some (vi (-1))) G2) ∧ (¬ (r1 ≤ x6) → isO E G2 x0 12 ∧ (isO E G2 (gR G2 x0 64) 14 ∧ (vp_in ((20000 * x6) + x4) (gN G2 (gR G2 x0 64)) ∧ (vp_in ((20000 * x6) + x5) (gN G2 (gR G2 x0 64)) ∧ (((gI G2 (gR G2 x0 64) (Int32.toNatClampNeg ((20000 * x6) + x4))) ≤ (gI G2 (gR G2 x0 64) (Int32.toNatClampNeg ((20000 * x6) + x5))) → wp E d M_X12_because 37 [some (vr x0), some (vi x1), some (vi x2), some (vi x3), some (vi x4), some (vi x5), some (vi (x6 + 1))] [] G2 Q) ∧ (¬ ((gI G2 (gR G2 x0 64) (Int32.toNatClampNeg ((20000 * x6) + x4))) ≤ (gI G2 (gR G2 x0 64) (Int32.toNatClampNeg ((20000 * x6) + x5)))) → Q (some (vi x6)) G2)))))))))) : wp E d M_X12_because 37 [some (vr x0), some (vi x1), some (vi x2), some (vi x3), some (vi x4), some (vi x5), some (vi x6)] [] G Q := by
  refine wp_iload (pc := 37) d_X12_because_37 rfl ?_
  refine wp_if_lt (pc := 39) (tgt := 92) d_X12_because_39 (by decide) (fun hc => ?_) (fun hc => ?_)
  · have h := h.1 hc
    refine wp_iconst (pc := 92) (v := (-1)) d_X12_because_92 rfl ?_
    exact wp_iret (pc := 93) d_X12_because_93 rfl h
  · have h := h.2 hc
    refine wp_iload (pc := 42) d_X12_because_42 rfl ?_
    refine wp_aload_n (pc := 44) d_X12_because_44 rfl ?_
    refine wp_iload_n (pc := 45) d_X12_because_45 rfl ?_
    obtain ⟨ho7, h⟩ := h
    refine wp_invV (pc := 46) (N := M_X12_rulesOf) (As := [vi _]) (rest := [vi _]) (r := (cn_12, ct_12, 95)) d_X12_because_46 ml_X12_459 mk_X12_rulesOf mv_X12_rulesOf h0 ho7 rfl rfl (Nat.le_of_ble_eq_true rfl) ?_
    refine wpM.mono h (fun rr G2 hr => ?_)
    obtain ⟨r1, rfl, h⟩ := hr
    show wp E d M_X12_because 49 [some (vr _), some (vi _), some (vi _), some (vi _), some (vi _), some (vi _), some (vi _)] [vi _, vi _] G2 Q
    refine wp_icmp_ge (pc := 49) (tgt := 92) d_X12_because_49 (by decide) (fun hc => ?_) (fun hc => ?_)
    · have h := h.1 hc
      refine wp_iconst (pc := 92) (v := (-1)) d_X12_because_92 rfl ?_
      exact wp_iret (pc := 93) d_X12_because_93 rfl h
    · have h := h.2 hc
      refine wp_aload_n (pc := 52) d_X12_because_52 rfl ?_
      obtain ⟨ho3, h⟩ := h
      refine wp_getR (pc := 53) d_X12_because_53 fl_X12_151 (fun _ _ _ => rfl) ho3 ?_
      refine wp_sipush (pc := 56) (v := 20000) d_X12_because_56 rfl ?_
      refine wp_iload (pc := 59) d_X12_because_59 rfl ?_
      refine wp_imul (pc := 61) d_X12_because_61 ?_
      refine wp_iload (pc := 62) d_X12_because_62 rfl ?_
      refine wp_iadd (pc := 64) d_X12_because_64 ?_
      obtain ⟨ho4, h⟩ := h
      obtain ⟨hi5, h⟩ := h
      refine wp_iald (pc := 65) d_X12_because_65 ho4 hi5 ?_
      refine wp_aload_n (pc := 66) d_X12_because_66 rfl ?_
      refine wp_getR (pc := 67) d_X12_because_67 fl_X12_151 (fun _ _ _ => rfl) ho3 ?_
      refine wp_sipush (pc := 70) (v := 20000) d_X12_because_70 rfl ?_
      refine wp_iload (pc := 73) d_X12_because_73 rfl ?_
      refine wp_imul (pc := 75) d_X12_because_75 ?_
      refine wp_iload (pc := 76) d_X12_because_76 rfl ?_
      refine wp_iadd (pc := 78) d_X12_because_78 ?_
      obtain ⟨hi6, h⟩ := h
      refine wp_iald (pc := 79) d_X12_because_79 ho4 hi6 ?_
      refine wp_icmp_le (pc := 80) (tgt := 86) d_X12_because_80 (by decide) (fun hc => ?_) (fun hc => ?_)
      · have h := h.1 hc
        refine wp_iinc (pc := 86) (v := 1) (lv' := [some (vr _), some (vi _), some (vi _), some (vi _), some (vi _), some (vi _), some (vi _)]) d_X12_because_86 (by decide) rfl rfl rfl ?_
        refine wp_goto (pc := 89) (tgt := 37) d_X12_because_89 (by decide) ?_
        refine wp_sub ?_ h
        exact ⟨rfl, ⟨rfl, ⟨rfl, ⟨rfl, ⟨rfl, ⟨rfl, ⟨rfl, trivial⟩⟩⟩⟩⟩⟩⟩
      · have h := h.2 hc
        refine wp_iload (pc := 83) d_X12_because_83 rfl ?_
        exact wp_iret (pc := 85) d_X12_because_85 rfl h
theorem d_X12_isVar_0 : decode prog_14_method_58_code 0 = .ok (.aload_n 0, 1) := by decide +kernel
theorem d_X12_isVar_1 : decode prog_14_method_58_code 1 = .ok (.iload_n 1, 1) := by decide +kernel
theorem d_X12_isVar_2 : decode prog_14_method_58_code 2 = .ok (.invokevirtual 453, 3) := by decide +kernel
theorem d_X12_isVar_5 : decode prog_14_method_58_code 5 = .ok (.ifCond .eq 20, 3) := by decide +kernel
theorem d_X12_isVar_8 : decode prog_14_method_58_code 8 = .ok (.iload_n 2, 1) := by decide +kernel
theorem d_X12_isVar_9 : decode prog_14_method_58_code 9 = .ok (.ifCond .lt 16, 3) := by decide +kernel
theorem d_X12_isVar_12 : decode prog_14_method_58_code 12 = .ok (.iload_n 2, 1) := by decide +kernel
theorem d_X12_isVar_13 : decode prog_14_method_58_code 13 = .ok (.aload_n 0, 1) := by decide +kernel
theorem d_X12_isVar_14 : decode prog_14_method_58_code 14 = .ok (.iload_n 1, 1) := by decide +kernel
theorem d_X12_isVar_15 : decode prog_14_method_58_code 15 = .ok (.invokevirtual 456, 3) := by decide +kernel
theorem d_X12_isVar_18 : decode prog_14_method_58_code 18 = .ok (.if_icmp .ge 7, 3) := by decide +kernel
theorem d_X12_isVar_21 : decode prog_14_method_58_code 21 = .ok (.iconst 1, 1) := by decide +kernel
theorem d_X12_isVar_22 : decode prog_14_method_58_code 22 = .ok (.goto 4, 3) := by decide +kernel
theorem d_X12_isVar_25 : decode prog_14_method_58_code 25 = .ok (.iconst 0, 1) := by decide +kernel
theorem d_X12_isVar_26 : decode prog_14_method_58_code 26 = .ok (.ireturn, 1) := by decide +kernel
theorem v_X12_isVar_0 {E : EE} {d : Nat} {Q : Option AV → AH → Prop} {x0 : Nat} {x1 : Int32} {x2 : Int32} {G : AH} (h0 : 0 < d) (h : isO E G x0 12 ∧ (wpI E (d - 1) M_X12_isProblem [vr x0, vi x1] G (fun r1 G2 => (r1 = 0 → Q (some (vi 0)) G2) ∧ (¬ (r1 = 0) → (x2 < 0 → Q (some (vi 0)) G2) ∧ (¬ (x2 < 0) → isO E G2 x0 12 ∧ (wpI E (d - 1) M_X12_vars [vr x0, vi x1] G2 (fun r3 G4 => (r3 ≤ x2 → Q (some (vi 0)) G4) ∧ (¬ (r3 ≤ x2) → Q (some (vi 1)) G4)))))))) : wp E d M_X12_isVar 0 [some (vr x0), some (vi x1), some (vi x2)] [] G Q := by
  refine wp_aload_n (pc := 0) d_X12_isVar_0 rfl ?_
  refine wp_iload_n (pc := 1) d_X12_isVar_1 rfl ?_
  obtain ⟨ho6, h⟩ := h
  refine wp_invV (pc := 2) (N := M_X12_isProblem) (As := [vi _]) (rest := []) (r := (cn_12, ct_12, 95)) d_X12_isVar_2 ml_X12_453 mk_X12_isProblem mv_X12_isProblem h0 ho6 rfl rfl (Nat.le_of_ble_eq_true rfl) ?_
  refine wpM.mono h (fun rr G2 hr => ?_)
  obtain ⟨r1, rfl, h⟩ := hr
  show wp E d M_X12_isVar 5 [some (vr _), some (vi _), some (vi _)] [vi _] G2 Q
  refine wp_if_eq (pc := 5) (tgt := 25) d_X12_isVar_5 (by decide) (fun hc => ?_) (fun hc => ?_)
  · have h := h.1 hc
    refine wp_iconst (pc := 25) (v := 0) d_X12_isVar_25 rfl ?_
    exact wp_zret (pc := 26) d_X12_isVar_26 rfl rfl h
  · have h := h.2 hc
    refine wp_iload_n (pc := 8) d_X12_isVar_8 rfl ?_
    refine wp_if_lt (pc := 9) (tgt := 25) d_X12_isVar_9 (by decide) (fun hc => ?_) (fun hc => ?_)
    · have h := h.1 hc
      refine wp_iconst (pc := 25) (v := 0) d_X12_isVar_25 rfl ?_
      exact wp_zret (pc := 26) d_X12_isVar_26 rfl rfl h
    · have h := h.2 hc
      refine wp_iload_n (pc := 12) d_X12_isVar_12 rfl ?_
      refine wp_aload_n (pc := 13) d_X12_isVar_13 rfl ?_
      refine wp_iload_n (pc := 14) d_X12_isVar_14 rfl ?_
      obtain ⟨ho5, h⟩ := h
      refine wp_invV (pc := 15) (N := M_X12_vars) (As := [vi _]) (rest := [vi _]) (r := (cn_12, ct_12, 95)) d_X12_isVar_15 ml_X12_456 mk_X12_vars mv_X12_vars h0 ho5 rfl rfl (Nat.le_of_ble_eq_true rfl) ?_
      refine wpM.mono h (fun rr G4 hr => ?_)
      obtain ⟨r3, rfl, h⟩ := hr
      show wp E d M_X12_isVar 18 [some (vr _), some (vi _), some (vi _)] [vi _, vi _] G4 Q
      refine wp_icmp_ge (pc := 18) (tgt := 25) d_X12_isVar_18 (by decide) (fun hc => ?_) (fun hc => ?_)
      · have h := h.1 hc
        refine wp_iconst (pc := 25) (v := 0) d_X12_isVar_25 rfl ?_
        exact wp_zret (pc := 26) d_X12_isVar_26 rfl rfl h
      · have h := h.2 hc
        refine wp_iconst (pc := 21) (v := 1) d_X12_isVar_21 rfl ?_
        refine wp_goto (pc := 22) (tgt := 26) d_X12_isVar_22 (by decide) ?_
        exact wp_zret (pc := 26) d_X12_isVar_26 rfl rfl h
theorem d_X12_bestWith_0 : decode prog_14_method_141_code 0 = .ok (.aload_n 0, 1) := by decide +kernel
theorem d_X12_bestWith_1 : decode prog_14_method_141_code 1 = .ok (.iload_n 1, 1) := by decide +kernel
theorem d_X12_bestWith_2 : decode prog_14_method_141_code 2 = .ok (.iload_n 2, 1) := by decide +kernel
theorem d_X12_bestWith_3 : decode prog_14_method_141_code 3 = .ok (.iload_n 3, 1) := by decide +kernel
theorem d_X12_bestWith_4 : decode prog_14_method_141_code 4 = .ok (.invokevirtual 577, 3) := by decide +kernel
theorem d_X12_bestWith_7 : decode prog_14_method_141_code 7 = .ok (.istore 4, 2) := by decide +kernel
theorem d_X12_bestWith_9 : decode prog_14_method_141_code 9 = .ok (.iload 4, 2) := by decide +kernel
theorem d_X12_bestWith_11 : decode prog_14_method_141_code 11 = .ok (.ifCond .ge 7, 3) := by decide +kernel
theorem d_X12_bestWith_14 : decode prog_14_method_141_code 14 = .ok (.iconst (-1), 1) := by decide +kernel
theorem d_X12_bestWith_15 : decode prog_14_method_141_code 15 = .ok (.goto 11, 3) := by decide +kernel
theorem d_X12_bestWith_18 : decode prog_14_method_141_code 18 = .ok (.aload_n 0, 1) := by decide +kernel
theorem d_X12_bestWith_19 : decode prog_14_method_141_code 19 = .ok (.iload_n 1, 1) := by decide +kernel
theorem d_X12_bestWith_20 : decode prog_14_method_141_code 20 = .ok (.iload_n 2, 1) := by decide +kernel
theorem d_X12_bestWith_21 : decode prog_14_method_141_code 21 = .ok (.iload 4, 2) := by decide +kernel
theorem d_X12_bestWith_23 : decode prog_14_method_141_code 23 = .ok (.invokevirtual 592, 3) := by decide +kernel
theorem d_X12_bestWith_26 : decode prog_14_method_141_code 26 = .ok (.ireturn, 1) := by decide +kernel
theorem v_X12_bestWith_0 {E : EE} {d : Nat} {Q : Option AV → AH → Prop} {x0 : Nat} {x1 : Int32} {x2 : Int32} {x3 : Int32} {G : AH} (h0 : 0 < d) (h : isO E G x0 12 ∧ (wpI E (d - 1) M_X12_placeOf [vr x0, vi x1, vi x2, vi x3] G (fun r1 G2 => (0 ≤ r1 → isO E G2 x0 12 ∧ (wpI E (d - 1) M_X12_firstBest [vr x0, vi x1, vi x2, vi r1] G2 (fun r3 G4 => Q (some (vi r3)) G4))) ∧ (¬ (0 ≤ r1) → Q (some (vi (-1))) G2)))) : wp E d M_X12_bestWith 0 [some (vr x0), some (vi x1), some (vi x2), some (vi x3), none] [] G Q := by
  refine wp_aload_n (pc := 0) d_X12_bestWith_0 rfl ?_
  refine wp_iload_n (pc := 1) d_X12_bestWith_1 rfl ?_
  refine wp_iload_n (pc := 2) d_X12_bestWith_2 rfl ?_
  refine wp_iload_n (pc := 3) d_X12_bestWith_3 rfl ?_
  obtain ⟨ho6, h⟩ := h
  refine wp_invV (pc := 4) (N := M_X12_placeOf) (As := [vi _, vi _, vi _]) (rest := []) (r := (cn_12, ct_12, 95)) d_X12_bestWith_4 ml_X12_577 mk_X12_placeOf mv_X12_placeOf h0 ho6 rfl rfl (Nat.le_of_ble_eq_true rfl) ?_
  refine wpM.mono h (fun rr G2 hr => ?_)
  obtain ⟨r1, rfl, h⟩ := hr
  show wp E d M_X12_bestWith 7 [some (vr _), some (vi _), some (vi _), some (vi _), none] [vi _] G2 Q
  refine wp_istore (pc := 7) (lv' := [some (vr _), some (vi _), some (vi _), some (vi _), some (vi _)]) d_X12_bestWith_7 (by decide) rfl ?_
  refine wp_iload (pc := 9) d_X12_bestWith_9 rfl ?_
  refine wp_if_ge (pc := 11) (tgt := 18) d_X12_bestWith_11 (by decide) (fun hc => ?_) (fun hc => ?_)
  · have h := h.1 hc
    refine wp_aload_n (pc := 18) d_X12_bestWith_18 rfl ?_
    refine wp_iload_n (pc := 19) d_X12_bestWith_19 rfl ?_
    refine wp_iload_n (pc := 20) d_X12_bestWith_20 rfl ?_
    refine wp_iload (pc := 21) d_X12_bestWith_21 rfl ?_
    obtain ⟨ho5, h⟩ := h
    refine wp_invV (pc := 23) (N := M_X12_firstBest) (As := [vi _, vi _, vi _]) (rest := []) (r := (cn_12, ct_12, 95)) d_X12_bestWith_23 ml_X12_592 mk_X12_firstBest mv_X12_firstBest h0 ho5 rfl rfl (Nat.le_of_ble_eq_true rfl) ?_
    refine wpM.mono h (fun rr G4 hr => ?_)
    obtain ⟨r3, rfl, h⟩ := hr
    show wp E d M_X12_bestWith 26 [some (vr _), some (vi _), some (vi _), some (vi _), some (vi _)] [vi _] G4 Q
    exact wp_iret (pc := 26) d_X12_bestWith_26 rfl h
  · have h := h.2 hc
    refine wp_iconst (pc := 14) (v := (-1)) d_X12_bestWith_14 rfl ?_
    refine wp_goto (pc := 15) (tgt := 26) d_X12_bestWith_15 (by decide) ?_
    exact wp_iret (pc := 26) d_X12_bestWith_26 rfl h
theorem d_X12_firstBest_0 : decode prog_14_method_95_code 0 = .ok (.iconst (-1), 1) := by decide +kernel
theorem d_X12_firstBest_1 : decode prog_14_method_95_code 1 = .ok (.istore 4, 2) := by decide +kernel
theorem d_X12_firstBest_3 : decode prog_14_method_95_code 3 = .ok (.iconst 0, 1) := by decide +kernel
theorem d_X12_firstBest_4 : decode prog_14_method_95_code 4 = .ok (.istore 5, 2) := by decide +kernel
theorem d_X12_firstBest_6 : decode prog_14_method_95_code 6 = .ok (.iload 5, 2) := by decide +kernel
theorem d_X12_firstBest_8 : decode prog_14_method_95_code 8 = .ok (.aload_n 0, 1) := by decide +kernel
theorem d_X12_firstBest_9 : decode prog_14_method_95_code 9 = .ok (.getfield 82, 3) := by decide +kernel
theorem d_X12_firstBest_12 : decode prog_14_method_95_code 12 = .ok (.iload_n 1, 1) := by decide +kernel
theorem d_X12_firstBest_13 : decode prog_14_method_95_code 13 = .ok (.iaload, 1) := by decide +kernel
theorem d_X12_firstBest_14 : decode prog_14_method_95_code 14 = .ok (.if_icmp .ge 55, 3) := by decide +kernel
theorem d_X12_firstBest_17 : decode prog_14_method_95_code 17 = .ok (.aload_n 0, 1) := by decide +kernel
theorem d_X12_firstBest_18 : decode prog_14_method_95_code 18 = .ok (.iload_n 1, 1) := by decide +kernel
theorem d_X12_firstBest_19 : decode prog_14_method_95_code 19 = .ok (.iload 5, 2) := by decide +kernel
theorem d_X12_firstBest_21 : decode prog_14_method_95_code 21 = .ok (.invokevirtual 562, 3) := by decide +kernel
theorem d_X12_firstBest_24 : decode prog_14_method_95_code 24 = .ok (.ifCond .eq 39, 3) := by decide +kernel
theorem d_X12_firstBest_27 : decode prog_14_method_95_code 27 = .ok (.iload_n 2, 1) := by decide +kernel
theorem d_X12_firstBest_28 : decode prog_14_method_95_code 28 = .ok (.ifCond .lt 15, 3) := by decide +kernel
theorem d_X12_firstBest_31 : decode prog_14_method_95_code 31 = .ok (.aload_n 0, 1) := by decide +kernel
theorem d_X12_firstBest_32 : decode prog_14_method_95_code 32 = .ok (.iload_n 1, 1) := by decide +kernel
theorem d_X12_firstBest_33 : decode prog_14_method_95_code 33 = .ok (.iload 5, 2) := by decide +kernel
theorem d_X12_firstBest_35 : decode prog_14_method_95_code 35 = .ok (.iload_n 2, 1) := by decide +kernel
theorem d_X12_firstBest_36 : decode prog_14_method_95_code 36 = .ok (.invokevirtual 537, 3) := by decide +kernel
theorem d_X12_firstBest_39 : decode prog_14_method_95_code 39 = .ok (.iload_n 3, 1) := by decide +kernel
theorem d_X12_firstBest_40 : decode prog_14_method_95_code 40 = .ok (.if_icmp .ne 23, 3) := by decide +kernel
theorem d_X12_firstBest_43 : decode prog_14_method_95_code 43 = .ok (.iload 4, 2) := by decide +kernel
theorem d_X12_firstBest_45 : decode prog_14_method_95_code 45 = .ok (.ifCond .lt 14, 3) := by decide +kernel
theorem d_X12_firstBest_48 : decode prog_14_method_95_code 48 = .ok (.aload_n 0, 1) := by decide +kernel
theorem d_X12_firstBest_49 : decode prog_14_method_95_code 49 = .ok (.iload 5, 2) := by decide +kernel
theorem d_X12_firstBest_51 : decode prog_14_method_95_code 51 = .ok (.iload 4, 2) := by decide +kernel
theorem d_X12_firstBest_53 : decode prog_14_method_95_code 53 = .ok (.invokevirtual 565, 3) := by decide +kernel
theorem d_X12_firstBest_56 : decode prog_14_method_95_code 56 = .ok (.ifCond .eq 7, 3) := by decide +kernel
theorem d_X12_firstBest_59 : decode prog_14_method_95_code 59 = .ok (.iload 5, 2) := by decide +kernel
theorem d_X12_firstBest_61 : decode prog_14_method_95_code 61 = .ok (.istore 4, 2) := by decide +kernel
theorem d_X12_firstBest_63 : decode prog_14_method_95_code 63 = .ok (.iinc 5 1, 3) := by decide +kernel
theorem d_X12_firstBest_66 : decode prog_14_method_95_code 66 = .ok (.goto (-60), 3) := by decide +kernel
theorem d_X12_firstBest_69 : decode prog_14_method_95_code 69 = .ok (.iload 4, 2) := by decide +kernel
theorem d_X12_firstBest_71 : decode prog_14_method_95_code 71 = .ok (.ireturn, 1) := by decide +kernel
theorem v_X12_firstBest_0 {E : EE} {d : Nat} {Q : Option AV → AH → Prop} {x0 : Nat} {x1 : Int32} {x2 : Int32} {x3 : Int32} {G : AH} (h : wp E d M_X12_firstBest 6 [some (vr x0), some (vi x1), some (vi x2), some (vi x3), some (vi (-1)), some (vi 0)] [] G Q) : wp E d M_X12_firstBest 0 [some (vr x0), some (vi x1), some (vi x2), some (vi x3), none, none] [] G Q := by
  refine wp_iconst (pc := 0) (v := (-1)) d_X12_firstBest_0 rfl ?_
  refine wp_istore (pc := 1) (lv' := [some (vr _), some (vi _), some (vi _), some (vi _), some (vi _), none]) d_X12_firstBest_1 (by decide) rfl ?_
  refine wp_iconst (pc := 3) (v := 0) d_X12_firstBest_3 rfl ?_
  refine wp_istore (pc := 4) (lv' := [some (vr _), some (vi _), some (vi _), some (vi _), some (vi _), some (vi _)]) d_X12_firstBest_4 (by decide) rfl ?_
  refine wp_sub ?_ h
  exact ⟨rfl, ⟨rfl, ⟨rfl, ⟨rfl, ⟨rfl, ⟨rfl, trivial⟩⟩⟩⟩⟩⟩
theorem v_X12_firstBest_6 {E : EE} {d : Nat} {Q : Option AV → AH → Prop} {x0 : Nat} {x1 : Int32} {x2 : Int32} {x3 : Int32} {x4 : Int32} {x5 : Int32} {G : AH} (h0 : 0 < d) (h : isO E G x0 12 ∧ (isO E G (gR G x0 25) 14 ∧ (vp_in x1 (gN G (gR G x0 25)) ∧ (((gI G (gR G x0 25) (Int32.toNatClampNeg x1)) ≤ x5 → Q (some (vi x4)) G) ∧ (¬ ((gI G (gR G x0 25) (Int32.toNatClampNeg x1)) ≤ x5) → wpI E (d - 1) M_X12_isGood [vr x0, vi x1, vi x5] G (fun r4 G5 => (r4 = 0 → wp E d M_X12_firstBest 63 [some (vr x0), some (vi x1), some (vi x2), some (vi x3), some (vi x4), some (vi x5)] [] G5 Q) ∧ (¬ (r4 = 0) → (x2 < 0 → wp E d M_X12_firstBest 43 [some (vr x0), some (vi x1), some (vi x2), some (vi x3), some (vi x4), some (vi x5)] [] G5 Q) ∧ (¬ (x2 < 0) → isO E G5 x0 12 ∧ (wpI E (d - 1) M_X12_place [vr x0, vi x1, vi x5, vi x2] G5 (fun r6 G7 => (¬ r6 = x3 → wp E d M_X12_firstBest 63 [some (vr x0), some (vi x1), some (vi x2), some (vi x3), some (vi x4), some (vi x5)] [] G7 Q) ∧ (r6 = x3 → wp E d M_X12_firstBest 43 [some (vr x0), some (vi x1), some (vi x2), some (vi x3), some (vi x4), some (vi x5)] [] G7 Q))))))))))) : wp E d M_X12_firstBest 6 [some (vr x0), some (vi x1), some (vi x2), some (vi x3), some (vi x4), some (vi x5)] [] G Q := by
  refine wp_iload (pc := 6) d_X12_firstBest_6 rfl ?_
  refine wp_aload_n (pc := 8) d_X12_firstBest_8 rfl ?_
  obtain ⟨ho1, h⟩ := h
  refine wp_getR (pc := 9) d_X12_firstBest_9 fl_X12_82 (fun _ _ _ => rfl) ho1 ?_
  refine wp_iload_n (pc := 12) d_X12_firstBest_12 rfl ?_
  obtain ⟨ho2, h⟩ := h
  obtain ⟨hi3, h⟩ := h
  refine wp_iald (pc := 13) d_X12_firstBest_13 ho2 hi3 ?_
  refine wp_icmp_ge (pc := 14) (tgt := 69) d_X12_firstBest_14 (by decide) (fun hc => ?_) (fun hc => ?_)
  · have h := h.1 hc
    refine wp_iload (pc := 69) d_X12_firstBest_69 rfl ?_
    exact wp_iret (pc := 71) d_X12_firstBest_71 rfl h
  · have h := h.2 hc
    refine wp_aload_n (pc := 17) d_X12_firstBest_17 rfl ?_
    refine wp_iload_n (pc := 18) d_X12_firstBest_18 rfl ?_
    refine wp_iload (pc := 19) d_X12_firstBest_19 rfl ?_
    refine wp_invV (pc := 21) (N := M_X12_isGood) (As := [vi _, vi _]) (rest := []) (r := (cn_12, ct_12, 95)) d_X12_firstBest_21 ml_X12_562 mk_X12_isGood mv_X12_isGood h0 ho1 rfl rfl (Nat.le_of_ble_eq_true rfl) ?_
    refine wpM.mono h (fun rr G5 hr => ?_)
    obtain ⟨r4, rfl, h⟩ := hr
    show wp E d M_X12_firstBest 24 [some (vr _), some (vi _), some (vi _), some (vi _), some (vi _), some (vi _)] [vi _] G5 Q
    refine wp_if_eq (pc := 24) (tgt := 63) d_X12_firstBest_24 (by decide) (fun hc => ?_) (fun hc => ?_)
    · have h := h.1 hc
      refine wp_sub ?_ h
      exact ⟨rfl, ⟨rfl, ⟨rfl, ⟨rfl, ⟨rfl, ⟨rfl, trivial⟩⟩⟩⟩⟩⟩
    · have h := h.2 hc
      refine wp_iload_n (pc := 27) d_X12_firstBest_27 rfl ?_
      refine wp_if_lt (pc := 28) (tgt := 43) d_X12_firstBest_28 (by decide) (fun hc => ?_) (fun hc => ?_)
      · have h := h.1 hc
        refine wp_sub ?_ h
        exact ⟨rfl, ⟨rfl, ⟨rfl, ⟨rfl, ⟨rfl, ⟨rfl, trivial⟩⟩⟩⟩⟩⟩
      · have h := h.2 hc
        refine wp_aload_n (pc := 31) d_X12_firstBest_31 rfl ?_
        refine wp_iload_n (pc := 32) d_X12_firstBest_32 rfl ?_
        refine wp_iload (pc := 33) d_X12_firstBest_33 rfl ?_
        refine wp_iload_n (pc := 35) d_X12_firstBest_35 rfl ?_
        obtain ⟨ho8, h⟩ := h
        refine wp_invV (pc := 36) (N := M_X12_place) (As := [vi _, vi _, vi _]) (rest := []) (r := (cn_12, ct_12, 95)) d_X12_firstBest_36 ml_X12_537 mk_X12_place mv_X12_place h0 ho8 rfl rfl (Nat.le_of_ble_eq_true rfl) ?_
        refine wpM.mono h (fun rr G7 hr => ?_)
        obtain ⟨r6, rfl, h⟩ := hr
        show wp E d M_X12_firstBest 39 [some (vr _), some (vi _), some (vi _), some (vi _), some (vi _), some (vi _)] [vi _] G7 Q
        refine wp_iload_n (pc := 39) d_X12_firstBest_39 rfl ?_
        refine wp_icmp_ne (pc := 40) (tgt := 63) d_X12_firstBest_40 (by decide) (fun hc => ?_) (fun hc => ?_)
        · have h := h.1 hc
          refine wp_sub ?_ h
          exact ⟨rfl, ⟨rfl, ⟨rfl, ⟨rfl, ⟨rfl, ⟨rfl, trivial⟩⟩⟩⟩⟩⟩
        · have h := h.2 hc
          refine wp_sub ?_ h
          exact ⟨rfl, ⟨rfl, ⟨rfl, ⟨rfl, ⟨rfl, ⟨rfl, trivial⟩⟩⟩⟩⟩⟩
theorem v_X12_firstBest_43 {E : EE} {d : Nat} {Q : Option AV → AH → Prop} {x0 : Nat} {x1 : Int32} {x2 : Int32} {x3 : Int32} {x4 : Int32} {x5 : Int32} {G : AH} (h0 : 0 < d) (h : (x4 < 0 → wp E d M_X12_firstBest 59 [some (vr x0), some (vi x1), some (vi x2), some (vi x3), some (vi x4), some (vi x5)] [] G Q) ∧ (¬ (x4 < 0) → isO E G x0 12 ∧ (wpI E (d - 1) M_X12_isBetter [vr x0, vi x5, vi x4] G (fun r1 G2 => (r1 = 0 → wp E d M_X12_firstBest 63 [some (vr x0), some (vi x1), some (vi x2), some (vi x3), some (vi x4), some (vi x5)] [] G2 Q) ∧ (¬ (r1 = 0) → wp E d M_X12_firstBest 59 [some (vr x0), some (vi x1), some (vi x2), some (vi x3), some (vi x4), some (vi x5)] [] G2 Q))))) : wp E d M_X12_firstBest 43 [some (vr x0), some (vi x1), some (vi x2), some (vi x3), some (vi x4), some (vi x5)] [] G Q := by
  refine wp_iload (pc := 43) d_X12_firstBest_43 rfl ?_
  refine wp_if_lt (pc := 45) (tgt := 59) d_X12_firstBest_45 (by decide) (fun hc => ?_) (fun hc => ?_)
  · have h := h.1 hc
    refine wp_sub ?_ h
    exact ⟨rfl, ⟨rfl, ⟨rfl, ⟨rfl, ⟨rfl, ⟨rfl, trivial⟩⟩⟩⟩⟩⟩
  · have h := h.2 hc
    refine wp_aload_n (pc := 48) d_X12_firstBest_48 rfl ?_
    refine wp_iload (pc := 49) d_X12_firstBest_49 rfl ?_
    refine wp_iload (pc := 51) d_X12_firstBest_51 rfl ?_
    obtain ⟨ho3, h⟩ := h
    refine wp_invV (pc := 53) (N := M_X12_isBetter) (As := [vi _, vi _]) (rest := []) (r := (cn_12, ct_12, 95)) d_X12_firstBest_53 ml_X12_565 mk_X12_isBetter mv_X12_isBetter h0 ho3 rfl rfl (Nat.le_of_ble_eq_true rfl) ?_
    refine wpM.mono h (fun rr G2 hr => ?_)
    obtain ⟨r1, rfl, h⟩ := hr
    show wp E d M_X12_firstBest 56 [some (vr _), some (vi _), some (vi _), some (vi _), some (vi _), some (vi _)] [vi _] G2 Q
    refine wp_if_eq (pc := 56) (tgt := 63) d_X12_firstBest_56 (by decide) (fun hc => ?_) (fun hc => ?_)
    · have h := h.1 hc
      refine wp_sub ?_ h
      exact ⟨rfl, ⟨rfl, ⟨rfl, ⟨rfl, ⟨rfl, ⟨rfl, trivial⟩⟩⟩⟩⟩⟩
    · have h := h.2 hc
      refine wp_sub ?_ h
      exact ⟨rfl, ⟨rfl, ⟨rfl, ⟨rfl, ⟨rfl, ⟨rfl, trivial⟩⟩⟩⟩⟩⟩
theorem v_X12_firstBest_59 {E : EE} {d : Nat} {Q : Option AV → AH → Prop} {x0 : Nat} {x1 : Int32} {x2 : Int32} {x3 : Int32} {x4 : Int32} {x5 : Int32} {G : AH} (h : wp E d M_X12_firstBest 63 [some (vr x0), some (vi x1), some (vi x2), some (vi x3), some (vi x5), some (vi x5)] [] G Q) : wp E d M_X12_firstBest 59 [some (vr x0), some (vi x1), some (vi x2), some (vi x3), some (vi x4), some (vi x5)] [] G Q := by
  refine wp_iload (pc := 59) d_X12_firstBest_59 rfl ?_
  refine wp_istore (pc := 61) (lv' := [some (vr _), some (vi _), some (vi _), some (vi _), some (vi _), some (vi _)]) d_X12_firstBest_61 (by decide) rfl ?_
  refine wp_sub ?_ h
  exact ⟨rfl, ⟨rfl, ⟨rfl, ⟨rfl, ⟨rfl, ⟨rfl, trivial⟩⟩⟩⟩⟩⟩
theorem v_X12_firstBest_63 {E : EE} {d : Nat} {Q : Option AV → AH → Prop} {x0 : Nat} {x1 : Int32} {x2 : Int32} {x3 : Int32} {x4 : Int32} {x5 : Int32} {G : AH} (h : wp E d M_X12_firstBest 6 [some (vr x0), some (vi x1), some (vi x2), some (vi x3), some (vi x4), some (vi (x5 + 1))] [] G Q) : wp E d M_X12_firstBest 63 [some (vr x0), some (vi x1), some (vi x2), some (vi x3), some (vi x4), some (vi x5)] [] G Q := by
  refine wp_iinc (pc := 63) (v := 1) (lv' := [some (vr _), some (vi _), some (vi _), some (vi _), some (vi _), some (vi _)]) d_X12_firstBest_63 (by decide) rfl rfl rfl ?_
  refine wp_goto (pc := 66) (tgt := 6) d_X12_firstBest_66 (by decide) ?_
  refine wp_sub ?_ h
  exact ⟨rfl, ⟨rfl, ⟨rfl, ⟨rfl, ⟨rfl, ⟨rfl, trivial⟩⟩⟩⟩⟩⟩
theorem d_X12_whyNot_0 : decode prog_14_method_142_code 0 = .ok (.aload_n 0, 1) := by decide +kernel
theorem d_X12_whyNot_1 : decode prog_14_method_142_code 1 = .ok (.iload_n 1, 1) := by decide +kernel
theorem d_X12_whyNot_2 : decode prog_14_method_142_code 2 = .ok (.iload_n 2, 1) := by decide +kernel
theorem d_X12_whyNot_3 : decode prog_14_method_142_code 3 = .ok (.invokevirtual 462, 3) := by decide +kernel
theorem d_X12_whyNot_6 : decode prog_14_method_142_code 6 = .ok (.ifCond .eq 11, 3) := by decide +kernel
theorem d_X12_whyNot_9 : decode prog_14_method_142_code 9 = .ok (.iload 4, 2) := by decide +kernel
theorem d_X12_whyNot_11 : decode prog_14_method_142_code 11 = .ok (.invokestatic 583, 3) := by decide +kernel
theorem d_X12_whyNot_14 : decode prog_14_method_142_code 14 = .ok (.ifCond .ne 7, 3) := by decide +kernel
theorem d_X12_whyNot_17 : decode prog_14_method_142_code 17 = .ok (.ldc2_w 466, 3) := by decide +kernel
theorem d_X12_whyNot_20 : decode prog_14_method_142_code 20 = .ok (.lreturn, 1) := by decide +kernel
theorem d_X12_whyNot_21 : decode prog_14_method_142_code 21 = .ok (.aload_n 0, 1) := by decide +kernel
theorem d_X12_whyNot_22 : decode prog_14_method_142_code 22 = .ok (.iload_n 1, 1) := by decide +kernel
theorem d_X12_whyNot_23 : decode prog_14_method_142_code 23 = .ok (.invokevirtual 571, 3) := by decide +kernel
theorem d_X12_whyNot_26 : decode prog_14_method_142_code 26 = .ok (.aload_n 0, 1) := by decide +kernel
theorem d_X12_whyNot_27 : decode prog_14_method_142_code 27 = .ok (.iload_n 1, 1) := by decide +kernel
theorem d_X12_whyNot_28 : decode prog_14_method_142_code 28 = .ok (.iload_n 2, 1) := by decide +kernel
theorem d_X12_whyNot_29 : decode prog_14_method_142_code 29 = .ok (.iload_n 3, 1) := by decide +kernel
theorem d_X12_whyNot_30 : decode prog_14_method_142_code 30 = .ok (.invokevirtual 643, 3) := by decide +kernel
theorem d_X12_whyNot_33 : decode prog_14_method_142_code 33 = .ok (.istore 5, 2) := by decide +kernel
theorem d_X12_whyNot_35 : decode prog_14_method_142_code 35 = .ok (.iload 5, 2) := by decide +kernel
theorem d_X12_whyNot_37 : decode prog_14_method_142_code 37 = .ok (.ifCond .ge 9, 3) := by decide +kernel
theorem d_X12_whyNot_40 : decode prog_14_method_142_code 40 = .ok (.ldc2_w 466, 3) := by decide +kernel
theorem d_X12_whyNot_43 : decode prog_14_method_142_code 43 = .ok (.goto 17, 3) := by decide +kernel
theorem d_X12_whyNot_46 : decode prog_14_method_142_code 46 = .ok (.aload_n 0, 1) := by decide +kernel
theorem d_X12_whyNot_47 : decode prog_14_method_142_code 47 = .ok (.getfield 159, 3) := by decide +kernel
theorem d_X12_whyNot_50 : decode prog_14_method_142_code 50 = .ok (.sipush 20000, 3) := by decide +kernel
theorem d_X12_whyNot_53 : decode prog_14_method_142_code 53 = .ok (.iload 4, 2) := by decide +kernel
theorem d_X12_whyNot_55 : decode prog_14_method_142_code 55 = .ok (.imul, 1) := by decide +kernel
theorem d_X12_whyNot_56 : decode prog_14_method_142_code 56 = .ok (.iload 5, 2) := by decide +kernel
theorem d_X12_whyNot_58 : decode prog_14_method_142_code 58 = .ok (.iadd, 1) := by decide +kernel
theorem d_X12_whyNot_59 : decode prog_14_method_142_code 59 = .ok (.laload, 1) := by decide +kernel
theorem d_X12_whyNot_60 : decode prog_14_method_142_code 60 = .ok (.lreturn, 1) := by decide +kernel
theorem v_X12_whyNot_0 {E : EE} {d : Nat} {Q : Option AV → AH → Prop} {x0 : Nat} {x1 : Int32} {x2 : Int32} {x3 : Int32} {x4 : Int32} {G : AH} (h0 : 0 < d) (h : isO E G x0 12 ∧ (wpI E (d - 1) M_X12_isVar [vr x0, vi x1, vi x2] G (fun r1 G2 => (r1 = 0 → Q (some (vj (-9223372036854775808))) G2) ∧ (¬ (r1 = 0) → wpI E (d - 1) M_X12_isLevel [vi x4] G2 (fun r3 G4 => (¬ r3 = 0 → isO E G4 x0 12 ∧ (wpV E (d - 1) M_X12_know [vr x0, vi x1] G4 (fun G5 => isO E G5 x0 12 ∧ (wpI E (d - 1) M_X12_bestWith [vr x0, vi x1, vi x2, vi x3] G5 (fun r6 G7 => (0 ≤ r6 → isO E G7 x0 12 ∧ (isO E G7 (gR G7 x0 66) 15 ∧ (vp_in ((20000 * x4) + r6) (gN G7 (gR G7 x0 66)) ∧ (Q (some (vj (gJ G7 (gR G7 x0 66) (Int32.toNatClampNeg ((20000 * x4) + r6))))) G7)))) ∧ (¬ (0 ≤ r6) → Q (some (vj (-9223372036854775808))) G7)))))) ∧ (r3 = 0 → Q (some (vj (-9223372036854775808))) G4)))))) : wp E d M_X12_whyNot 0 [some (vr x0), some (vi x1), some (vi x2), some (vi x3), some (vi x4), none] [] G Q := by
  refine wp_aload_n (pc := 0) d_X12_whyNot_0 rfl ?_
  refine wp_iload_n (pc := 1) d_X12_whyNot_1 rfl ?_
  refine wp_iload_n (pc := 2) d_X12_whyNot_2 rfl ?_
  obtain ⟨ho13, h⟩ := h
  refine wp_invV (pc := 3) (N := M_X12_isVar) (As := [vi _, vi _]) (rest := []) (r := (cn_12, ct_12, 95)) d_X12_whyNot_3 ml_X12_462 mk_X12_isVar mv_X12_isVar h0 ho13 rfl rfl (Nat.le_of_ble_eq_true rfl) ?_
  refine wpM.mono h (fun rr G2 hr => ?_)
  obtain ⟨r1, rfl, h⟩ := hr
  show wp E d M_X12_whyNot 6 [some (vr _), some (vi _), some (vi _), some (vi _), some (vi _), none] [vi _] G2 Q
  refine wp_if_eq (pc := 6) (tgt := 17) d_X12_whyNot_6 (by decide) (fun hc => ?_) (fun hc => ?_)
  · have h := h.1 hc
    refine wp_ldc2 (pc := 17) (v := (-9223372036854775808)) d_X12_whyNot_17 cj_X12_466 ?_
    exact wp_lret (pc := 20) d_X12_whyNot_20 rfl h
  · have h := h.2 hc
    refine wp_iload (pc := 9) d_X12_whyNot_9 rfl ?_
    refine wp_invS (pc := 11) (N := M_X12_isLevel) (As := [vi _]) (rest := []) d_X12_whyNot_11 ml_X12_583 mk_X12_isLevel ms_X12_isLevel h0 (Nat.le_of_ble_eq_true rfl) ?_
    refine wpM.mono h (fun rr G4 hr => ?_)
    obtain ⟨r3, rfl, h⟩ := hr
    show wp E d M_X12_whyNot 14 [some (vr _), some (vi _), some (vi _), some (vi _), some (vi _), none] [vi _] G4 Q
    refine wp_if_ne (pc := 14) (tgt := 21) d_X12_whyNot_14 (by decide) (fun hc => ?_) (fun hc => ?_)
    · have h := h.1 hc
      refine wp_aload_n (pc := 21) d_X12_whyNot_21 rfl ?_
      refine wp_iload_n (pc := 22) d_X12_whyNot_22 rfl ?_
      obtain ⟨ho12, h⟩ := h
      refine wp_invV (pc := 23) (N := M_X12_know) (As := [vi _]) (rest := []) (r := (cn_12, ct_12, 95)) d_X12_whyNot_23 ml_X12_571 mk_X12_know mv_X12_know h0 ho12 rfl rfl (Nat.le_of_ble_eq_true rfl) ?_
      refine wpM.mono h (fun rr G5 hr => ?_)
      obtain ⟨rfl, h⟩ := hr
      show wp E d M_X12_whyNot 26 [some (vr _), some (vi _), some (vi _), some (vi _), some (vi _), none] [] G5 Q
      refine wp_aload_n (pc := 26) d_X12_whyNot_26 rfl ?_
      refine wp_iload_n (pc := 27) d_X12_whyNot_27 rfl ?_
      refine wp_iload_n (pc := 28) d_X12_whyNot_28 rfl ?_
      refine wp_iload_n (pc := 29) d_X12_whyNot_29 rfl ?_
      obtain ⟨ho11, h⟩ := h
      refine wp_invV (pc := 30) (N := M_X12_bestWith) (As := [vi _, vi _, vi _]) (rest := []) (r := (cn_12, ct_12, 95)) d_X12_whyNot_30 ml_X12_643 mk_X12_bestWith mv_X12_bestWith h0 ho11 rfl rfl (Nat.le_of_ble_eq_true rfl) ?_
      refine wpM.mono h (fun rr G7 hr => ?_)
      obtain ⟨r6, rfl, h⟩ := hr
      show wp E d M_X12_whyNot 33 [some (vr _), some (vi _), some (vi _), some (vi _), some (vi _), none] [vi _] G7 Q
      refine wp_istore (pc := 33) (lv' := [some (vr _), some (vi _), some (vi _), some (vi _), some (vi _), some (vi _)]) d_X12_whyNot_33 (by decide) rfl ?_
      refine wp_iload (pc := 35) d_X12_whyNot_35 rfl ?_
      refine wp_if_ge (pc := 37) (tgt := 46) d_X12_whyNot_37 (by decide) (fun hc => ?_) (fun hc => ?_)
      · have h := h.1 hc
        refine wp_aload_n (pc := 46) d_X12_whyNot_46 rfl ?_
        obtain ⟨ho8, h⟩ := h
        refine wp_getR (pc := 47) d_X12_whyNot_47 fl_X12_159 (fun _ _ _ => rfl) ho8 ?_
        refine wp_sipush (pc := 50) (v := 20000) d_X12_whyNot_50 rfl ?_
        refine wp_iload (pc := 53) d_X12_whyNot_53 rfl ?_
        refine wp_imul (pc := 55) d_X12_whyNot_55 ?_
        refine wp_iload (pc := 56) d_X12_whyNot_56 rfl ?_
        refine wp_iadd (pc := 58) d_X12_whyNot_58 ?_
        obtain ⟨ho9, h⟩ := h
        obtain ⟨hi10, h⟩ := h
        refine wp_lald (pc := 59) d_X12_whyNot_59 ho9 hi10 ?_
        exact wp_lret (pc := 60) d_X12_whyNot_60 rfl h
      · have h := h.2 hc
        refine wp_ldc2 (pc := 40) (v := (-9223372036854775808)) d_X12_whyNot_40 cj_X12_466 ?_
        refine wp_goto (pc := 43) (tgt := 60) d_X12_whyNot_43 (by decide) ?_
        exact wp_lret (pc := 60) d_X12_whyNot_60 rfl h
    · have h := h.2 hc
      refine wp_ldc2 (pc := 17) (v := (-9223372036854775808)) d_X12_whyNot_17 cj_X12_466 ?_
      exact wp_lret (pc := 20) d_X12_whyNot_20 rfl h
theorem d_X12_without_0 : decode prog_14_method_140_code 0 = .ok (.aload_n 0, 1) := by decide +kernel
theorem d_X12_without_1 : decode prog_14_method_140_code 1 = .ok (.iload_n 1, 1) := by decide +kernel
theorem d_X12_without_2 : decode prog_14_method_140_code 2 = .ok (.iload_n 2, 1) := by decide +kernel
theorem d_X12_without_3 : decode prog_14_method_140_code 3 = .ok (.invokevirtual 568, 3) := by decide +kernel
theorem d_X12_without_6 : decode prog_14_method_140_code 6 = .ok (.ifCond .eq 10, 3) := by decide +kernel
theorem d_X12_without_9 : decode prog_14_method_140_code 9 = .ok (.iload_n 3, 1) := by decide +kernel
theorem d_X12_without_10 : decode prog_14_method_140_code 10 = .ok (.invokestatic 583, 3) := by decide +kernel
theorem d_X12_without_13 : decode prog_14_method_140_code 13 = .ok (.ifCond .ne 7, 3) := by decide +kernel
theorem d_X12_without_16 : decode prog_14_method_140_code 16 = .ok (.ldc2_w 466, 3) := by decide +kernel
theorem d_X12_without_19 : decode prog_14_method_140_code 19 = .ok (.lreturn, 1) := by decide +kernel
theorem d_X12_without_20 : decode prog_14_method_140_code 20 = .ok (.aload_n 0, 1) := by decide +kernel
theorem d_X12_without_21 : decode prog_14_method_140_code 21 = .ok (.iload_n 1, 1) := by decide +kernel
theorem d_X12_without_22 : decode prog_14_method_140_code 22 = .ok (.invokevirtual 571, 3) := by decide +kernel
theorem d_X12_without_25 : decode prog_14_method_140_code 25 = .ok (.aload_n 0, 1) := by decide +kernel
theorem d_X12_without_26 : decode prog_14_method_140_code 26 = .ok (.getfield 88, 3) := by decide +kernel
theorem d_X12_without_29 : decode prog_14_method_140_code 29 = .ok (.bipush 24, 2) := by decide +kernel
theorem d_X12_without_31 : decode prog_14_method_140_code 31 = .ok (.iload_n 1, 1) := by decide +kernel
theorem d_X12_without_32 : decode prog_14_method_140_code 32 = .ok (.imul, 1) := by decide +kernel
theorem d_X12_without_33 : decode prog_14_method_140_code 33 = .ok (.iload_n 2, 1) := by decide +kernel
theorem d_X12_without_34 : decode prog_14_method_140_code 34 = .ok (.iadd, 1) := by decide +kernel
theorem d_X12_without_35 : decode prog_14_method_140_code 35 = .ok (.iaload, 1) := by decide +kernel
theorem d_X12_without_36 : decode prog_14_method_140_code 36 = .ok (.istore 4, 2) := by decide +kernel
theorem d_X12_without_38 : decode prog_14_method_140_code 38 = .ok (.iconst 0, 1) := by decide +kernel
theorem d_X12_without_39 : decode prog_14_method_140_code 39 = .ok (.istore 5, 2) := by decide +kernel
theorem d_X12_without_41 : decode prog_14_method_140_code 41 = .ok (.iload 5, 2) := by decide +kernel
theorem d_X12_without_43 : decode prog_14_method_140_code 43 = .ok (.aload_n 0, 1) := by decide +kernel
theorem d_X12_without_44 : decode prog_14_method_140_code 44 = .ok (.getfield 82, 3) := by decide +kernel
theorem d_X12_without_47 : decode prog_14_method_140_code 47 = .ok (.iload_n 1, 1) := by decide +kernel
theorem d_X12_without_48 : decode prog_14_method_140_code 48 = .ok (.iaload, 1) := by decide +kernel
theorem d_X12_without_49 : decode prog_14_method_140_code 49 = .ok (.if_icmp .ge 53, 3) := by decide +kernel
theorem d_X12_without_52 : decode prog_14_method_140_code 52 = .ok (.aload_n 0, 1) := by decide +kernel
theorem d_X12_without_53 : decode prog_14_method_140_code 53 = .ok (.getfield 159, 3) := by decide +kernel
theorem d_X12_without_56 : decode prog_14_method_140_code 56 = .ok (.sipush 20000, 3) := by decide +kernel
theorem d_X12_without_59 : decode prog_14_method_140_code 59 = .ok (.iload 4, 2) := by decide +kernel
theorem d_X12_without_61 : decode prog_14_method_140_code 61 = .ok (.imul, 1) := by decide +kernel
theorem d_X12_without_62 : decode prog_14_method_140_code 62 = .ok (.iload 5, 2) := by decide +kernel
theorem d_X12_without_64 : decode prog_14_method_140_code 64 = .ok (.iadd, 1) := by decide +kernel
theorem d_X12_without_65 : decode prog_14_method_140_code 65 = .ok (.dup2, 1) := by decide +kernel
theorem d_X12_without_66 : decode prog_14_method_140_code 66 = .ok (.laload, 1) := by decide +kernel
theorem d_X12_without_67 : decode prog_14_method_140_code 67 = .ok (.aload_n 0, 1) := by decide +kernel
theorem d_X12_without_68 : decode prog_14_method_140_code 68 = .ok (.getfield 91, 3) := by decide +kernel
theorem d_X12_without_71 : decode prog_14_method_140_code 71 = .ok (.bipush 24, 2) := by decide +kernel
theorem d_X12_without_73 : decode prog_14_method_140_code 73 = .ok (.iload_n 1, 1) := by decide +kernel
theorem d_X12_without_74 : decode prog_14_method_140_code 74 = .ok (.imul, 1) := by decide +kernel
theorem d_X12_without_75 : decode prog_14_method_140_code 75 = .ok (.iload_n 2, 1) := by decide +kernel
theorem d_X12_without_76 : decode prog_14_method_140_code 76 = .ok (.iadd, 1) := by decide +kernel
theorem d_X12_without_77 : decode prog_14_method_140_code 77 = .ok (.iaload, 1) := by decide +kernel
theorem d_X12_without_78 : decode prog_14_method_140_code 78 = .ok (.i2l, 1) := by decide +kernel
theorem d_X12_without_79 : decode prog_14_method_140_code 79 = .ok (.aload_n 0, 1) := by decide +kernel
theorem d_X12_without_80 : decode prog_14_method_140_code 80 = .ok (.getfield 151, 3) := by decide +kernel
theorem d_X12_without_83 : decode prog_14_method_140_code 83 = .ok (.sipush 20000, 3) := by decide +kernel
theorem d_X12_without_86 : decode prog_14_method_140_code 86 = .ok (.iload_n 2, 1) := by decide +kernel
theorem d_X12_without_87 : decode prog_14_method_140_code 87 = .ok (.imul, 1) := by decide +kernel
theorem d_X12_without_88 : decode prog_14_method_140_code 88 = .ok (.iload 5, 2) := by decide +kernel
theorem d_X12_without_90 : decode prog_14_method_140_code 90 = .ok (.iadd, 1) := by decide +kernel
theorem d_X12_without_91 : decode prog_14_method_140_code 91 = .ok (.iaload, 1) := by decide +kernel
theorem d_X12_without_92 : decode prog_14_method_140_code 92 = .ok (.i2l, 1) := by decide +kernel
theorem d_X12_without_93 : decode prog_14_method_140_code 93 = .ok (.lmul, 1) := by decide +kernel
theorem d_X12_without_94 : decode prog_14_method_140_code 94 = .ok (.lsub, 1) := by decide +kernel
theorem d_X12_without_95 : decode prog_14_method_140_code 95 = .ok (.lastore, 1) := by decide +kernel
theorem d_X12_without_96 : decode prog_14_method_140_code 96 = .ok (.iinc 5 1, 3) := by decide +kernel
theorem d_X12_without_99 : decode prog_14_method_140_code 99 = .ok (.goto (-58), 3) := by decide +kernel
theorem d_X12_without_102 : decode prog_14_method_140_code 102 = .ok (.aload_n 0, 1) := by decide +kernel
theorem d_X12_without_103 : decode prog_14_method_140_code 103 = .ok (.iload_n 1, 1) := by decide +kernel
theorem d_X12_without_104 : decode prog_14_method_140_code 104 = .ok (.iconst (-1), 1) := by decide +kernel
theorem d_X12_without_105 : decode prog_14_method_140_code 105 = .ok (.iconst 0, 1) := by decide +kernel
theorem d_X12_without_106 : decode prog_14_method_140_code 106 = .ok (.invokevirtual 592, 3) := by decide +kernel
theorem d_X12_without_109 : decode prog_14_method_140_code 109 = .ok (.istore 5, 2) := by decide +kernel
theorem d_X12_without_111 : decode prog_14_method_140_code 111 = .ok (.iload 5, 2) := by decide +kernel
theorem d_X12_without_113 : decode prog_14_method_140_code 113 = .ok (.ifCond .ge 9, 3) := by decide +kernel
theorem d_X12_without_116 : decode prog_14_method_140_code 116 = .ok (.ldc2_w 466, 3) := by decide +kernel
theorem d_X12_without_119 : decode prog_14_method_140_code 119 = .ok (.goto 16, 3) := by decide +kernel
theorem d_X12_without_122 : decode prog_14_method_140_code 122 = .ok (.aload_n 0, 1) := by decide +kernel
theorem d_X12_without_123 : decode prog_14_method_140_code 123 = .ok (.getfield 159, 3) := by decide +kernel
theorem d_X12_without_126 : decode prog_14_method_140_code 126 = .ok (.sipush 20000, 3) := by decide +kernel
theorem d_X12_without_129 : decode prog_14_method_140_code 129 = .ok (.iload_n 3, 1) := by decide +kernel
theorem d_X12_without_130 : decode prog_14_method_140_code 130 = .ok (.imul, 1) := by decide +kernel
theorem d_X12_without_131 : decode prog_14_method_140_code 131 = .ok (.iload 5, 2) := by decide +kernel
theorem d_X12_without_133 : decode prog_14_method_140_code 133 = .ok (.iadd, 1) := by decide +kernel
theorem d_X12_without_134 : decode prog_14_method_140_code 134 = .ok (.laload, 1) := by decide +kernel
theorem d_X12_without_135 : decode prog_14_method_140_code 135 = .ok (.lstore 6, 2) := by decide +kernel
theorem d_X12_without_137 : decode prog_14_method_140_code 137 = .ok (.iconst 0, 1) := by decide +kernel
theorem d_X12_without_138 : decode prog_14_method_140_code 138 = .ok (.istore 8, 2) := by decide +kernel
theorem d_X12_without_140 : decode prog_14_method_140_code 140 = .ok (.iload 8, 2) := by decide +kernel
theorem d_X12_without_142 : decode prog_14_method_140_code 142 = .ok (.aload_n 0, 1) := by decide +kernel
theorem d_X12_without_143 : decode prog_14_method_140_code 143 = .ok (.getfield 82, 3) := by decide +kernel
theorem d_X12_without_146 : decode prog_14_method_140_code 146 = .ok (.iload_n 1, 1) := by decide +kernel
theorem d_X12_without_147 : decode prog_14_method_140_code 147 = .ok (.iaload, 1) := by decide +kernel
theorem d_X12_without_148 : decode prog_14_method_140_code 148 = .ok (.if_icmp .ge 53, 3) := by decide +kernel
theorem d_X12_without_151 : decode prog_14_method_140_code 151 = .ok (.aload_n 0, 1) := by decide +kernel
theorem d_X12_without_152 : decode prog_14_method_140_code 152 = .ok (.getfield 159, 3) := by decide +kernel
theorem d_X12_without_155 : decode prog_14_method_140_code 155 = .ok (.sipush 20000, 3) := by decide +kernel
theorem d_X12_without_158 : decode prog_14_method_140_code 158 = .ok (.iload 4, 2) := by decide +kernel
theorem d_X12_without_160 : decode prog_14_method_140_code 160 = .ok (.imul, 1) := by decide +kernel
theorem d_X12_without_161 : decode prog_14_method_140_code 161 = .ok (.iload 8, 2) := by decide +kernel
theorem d_X12_without_163 : decode prog_14_method_140_code 163 = .ok (.iadd, 1) := by decide +kernel
theorem d_X12_without_164 : decode prog_14_method_140_code 164 = .ok (.dup2, 1) := by decide +kernel
theorem d_X12_without_165 : decode prog_14_method_140_code 165 = .ok (.laload, 1) := by decide +kernel
theorem d_X12_without_166 : decode prog_14_method_140_code 166 = .ok (.aload_n 0, 1) := by decide +kernel
theorem d_X12_without_167 : decode prog_14_method_140_code 167 = .ok (.getfield 91, 3) := by decide +kernel
theorem d_X12_without_170 : decode prog_14_method_140_code 170 = .ok (.bipush 24, 2) := by decide +kernel
theorem d_X12_without_172 : decode prog_14_method_140_code 172 = .ok (.iload_n 1, 1) := by decide +kernel
theorem d_X12_without_173 : decode prog_14_method_140_code 173 = .ok (.imul, 1) := by decide +kernel
theorem d_X12_without_174 : decode prog_14_method_140_code 174 = .ok (.iload_n 2, 1) := by decide +kernel
theorem d_X12_without_175 : decode prog_14_method_140_code 175 = .ok (.iadd, 1) := by decide +kernel
theorem d_X12_without_176 : decode prog_14_method_140_code 176 = .ok (.iaload, 1) := by decide +kernel
theorem d_X12_without_177 : decode prog_14_method_140_code 177 = .ok (.i2l, 1) := by decide +kernel
theorem d_X12_without_178 : decode prog_14_method_140_code 178 = .ok (.aload_n 0, 1) := by decide +kernel
theorem d_X12_without_179 : decode prog_14_method_140_code 179 = .ok (.getfield 151, 3) := by decide +kernel
theorem d_X12_without_182 : decode prog_14_method_140_code 182 = .ok (.sipush 20000, 3) := by decide +kernel
theorem d_X12_without_185 : decode prog_14_method_140_code 185 = .ok (.iload_n 2, 1) := by decide +kernel
theorem d_X12_without_186 : decode prog_14_method_140_code 186 = .ok (.imul, 1) := by decide +kernel
theorem d_X12_without_187 : decode prog_14_method_140_code 187 = .ok (.iload 8, 2) := by decide +kernel
theorem d_X12_without_189 : decode prog_14_method_140_code 189 = .ok (.iadd, 1) := by decide +kernel
theorem d_X12_without_190 : decode prog_14_method_140_code 190 = .ok (.iaload, 1) := by decide +kernel
theorem d_X12_without_191 : decode prog_14_method_140_code 191 = .ok (.i2l, 1) := by decide +kernel
theorem d_X12_without_192 : decode prog_14_method_140_code 192 = .ok (.lmul, 1) := by decide +kernel
theorem d_X12_without_193 : decode prog_14_method_140_code 193 = .ok (.ladd, 1) := by decide +kernel
theorem d_X12_without_194 : decode prog_14_method_140_code 194 = .ok (.lastore, 1) := by decide +kernel
theorem d_X12_without_195 : decode prog_14_method_140_code 195 = .ok (.iinc 8 1, 3) := by decide +kernel
theorem d_X12_without_198 : decode prog_14_method_140_code 198 = .ok (.goto (-58), 3) := by decide +kernel
theorem d_X12_without_201 : decode prog_14_method_140_code 201 = .ok (.lload 6, 2) := by decide +kernel
theorem d_X12_without_203 : decode prog_14_method_140_code 203 = .ok (.lreturn, 1) := by decide +kernel
theorem v_X12_without_0 {E : EE} {d : Nat} {Q : Option AV → AH → Prop} {x0 : Nat} {x1 : Int32} {x2 : Int32} {x3 : Int32} {G : AH} (h0 : 0 < d) (h : isO E G x0 12 ∧ (wpI E (d - 1) M_X12_isRule [vr x0, vi x1, vi x2] G (fun r1 G2 => (r1 = 0 → Q (some (vj (-9223372036854775808))) G2) ∧ (¬ (r1 = 0) → wpI E (d - 1) M_X12_isLevel [vi x3] G2 (fun r3 G4 => (¬ r3 = 0 → isO E G4 x0 12 ∧ (wpV E (d - 1) M_X12_know [vr x0, vi x1] G4 (fun G5 => isO E G5 x0 12 ∧ (isO E G5 (gR G5 x0 27) 14 ∧ (vp_in ((24 * x1) + x2) (gN G5 (gR G5 x0 27)) ∧ (wp E d M_X12_without 41 [some (vr x0), some (vi x1), some (vi x2), some (vi x3), some (vi (gI G5 (gR G5 x0 27) (Int32.toNatClampNeg ((24 * x1) + x2)))), some (vi 0), none, none, none] [] G5 Q)))))) ∧ (r3 = 0 → Q (some (vj (-9223372036854775808))) G4)))))) : wp E d M_X12_without 0 [some (vr x0), some (vi x1), some (vi x2), some (vi x3), none, none, none, none, none] [] G Q := by
  refine wp_aload_n (pc := 0) d_X12_without_0 rfl ?_
  refine wp_iload_n (pc := 1) d_X12_without_1 rfl ?_
  refine wp_iload_n (pc := 2) d_X12_without_2 rfl ?_
  obtain ⟨ho10, h⟩ := h
  refine wp_invV (pc := 3) (N := M_X12_isRule) (As := [vi _, vi _]) (rest := []) (r := (cn_12, ct_12, 95)) d_X12_without_3 ml_X12_568 mk_X12_isRule mv_X12_isRule h0 ho10 rfl rfl (Nat.le_of_ble_eq_true rfl) ?_
  refine wpM.mono h (fun rr G2 hr => ?_)
  obtain ⟨r1, rfl, h⟩ := hr
  show wp E d M_X12_without 6 [some (vr _), some (vi _), some (vi _), some (vi _), none, none, none, none, none] [vi _] G2 Q
  refine wp_if_eq (pc := 6) (tgt := 16) d_X12_without_6 (by decide) (fun hc => ?_) (fun hc => ?_)
  · have h := h.1 hc
    refine wp_ldc2 (pc := 16) (v := (-9223372036854775808)) d_X12_without_16 cj_X12_466 ?_
    exact wp_lret (pc := 19) d_X12_without_19 rfl h
  · have h := h.2 hc
    refine wp_iload_n (pc := 9) d_X12_without_9 rfl ?_
    refine wp_invS (pc := 10) (N := M_X12_isLevel) (As := [vi _]) (rest := []) d_X12_without_10 ml_X12_583 mk_X12_isLevel ms_X12_isLevel h0 (Nat.le_of_ble_eq_true rfl) ?_
    refine wpM.mono h (fun rr G4 hr => ?_)
    obtain ⟨r3, rfl, h⟩ := hr
    show wp E d M_X12_without 13 [some (vr _), some (vi _), some (vi _), some (vi _), none, none, none, none, none] [vi _] G4 Q
    refine wp_if_ne (pc := 13) (tgt := 20) d_X12_without_13 (by decide) (fun hc => ?_) (fun hc => ?_)
    · have h := h.1 hc
      refine wp_aload_n (pc := 20) d_X12_without_20 rfl ?_
      refine wp_iload_n (pc := 21) d_X12_without_21 rfl ?_
      obtain ⟨ho9, h⟩ := h
      refine wp_invV (pc := 22) (N := M_X12_know) (As := [vi _]) (rest := []) (r := (cn_12, ct_12, 95)) d_X12_without_22 ml_X12_571 mk_X12_know mv_X12_know h0 ho9 rfl rfl (Nat.le_of_ble_eq_true rfl) ?_
      refine wpM.mono h (fun rr G5 hr => ?_)
      obtain ⟨rfl, h⟩ := hr
      show wp E d M_X12_without 25 [some (vr _), some (vi _), some (vi _), some (vi _), none, none, none, none, none] [] G5 Q
      refine wp_aload_n (pc := 25) d_X12_without_25 rfl ?_
      obtain ⟨ho6, h⟩ := h
      refine wp_getR (pc := 26) d_X12_without_26 fl_X12_88 (fun _ _ _ => rfl) ho6 ?_
      refine wp_bipush (pc := 29) (v := 24) d_X12_without_29 rfl ?_
      refine wp_iload_n (pc := 31) d_X12_without_31 rfl ?_
      refine wp_imul (pc := 32) d_X12_without_32 ?_
      refine wp_iload_n (pc := 33) d_X12_without_33 rfl ?_
      refine wp_iadd (pc := 34) d_X12_without_34 ?_
      obtain ⟨ho7, h⟩ := h
      obtain ⟨hi8, h⟩ := h
      refine wp_iald (pc := 35) d_X12_without_35 ho7 hi8 ?_
      refine wp_istore (pc := 36) (lv' := [some (vr _), some (vi _), some (vi _), some (vi _), some (vi _), none, none, none, none]) d_X12_without_36 (by decide) rfl ?_
      refine wp_iconst (pc := 38) (v := 0) d_X12_without_38 rfl ?_
      refine wp_istore (pc := 39) (lv' := [some (vr _), some (vi _), some (vi _), some (vi _), some (vi _), some (vi _), none, none, none]) d_X12_without_39 (by decide) rfl ?_
      refine wp_sub ?_ h
      exact ⟨rfl, ⟨rfl, ⟨rfl, ⟨rfl, ⟨rfl, ⟨rfl, trivial⟩⟩⟩⟩⟩⟩
    · have h := h.2 hc
      refine wp_ldc2 (pc := 16) (v := (-9223372036854775808)) d_X12_without_16 cj_X12_466 ?_
      exact wp_lret (pc := 19) d_X12_without_19 rfl h
theorem v_X12_without_41 {E : EE} {d : Nat} {Q : Option AV → AH → Prop} {x0 : Nat} {x1 : Int32} {x2 : Int32} {x3 : Int32} {x4 : Int32} {x5 : Int32} {G : AH} (h0 : 0 < d) (h : isO E G x0 12 ∧ (isO E G (gR G x0 25) 14 ∧ (vp_in x1 (gN G (gR G x0 25)) ∧ (((gI G (gR G x0 25) (Int32.toNatClampNeg x1)) ≤ x5 → wpI E (d - 1) M_X12_firstBest [vr x0, vi x1, vi (-1), vi 0] G (fun r4 G5 => (0 ≤ r4 → isO E G5 x0 12 ∧ (isO E G5 (gR G5 x0 66) 15 ∧ (vp_in ((20000 * x3) + r4) (gN G5 (gR G5 x0 66)) ∧ (wp E d M_X12_without 135 [some (vr x0), some (vi x1), some (vi x2), some (vi x3), some (vi x4), some (vi r4), none, none, none] [vj (gJ G5 (gR G5 x0 66) (Int32.toNatClampNeg ((20000 * x3) + r4)))] G5 Q)))) ∧ (¬ (0 ≤ r4) → wp E d M_X12_without 135 [some (vr x0), some (vi x1), some (vi x2), some (vi x3), some (vi x4), some (vi r4), none, none, none] [vj (-9223372036854775808)] G5 Q))) ∧ (¬ ((gI G (gR G x0 25) (Int32.toNatClampNeg x1)) ≤ x5) → isO E G (gR G x0 66) 15 ∧ (vp_in ((20000 * x4) + x5) (gN G (gR G x0 66)) ∧ (isO E G (gR G x0 28) 14 ∧ (vp_in ((24 * x1) + x2) (gN G (gR G x0 28)) ∧ (isO E G (gR G x0 64) 14 ∧ (vp_in ((20000 * x2) + x5) (gN G (gR G x0 64)) ∧ (vp_in ((20000 * x4) + x5) (gN G (gR G x0 66)) ∧ (wp E d M_X12_without 41 [some (vr x0), some (vi x1), some (vi x2), some (vi x3), some (vi x4), some (vi (x5 + 1)), none, none, none] [] (sJ G (gR G x0 66) (Int32.toNatClampNeg ((20000 * x4) + x5)) ((gJ G (gR G x0 66) (Int32.toNatClampNeg ((20000 * x4) + x5))) - ((Int32.toInt64 (gI G (gR G x0 28) (Int32.toNatClampNeg ((24 * x1) + x2)))) * (Int32.toInt64 (gI G (gR G x0 64) (Int32.toNatClampNeg ((20000 * x2) + x5))))))) Q)))))))))))) : wp E d M_X12_without 41 [some (vr x0), some (vi x1), some (vi x2), some (vi x3), some (vi x4), some (vi x5), none, none, none] [] G Q := by
  refine wp_iload (pc := 41) d_X12_without_41 rfl ?_
  refine wp_aload_n (pc := 43) d_X12_without_43 rfl ?_
  obtain ⟨ho1, h⟩ := h
  refine wp_getR (pc := 44) d_X12_without_44 fl_X12_82 (fun _ _ _ => rfl) ho1 ?_
  refine wp_iload_n (pc := 47) d_X12_without_47 rfl ?_
  obtain ⟨ho2, h⟩ := h
  obtain ⟨hi3, h⟩ := h
  refine wp_iald (pc := 48) d_X12_without_48 ho2 hi3 ?_
  refine wp_icmp_ge (pc := 49) (tgt := 102) d_X12_without_49 (by decide) (fun hc => ?_) (fun hc => ?_)
  · have h := h.1 hc
    refine wp_aload_n (pc := 102) d_X12_without_102 rfl ?_
    refine wp_iload_n (pc := 103) d_X12_without_103 rfl ?_
    refine wp_iconst (pc := 104) (v := (-1)) d_X12_without_104 rfl ?_
    refine wp_iconst (pc := 105) (v := 0) d_X12_without_105 rfl ?_
    refine wp_invV (pc := 106) (N := M_X12_firstBest) (As := [vi _, vi _, vi _]) (rest := []) (r := (cn_12, ct_12, 95)) d_X12_without_106 ml_X12_592 mk_X12_firstBest mv_X12_firstBest h0 ho1 rfl rfl (Nat.le_of_ble_eq_true rfl) ?_
    refine wpM.mono h (fun rr G5 hr => ?_)
    obtain ⟨r4, rfl, h⟩ := hr
    show wp E d M_X12_without 109 [some (vr _), some (vi _), some (vi _), some (vi _), some (vi _), some (vi _), none, none, none] [vi _] G5 Q
    refine wp_istore (pc := 109) (lv' := [some (vr _), some (vi _), some (vi _), some (vi _), some (vi _), some (vi _), none, none, none]) d_X12_without_109 (by decide) rfl ?_
    refine wp_iload (pc := 111) d_X12_without_111 rfl ?_
    refine wp_if_ge (pc := 113) (tgt := 122) d_X12_without_113 (by decide) (fun hc => ?_) (fun hc => ?_)
    · have h := h.1 hc
      refine wp_aload_n (pc := 122) d_X12_without_122 rfl ?_
      obtain ⟨ho6, h⟩ := h
      refine wp_getR (pc := 123) d_X12_without_123 fl_X12_159 (fun _ _ _ => rfl) ho6 ?_
      refine wp_sipush (pc := 126) (v := 20000) d_X12_without_126 rfl ?_
      refine wp_iload_n (pc := 129) d_X12_without_129 rfl ?_
      refine wp_imul (pc := 130) d_X12_without_130 ?_
      refine wp_iload (pc := 131) d_X12_without_131 rfl ?_
      refine wp_iadd (pc := 133) d_X12_without_133 ?_
      obtain ⟨ho7, h⟩ := h
      obtain ⟨hi8, h⟩ := h
      refine wp_lald (pc := 134) d_X12_without_134 ho7 hi8 ?_
      refine wp_sub ?_ h
      exact ⟨rfl, ⟨rfl, ⟨rfl, ⟨rfl, ⟨rfl, ⟨rfl, trivial⟩⟩⟩⟩⟩⟩
    · have h := h.2 hc
      refine wp_ldc2 (pc := 116) (v := (-9223372036854775808)) d_X12_without_116 cj_X12_466 ?_
      refine wp_goto (pc := 119) (tgt := 135) d_X12_without_119 (by decide) ?_
      refine wp_sub ?_ h
      exact ⟨rfl, ⟨rfl, ⟨rfl, ⟨rfl, ⟨rfl, ⟨rfl, trivial⟩⟩⟩⟩⟩⟩
  · have h := h.2 hc
    refine wp_aload_n (pc := 52) d_X12_without_52 rfl ?_
    refine wp_getR (pc := 53) d_X12_without_53 fl_X12_159 (fun _ _ _ => rfl) ho1 ?_
    refine wp_sipush (pc := 56) (v := 20000) d_X12_without_56 rfl ?_
    refine wp_iload (pc := 59) d_X12_without_59 rfl ?_
    refine wp_imul (pc := 61) d_X12_without_61 ?_
    refine wp_iload (pc := 62) d_X12_without_62 rfl ?_
    refine wp_iadd (pc := 64) d_X12_without_64 ?_
    refine wp_dup2 (pc := 65) d_X12_without_65 (c1_i _) (c1_r _) ?_
    obtain ⟨ho9, h⟩ := h
    obtain ⟨hi10, h⟩ := h
    refine wp_lald (pc := 66) d_X12_without_66 ho9 hi10 ?_
    refine wp_aload_n (pc := 67) d_X12_without_67 rfl ?_
    refine wp_getR (pc := 68) d_X12_without_68 fl_X12_91 (fun _ _ _ => rfl) ho1 ?_
    refine wp_bipush (pc := 71) (v := 24) d_X12_without_71 rfl ?_
    refine wp_iload_n (pc := 73) d_X12_without_73 rfl ?_
    refine wp_imul (pc := 74) d_X12_without_74 ?_
    refine wp_iload_n (pc := 75) d_X12_without_75 rfl ?_
    refine wp_iadd (pc := 76) d_X12_without_76 ?_
    obtain ⟨ho11, h⟩ := h
    obtain ⟨hi12, h⟩ := h
    refine wp_iald (pc := 77) d_X12_without_77 ho11 hi12 ?_
    refine wp_i2l (pc := 78) d_X12_without_78 ?_
    refine wp_aload_n (pc := 79) d_X12_without_79 rfl ?_
    refine wp_getR (pc := 80) d_X12_without_80 fl_X12_151 (fun _ _ _ => rfl) ho1 ?_
    refine wp_sipush (pc := 83) (v := 20000) d_X12_without_83 rfl ?_
    refine wp_iload_n (pc := 86) d_X12_without_86 rfl ?_
    refine wp_imul (pc := 87) d_X12_without_87 ?_
    refine wp_iload (pc := 88) d_X12_without_88 rfl ?_
    refine wp_iadd (pc := 90) d_X12_without_90 ?_
    obtain ⟨ho13, h⟩ := h
    obtain ⟨hi14, h⟩ := h
    refine wp_iald (pc := 91) d_X12_without_91 ho13 hi14 ?_
    refine wp_i2l (pc := 92) d_X12_without_92 ?_
    refine wp_lmul (pc := 93) d_X12_without_93 ?_
    refine wp_lsub (pc := 94) d_X12_without_94 ?_
    obtain ⟨hi15, h⟩ := h
    refine wp_last (pc := 95) d_X12_without_95 ho9 hi15 ?_
    refine wp_iinc (pc := 96) (v := 1) (lv' := [some (vr _), some (vi _), some (vi _), some (vi _), some (vi _), some (vi _), none, none, none]) d_X12_without_96 (by decide) rfl rfl rfl ?_
    refine wp_goto (pc := 99) (tgt := 41) d_X12_without_99 (by decide) ?_
    refine wp_sub ?_ h
    exact ⟨rfl, ⟨rfl, ⟨rfl, ⟨rfl, ⟨rfl, ⟨rfl, trivial⟩⟩⟩⟩⟩⟩
theorem v_X12_without_135 {E : EE} {d : Nat} {Q : Option AV → AH → Prop} {x0 : Nat} {x1 : Int32} {x2 : Int32} {x3 : Int32} {x4 : Int32} {x5 : Int32} {t0 : Int64} {G : AH} (h : wp E d M_X12_without 140 [some (vr x0), some (vi x1), some (vi x2), some (vi x3), some (vi x4), some (vi x5), some (vj t0), none, some (vi 0)] [] G Q) : wp E d M_X12_without 135 [some (vr x0), some (vi x1), some (vi x2), some (vi x3), some (vi x4), some (vi x5), none, none, none] [vj t0] G Q := by
  refine wp_lstore (pc := 135) (lv' := [some (vr _), some (vi _), some (vi _), some (vi _), some (vi _), some (vi _), some (vj _), none, none]) d_X12_without_135 (by decide) rfl ?_
  refine wp_iconst (pc := 137) (v := 0) d_X12_without_137 rfl ?_
  refine wp_istore (pc := 138) (lv' := [some (vr _), some (vi _), some (vi _), some (vi _), some (vi _), some (vi _), some (vj _), none, some (vi _)]) d_X12_without_138 (by decide) rfl ?_
  refine wp_sub ?_ h
  exact ⟨rfl, ⟨rfl, ⟨rfl, ⟨rfl, ⟨rfl, ⟨rfl, ⟨rfl, ⟨rfl, trivial⟩⟩⟩⟩⟩⟩⟩⟩
theorem v_X12_without_140 {E : EE} {d : Nat} {Q : Option AV → AH → Prop} {x0 : Nat} {x1 : Int32} {x2 : Int32} {x3 : Int32} {x4 : Int32} {x5 : Int32} {x6 : Int64} {x8 : Int32} {G : AH} (h : isO E G x0 12 ∧ (isO E G (gR G x0 25) 14 ∧ (vp_in x1 (gN G (gR G x0 25)) ∧ (((gI G (gR G x0 25) (Int32.toNatClampNeg x1)) ≤ x8 → Q (some (vj x6)) G) ∧ (¬ ((gI G (gR G x0 25) (Int32.toNatClampNeg x1)) ≤ x8) → isO E G (gR G x0 66) 15 ∧ (vp_in ((20000 * x4) + x8) (gN G (gR G x0 66)) ∧ (isO E G (gR G x0 28) 14 ∧ (vp_in ((24 * x1) + x2) (gN G (gR G x0 28)) ∧ (isO E G (gR G x0 64) 14 ∧ (vp_in ((20000 * x2) + x8) (gN G (gR G x0 64)) ∧ (vp_in ((20000 * x4) + x8) (gN G (gR G x0 66)) ∧ (wp E d M_X12_without 140 [some (vr x0), some (vi x1), some (vi x2), some (vi x3), some (vi x4), some (vi x5), some (vj x6), none, some (vi (x8 + 1))] [] (sJ G (gR G x0 66) (Int32.toNatClampNeg ((20000 * x4) + x8)) ((gJ G (gR G x0 66) (Int32.toNatClampNeg ((20000 * x4) + x8))) + ((Int32.toInt64 (gI G (gR G x0 28) (Int32.toNatClampNeg ((24 * x1) + x2)))) * (Int32.toInt64 (gI G (gR G x0 64) (Int32.toNatClampNeg ((20000 * x2) + x8))))))) Q)))))))))))) : wp E d M_X12_without 140 [some (vr x0), some (vi x1), some (vi x2), some (vi x3), some (vi x4), some (vi x5), some (vj x6), none, some (vi x8)] [] G Q := by
  refine wp_iload (pc := 140) d_X12_without_140 rfl ?_
  refine wp_aload_n (pc := 142) d_X12_without_142 rfl ?_
  obtain ⟨ho1, h⟩ := h
  refine wp_getR (pc := 143) d_X12_without_143 fl_X12_82 (fun _ _ _ => rfl) ho1 ?_
  refine wp_iload_n (pc := 146) d_X12_without_146 rfl ?_
  obtain ⟨ho2, h⟩ := h
  obtain ⟨hi3, h⟩ := h
  refine wp_iald (pc := 147) d_X12_without_147 ho2 hi3 ?_
  refine wp_icmp_ge (pc := 148) (tgt := 201) d_X12_without_148 (by decide) (fun hc => ?_) (fun hc => ?_)
  · have h := h.1 hc
    refine wp_lload (pc := 201) d_X12_without_201 rfl ?_
    exact wp_lret (pc := 203) d_X12_without_203 rfl h
  · have h := h.2 hc
    refine wp_aload_n (pc := 151) d_X12_without_151 rfl ?_
    refine wp_getR (pc := 152) d_X12_without_152 fl_X12_159 (fun _ _ _ => rfl) ho1 ?_
    refine wp_sipush (pc := 155) (v := 20000) d_X12_without_155 rfl ?_
    refine wp_iload (pc := 158) d_X12_without_158 rfl ?_
    refine wp_imul (pc := 160) d_X12_without_160 ?_
    refine wp_iload (pc := 161) d_X12_without_161 rfl ?_
    refine wp_iadd (pc := 163) d_X12_without_163 ?_
    refine wp_dup2 (pc := 164) d_X12_without_164 (c1_i _) (c1_r _) ?_
    obtain ⟨ho4, h⟩ := h
    obtain ⟨hi5, h⟩ := h
    refine wp_lald (pc := 165) d_X12_without_165 ho4 hi5 ?_
    refine wp_aload_n (pc := 166) d_X12_without_166 rfl ?_
    refine wp_getR (pc := 167) d_X12_without_167 fl_X12_91 (fun _ _ _ => rfl) ho1 ?_
    refine wp_bipush (pc := 170) (v := 24) d_X12_without_170 rfl ?_
    refine wp_iload_n (pc := 172) d_X12_without_172 rfl ?_
    refine wp_imul (pc := 173) d_X12_without_173 ?_
    refine wp_iload_n (pc := 174) d_X12_without_174 rfl ?_
    refine wp_iadd (pc := 175) d_X12_without_175 ?_
    obtain ⟨ho6, h⟩ := h
    obtain ⟨hi7, h⟩ := h
    refine wp_iald (pc := 176) d_X12_without_176 ho6 hi7 ?_
    refine wp_i2l (pc := 177) d_X12_without_177 ?_
    refine wp_aload_n (pc := 178) d_X12_without_178 rfl ?_
    refine wp_getR (pc := 179) d_X12_without_179 fl_X12_151 (fun _ _ _ => rfl) ho1 ?_
    refine wp_sipush (pc := 182) (v := 20000) d_X12_without_182 rfl ?_
    refine wp_iload_n (pc := 185) d_X12_without_185 rfl ?_
    refine wp_imul (pc := 186) d_X12_without_186 ?_
    refine wp_iload (pc := 187) d_X12_without_187 rfl ?_
    refine wp_iadd (pc := 189) d_X12_without_189 ?_
    obtain ⟨ho8, h⟩ := h
    obtain ⟨hi9, h⟩ := h
    refine wp_iald (pc := 190) d_X12_without_190 ho8 hi9 ?_
    refine wp_i2l (pc := 191) d_X12_without_191 ?_
    refine wp_lmul (pc := 192) d_X12_without_192 ?_
    refine wp_ladd (pc := 193) d_X12_without_193 ?_
    obtain ⟨hi10, h⟩ := h
    refine wp_last (pc := 194) d_X12_without_194 ho4 hi10 ?_
    refine wp_iinc (pc := 195) (v := 1) (lv' := [some (vr _), some (vi _), some (vi _), some (vi _), some (vi _), some (vi _), some (vj _), none, some (vi _)]) d_X12_without_195 (by decide) rfl rfl rfl ?_
    refine wp_goto (pc := 198) (tgt := 140) d_X12_without_198 (by decide) ?_
    refine wp_sub ?_ h
    exact ⟨rfl, ⟨rfl, ⟨rfl, ⟨rfl, ⟨rfl, ⟨rfl, ⟨rfl, ⟨rfl, trivial⟩⟩⟩⟩⟩⟩⟩⟩
theorem d_X12_isRule_0 : decode prog_14_method_59_code 0 = .ok (.aload_n 0, 1) := by decide +kernel
theorem d_X12_isRule_1 : decode prog_14_method_59_code 1 = .ok (.iload_n 1, 1) := by decide +kernel
theorem d_X12_isRule_2 : decode prog_14_method_59_code 2 = .ok (.invokevirtual 453, 3) := by decide +kernel
theorem d_X12_isRule_5 : decode prog_14_method_59_code 5 = .ok (.ifCond .eq 20, 3) := by decide +kernel
theorem d_X12_isRule_8 : decode prog_14_method_59_code 8 = .ok (.iload_n 2, 1) := by decide +kernel
theorem d_X12_isRule_9 : decode prog_14_method_59_code 9 = .ok (.ifCond .lt 16, 3) := by decide +kernel
theorem d_X12_isRule_12 : decode prog_14_method_59_code 12 = .ok (.iload_n 2, 1) := by decide +kernel
theorem d_X12_isRule_13 : decode prog_14_method_59_code 13 = .ok (.aload_n 0, 1) := by decide +kernel
theorem d_X12_isRule_14 : decode prog_14_method_59_code 14 = .ok (.iload_n 1, 1) := by decide +kernel
theorem d_X12_isRule_15 : decode prog_14_method_59_code 15 = .ok (.invokevirtual 459, 3) := by decide +kernel
theorem d_X12_isRule_18 : decode prog_14_method_59_code 18 = .ok (.if_icmp .ge 7, 3) := by decide +kernel
theorem d_X12_isRule_21 : decode prog_14_method_59_code 21 = .ok (.iconst 1, 1) := by decide +kernel
theorem d_X12_isRule_22 : decode prog_14_method_59_code 22 = .ok (.goto 4, 3) := by decide +kernel
theorem d_X12_isRule_25 : decode prog_14_method_59_code 25 = .ok (.iconst 0, 1) := by decide +kernel
theorem d_X12_isRule_26 : decode prog_14_method_59_code 26 = .ok (.ireturn, 1) := by decide +kernel
theorem v_X12_isRule_0 {E : EE} {d : Nat} {Q : Option AV → AH → Prop} {x0 : Nat} {x1 : Int32} {x2 : Int32} {G : AH} (h0 : 0 < d) (h : isO E G x0 12 ∧ (wpI E (d - 1) M_X12_isProblem [vr x0, vi x1] G (fun r1 G2 => (r1 = 0 → Q (some (vi 0)) G2) ∧ (¬ (r1 = 0) → (x2 < 0 → Q (some (vi 0)) G2) ∧ (¬ (x2 < 0) → isO E G2 x0 12 ∧ (wpI E (d - 1) M_X12_rulesOf [vr x0, vi x1] G2 (fun r3 G4 => (r3 ≤ x2 → Q (some (vi 0)) G4) ∧ (¬ (r3 ≤ x2) → Q (some (vi 1)) G4)))))))) : wp E d M_X12_isRule 0 [some (vr x0), some (vi x1), some (vi x2)] [] G Q := by
  refine wp_aload_n (pc := 0) d_X12_isRule_0 rfl ?_
  refine wp_iload_n (pc := 1) d_X12_isRule_1 rfl ?_
  obtain ⟨ho6, h⟩ := h
  refine wp_invV (pc := 2) (N := M_X12_isProblem) (As := [vi _]) (rest := []) (r := (cn_12, ct_12, 95)) d_X12_isRule_2 ml_X12_453 mk_X12_isProblem mv_X12_isProblem h0 ho6 rfl rfl (Nat.le_of_ble_eq_true rfl) ?_
  refine wpM.mono h (fun rr G2 hr => ?_)
  obtain ⟨r1, rfl, h⟩ := hr
  show wp E d M_X12_isRule 5 [some (vr _), some (vi _), some (vi _)] [vi _] G2 Q
  refine wp_if_eq (pc := 5) (tgt := 25) d_X12_isRule_5 (by decide) (fun hc => ?_) (fun hc => ?_)
  · have h := h.1 hc
    refine wp_iconst (pc := 25) (v := 0) d_X12_isRule_25 rfl ?_
    exact wp_zret (pc := 26) d_X12_isRule_26 rfl rfl h
  · have h := h.2 hc
    refine wp_iload_n (pc := 8) d_X12_isRule_8 rfl ?_
    refine wp_if_lt (pc := 9) (tgt := 25) d_X12_isRule_9 (by decide) (fun hc => ?_) (fun hc => ?_)
    · have h := h.1 hc
      refine wp_iconst (pc := 25) (v := 0) d_X12_isRule_25 rfl ?_
      exact wp_zret (pc := 26) d_X12_isRule_26 rfl rfl h
    · have h := h.2 hc
      refine wp_iload_n (pc := 12) d_X12_isRule_12 rfl ?_
      refine wp_aload_n (pc := 13) d_X12_isRule_13 rfl ?_
      refine wp_iload_n (pc := 14) d_X12_isRule_14 rfl ?_
      obtain ⟨ho5, h⟩ := h
      refine wp_invV (pc := 15) (N := M_X12_rulesOf) (As := [vi _]) (rest := [vi _]) (r := (cn_12, ct_12, 95)) d_X12_isRule_15 ml_X12_459 mk_X12_rulesOf mv_X12_rulesOf h0 ho5 rfl rfl (Nat.le_of_ble_eq_true rfl) ?_
      refine wpM.mono h (fun rr G4 hr => ?_)
      obtain ⟨r3, rfl, h⟩ := hr
      show wp E d M_X12_isRule 18 [some (vr _), some (vi _), some (vi _)] [vi _, vi _] G4 Q
      refine wp_icmp_ge (pc := 18) (tgt := 25) d_X12_isRule_18 (by decide) (fun hc => ?_) (fun hc => ?_)
      · have h := h.1 hc
        refine wp_iconst (pc := 25) (v := 0) d_X12_isRule_25 rfl ?_
        exact wp_zret (pc := 26) d_X12_isRule_26 rfl rfl h
      · have h := h.2 hc
        refine wp_iconst (pc := 21) (v := 1) d_X12_isRule_21 rfl ?_
        refine wp_goto (pc := 22) (tgt := 26) d_X12_isRule_22 (by decide) ?_
        exact wp_zret (pc := 26) d_X12_isRule_26 rfl rfl h
theorem d_X12_relax_0 : decode prog_14_method_139_code 0 = .ok (.aload_n 0, 1) := by decide +kernel
theorem d_X12_relax_1 : decode prog_14_method_139_code 1 = .ok (.iload_n 1, 1) := by decide +kernel
theorem d_X12_relax_2 : decode prog_14_method_139_code 2 = .ok (.invokevirtual 453, 3) := by decide +kernel
theorem d_X12_relax_5 : decode prog_14_method_139_code 5 = .ok (.ifCond .ne 5, 3) := by decide +kernel
theorem d_X12_relax_8 : decode prog_14_method_139_code 8 = .ok (.iconst (-1), 1) := by decide +kernel
theorem d_X12_relax_9 : decode prog_14_method_139_code 9 = .ok (.ireturn, 1) := by decide +kernel
theorem d_X12_relax_10 : decode prog_14_method_139_code 10 = .ok (.aload_n 0, 1) := by decide +kernel
theorem d_X12_relax_11 : decode prog_14_method_139_code 11 = .ok (.iload_n 1, 1) := by decide +kernel
theorem d_X12_relax_12 : decode prog_14_method_139_code 12 = .ok (.invokevirtual 631, 3) := by decide +kernel
theorem d_X12_relax_15 : decode prog_14_method_139_code 15 = .ok (.iconst (-1), 1) := by decide +kernel
theorem d_X12_relax_16 : decode prog_14_method_139_code 16 = .ok (.istore_n 2, 1) := by decide +kernel
theorem d_X12_relax_17 : decode prog_14_method_139_code 17 = .ok (.iconst 0, 1) := by decide +kernel
theorem d_X12_relax_18 : decode prog_14_method_139_code 18 = .ok (.istore_n 3, 1) := by decide +kernel
theorem d_X12_relax_19 : decode prog_14_method_139_code 19 = .ok (.iconst 0, 1) := by decide +kernel
theorem d_X12_relax_20 : decode prog_14_method_139_code 20 = .ok (.istore 4, 2) := by decide +kernel
theorem d_X12_relax_22 : decode prog_14_method_139_code 22 = .ok (.iload 4, 2) := by decide +kernel
theorem d_X12_relax_24 : decode prog_14_method_139_code 24 = .ok (.iconst 1, 1) := by decide +kernel
theorem d_X12_relax_25 : decode prog_14_method_139_code 25 = .ok (.aload_n 0, 1) := by decide +kernel
theorem d_X12_relax_26 : decode prog_14_method_139_code 26 = .ok (.getfield 628, 3) := by decide +kernel
theorem d_X12_relax_29 : decode prog_14_method_139_code 29 = .ok (.ishl, 1) := by decide +kernel
theorem d_X12_relax_30 : decode prog_14_method_139_code 30 = .ok (.if_icmp .ge 93, 3) := by decide +kernel
theorem d_X12_relax_33 : decode prog_14_method_139_code 33 = .ok (.iconst 0, 1) := by decide +kernel
theorem d_X12_relax_34 : decode prog_14_method_139_code 34 = .ok (.istore 5, 2) := by decide +kernel
theorem d_X12_relax_36 : decode prog_14_method_139_code 36 = .ok (.iconst 0, 1) := by decide +kernel
theorem d_X12_relax_37 : decode prog_14_method_139_code 37 = .ok (.istore 6, 2) := by decide +kernel
theorem d_X12_relax_39 : decode prog_14_method_139_code 39 = .ok (.iload 6, 2) := by decide +kernel
theorem d_X12_relax_41 : decode prog_14_method_139_code 41 = .ok (.aload_n 0, 1) := by decide +kernel
theorem d_X12_relax_42 : decode prog_14_method_139_code 42 = .ok (.getfield 628, 3) := by decide +kernel
theorem d_X12_relax_45 : decode prog_14_method_139_code 45 = .ok (.if_icmp .ge 46, 3) := by decide +kernel
theorem d_X12_relax_48 : decode prog_14_method_139_code 48 = .ok (.iload 5, 2) := by decide +kernel
theorem d_X12_relax_50 : decode prog_14_method_139_code 50 = .ok (.iload 4, 2) := by decide +kernel
theorem d_X12_relax_52 : decode prog_14_method_139_code 52 = .ok (.iload 6, 2) := by decide +kernel
theorem d_X12_relax_54 : decode prog_14_method_139_code 54 = .ok (.ishr, 1) := by decide +kernel
theorem d_X12_relax_55 : decode prog_14_method_139_code 55 = .ok (.iconst 1, 1) := by decide +kernel
theorem d_X12_relax_56 : decode prog_14_method_139_code 56 = .ok (.iand, 1) := by decide +kernel
theorem d_X12_relax_57 : decode prog_14_method_139_code 57 = .ok (.iconst 1, 1) := by decide +kernel
theorem d_X12_relax_58 : decode prog_14_method_139_code 58 = .ok (.if_icmp .ne 23, 3) := by decide +kernel
theorem d_X12_relax_61 : decode prog_14_method_139_code 61 = .ok (.aload_n 0, 1) := by decide +kernel
theorem d_X12_relax_62 : decode prog_14_method_139_code 62 = .ok (.getfield 91, 3) := by decide +kernel
theorem d_X12_relax_65 : decode prog_14_method_139_code 65 = .ok (.bipush 24, 2) := by decide +kernel
theorem d_X12_relax_67 : decode prog_14_method_139_code 67 = .ok (.iload_n 1, 1) := by decide +kernel
theorem d_X12_relax_68 : decode prog_14_method_139_code 68 = .ok (.imul, 1) := by decide +kernel
theorem d_X12_relax_69 : decode prog_14_method_139_code 69 = .ok (.aload_n 0, 1) := by decide +kernel
theorem d_X12_relax_70 : decode prog_14_method_139_code 70 = .ok (.getfield 171, 3) := by decide +kernel
theorem d_X12_relax_73 : decode prog_14_method_139_code 73 = .ok (.iload 6, 2) := by decide +kernel
theorem d_X12_relax_75 : decode prog_14_method_139_code 75 = .ok (.iaload, 1) := by decide +kernel
theorem d_X12_relax_76 : decode prog_14_method_139_code 76 = .ok (.iadd, 1) := by decide +kernel
theorem d_X12_relax_77 : decode prog_14_method_139_code 77 = .ok (.iaload, 1) := by decide +kernel
theorem d_X12_relax_78 : decode prog_14_method_139_code 78 = .ok (.goto 4, 3) := by decide +kernel
theorem d_X12_relax_81 : decode prog_14_method_139_code 81 = .ok (.iconst 0, 1) := by decide +kernel
theorem d_X12_relax_82 : decode prog_14_method_139_code 82 = .ok (.iadd, 1) := by decide +kernel
theorem d_X12_relax_83 : decode prog_14_method_139_code 83 = .ok (.istore 5, 2) := by decide +kernel
theorem d_X12_relax_85 : decode prog_14_method_139_code 85 = .ok (.iinc 6 1, 3) := by decide +kernel
theorem d_X12_relax_88 : decode prog_14_method_139_code 88 = .ok (.goto (-49), 3) := by decide +kernel
theorem d_X12_relax_91 : decode prog_14_method_139_code 91 = .ok (.aload_n 0, 1) := by decide +kernel
theorem d_X12_relax_92 : decode prog_14_method_139_code 92 = .ok (.getfield 168, 3) := by decide +kernel
theorem d_X12_relax_95 : decode prog_14_method_139_code 95 = .ok (.iload 4, 2) := by decide +kernel
theorem d_X12_relax_97 : decode prog_14_method_139_code 97 = .ok (.baload, 1) := by decide +kernel
theorem d_X12_relax_98 : decode prog_14_method_139_code 98 = .ok (.ifCond .eq 19, 3) := by decide +kernel
theorem d_X12_relax_101 : decode prog_14_method_139_code 101 = .ok (.iload_n 2, 1) := by decide +kernel
theorem d_X12_relax_102 : decode prog_14_method_139_code 102 = .ok (.ifCond .lt 9, 3) := by decide +kernel
theorem d_X12_relax_105 : decode prog_14_method_139_code 105 = .ok (.iload 5, 2) := by decide +kernel
theorem d_X12_relax_107 : decode prog_14_method_139_code 107 = .ok (.iload_n 3, 1) := by decide +kernel
theorem d_X12_relax_108 : decode prog_14_method_139_code 108 = .ok (.if_icmp .ge 9, 3) := by decide +kernel
theorem d_X12_relax_111 : decode prog_14_method_139_code 111 = .ok (.iload 4, 2) := by decide +kernel
theorem d_X12_relax_113 : decode prog_14_method_139_code 113 = .ok (.istore_n 2, 1) := by decide +kernel
theorem d_X12_relax_114 : decode prog_14_method_139_code 114 = .ok (.iload 5, 2) := by decide +kernel
theorem d_X12_relax_116 : decode prog_14_method_139_code 116 = .ok (.istore_n 3, 1) := by decide +kernel
theorem d_X12_relax_117 : decode prog_14_method_139_code 117 = .ok (.iinc 4 1, 3) := by decide +kernel
theorem d_X12_relax_120 : decode prog_14_method_139_code 120 = .ok (.goto (-98), 3) := by decide +kernel
theorem d_X12_relax_123 : decode prog_14_method_139_code 123 = .ok (.aload_n 0, 1) := by decide +kernel
theorem d_X12_relax_124 : decode prog_14_method_139_code 124 = .ok (.iload_n 2, 1) := by decide +kernel
theorem d_X12_relax_125 : decode prog_14_method_139_code 125 = .ok (.invokevirtual 637, 3) := by decide +kernel
theorem d_X12_relax_128 : decode prog_14_method_139_code 128 = .ok (.ireturn, 1) := by decide +kernel
theorem v_X12_relax_0 {E : EE} {d : Nat} {Q : Option AV → AH → Prop} {x0 : Nat} {x1 : Int32} {G : AH} (h0 : 0 < d) (h : isO E G x0 12 ∧ (wpI E (d - 1) M_X12_isProblem [vr x0, vi x1] G (fun r1 G2 => (¬ r1 = 0 → isO E G2 x0 12 ∧ (wpV E (d - 1) M_X12_findMasks [vr x0, vi x1] G2 (fun G3 => wp E d M_X12_relax 22 [some (vr x0), some (vi x1), some (vi (-1)), some (vi 0), some (vi 0), none, none] [] G3 Q))) ∧ (r1 = 0 → Q (some (vi (-1))) G2)))) : wp E d M_X12_relax 0 [some (vr x0), some (vi x1), none, none, none, none, none] [] G Q := by
  refine wp_aload_n (pc := 0) d_X12_relax_0 rfl ?_
  refine wp_iload_n (pc := 1) d_X12_relax_1 rfl ?_
  obtain ⟨ho5, h⟩ := h
  refine wp_invV (pc := 2) (N := M_X12_isProblem) (As := [vi _]) (rest := []) (r := (cn_12, ct_12, 95)) d_X12_relax_2 ml_X12_453 mk_X12_isProblem mv_X12_isProblem h0 ho5 rfl rfl (Nat.le_of_ble_eq_true rfl) ?_
  refine wpM.mono h (fun rr G2 hr => ?_)
  obtain ⟨r1, rfl, h⟩ := hr
  show wp E d M_X12_relax 5 [some (vr _), some (vi _), none, none, none, none, none] [vi _] G2 Q
  refine wp_if_ne (pc := 5) (tgt := 10) d_X12_relax_5 (by decide) (fun hc => ?_) (fun hc => ?_)
  · have h := h.1 hc
    refine wp_aload_n (pc := 10) d_X12_relax_10 rfl ?_
    refine wp_iload_n (pc := 11) d_X12_relax_11 rfl ?_
    obtain ⟨ho4, h⟩ := h
    refine wp_invV (pc := 12) (N := M_X12_findMasks) (As := [vi _]) (rest := []) (r := (cn_12, ct_12, 95)) d_X12_relax_12 ml_X12_631 mk_X12_findMasks mv_X12_findMasks h0 ho4 rfl rfl (Nat.le_of_ble_eq_true rfl) ?_
    refine wpM.mono h (fun rr G3 hr => ?_)
    obtain ⟨rfl, h⟩ := hr
    show wp E d M_X12_relax 15 [some (vr _), some (vi _), none, none, none, none, none] [] G3 Q
    refine wp_iconst (pc := 15) (v := (-1)) d_X12_relax_15 rfl ?_
    refine wp_istore_n (pc := 16) (lv' := [some (vr _), some (vi _), some (vi _), none, none, none, none]) d_X12_relax_16 (by decide) rfl ?_
    refine wp_iconst (pc := 17) (v := 0) d_X12_relax_17 rfl ?_
    refine wp_istore_n (pc := 18) (lv' := [some (vr _), some (vi _), some (vi _), some (vi _), none, none, none]) d_X12_relax_18 (by decide) rfl ?_
    refine wp_iconst (pc := 19) (v := 0) d_X12_relax_19 rfl ?_
    refine wp_istore (pc := 20) (lv' := [some (vr _), some (vi _), some (vi _), some (vi _), some (vi _), none, none]) d_X12_relax_20 (by decide) rfl ?_
    refine wp_sub ?_ h
    exact ⟨rfl, ⟨rfl, ⟨rfl, ⟨rfl, ⟨rfl, trivial⟩⟩⟩⟩⟩
  · have h := h.2 hc
    refine wp_iconst (pc := 8) (v := (-1)) d_X12_relax_8 rfl ?_
    exact wp_iret (pc := 9) d_X12_relax_9 rfl h
theorem v_X12_relax_22 {E : EE} {d : Nat} {Q : Option AV → AH → Prop} {x0 : Nat} {x1 : Int32} {x2 : Int32} {x3 : Int32} {x4 : Int32} {G : AH} (h0 : 0 < d) (h : isO E G x0 12 ∧ (((1 <<< ((gI G x0 73) &&& 31)) ≤ x4 → wpI E (d - 1) M_X12_numberOf [vr x0, vi x2] G (fun r2 G3 => Q (some (vi r2)) G3)) ∧ (¬ ((1 <<< ((gI G x0 73) &&& 31)) ≤ x4) → wp E d M_X12_relax 39 [some (vr x0), some (vi x1), some (vi x2), some (vi x3), some (vi x4), some (vi 0), some (vi 0)] [] G Q))) : wp E d M_X12_relax 22 [some (vr x0), some (vi x1), some (vi x2), some (vi x3), some (vi x4), none, none] [] G Q := by
  refine wp_iload (pc := 22) d_X12_relax_22 rfl ?_
  refine wp_iconst (pc := 24) (v := 1) d_X12_relax_24 rfl ?_
  refine wp_aload_n (pc := 25) d_X12_relax_25 rfl ?_
  obtain ⟨ho1, h⟩ := h
  refine wp_getI (pc := 26) d_X12_relax_26 fl_X12_628 (fun _ _ _ => rfl) ho1 ?_
  refine wp_ishl (pc := 29) d_X12_relax_29 ?_
  refine wp_icmp_ge (pc := 30) (tgt := 123) d_X12_relax_30 (by decide) (fun hc => ?_) (fun hc => ?_)
  · have h := h.1 hc
    refine wp_aload_n (pc := 123) d_X12_relax_123 rfl ?_
    refine wp_iload_n (pc := 124) d_X12_relax_124 rfl ?_
    refine wp_invV (pc := 125) (N := M_X12_numberOf) (As := [vi _]) (rest := []) (r := (cn_12, ct_12, 95)) d_X12_relax_125 ml_X12_637 mk_X12_numberOf mv_X12_numberOf h0 ho1 rfl rfl (Nat.le_of_ble_eq_true rfl) ?_
    refine wpM.mono h (fun rr G3 hr => ?_)
    obtain ⟨r2, rfl, h⟩ := hr
    show wp E d M_X12_relax 128 [some (vr _), some (vi _), some (vi _), some (vi _), some (vi _), none, none] [vi _] G3 Q
    exact wp_iret (pc := 128) d_X12_relax_128 rfl h
  · have h := h.2 hc
    refine wp_iconst (pc := 33) (v := 0) d_X12_relax_33 rfl ?_
    refine wp_istore (pc := 34) (lv' := [some (vr _), some (vi _), some (vi _), some (vi _), some (vi _), some (vi _), none]) d_X12_relax_34 (by decide) rfl ?_
    refine wp_iconst (pc := 36) (v := 0) d_X12_relax_36 rfl ?_
    refine wp_istore (pc := 37) (lv' := [some (vr _), some (vi _), some (vi _), some (vi _), some (vi _), some (vi _), some (vi _)]) d_X12_relax_37 (by decide) rfl ?_
    refine wp_sub ?_ h
    exact ⟨rfl, ⟨rfl, ⟨rfl, ⟨rfl, ⟨rfl, ⟨rfl, ⟨rfl, trivial⟩⟩⟩⟩⟩⟩⟩
theorem v_X12_relax_39 {E : EE} {d : Nat} {Q : Option AV → AH → Prop} {x0 : Nat} {x1 : Int32} {x2 : Int32} {x3 : Int32} {x4 : Int32} {x5 : Int32} {x6 : Int32} {G : AH} (h : isO E G x0 12 ∧ (((gI G x0 73) ≤ x6 → isO E G (gR G x0 71) 16 ∧ (vp_in x4 (gN G (gR G x0 71)) ∧ (((gI G (gR G x0 71) (Int32.toNatClampNeg x4)) = 0 → wp E d M_X12_relax 117 [some (vr x0), some (vi x1), some (vi x2), some (vi x3), some (vi x4), some (vi x5), some (vi x6)] [] G Q) ∧ (¬ ((gI G (gR G x0 71) (Int32.toNatClampNeg x4)) = 0) → (x2 < 0 → wp E d M_X12_relax 111 [some (vr x0), some (vi x1), some (vi x2), some (vi x3), some (vi x4), some (vi x5), some (vi x6)] [] G Q) ∧ (¬ (x2 < 0) → (x3 ≤ x5 → wp E d M_X12_relax 117 [some (vr x0), some (vi x1), some (vi x2), some (vi x3), some (vi x4), some (vi x5), some (vi x6)] [] G Q) ∧ (¬ (x3 ≤ x5) → wp E d M_X12_relax 111 [some (vr x0), some (vi x1), some (vi x2), some (vi x3), some (vi x4), some (vi x5), some (vi x6)] [] G Q)))))) ∧ (¬ ((gI G x0 73) ≤ x6) → (¬ ((x4 >>> (x6 &&& 31)) &&& 1) = 1 → wp E d M_X12_relax 82 [some (vr x0), some (vi x1), some (vi x2), some (vi x3), some (vi x4), some (vi x5), some (vi x6)] [vi 0, vi x5] G Q) ∧ (((x4 >>> (x6 &&& 31)) &&& 1) = 1 → isO E G (gR G x0 72) 14 ∧ (vp_in x6 (gN G (gR G x0 72)) ∧ (isO E G (gR G x0 28) 14 ∧ (vp_in ((24 * x1) + (gI G (gR G x0 72) (Int32.toNatClampNeg x6))) (gN G (gR G x0 28)) ∧ (wp E d M_X12_relax 82 [some (vr x0), some (vi x1), some (vi x2), some (vi x3), some (vi x4), some (vi x5), some (vi x6)] [vi (gI G (gR G x0 28) (Int32.toNatClampNeg ((24 * x1) + (gI G (gR G x0 72) (Int32.toNatClampNeg x6))))), vi x5] G Q)))))))) : wp E d M_X12_relax 39 [some (vr x0), some (vi x1), some (vi x2), some (vi x3), some (vi x4), some (vi x5), some (vi x6)] [] G Q := by
  refine wp_iload (pc := 39) d_X12_relax_39 rfl ?_
  refine wp_aload_n (pc := 41) d_X12_relax_41 rfl ?_
  obtain ⟨ho1, h⟩ := h
  refine wp_getI (pc := 42) d_X12_relax_42 fl_X12_628 (fun _ _ _ => rfl) ho1 ?_
  refine wp_icmp_ge (pc := 45) (tgt := 91) d_X12_relax_45 (by decide) (fun hc => ?_) (fun hc => ?_)
  · have h := h.1 hc
    refine wp_aload_n (pc := 91) d_X12_relax_91 rfl ?_
    refine wp_getR (pc := 92) d_X12_relax_92 fl_X12_168 (fun _ _ _ => rfl) ho1 ?_
    refine wp_iload (pc := 95) d_X12_relax_95 rfl ?_
    obtain ⟨ho2, h⟩ := h
    obtain ⟨hi3, h⟩ := h
    refine wp_zald (pc := 97) d_X12_relax_97 ho2 hi3 ?_
    refine wp_if_eq (pc := 98) (tgt := 117) d_X12_relax_98 (by decide) (fun hc => ?_) (fun hc => ?_)
    · have h := h.1 hc
      refine wp_sub ?_ h
      exact ⟨rfl, ⟨rfl, ⟨rfl, ⟨rfl, ⟨rfl, ⟨rfl, ⟨rfl, trivial⟩⟩⟩⟩⟩⟩⟩
    · have h := h.2 hc
      refine wp_iload_n (pc := 101) d_X12_relax_101 rfl ?_
      refine wp_if_lt (pc := 102) (tgt := 111) d_X12_relax_102 (by decide) (fun hc => ?_) (fun hc => ?_)
      · have h := h.1 hc
        refine wp_sub ?_ h
        exact ⟨rfl, ⟨rfl, ⟨rfl, ⟨rfl, ⟨rfl, ⟨rfl, ⟨rfl, trivial⟩⟩⟩⟩⟩⟩⟩
      · have h := h.2 hc
        refine wp_iload (pc := 105) d_X12_relax_105 rfl ?_
        refine wp_iload_n (pc := 107) d_X12_relax_107 rfl ?_
        refine wp_icmp_ge (pc := 108) (tgt := 117) d_X12_relax_108 (by decide) (fun hc => ?_) (fun hc => ?_)
        · have h := h.1 hc
          refine wp_sub ?_ h
          exact ⟨rfl, ⟨rfl, ⟨rfl, ⟨rfl, ⟨rfl, ⟨rfl, ⟨rfl, trivial⟩⟩⟩⟩⟩⟩⟩
        · have h := h.2 hc
          refine wp_sub ?_ h
          exact ⟨rfl, ⟨rfl, ⟨rfl, ⟨rfl, ⟨rfl, ⟨rfl, ⟨rfl, trivial⟩⟩⟩⟩⟩⟩⟩
  · have h := h.2 hc
    refine wp_iload (pc := 48) d_X12_relax_48 rfl ?_
    refine wp_iload (pc := 50) d_X12_relax_50 rfl ?_
    refine wp_iload (pc := 52) d_X12_relax_52 rfl ?_
    refine wp_ishr (pc := 54) d_X12_relax_54 ?_
    refine wp_iconst (pc := 55) (v := 1) d_X12_relax_55 rfl ?_
    refine wp_iand (pc := 56) d_X12_relax_56 ?_
    refine wp_iconst (pc := 57) (v := 1) d_X12_relax_57 rfl ?_
    refine wp_icmp_ne (pc := 58) (tgt := 81) d_X12_relax_58 (by decide) (fun hc => ?_) (fun hc => ?_)
    · have h := h.1 hc
      refine wp_iconst (pc := 81) (v := 0) d_X12_relax_81 rfl ?_
      refine wp_sub ?_ h
      exact ⟨rfl, ⟨rfl, ⟨rfl, ⟨rfl, ⟨rfl, ⟨rfl, ⟨rfl, trivial⟩⟩⟩⟩⟩⟩⟩
    · have h := h.2 hc
      refine wp_aload_n (pc := 61) d_X12_relax_61 rfl ?_
      refine wp_getR (pc := 62) d_X12_relax_62 fl_X12_91 (fun _ _ _ => rfl) ho1 ?_
      refine wp_bipush (pc := 65) (v := 24) d_X12_relax_65 rfl ?_
      refine wp_iload_n (pc := 67) d_X12_relax_67 rfl ?_
      refine wp_imul (pc := 68) d_X12_relax_68 ?_
      refine wp_aload_n (pc := 69) d_X12_relax_69 rfl ?_
      refine wp_getR (pc := 70) d_X12_relax_70 fl_X12_171 (fun _ _ _ => rfl) ho1 ?_
      refine wp_iload (pc := 73) d_X12_relax_73 rfl ?_
      obtain ⟨ho4, h⟩ := h
      obtain ⟨hi5, h⟩ := h
      refine wp_iald (pc := 75) d_X12_relax_75 ho4 hi5 ?_
      refine wp_iadd (pc := 76) d_X12_relax_76 ?_
      obtain ⟨ho6, h⟩ := h
      obtain ⟨hi7, h⟩ := h
      refine wp_iald (pc := 77) d_X12_relax_77 ho6 hi7 ?_
      refine wp_goto (pc := 78) (tgt := 82) d_X12_relax_78 (by decide) ?_
      refine wp_sub ?_ h
      exact ⟨rfl, ⟨rfl, ⟨rfl, ⟨rfl, ⟨rfl, ⟨rfl, ⟨rfl, trivial⟩⟩⟩⟩⟩⟩⟩
theorem v_X12_relax_82 {E : EE} {d : Nat} {Q : Option AV → AH → Prop} {x0 : Nat} {x1 : Int32} {x2 : Int32} {x3 : Int32} {x4 : Int32} {x5 : Int32} {x6 : Int32} {t0 : Int32} {t1 : Int32} {G : AH} (h : wp E d M_X12_relax 39 [some (vr x0), some (vi x1), some (vi x2), some (vi x3), some (vi x4), some (vi (t0 + t1)), some (vi (x6 + 1))] [] G Q) : wp E d M_X12_relax 82 [some (vr x0), some (vi x1), some (vi x2), some (vi x3), some (vi x4), some (vi x5), some (vi x6)] [vi t1, vi t0] G Q := by
  refine wp_iadd (pc := 82) d_X12_relax_82 ?_
  refine wp_istore (pc := 83) (lv' := [some (vr _), some (vi _), some (vi _), some (vi _), some (vi _), some (vi _), some (vi _)]) d_X12_relax_83 (by decide) rfl ?_
  refine wp_iinc (pc := 85) (v := 1) (lv' := [some (vr _), some (vi _), some (vi _), some (vi _), some (vi _), some (vi _), some (vi _)]) d_X12_relax_85 (by decide) rfl rfl rfl ?_
  refine wp_goto (pc := 88) (tgt := 39) d_X12_relax_88 (by decide) ?_
  refine wp_sub ?_ h
  exact ⟨rfl, ⟨rfl, ⟨rfl, ⟨rfl, ⟨rfl, ⟨rfl, ⟨rfl, trivial⟩⟩⟩⟩⟩⟩⟩
theorem v_X12_relax_111 {E : EE} {d : Nat} {Q : Option AV → AH → Prop} {x0 : Nat} {x1 : Int32} {x2 : Int32} {x3 : Int32} {x4 : Int32} {x5 : Int32} {x6 : Int32} {G : AH} (h : wp E d M_X12_relax 117 [some (vr x0), some (vi x1), some (vi x4), some (vi x5), some (vi x4), some (vi x5), some (vi x6)] [] G Q) : wp E d M_X12_relax 111 [some (vr x0), some (vi x1), some (vi x2), some (vi x3), some (vi x4), some (vi x5), some (vi x6)] [] G Q := by
  refine wp_iload (pc := 111) d_X12_relax_111 rfl ?_
  refine wp_istore_n (pc := 113) (lv' := [some (vr _), some (vi _), some (vi _), some (vi _), some (vi _), some (vi _), some (vi _)]) d_X12_relax_113 (by decide) rfl ?_
  refine wp_iload (pc := 114) d_X12_relax_114 rfl ?_
  refine wp_istore_n (pc := 116) (lv' := [some (vr _), some (vi _), some (vi _), some (vi _), some (vi _), some (vi _), some (vi _)]) d_X12_relax_116 (by decide) rfl ?_
  refine wp_sub ?_ h
  exact ⟨rfl, ⟨rfl, ⟨rfl, ⟨rfl, ⟨rfl, ⟨rfl, ⟨rfl, trivial⟩⟩⟩⟩⟩⟩⟩
theorem v_X12_relax_117 {E : EE} {d : Nat} {Q : Option AV → AH → Prop} {x0 : Nat} {x1 : Int32} {x2 : Int32} {x3 : Int32} {x4 : Int32} {x5 : Int32} {x6 : Int32} {G : AH} (h : wp E d M_X12_relax 22 [some (vr x0), some (vi x1), some (vi x2), some (vi x3), some (vi (x4 + 1)), none, none] [] G Q) : wp E d M_X12_relax 117 [some (vr x0), some (vi x1), some (vi x2), some (vi x3), some (vi x4), some (vi x5), some (vi x6)] [] G Q := by
  refine wp_iinc (pc := 117) (v := 1) (lv' := [some (vr _), some (vi _), some (vi _), some (vi _), some (vi _), some (vi _), some (vi _)]) d_X12_relax_117 (by decide) rfl rfl rfl ?_
  refine wp_goto (pc := 120) (tgt := 22) d_X12_relax_120 (by decide) ?_
  refine wp_sub ?_ h
  exact ⟨rfl, ⟨rfl, ⟨rfl, ⟨rfl, ⟨rfl, trivial⟩⟩⟩⟩⟩
