/-! decode rows and regions (by program): X12_readProblem X12_next X12_passBlanks X12_look X12_isLetter X12_isFigure X12_wordOf X12_isSpelt X12_isSign X12_statement X12_keep X12_aimStatement X12_newName X12_failHere X12_fail X12_meaning X12_isName X12_need X12_aNumber X12_sum X12_term X12_factor X12_opens X12_bracket X12_anInt X12_isMinus X12_test X12_or X12_and X12_unit -/
theorem d_X12_readProblem_0 : decode prog_14_method_48_code 0 = .ok (.aload_n 0, 1) := by decide +kernel
theorem d_X12_readProblem_1 : decode prog_14_method_48_code 1 = .ok (.iload_n 1, 1) := by decide +kernel
theorem d_X12_readProblem_2 : decode prog_14_method_48_code 2 = .ok (.putfield 321, 3) := by decide +kernel
theorem d_X12_readProblem_5 : decode prog_14_method_48_code 5 = .ok (.aload_n 0, 1) := by decide +kernel
theorem d_X12_readProblem_6 : decode prog_14_method_48_code 6 = .ok (.iconst 0, 1) := by decide +kernel
theorem d_X12_readProblem_7 : decode prog_14_method_48_code 7 = .ok (.putfield 224, 3) := by decide +kernel
theorem d_X12_readProblem_10 : decode prog_14_method_48_code 10 = .ok (.aload_n 0, 1) := by decide +kernel
theorem d_X12_readProblem_11 : decode prog_14_method_48_code 11 = .ok (.sipush 20000, 3) := by decide +kernel
theorem d_X12_readProblem_14 : decode prog_14_method_48_code 14 = .ok (.iload_n 1, 1) := by decide +kernel
theorem d_X12_readProblem_15 : decode prog_14_method_48_code 15 = .ok (.imul, 1) := by decide +kernel
theorem d_X12_readProblem_16 : decode prog_14_method_48_code 16 = .ok (.putfield 228, 3) := by decide +kernel
theorem d_X12_readProblem_19 : decode prog_14_method_48_code 19 = .ok (.aload_n 0, 1) := by decide +kernel
theorem d_X12_readProblem_20 : decode prog_14_method_48_code 20 = .ok (.aload_n 0, 1) := by decide +kernel
theorem d_X12_readProblem_21 : decode prog_14_method_48_code 21 = .ok (.getfield 27, 3) := by decide +kernel
theorem d_X12_readProblem_24 : decode prog_14_method_48_code 24 = .ok (.iload_n 1, 1) := by decide +kernel
theorem d_X12_readProblem_25 : decode prog_14_method_48_code 25 = .ok (.iaload, 1) := by decide +kernel
theorem d_X12_readProblem_26 : decode prog_14_method_48_code 26 = .ok (.putfield 221, 3) := by decide +kernel
theorem d_X12_readProblem_29 : decode prog_14_method_48_code 29 = .ok (.aload_n 0, 1) := by decide +kernel
theorem d_X12_readProblem_30 : decode prog_14_method_48_code 30 = .ok (.iconst 0, 1) := by decide +kernel
theorem d_X12_readProblem_31 : decode prog_14_method_48_code 31 = .ok (.putfield 231, 3) := by decide +kernel
theorem d_X12_readProblem_34 : decode prog_14_method_48_code 34 = .ok (.aload_n 0, 1) := by decide +kernel
theorem d_X12_readProblem_35 : decode prog_14_method_48_code 35 = .ok (.iconst 0, 1) := by decide +kernel
theorem d_X12_readProblem_36 : decode prog_14_method_48_code 36 = .ok (.putfield 311, 3) := by decide +kernel
theorem d_X12_readProblem_39 : decode prog_14_method_48_code 39 = .ok (.aload_n 0, 1) := by decide +kernel
theorem d_X12_readProblem_40 : decode prog_14_method_48_code 40 = .ok (.getfield 43, 3) := by decide +kernel
theorem d_X12_readProblem_43 : decode prog_14_method_48_code 43 = .ok (.iload_n 1, 1) := by decide +kernel
theorem d_X12_readProblem_44 : decode prog_14_method_48_code 44 = .ok (.iconst 0, 1) := by decide +kernel
theorem d_X12_readProblem_45 : decode prog_14_method_48_code 45 = .ok (.iastore, 1) := by decide +kernel
theorem d_X12_readProblem_46 : decode prog_14_method_48_code 46 = .ok (.aload_n 0, 1) := by decide +kernel
theorem d_X12_readProblem_47 : decode prog_14_method_48_code 47 = .ok (.getfield 49, 3) := by decide +kernel
theorem d_X12_readProblem_50 : decode prog_14_method_48_code 50 = .ok (.iload_n 1, 1) := by decide +kernel
theorem d_X12_readProblem_51 : decode prog_14_method_48_code 51 = .ok (.iconst 0, 1) := by decide +kernel
theorem d_X12_readProblem_52 : decode prog_14_method_48_code 52 = .ok (.iastore, 1) := by decide +kernel
theorem d_X12_readProblem_53 : decode prog_14_method_48_code 53 = .ok (.iconst 0, 1) := by decide +kernel
theorem d_X12_readProblem_54 : decode prog_14_method_48_code 54 = .ok (.istore_n 2, 1) := by decide +kernel
theorem d_X12_readProblem_55 : decode prog_14_method_48_code 55 = .ok (.iload_n 2, 1) := by decide +kernel
theorem d_X12_readProblem_56 : decode prog_14_method_48_code 56 = .ok (.iconst 4, 1) := by decide +kernel
theorem d_X12_readProblem_57 : decode prog_14_method_48_code 57 = .ok (.if_icmp .ge 20, 3) := by decide +kernel
theorem d_X12_readProblem_60 : decode prog_14_method_48_code 60 = .ok (.aload_n 0, 1) := by decide +kernel
theorem d_X12_readProblem_61 : decode prog_14_method_48_code 61 = .ok (.getfield 58, 3) := by decide +kernel
theorem d_X12_readProblem_64 : decode prog_14_method_48_code 64 = .ok (.iconst 4, 1) := by decide +kernel
theorem d_X12_readProblem_65 : decode prog_14_method_48_code 65 = .ok (.iload_n 1, 1) := by decide +kernel
theorem d_X12_readProblem_66 : decode prog_14_method_48_code 66 = .ok (.imul, 1) := by decide +kernel
theorem d_X12_readProblem_67 : decode prog_14_method_48_code 67 = .ok (.iload_n 2, 1) := by decide +kernel
theorem d_X12_readProblem_68 : decode prog_14_method_48_code 68 = .ok (.iadd, 1) := by decide +kernel
theorem d_X12_readProblem_69 : decode prog_14_method_48_code 69 = .ok (.iconst 0, 1) := by decide +kernel
theorem d_X12_readProblem_70 : decode prog_14_method_48_code 70 = .ok (.iastore, 1) := by decide +kernel
theorem d_X12_readProblem_71 : decode prog_14_method_48_code 71 = .ok (.iinc 2 1, 3) := by decide +kernel
theorem d_X12_readProblem_74 : decode prog_14_method_48_code 74 = .ok (.goto (-19), 3) := by decide +kernel
theorem d_X12_readProblem_77 : decode prog_14_method_48_code 77 = .ok (.aload_n 0, 1) := by decide +kernel
theorem d_X12_readProblem_78 : decode prog_14_method_48_code 78 = .ok (.getfield 82, 3) := by decide +kernel
theorem d_X12_readProblem_81 : decode prog_14_method_48_code 81 = .ok (.iload_n 1, 1) := by decide +kernel
theorem d_X12_readProblem_82 : decode prog_14_method_48_code 82 = .ok (.iconst 1, 1) := by decide +kernel
theorem d_X12_readProblem_83 : decode prog_14_method_48_code 83 = .ok (.iastore, 1) := by decide +kernel
theorem d_X12_readProblem_84 : decode prog_14_method_48_code 84 = .ok (.aload_n 0, 1) := by decide +kernel
theorem d_X12_readProblem_85 : decode prog_14_method_48_code 85 = .ok (.getfield 85, 3) := by decide +kernel
theorem d_X12_readProblem_88 : decode prog_14_method_48_code 88 = .ok (.iload_n 1, 1) := by decide +kernel
theorem d_X12_readProblem_89 : decode prog_14_method_48_code 89 = .ok (.iconst 0, 1) := by decide +kernel
theorem d_X12_readProblem_90 : decode prog_14_method_48_code 90 = .ok (.iastore, 1) := by decide +kernel
theorem d_X12_readProblem_91 : decode prog_14_method_48_code 91 = .ok (.aload_n 0, 1) := by decide +kernel
theorem d_X12_readProblem_92 : decode prog_14_method_48_code 92 = .ok (.getfield 103, 3) := by decide +kernel
theorem d_X12_readProblem_95 : decode prog_14_method_48_code 95 = .ok (.iload_n 1, 1) := by decide +kernel
theorem d_X12_readProblem_96 : decode prog_14_method_48_code 96 = .ok (.iconst 0, 1) := by decide +kernel
theorem d_X12_readProblem_97 : decode prog_14_method_48_code 97 = .ok (.iastore, 1) := by decide +kernel
theorem d_X12_readProblem_98 : decode prog_14_method_48_code 98 = .ok (.aload_n 0, 1) := by decide +kernel
theorem d_X12_readProblem_99 : decode prog_14_method_48_code 99 = .ok (.invokevirtual 324, 3) := by decide +kernel
theorem d_X12_readProblem_102 : decode prog_14_method_48_code 102 = .ok (.aload_n 0, 1) := by decide +kernel
theorem d_X12_readProblem_103 : decode prog_14_method_48_code 103 = .ok (.invokevirtual 439, 3) := by decide +kernel
theorem d_X12_readProblem_106 : decode prog_14_method_48_code 106 = .ok (.aload_n 0, 1) := by decide +kernel
theorem d_X12_readProblem_107 : decode prog_14_method_48_code 107 = .ok (.getfield 311, 3) := by decide +kernel
theorem d_X12_readProblem_110 : decode prog_14_method_48_code 110 = .ok (.ifCond .ne 17, 3) := by decide +kernel
theorem d_X12_readProblem_113 : decode prog_14_method_48_code 113 = .ok (.aload_n 0, 1) := by decide +kernel
theorem d_X12_readProblem_114 : decode prog_14_method_48_code 114 = .ok (.getfield 292, 3) := by decide +kernel
theorem d_X12_readProblem_117 : decode prog_14_method_48_code 117 = .ok (.ifCond .eq 10, 3) := by decide +kernel
theorem d_X12_readProblem_120 : decode prog_14_method_48_code 120 = .ok (.aload_n 0, 1) := by decide +kernel
theorem d_X12_readProblem_121 : decode prog_14_method_48_code 121 = .ok (.invokevirtual 439, 3) := by decide +kernel
theorem d_X12_readProblem_124 : decode prog_14_method_48_code 124 = .ok (.goto (-18), 3) := by decide +kernel
theorem d_X12_readProblem_127 : decode prog_14_method_48_code 127 = .ok (.aload_n 0, 1) := by decide +kernel
theorem d_X12_readProblem_128 : decode prog_14_method_48_code 128 = .ok (.getfield 311, 3) := by decide +kernel
theorem d_X12_readProblem_131 : decode prog_14_method_48_code 131 = .ok (.ifCond .ne 48, 3) := by decide +kernel
theorem d_X12_readProblem_134 : decode prog_14_method_48_code 134 = .ok (.aload_n 0, 1) := by decide +kernel
theorem d_X12_readProblem_135 : decode prog_14_method_48_code 135 = .ok (.getfield 58, 3) := by decide +kernel
theorem d_X12_readProblem_138 : decode prog_14_method_48_code 138 = .ok (.iconst 4, 1) := by decide +kernel
theorem d_X12_readProblem_139 : decode prog_14_method_48_code 139 = .ok (.iload_n 1, 1) := by decide +kernel
theorem d_X12_readProblem_140 : decode prog_14_method_48_code 140 = .ok (.imul, 1) := by decide +kernel
theorem d_X12_readProblem_141 : decode prog_14_method_48_code 141 = .ok (.iconst 1, 1) := by decide +kernel
theorem d_X12_readProblem_142 : decode prog_14_method_48_code 142 = .ok (.iadd, 1) := by decide +kernel
theorem d_X12_readProblem_143 : decode prog_14_method_48_code 143 = .ok (.iaload, 1) := by decide +kernel
theorem d_X12_readProblem_144 : decode prog_14_method_48_code 144 = .ok (.ifCond .eq 25, 3) := by decide +kernel
theorem d_X12_readProblem_147 : decode prog_14_method_48_code 147 = .ok (.aload_n 0, 1) := by decide +kernel
theorem d_X12_readProblem_148 : decode prog_14_method_48_code 148 = .ok (.getfield 82, 3) := by decide +kernel
theorem d_X12_readProblem_151 : decode prog_14_method_48_code 151 = .ok (.iload_n 1, 1) := by decide +kernel
theorem d_X12_readProblem_152 : decode prog_14_method_48_code 152 = .ok (.iaload, 1) := by decide +kernel
theorem d_X12_readProblem_153 : decode prog_14_method_48_code 153 = .ok (.i2l, 1) := by decide +kernel
theorem d_X12_readProblem_154 : decode prog_14_method_48_code 154 = .ok (.aload_n 0, 1) := by decide +kernel
theorem d_X12_readProblem_155 : decode prog_14_method_48_code 155 = .ok (.getfield 43, 3) := by decide +kernel
theorem d_X12_readProblem_158 : decode prog_14_method_48_code 158 = .ok (.iload_n 1, 1) := by decide +kernel
theorem d_X12_readProblem_159 : decode prog_14_method_48_code 159 = .ok (.iaload, 1) := by decide +kernel
theorem d_X12_readProblem_160 : decode prog_14_method_48_code 160 = .ok (.i2l, 1) := by decide +kernel
theorem d_X12_readProblem_161 : decode prog_14_method_48_code 161 = .ok (.lmul, 1) := by decide +kernel
theorem d_X12_readProblem_162 : decode prog_14_method_48_code 162 = .ok (.ldc2_w 442, 3) := by decide +kernel
theorem d_X12_readProblem_165 : decode prog_14_method_48_code 165 = .ok (.lcmp, 1) := by decide +kernel
theorem d_X12_readProblem_166 : decode prog_14_method_48_code 166 = .ok (.ifCond .le 13, 3) := by decide +kernel
theorem d_X12_readProblem_169 : decode prog_14_method_48_code 169 = .ok (.aload_n 0, 1) := by decide +kernel
theorem d_X12_readProblem_170 : decode prog_14_method_48_code 170 = .ok (.bipush 6, 2) := by decide +kernel
theorem d_X12_readProblem_172 : decode prog_14_method_48_code 172 = .ok (.aload_n 0, 1) := by decide +kernel
theorem d_X12_readProblem_173 : decode prog_14_method_48_code 173 = .ok (.getfield 221, 3) := by decide +kernel
theorem d_X12_readProblem_176 : decode prog_14_method_48_code 176 = .ok (.invokevirtual 317, 3) := by decide +kernel
theorem d_X12_readProblem_179 : decode prog_14_method_48_code 179 = .ok (.iconst 1, 1) := by decide +kernel
theorem d_X12_readProblem_180 : decode prog_14_method_48_code 180 = .ok (.istore_n 2, 1) := by decide +kernel
theorem d_X12_readProblem_181 : decode prog_14_method_48_code 181 = .ok (.aload_n 0, 1) := by decide +kernel
theorem d_X12_readProblem_182 : decode prog_14_method_48_code 182 = .ok (.getfield 58, 3) := by decide +kernel
theorem d_X12_readProblem_185 : decode prog_14_method_48_code 185 = .ok (.iconst 4, 1) := by decide +kernel
theorem d_X12_readProblem_186 : decode prog_14_method_48_code 186 = .ok (.iload_n 1, 1) := by decide +kernel
theorem d_X12_readProblem_187 : decode prog_14_method_48_code 187 = .ok (.imul, 1) := by decide +kernel
theorem d_X12_readProblem_188 : decode prog_14_method_48_code 188 = .ok (.iconst 1, 1) := by decide +kernel
theorem d_X12_readProblem_189 : decode prog_14_method_48_code 189 = .ok (.iadd, 1) := by decide +kernel
theorem d_X12_readProblem_190 : decode prog_14_method_48_code 190 = .ok (.iaload, 1) := by decide +kernel
theorem d_X12_readProblem_191 : decode prog_14_method_48_code 191 = .ok (.iconst 1, 1) := by decide +kernel
theorem d_X12_readProblem_192 : decode prog_14_method_48_code 192 = .ok (.isub, 1) := by decide +kernel
theorem d_X12_readProblem_193 : decode prog_14_method_48_code 193 = .ok (.istore_n 3, 1) := by decide +kernel
theorem d_X12_readProblem_194 : decode prog_14_method_48_code 194 = .ok (.iload_n 3, 1) := by decide +kernel
theorem d_X12_readProblem_195 : decode prog_14_method_48_code 195 = .ok (.ifCond .lt 35, 3) := by decide +kernel
theorem d_X12_readProblem_198 : decode prog_14_method_48_code 198 = .ok (.aload_n 0, 1) := by decide +kernel
theorem d_X12_readProblem_199 : decode prog_14_method_48_code 199 = .ok (.getfield 67, 3) := by decide +kernel
theorem d_X12_readProblem_202 : decode prog_14_method_48_code 202 = .ok (.bipush 12, 2) := by decide +kernel
theorem d_X12_readProblem_204 : decode prog_14_method_48_code 204 = .ok (.iload_n 1, 1) := by decide +kernel
theorem d_X12_readProblem_205 : decode prog_14_method_48_code 205 = .ok (.imul, 1) := by decide +kernel
theorem d_X12_readProblem_206 : decode prog_14_method_48_code 206 = .ok (.iload_n 3, 1) := by decide +kernel
theorem d_X12_readProblem_207 : decode prog_14_method_48_code 207 = .ok (.iadd, 1) := by decide +kernel
theorem d_X12_readProblem_208 : decode prog_14_method_48_code 208 = .ok (.iload_n 2, 1) := by decide +kernel
theorem d_X12_readProblem_209 : decode prog_14_method_48_code 209 = .ok (.iastore, 1) := by decide +kernel
theorem d_X12_readProblem_210 : decode prog_14_method_48_code 210 = .ok (.iload_n 2, 1) := by decide +kernel
theorem d_X12_readProblem_211 : decode prog_14_method_48_code 211 = .ok (.aload_n 0, 1) := by decide +kernel
theorem d_X12_readProblem_212 : decode prog_14_method_48_code 212 = .ok (.getfield 64, 3) := by decide +kernel
theorem d_X12_readProblem_215 : decode prog_14_method_48_code 215 = .ok (.bipush 12, 2) := by decide +kernel
theorem d_X12_readProblem_217 : decode prog_14_method_48_code 217 = .ok (.iload_n 1, 1) := by decide +kernel
theorem d_X12_readProblem_218 : decode prog_14_method_48_code 218 = .ok (.imul, 1) := by decide +kernel
theorem d_X12_readProblem_219 : decode prog_14_method_48_code 219 = .ok (.iload_n 3, 1) := by decide +kernel
theorem d_X12_readProblem_220 : decode prog_14_method_48_code 220 = .ok (.iadd, 1) := by decide +kernel
theorem d_X12_readProblem_221 : decode prog_14_method_48_code 221 = .ok (.iaload, 1) := by decide +kernel
theorem d_X12_readProblem_222 : decode prog_14_method_48_code 222 = .ok (.imul, 1) := by decide +kernel
theorem d_X12_readProblem_223 : decode prog_14_method_48_code 223 = .ok (.istore_n 2, 1) := by decide +kernel
theorem d_X12_readProblem_224 : decode prog_14_method_48_code 224 = .ok (.iinc 3 (-1), 3) := by decide +kernel
theorem d_X12_readProblem_227 : decode prog_14_method_48_code 227 = .ok (.goto (-33), 3) := by decide +kernel
theorem d_X12_readProblem_230 : decode prog_14_method_48_code 230 = .ok (.aload_n 0, 1) := by decide +kernel
theorem d_X12_readProblem_231 : decode prog_14_method_48_code 231 = .ok (.getfield 115, 3) := by decide +kernel
theorem d_X12_readProblem_234 : decode prog_14_method_48_code 234 = .ok (.iload_n 1, 1) := by decide +kernel
theorem d_X12_readProblem_235 : decode prog_14_method_48_code 235 = .ok (.dup2, 1) := by decide +kernel
theorem d_X12_readProblem_236 : decode prog_14_method_48_code 236 = .ok (.iaload, 1) := by decide +kernel
theorem d_X12_readProblem_237 : decode prog_14_method_48_code 237 = .ok (.iconst 1, 1) := by decide +kernel
theorem d_X12_readProblem_238 : decode prog_14_method_48_code 238 = .ok (.iadd, 1) := by decide +kernel
theorem d_X12_readProblem_239 : decode prog_14_method_48_code 239 = .ok (.iastore, 1) := by decide +kernel
theorem d_X12_readProblem_240 : decode prog_14_method_48_code 240 = .ok (.aload_n 0, 1) := by decide +kernel
theorem d_X12_readProblem_241 : decode prog_14_method_48_code 241 = .ok (.getfield 311, 3) := by decide +kernel
theorem d_X12_readProblem_244 : decode prog_14_method_48_code 244 = .ok (.ifCond .ne 7, 3) := by decide +kernel
theorem d_X12_readProblem_247 : decode prog_14_method_48_code 247 = .ok (.iconst 1, 1) := by decide +kernel
theorem d_X12_readProblem_248 : decode prog_14_method_48_code 248 = .ok (.goto 4, 3) := by decide +kernel
theorem d_X12_readProblem_251 : decode prog_14_method_48_code 251 = .ok (.iconst 0, 1) := by decide +kernel
theorem d_X12_readProblem_252 : decode prog_14_method_48_code 252 = .ok (.ireturn, 1) := by decide +kernel
theorem v_X12_readProblem_0 {E : EE} {d : Nat} {Q : Option AV → AH → Prop} {x0 : Nat} {x1 : Int32} {G : AH} (h : isO E G x0 12 ∧ (∀ G2 : AH, G2 = sI G x0 47 x1 → ∀ G4 : AH, G4 = sI G2 x0 37 0 → ∀ G6 : AH, G6 = sI G4 x0 38 (20000 * x1) → isO E G6 (gR G6 x0 7) 14 ∧ (vp_in x1 (gN G6 (gR G6 x0 7)) ∧ (∀ G10 : AH, G10 = sI G6 x0 39 (gI G6 (gR G6 x0 7) (Int32.toNatClampNeg x1)) → ∀ G12 : AH, G12 = sI G10 x0 40 0 → ∀ G14 : AH, G14 = sI G12 x0 45 0 → isO E G14 (gR G14 x0 12) 14 ∧ (vp_in x1 (gN G14 (gR G14 x0 12)) ∧ (∀ G18 : AH, G18 = sI G14 (gR G14 x0 12) (Int32.toNatClampNeg x1) 0 → isO E G18 (gR G18 x0 14) 14 ∧ (vp_in x1 (gN G18 (gR G18 x0 14)) ∧ (∀ G22 : AH, G22 = sI G18 (gR G18 x0 14) (Int32.toNatClampNeg x1) 0 → wp E d M_X12_readProblem 55 [some (vr x0), some (vi x1), some (vi 0), none] [] G22 Q)))))))) : wp E d M_X12_readProblem 0 [some (vr x0), some (vi x1), none, none] [] G Q := by
  refine wp_aload_n (pc := 0) d_X12_readProblem_0 rfl ?_
  refine wp_iload_n (pc := 1) d_X12_readProblem_1 rfl ?_
  obtain ⟨ho1, h⟩ := h
  refine wp_putI (pc := 2) d_X12_readProblem_2 fl_X12_321 (fun _ _ _ => rfl) (Or.inl rfl) ho1 (okI_int _) ?_
  refine wp_nm (fun G2 eG2 => ?_)
  have h := h G2 eG2
  have ho3 := isO_sI eG2 ho1
  refine wp_aload_n (pc := 5) d_X12_readProblem_5 rfl ?_
  refine wp_iconst (pc := 6) (v := 0) d_X12_readProblem_6 rfl ?_
  refine wp_putI (pc := 7) d_X12_readProblem_7 fl_X12_224 (fun _ _ _ => rfl) (Or.inl rfl) ho3 okI_z0 ?_
  refine wp_nm (fun G4 eG4 => ?_)
  have h := h G4 eG4
  have ho5 := isO_sI eG4 ho3
  refine wp_aload_n (pc := 10) d_X12_readProblem_10 rfl ?_
  refine wp_sipush (pc := 11) (v := 20000) d_X12_readProblem_11 rfl ?_
  refine wp_iload_n (pc := 14) d_X12_readProblem_14 rfl ?_
  refine wp_imul (pc := 15) d_X12_readProblem_15 ?_
  refine wp_putI (pc := 16) d_X12_readProblem_16 fl_X12_228 (fun _ _ _ => rfl) (Or.inl rfl) ho5 (okI_int _) ?_
  refine wp_nm (fun G6 eG6 => ?_)
  have h := h G6 eG6
  have ho7 := isO_sI eG6 ho5
  refine wp_aload_n (pc := 19) d_X12_readProblem_19 rfl ?_
  refine wp_aload_n (pc := 20) d_X12_readProblem_20 rfl ?_
  refine wp_getR (pc := 21) d_X12_readProblem_21 fl_X12_27 (fun _ _ _ => rfl) ho7 ?_
  refine wp_iload_n (pc := 24) d_X12_readProblem_24 rfl ?_
  obtain ⟨ho8, h⟩ := h
  obtain ⟨hi9, h⟩ := h
  refine wp_iald (pc := 25) d_X12_readProblem_25 ho8 hi9 ?_
  refine wp_putI (pc := 26) d_X12_readProblem_26 fl_X12_221 (fun _ _ _ => rfl) (Or.inl rfl) ho7 (okI_int _) ?_
  refine wp_nm (fun G10 eG10 => ?_)
  have h := h G10 eG10
  have ho11 := isO_sI eG10 ho7
  refine wp_aload_n (pc := 29) d_X12_readProblem_29 rfl ?_
  refine wp_iconst (pc := 30) (v := 0) d_X12_readProblem_30 rfl ?_
  refine wp_putI (pc := 31) d_X12_readProblem_31 fl_X12_231 (fun _ _ _ => rfl) (Or.inl rfl) ho11 (okI_int _) ?_
  refine wp_nm (fun G12 eG12 => ?_)
  have h := h G12 eG12
  have ho13 := isO_sI eG12 ho11
  refine wp_aload_n (pc := 34) d_X12_readProblem_34 rfl ?_
  refine wp_iconst (pc := 35) (v := 0) d_X12_readProblem_35 rfl ?_
  refine wp_putI (pc := 36) d_X12_readProblem_36 fl_X12_311 (fun _ _ _ => rfl) (Or.inl rfl) ho13 (okI_int _) ?_
  refine wp_nm (fun G14 eG14 => ?_)
  have h := h G14 eG14
  have ho15 := isO_sI eG14 ho13
  refine wp_aload_n (pc := 39) d_X12_readProblem_39 rfl ?_
  refine wp_getR (pc := 40) d_X12_readProblem_40 fl_X12_43 (fun _ _ _ => rfl) ho15 ?_
  refine wp_iload_n (pc := 43) d_X12_readProblem_43 rfl ?_
  refine wp_iconst (pc := 44) (v := 0) d_X12_readProblem_44 rfl ?_
  obtain ⟨ho16, h⟩ := h
  obtain ⟨hi17, h⟩ := h
  refine wp_iast (pc := 45) d_X12_readProblem_45 ho16 hi17 ?_
  refine wp_nm (fun G18 eG18 => ?_)
  have h := h G18 eG18
  have ho19 := isO_sI eG18 ho15
  refine wp_aload_n (pc := 46) d_X12_readProblem_46 rfl ?_
  refine wp_getR (pc := 47) d_X12_readProblem_47 fl_X12_49 (fun _ _ _ => rfl) ho19 ?_
  refine wp_iload_n (pc := 50) d_X12_readProblem_50 rfl ?_
  refine wp_iconst (pc := 51) (v := 0) d_X12_readProblem_51 rfl ?_
  obtain ⟨ho20, h⟩ := h
  obtain ⟨hi21, h⟩ := h
  refine wp_iast (pc := 52) d_X12_readProblem_52 ho20 hi21 ?_
  refine wp_nm (fun G22 eG22 => ?_)
  have h := h G22 eG22
  have ho23 := isO_sI eG22 ho19
  refine wp_iconst (pc := 53) (v := 0) d_X12_readProblem_53 rfl ?_
  refine wp_istore_n (pc := 54) (lv' := [some (vr _), some (vi _), some (vi _), none]) d_X12_readProblem_54 (by decide) rfl ?_
  refine wp_sub ?_ h
  exact ⟨rfl, ⟨rfl, ⟨rfl, trivial⟩⟩⟩
theorem v_X12_readProblem_55 {E : EE} {d : Nat} {Q : Option AV → AH → Prop} {x0 : Nat} {x1 : Int32} {x2 : Int32} {G : AH} (h0 : 0 < d) (h : (4 ≤ x2 → isO E G x0 12 ∧ (isO E G (gR G x0 25) 14 ∧ (vp_in x1 (gN G (gR G x0 25)) ∧ (∀ G4 : AH, G4 = sI G (gR G x0 25) (Int32.toNatClampNeg x1) 1 → isO E G4 (gR G4 x0 26) 14 ∧ (vp_in x1 (gN G4 (gR G4 x0 26)) ∧ (∀ G8 : AH, G8 = sI G4 (gR G4 x0 26) (Int32.toNatClampNeg x1) 0 → isO E G8 (gR G8 x0 32) 14 ∧ (vp_in x1 (gN G8 (gR G8 x0 32)) ∧ (∀ G12 : AH, G12 = sI G8 (gR G8 x0 32) (Int32.toNatClampNeg x1) 0 → wpV E (d - 1) M_X12_next [vr x0] G12 (fun G14 => isO E G14 x0 12 ∧ (wpV E (d - 1) M_X12_statement [vr x0] G14 (fun G15 => wp E d M_X12_readProblem 106 [some (vr x0), some (vi x1), some (vi x2), none] [] G15 Q))))))))))) ∧ (¬ (4 ≤ x2) → isO E G x0 12 ∧ (isO E G (gR G x0 17) 14 ∧ (vp_in ((4 * x1) + x2) (gN G (gR G x0 17)) ∧ (∀ G20 : AH, G20 = sI G (gR G x0 17) (Int32.toNatClampNeg ((4 * x1) + x2)) 0 → wp E d M_X12_readProblem 55 [some (vr x0), some (vi x1), some (vi (x2 + 1)), none] [] G20 Q))))) : wp E d M_X12_readProblem 55 [some (vr x0), some (vi x1), some (vi x2), none] [] G Q := by
  refine wp_iload_n (pc := 55) d_X12_readProblem_55 rfl ?_
  refine wp_iconst (pc := 56) (v := 4) d_X12_readProblem_56 rfl ?_
  refine wp_icmp_ge (pc := 57) (tgt := 77) d_X12_readProblem_57 (by decide) (fun hc => ?_) (fun hc => ?_)
  · have h := h.1 hc
    refine wp_aload_n (pc := 77) d_X12_readProblem_77 rfl ?_
    obtain ⟨ho1, h⟩ := h
    refine wp_getR (pc := 78) d_X12_readProblem_78 fl_X12_82 (fun _ _ _ => rfl) ho1 ?_
    refine wp_iload_n (pc := 81) d_X12_readProblem_81 rfl ?_
    refine wp_iconst (pc := 82) (v := 1) d_X12_readProblem_82 rfl ?_
    obtain ⟨ho2, h⟩ := h
    obtain ⟨hi3, h⟩ := h
    refine wp_iast (pc := 83) d_X12_readProblem_83 ho2 hi3 ?_
    refine wp_nm (fun G4 eG4 => ?_)
    have h := h G4 eG4
    have ho5 := isO_sI eG4 ho1
    refine wp_aload_n (pc := 84) d_X12_readProblem_84 rfl ?_
    refine wp_getR (pc := 85) d_X12_readProblem_85 fl_X12_85 (fun _ _ _ => rfl) ho5 ?_
    refine wp_iload_n (pc := 88) d_X12_readProblem_88 rfl ?_
    refine wp_iconst (pc := 89) (v := 0) d_X12_readProblem_89 rfl ?_
    obtain ⟨ho6, h⟩ := h
    obtain ⟨hi7, h⟩ := h
    refine wp_iast (pc := 90) d_X12_readProblem_90 ho6 hi7 ?_
    refine wp_nm (fun G8 eG8 => ?_)
    have h := h G8 eG8
    have ho9 := isO_sI eG8 ho5
    refine wp_aload_n (pc := 91) d_X12_readProblem_91 rfl ?_
    refine wp_getR (pc := 92) d_X12_readProblem_92 fl_X12_103 (fun _ _ _ => rfl) ho9 ?_
    refine wp_iload_n (pc := 95) d_X12_readProblem_95 rfl ?_
    refine wp_iconst (pc := 96) (v := 0) d_X12_readProblem_96 rfl ?_
    obtain ⟨ho10, h⟩ := h
    obtain ⟨hi11, h⟩ := h
    refine wp_iast (pc := 97) d_X12_readProblem_97 ho10 hi11 ?_
    refine wp_nm (fun G12 eG12 => ?_)
    have h := h G12 eG12
    have ho13 := isO_sI eG12 ho9
    refine wp_aload_n (pc := 98) d_X12_readProblem_98 rfl ?_
    refine wp_invV (pc := 99) (N := M_X12_next) (As := []) (rest := []) (r := (cn_12, ct_12, 95)) d_X12_readProblem_99 ml_X12_324 mk_X12_next mv_X12_next h0 ho13 rfl rfl (Nat.le_of_ble_eq_true rfl) ?_
    refine wpM.mono h (fun rr G14 hr => ?_)
    obtain ⟨rfl, h⟩ := hr
    show wp E d M_X12_readProblem 102 [some (vr _), some (vi _), some (vi _), none] [] G14 Q
    refine wp_aload_n (pc := 102) d_X12_readProblem_102 rfl ?_
    obtain ⟨ho16, h⟩ := h
    refine wp_invV (pc := 103) (N := M_X12_statement) (As := []) (rest := []) (r := (cn_12, ct_12, 95)) d_X12_readProblem_103 ml_X12_439 mk_X12_statement mv_X12_statement h0 ho16 rfl rfl (Nat.le_of_ble_eq_true rfl) ?_
    refine wpM.mono h (fun rr G15 hr => ?_)
    obtain ⟨rfl, h⟩ := hr
    show wp E d M_X12_readProblem 106 [some (vr _), some (vi _), some (vi _), none] [] G15 Q
    refine wp_sub ?_ h
    exact ⟨rfl, ⟨rfl, ⟨rfl, trivial⟩⟩⟩
  · have h := h.2 hc
    refine wp_aload_n (pc := 60) d_X12_readProblem_60 rfl ?_
    obtain ⟨ho17, h⟩ := h
    refine wp_getR (pc := 61) d_X12_readProblem_61 fl_X12_58 (fun _ _ _ => rfl) ho17 ?_
    refine wp_iconst (pc := 64) (v := 4) d_X12_readProblem_64 rfl ?_
    refine wp_iload_n (pc := 65) d_X12_readProblem_65 rfl ?_
    refine wp_imul (pc := 66) d_X12_readProblem_66 ?_
    refine wp_iload_n (pc := 67) d_X12_readProblem_67 rfl ?_
    refine wp_iadd (pc := 68) d_X12_readProblem_68 ?_
    refine wp_iconst (pc := 69) (v := 0) d_X12_readProblem_69 rfl ?_
    obtain ⟨ho18, h⟩ := h
    obtain ⟨hi19, h⟩ := h
    refine wp_iast (pc := 70) d_X12_readProblem_70 ho18 hi19 ?_
    refine wp_nm (fun G20 eG20 => ?_)
    have h := h G20 eG20
    have ho21 := isO_sI eG20 ho17
    refine wp_iinc (pc := 71) (v := 1) (lv' := [some (vr _), some (vi _), some (vi _), none]) d_X12_readProblem_71 (by decide) rfl rfl rfl ?_
    refine wp_goto (pc := 74) (tgt := 55) d_X12_readProblem_74 (by decide) ?_
    refine wp_sub ?_ h
    exact ⟨rfl, ⟨rfl, ⟨rfl, trivial⟩⟩⟩
theorem v_X12_readProblem_106 {E : EE} {d : Nat} {Q : Option AV → AH → Prop} {x0 : Nat} {x1 : Int32} {x2 : Int32} {G : AH} (h0 : 0 < d) (h : isO E G x0 12 ∧ ((¬ (gI G x0 45) = 0 → wp E d M_X12_readProblem 127 [some (vr x0), some (vi x1), some (vi x2), none] [] G Q) ∧ ((gI G x0 45) = 0 → ((gI G x0 41) = 0 → wp E d M_X12_readProblem 127 [some (vr x0), some (vi x1), some (vi x2), none] [] G Q) ∧ (¬ ((gI G x0 41) = 0) → wpV E (d - 1) M_X12_statement [vr x0] G (fun G2 => wp E d M_X12_readProblem 106 [some (vr x0), some (vi x1), some (vi x2), none] [] G2 Q))))) : wp E d M_X12_readProblem 106 [some (vr x0), some (vi x1), some (vi x2), none] [] G Q := by
  refine wp_aload_n (pc := 106) d_X12_readProblem_106 rfl ?_
  obtain ⟨ho1, h⟩ := h
  refine wp_getI (pc := 107) d_X12_readProblem_107 fl_X12_311 (fun _ _ _ => rfl) ho1 ?_
  refine wp_if_ne (pc := 110) (tgt := 127) d_X12_readProblem_110 (by decide) (fun hc => ?_) (fun hc => ?_)
  · have h := h.1 hc
    refine wp_sub ?_ h
    exact ⟨rfl, ⟨rfl, ⟨rfl, trivial⟩⟩⟩
  · have h := h.2 hc
    refine wp_aload_n (pc := 113) d_X12_readProblem_113 rfl ?_
    refine wp_getI (pc := 114) d_X12_readProblem_114 fl_X12_292 (fun _ _ _ => rfl) ho1 ?_
    refine wp_if_eq (pc := 117) (tgt := 127) d_X12_readProblem_117 (by decide) (fun hc => ?_) (fun hc => ?_)
    · have h := h.1 hc
      refine wp_sub ?_ h
      exact ⟨rfl, ⟨rfl, ⟨rfl, trivial⟩⟩⟩
    · have h := h.2 hc
      refine wp_aload_n (pc := 120) d_X12_readProblem_120 rfl ?_
      refine wp_invV (pc := 121) (N := M_X12_statement) (As := []) (rest := []) (r := (cn_12, ct_12, 95)) d_X12_readProblem_121 ml_X12_439 mk_X12_statement mv_X12_statement h0 ho1 rfl rfl (Nat.le_of_ble_eq_true rfl) ?_
      refine wpM.mono h (fun rr G2 hr => ?_)
      obtain ⟨rfl, h⟩ := hr
      show wp E d M_X12_readProblem 124 [some (vr _), some (vi _), some (vi _), none] [] G2 Q
      refine wp_goto (pc := 124) (tgt := 106) d_X12_readProblem_124 (by decide) ?_
      refine wp_sub ?_ h
      exact ⟨rfl, ⟨rfl, ⟨rfl, trivial⟩⟩⟩
theorem v_X12_readProblem_127 {E : EE} {d : Nat} {Q : Option AV → AH → Prop} {x0 : Nat} {x1 : Int32} {x2 : Int32} {G : AH} (h : isO E G x0 12 ∧ ((¬ (gI G x0 45) = 0 → wp E d M_X12_readProblem 179 [some (vr x0), some (vi x1), some (vi x2), none] [] G Q) ∧ ((gI G x0 45) = 0 → isO E G (gR G x0 17) 14 ∧ (vp_in ((4 * x1) + 1) (gN G (gR G x0 17)) ∧ (((gI G (gR G x0 17) (Int32.toNatClampNeg ((4 * x1) + 1))) = 0 → wp E d M_X12_readProblem 169 [some (vr x0), some (vi x1), some (vi x2), none] [] G Q) ∧ (¬ ((gI G (gR G x0 17) (Int32.toNatClampNeg ((4 * x1) + 1))) = 0) → isO E G (gR G x0 25) 14 ∧ (vp_in x1 (gN G (gR G x0 25)) ∧ (isO E G (gR G x0 12) 14 ∧ (vp_in x1 (gN G (gR G x0 12)) ∧ ((((Int32.toInt64 (gI G (gR G x0 25) (Int32.toNatClampNeg x1))) * (Int32.toInt64 (gI G (gR G x0 12) (Int32.toNatClampNeg x1)))) ≤ 20000000 → wp E d M_X12_readProblem 179 [some (vr x0), some (vi x1), some (vi x2), none] [] G Q) ∧ (¬ (((Int32.toInt64 (gI G (gR G x0 25) (Int32.toNatClampNeg x1))) * (Int32.toInt64 (gI G (gR G x0 12) (Int32.toNatClampNeg x1)))) ≤ 20000000) → wp E d M_X12_readProblem 169 [some (vr x0), some (vi x1), some (vi x2), none] [] G Q))))))))))) : wp E d M_X12_readProblem 127 [some (vr x0), some (vi x1), some (vi x2), none] [] G Q := by
  refine wp_aload_n (pc := 127) d_X12_readProblem_127 rfl ?_
  obtain ⟨ho1, h⟩ := h
  refine wp_getI (pc := 128) d_X12_readProblem_128 fl_X12_311 (fun _ _ _ => rfl) ho1 ?_
  refine wp_if_ne (pc := 131) (tgt := 179) d_X12_readProblem_131 (by decide) (fun hc => ?_) (fun hc => ?_)
  · have h := h.1 hc
    refine wp_sub ?_ h
    exact ⟨rfl, ⟨rfl, ⟨rfl, trivial⟩⟩⟩
  · have h := h.2 hc
    refine wp_aload_n (pc := 134) d_X12_readProblem_134 rfl ?_
    refine wp_getR (pc := 135) d_X12_readProblem_135 fl_X12_58 (fun _ _ _ => rfl) ho1 ?_
    refine wp_iconst (pc := 138) (v := 4) d_X12_readProblem_138 rfl ?_
    refine wp_iload_n (pc := 139) d_X12_readProblem_139 rfl ?_
    refine wp_imul (pc := 140) d_X12_readProblem_140 ?_
    refine wp_iconst (pc := 141) (v := 1) d_X12_readProblem_141 rfl ?_
    refine wp_iadd (pc := 142) d_X12_readProblem_142 ?_
    obtain ⟨ho2, h⟩ := h
    obtain ⟨hi3, h⟩ := h
    refine wp_iald (pc := 143) d_X12_readProblem_143 ho2 hi3 ?_
    refine wp_if_eq (pc := 144) (tgt := 169) d_X12_readProblem_144 (by decide) (fun hc => ?_) (fun hc => ?_)
    · have h := h.1 hc
      refine wp_sub ?_ h
      exact ⟨rfl, ⟨rfl, ⟨rfl, trivial⟩⟩⟩
    · have h := h.2 hc
      refine wp_aload_n (pc := 147) d_X12_readProblem_147 rfl ?_
      refine wp_getR (pc := 148) d_X12_readProblem_148 fl_X12_82 (fun _ _ _ => rfl) ho1 ?_
      refine wp_iload_n (pc := 151) d_X12_readProblem_151 rfl ?_
      obtain ⟨ho4, h⟩ := h
      obtain ⟨hi5, h⟩ := h
      refine wp_iald (pc := 152) d_X12_readProblem_152 ho4 hi5 ?_
      refine wp_i2l (pc := 153) d_X12_readProblem_153 ?_
      refine wp_aload_n (pc := 154) d_X12_readProblem_154 rfl ?_
      refine wp_getR (pc := 155) d_X12_readProblem_155 fl_X12_43 (fun _ _ _ => rfl) ho1 ?_
      refine wp_iload_n (pc := 158) d_X12_readProblem_158 rfl ?_
      obtain ⟨ho6, h⟩ := h
      obtain ⟨hi7, h⟩ := h
      refine wp_iald (pc := 159) d_X12_readProblem_159 ho6 hi7 ?_
      refine wp_i2l (pc := 160) d_X12_readProblem_160 ?_
      refine wp_lmul (pc := 161) d_X12_readProblem_161 ?_
      refine wp_ldc2 (pc := 162) (v := 20000000) d_X12_readProblem_162 cj_X12_442 ?_
      refine wp_lcmp_le (pc := 165) (tgt := 179) d_X12_readProblem_165 d_X12_readProblem_166 (by decide) (fun hc => ?_) (fun hc => ?_)
      · have h := h.1 hc
        refine wp_sub ?_ h
        exact ⟨rfl, ⟨rfl, ⟨rfl, trivial⟩⟩⟩
      · have h := h.2 hc
        refine wp_sub ?_ h
        exact ⟨rfl, ⟨rfl, ⟨rfl, trivial⟩⟩⟩
theorem v_X12_readProblem_169 {E : EE} {d : Nat} {Q : Option AV → AH → Prop} {x0 : Nat} {x1 : Int32} {x2 : Int32} {G : AH} (h0 : 0 < d) (h : isO E G x0 12 ∧ (wpV E (d - 1) M_X12_fail [vr x0, vi 6, vi (gI G x0 39)] G (fun G2 => wp E d M_X12_readProblem 179 [some (vr x0), some (vi x1), some (vi x2), none] [] G2 Q))) : wp E d M_X12_readProblem 169 [some (vr x0), some (vi x1), some (vi x2), none] [] G Q := by
  refine wp_aload_n (pc := 169) d_X12_readProblem_169 rfl ?_
  refine wp_bipush (pc := 170) (v := 6) d_X12_readProblem_170 rfl ?_
  refine wp_aload_n (pc := 172) d_X12_readProblem_172 rfl ?_
  obtain ⟨ho1, h⟩ := h
  refine wp_getI (pc := 173) d_X12_readProblem_173 fl_X12_221 (fun _ _ _ => rfl) ho1 ?_
  refine wp_invV (pc := 176) (N := M_X12_fail) (As := [vi _, vi _]) (rest := []) (r := (cn_12, ct_12, 95)) d_X12_readProblem_176 ml_X12_317 mk_X12_fail mv_X12_fail h0 ho1 rfl rfl (Nat.le_of_ble_eq_true rfl) ?_
  refine wpM.mono h (fun rr G2 hr => ?_)
  obtain ⟨rfl, h⟩ := hr
  show wp E d M_X12_readProblem 179 [some (vr _), some (vi _), some (vi _), none] [] G2 Q
  refine wp_sub ?_ h
  exact ⟨rfl, ⟨rfl, ⟨rfl, trivial⟩⟩⟩
theorem v_X12_readProblem_179 {E : EE} {d : Nat} {Q : Option AV → AH → Prop} {x0 : Nat} {x1 : Int32} {x2 : Int32} {G : AH} (h : isO E G x0 12 ∧ (isO E G (gR G x0 17) 14 ∧ (vp_in ((4 * x1) + 1) (gN G (gR G x0 17)) ∧ (wp E d M_X12_readProblem 194 [some (vr x0), some (vi x1), some (vi 1), some (vi ((gI G (gR G x0 17) (Int32.toNatClampNeg ((4 * x1) + 1))) - 1))] [] G Q)))) : wp E d M_X12_readProblem 179 [some (vr x0), some (vi x1), some (vi x2), none] [] G Q := by
  refine wp_iconst (pc := 179) (v := 1) d_X12_readProblem_179 rfl ?_
  refine wp_istore_n (pc := 180) (lv' := [some (vr _), some (vi _), some (vi _), none]) d_X12_readProblem_180 (by decide) rfl ?_
  refine wp_aload_n (pc := 181) d_X12_readProblem_181 rfl ?_
  obtain ⟨ho1, h⟩ := h
  refine wp_getR (pc := 182) d_X12_readProblem_182 fl_X12_58 (fun _ _ _ => rfl) ho1 ?_
  refine wp_iconst (pc := 185) (v := 4) d_X12_readProblem_185 rfl ?_
  refine wp_iload_n (pc := 186) d_X12_readProblem_186 rfl ?_
  refine wp_imul (pc := 187) d_X12_readProblem_187 ?_
  refine wp_iconst (pc := 188) (v := 1) d_X12_readProblem_188 rfl ?_
  refine wp_iadd (pc := 189) d_X12_readProblem_189 ?_
  obtain ⟨ho2, h⟩ := h
  obtain ⟨hi3, h⟩ := h
  refine wp_iald (pc := 190) d_X12_readProblem_190 ho2 hi3 ?_
  refine wp_iconst (pc := 191) (v := 1) d_X12_readProblem_191 rfl ?_
  refine wp_isub (pc := 192) d_X12_readProblem_192 ?_
  refine wp_istore_n (pc := 193) (lv' := [some (vr _), some (vi _), some (vi _), some (vi _)]) d_X12_readProblem_193 (by decide) rfl ?_
  refine wp_sub ?_ h
  exact ⟨rfl, ⟨rfl, ⟨rfl, ⟨rfl, trivial⟩⟩⟩⟩
theorem v_X12_readProblem_194 {E : EE} {d : Nat} {Q : Option AV → AH → Prop} {x0 : Nat} {x1 : Int32} {x2 : Int32} {x3 : Int32} {G : AH} (h : (x3 < 0 → isO E G x0 12 ∧ (isO E G (gR G x0 36) 14 ∧ (vp_in x1 (gN G (gR G x0 36)) ∧ (vp_in x1 (gN G (gR G x0 36)) ∧ ((¬ (gI (sI G (gR G x0 36) (Int32.toNatClampNeg x1) ((gI G (gR G x0 36) (Int32.toNatClampNeg x1)) + 1)) x0 45) = 0 → Q (some (vi 0)) (sI G (gR G x0 36) (Int32.toNatClampNeg x1) ((gI G (gR G x0 36) (Int32.toNatClampNeg x1)) + 1))) ∧ ((gI (sI G (gR G x0 36) (Int32.toNatClampNeg x1) ((gI G (gR G x0 36) (Int32.toNatClampNeg x1)) + 1)) x0 45) = 0 → Q (some (vi 1)) (sI G (gR G x0 36) (Int32.toNatClampNeg x1) ((gI G (gR G x0 36) (Int32.toNatClampNeg x1)) + 1)))))))) ∧ (¬ (x3 < 0) → isO E G x0 12 ∧ (isO E G (gR G x0 20) 14 ∧ (vp_in ((12 * x1) + x3) (gN G (gR G x0 20)) ∧ (isO E G (gR G x0 19) 14 ∧ (vp_in ((12 * x1) + x3) (gN G (gR G x0 19)) ∧ (wp E d M_X12_readProblem 194 [some (vr x0), some (vi x1), some (vi (x2 * (gI (sI G (gR G x0 20) (Int32.toNatClampNeg ((12 * x1) + x3)) x2) (gR G x0 19) (Int32.toNatClampNeg ((12 * x1) + x3))))), some (vi (x3 + (-1)))] [] (sI G (gR G x0 20) (Int32.toNatClampNeg ((12 * x1) + x3)) x2) Q))))))) : wp E d M_X12_readProblem 194 [some (vr x0), some (vi x1), some (vi x2), some (vi x3)] [] G Q := by
  refine wp_iload_n (pc := 194) d_X12_readProblem_194 rfl ?_
  refine wp_if_lt (pc := 195) (tgt := 230) d_X12_readProblem_195 (by decide) (fun hc => ?_) (fun hc => ?_)
  · have h := h.1 hc
    refine wp_aload_n (pc := 230) d_X12_readProblem_230 rfl ?_
    obtain ⟨ho1, h⟩ := h
    refine wp_getR (pc := 231) d_X12_readProblem_231 fl_X12_115 (fun _ _ _ => rfl) ho1 ?_
    refine wp_iload_n (pc := 234) d_X12_readProblem_234 rfl ?_
    refine wp_dup2 (pc := 235) d_X12_readProblem_235 (c1_i _) (c1_r _) ?_
    obtain ⟨ho2, h⟩ := h
    obtain ⟨hi3, h⟩ := h
    refine wp_iald (pc := 236) d_X12_readProblem_236 ho2 hi3 ?_
    refine wp_iconst (pc := 237) (v := 1) d_X12_readProblem_237 rfl ?_
    refine wp_iadd (pc := 238) d_X12_readProblem_238 ?_
    obtain ⟨hi4, h⟩ := h
    refine wp_iast (pc := 239) d_X12_readProblem_239 ho2 hi4 ?_
    refine wp_aload_n (pc := 240) d_X12_readProblem_240 rfl ?_
    refine wp_getI (pc := 241) d_X12_readProblem_241 fl_X12_311 (fun _ _ _ => rfl) ho1 ?_
    refine wp_if_ne (pc := 244) (tgt := 251) d_X12_readProblem_244 (by decide) (fun hc => ?_) (fun hc => ?_)
    · have h := h.1 hc
      refine wp_iconst (pc := 251) (v := 0) d_X12_readProblem_251 rfl ?_
      exact wp_zret (pc := 252) d_X12_readProblem_252 rfl rfl h
    · have h := h.2 hc
      refine wp_iconst (pc := 247) (v := 1) d_X12_readProblem_247 rfl ?_
      refine wp_goto (pc := 248) (tgt := 252) d_X12_readProblem_248 (by decide) ?_
      exact wp_zret (pc := 252) d_X12_readProblem_252 rfl rfl h
  · have h := h.2 hc
    refine wp_aload_n (pc := 198) d_X12_readProblem_198 rfl ?_
    obtain ⟨ho5, h⟩ := h
    refine wp_getR (pc := 199) d_X12_readProblem_199 fl_X12_67 (fun _ _ _ => rfl) ho5 ?_
    refine wp_bipush (pc := 202) (v := 12) d_X12_readProblem_202 rfl ?_
    refine wp_iload_n (pc := 204) d_X12_readProblem_204 rfl ?_
    refine wp_imul (pc := 205) d_X12_readProblem_205 ?_
    refine wp_iload_n (pc := 206) d_X12_readProblem_206 rfl ?_
    refine wp_iadd (pc := 207) d_X12_readProblem_207 ?_
    refine wp_iload_n (pc := 208) d_X12_readProblem_208 rfl ?_
    obtain ⟨ho6, h⟩ := h
    obtain ⟨hi7, h⟩ := h
    refine wp_iast (pc := 209) d_X12_readProblem_209 ho6 hi7 ?_
    refine wp_iload_n (pc := 210) d_X12_readProblem_210 rfl ?_
    refine wp_aload_n (pc := 211) d_X12_readProblem_211 rfl ?_
    refine wp_getR (pc := 212) d_X12_readProblem_212 fl_X12_64 (fun _ _ _ => rfl) ho5 ?_
    show wp E d M_X12_readProblem 215 [some (vr x0), some (vi x1), some (vi x2), some (vi x3)] [vr (gR G x0 19), vi x2] (sI G (gR G x0 20) (Int32.toNatClampNeg ((12 * x1) + x3)) x2) Q
    refine wp_bipush (pc := 215) (v := 12) d_X12_readProblem_215 rfl ?_
    refine wp_iload_n (pc := 217) d_X12_readProblem_217 rfl ?_
    refine wp_imul (pc := 218) d_X12_readProblem_218 ?_
    refine wp_iload_n (pc := 219) d_X12_readProblem_219 rfl ?_
    refine wp_iadd (pc := 220) d_X12_readProblem_220 ?_
    obtain ⟨ho8, h⟩ := h
    obtain ⟨hi9, h⟩ := h
    refine wp_iald (pc := 221) d_X12_readProblem_221 ho8 hi9 ?_
    refine wp_imul (pc := 222) d_X12_readProblem_222 ?_
    refine wp_istore_n (pc := 223) (lv' := [some (vr _), some (vi _), some (vi _), some (vi _)]) d_X12_readProblem_223 (by decide) rfl ?_
    refine wp_iinc (pc := 224) (v := (-1)) (lv' := [some (vr _), some (vi _), some (vi _), some (vi _)]) d_X12_readProblem_224 (by decide) rfl rfl rfl ?_
    refine wp_goto (pc := 227) (tgt := 194) d_X12_readProblem_227 (by decide) ?_
    refine wp_sub ?_ h
    exact ⟨rfl, ⟨rfl, ⟨rfl, ⟨rfl, trivial⟩⟩⟩⟩
theorem d_X12_next_0 : decode prog_14_method_13_code 0 = .ok (.aload_n 0, 1) := by decide +kernel
theorem d_X12_next_1 : decode prog_14_method_13_code 1 = .ok (.invokevirtual 289, 3) := by decide +kernel
theorem d_X12_next_4 : decode prog_14_method_13_code 4 = .ok (.aload_n 0, 1) := by decide +kernel
theorem d_X12_next_5 : decode prog_14_method_13_code 5 = .ok (.aload_n 0, 1) := by decide +kernel
theorem d_X12_next_6 : decode prog_14_method_13_code 6 = .ok (.getfield 231, 3) := by decide +kernel
theorem d_X12_next_9 : decode prog_14_method_13_code 9 = .ok (.putfield 241, 3) := by decide +kernel
theorem d_X12_next_12 : decode prog_14_method_13_code 12 = .ok (.aload_n 0, 1) := by decide +kernel
theorem d_X12_next_13 : decode prog_14_method_13_code 13 = .ok (.aload_n 0, 1) := by decide +kernel
theorem d_X12_next_14 : decode prog_14_method_13_code 14 = .ok (.getfield 231, 3) := by decide +kernel
theorem d_X12_next_17 : decode prog_14_method_13_code 17 = .ok (.putfield 238, 3) := by decide +kernel
theorem d_X12_next_20 : decode prog_14_method_13_code 20 = .ok (.aload_n 0, 1) := by decide +kernel
theorem d_X12_next_21 : decode prog_14_method_13_code 21 = .ok (.getfield 231, 3) := by decide +kernel
theorem d_X12_next_24 : decode prog_14_method_13_code 24 = .ok (.aload_n 0, 1) := by decide +kernel
theorem d_X12_next_25 : decode prog_14_method_13_code 25 = .ok (.getfield 221, 3) := by decide +kernel
theorem d_X12_next_28 : decode prog_14_method_13_code 28 = .ok (.if_icmp .lt 9, 3) := by decide +kernel
theorem d_X12_next_31 : decode prog_14_method_13_code 31 = .ok (.aload_n 0, 1) := by decide +kernel
theorem d_X12_next_32 : decode prog_14_method_13_code 32 = .ok (.iconst 0, 1) := by decide +kernel
theorem d_X12_next_33 : decode prog_14_method_13_code 33 = .ok (.putfield 292, 3) := by decide +kernel
theorem d_X12_next_36 : decode prog_14_method_13_code 36 = .ok (.return_, 1) := by decide +kernel
theorem d_X12_next_37 : decode prog_14_method_13_code 37 = .ok (.aload_n 0, 1) := by decide +kernel
theorem d_X12_next_38 : decode prog_14_method_13_code 38 = .ok (.aload_n 0, 1) := by decide +kernel
theorem d_X12_next_39 : decode prog_14_method_13_code 39 = .ok (.getfield 231, 3) := by decide +kernel
theorem d_X12_next_42 : decode prog_14_method_13_code 42 = .ok (.invokevirtual 234, 3) := by decide +kernel
theorem d_X12_next_45 : decode prog_14_method_13_code 45 = .ok (.istore_n 1, 1) := by decide +kernel
theorem d_X12_next_46 : decode prog_14_method_13_code 46 = .ok (.iload_n 1, 1) := by decide +kernel
theorem d_X12_next_47 : decode prog_14_method_13_code 47 = .ok (.invokestatic 295, 3) := by decide +kernel
theorem d_X12_next_50 : decode prog_14_method_13_code 50 = .ok (.ifCond .eq 84, 3) := by decide +kernel
theorem d_X12_next_53 : decode prog_14_method_13_code 53 = .ok (.aload_n 0, 1) := by decide +kernel
theorem d_X12_next_54 : decode prog_14_method_13_code 54 = .ok (.getfield 238, 3) := by decide +kernel
theorem d_X12_next_57 : decode prog_14_method_13_code 57 = .ok (.aload_n 0, 1) := by decide +kernel
theorem d_X12_next_58 : decode prog_14_method_13_code 58 = .ok (.getfield 221, 3) := by decide +kernel
theorem d_X12_next_61 : decode prog_14_method_13_code 61 = .ok (.if_icmp .ge 44, 3) := by decide +kernel
theorem d_X12_next_64 : decode prog_14_method_13_code 64 = .ok (.aload_n 0, 1) := by decide +kernel
theorem d_X12_next_65 : decode prog_14_method_13_code 65 = .ok (.aload_n 0, 1) := by decide +kernel
theorem d_X12_next_66 : decode prog_14_method_13_code 66 = .ok (.getfield 238, 3) := by decide +kernel
theorem d_X12_next_69 : decode prog_14_method_13_code 69 = .ok (.invokevirtual 234, 3) := by decide +kernel
theorem d_X12_next_72 : decode prog_14_method_13_code 72 = .ok (.invokestatic 295, 3) := by decide +kernel
theorem d_X12_next_75 : decode prog_14_method_13_code 75 = .ok (.ifCond .ne 17, 3) := by decide +kernel
theorem d_X12_next_78 : decode prog_14_method_13_code 78 = .ok (.aload_n 0, 1) := by decide +kernel
theorem d_X12_next_79 : decode prog_14_method_13_code 79 = .ok (.aload_n 0, 1) := by decide +kernel
theorem d_X12_next_80 : decode prog_14_method_13_code 80 = .ok (.getfield 238, 3) := by decide +kernel
theorem d_X12_next_83 : decode prog_14_method_13_code 83 = .ok (.invokevirtual 234, 3) := by decide +kernel
theorem d_X12_next_86 : decode prog_14_method_13_code 86 = .ok (.invokestatic 299, 3) := by decide +kernel
theorem d_X12_next_89 : decode prog_14_method_13_code 89 = .ok (.ifCond .eq 16, 3) := by decide +kernel
theorem d_X12_next_92 : decode prog_14_method_13_code 92 = .ok (.aload_n 0, 1) := by decide +kernel
theorem d_X12_next_93 : decode prog_14_method_13_code 93 = .ok (.dup, 1) := by decide +kernel
theorem d_X12_next_94 : decode prog_14_method_13_code 94 = .ok (.getfield 238, 3) := by decide +kernel
theorem d_X12_next_97 : decode prog_14_method_13_code 97 = .ok (.iconst 1, 1) := by decide +kernel
theorem d_X12_next_98 : decode prog_14_method_13_code 98 = .ok (.iadd, 1) := by decide +kernel
theorem d_X12_next_99 : decode prog_14_method_13_code 99 = .ok (.putfield 238, 3) := by decide +kernel
theorem d_X12_next_102 : decode prog_14_method_13_code 102 = .ok (.goto (-49), 3) := by decide +kernel
theorem d_X12_next_105 : decode prog_14_method_13_code 105 = .ok (.aload_n 0, 1) := by decide +kernel
theorem d_X12_next_106 : decode prog_14_method_13_code 106 = .ok (.aload_n 0, 1) := by decide +kernel
theorem d_X12_next_107 : decode prog_14_method_13_code 107 = .ok (.getfield 238, 3) := by decide +kernel
theorem d_X12_next_110 : decode prog_14_method_13_code 110 = .ok (.aload_n 0, 1) := by decide +kernel
theorem d_X12_next_111 : decode prog_14_method_13_code 111 = .ok (.getfield 241, 3) := by decide +kernel
theorem d_X12_next_114 : decode prog_14_method_13_code 114 = .ok (.isub, 1) := by decide +kernel
theorem d_X12_next_115 : decode prog_14_method_13_code 115 = .ok (.bipush 8, 2) := by decide +kernel
theorem d_X12_next_117 : decode prog_14_method_13_code 117 = .ok (.if_icmp .le 7, 3) := by decide +kernel
theorem d_X12_next_120 : decode prog_14_method_13_code 120 = .ok (.iconst 3, 1) := by decide +kernel
theorem d_X12_next_121 : decode prog_14_method_13_code 121 = .ok (.goto 7, 3) := by decide +kernel
theorem d_X12_next_124 : decode prog_14_method_13_code 124 = .ok (.aload_n 0, 1) := by decide +kernel
theorem d_X12_next_125 : decode prog_14_method_13_code 125 = .ok (.invokevirtual 302, 3) := by decide +kernel
theorem d_X12_next_128 : decode prog_14_method_13_code 128 = .ok (.putfield 292, 3) := by decide +kernel
theorem d_X12_next_131 : decode prog_14_method_13_code 131 = .ok (.goto 279, 3) := by decide +kernel
theorem d_X12_next_134 : decode prog_14_method_13_code 134 = .ok (.iload_n 1, 1) := by decide +kernel
theorem d_X12_next_135 : decode prog_14_method_13_code 135 = .ok (.invokestatic 299, 3) := by decide +kernel
theorem d_X12_next_138 : decode prog_14_method_13_code 138 = .ok (.ifCond .eq 114, 3) := by decide +kernel
theorem d_X12_next_141 : decode prog_14_method_13_code 141 = .ok (.aload_n 0, 1) := by decide +kernel
theorem d_X12_next_142 : decode prog_14_method_13_code 142 = .ok (.iconst 0, 1) := by decide +kernel
theorem d_X12_next_143 : decode prog_14_method_13_code 143 = .ok (.putfield 305, 3) := by decide +kernel
theorem d_X12_next_146 : decode prog_14_method_13_code 146 = .ok (.aload_n 0, 1) := by decide +kernel
theorem d_X12_next_147 : decode prog_14_method_13_code 147 = .ok (.getfield 238, 3) := by decide +kernel
theorem d_X12_next_150 : decode prog_14_method_13_code 150 = .ok (.aload_n 0, 1) := by decide +kernel
theorem d_X12_next_151 : decode prog_14_method_13_code 151 = .ok (.getfield 221, 3) := by decide +kernel
theorem d_X12_next_154 : decode prog_14_method_13_code 154 = .ok (.if_icmp .ge 73, 3) := by decide +kernel
theorem d_X12_next_157 : decode prog_14_method_13_code 157 = .ok (.aload_n 0, 1) := by decide +kernel
theorem d_X12_next_158 : decode prog_14_method_13_code 158 = .ok (.aload_n 0, 1) := by decide +kernel
theorem d_X12_next_159 : decode prog_14_method_13_code 159 = .ok (.getfield 238, 3) := by decide +kernel
theorem d_X12_next_162 : decode prog_14_method_13_code 162 = .ok (.invokevirtual 234, 3) := by decide +kernel
theorem d_X12_next_165 : decode prog_14_method_13_code 165 = .ok (.invokestatic 299, 3) := by decide +kernel
theorem d_X12_next_168 : decode prog_14_method_13_code 168 = .ok (.ifCond .eq 59, 3) := by decide +kernel
theorem d_X12_next_171 : decode prog_14_method_13_code 171 = .ok (.aload_n 0, 1) := by decide +kernel
theorem d_X12_next_172 : decode prog_14_method_13_code 172 = .ok (.aload_n 0, 1) := by decide +kernel
theorem d_X12_next_173 : decode prog_14_method_13_code 173 = .ok (.getfield 238, 3) := by decide +kernel
theorem d_X12_next_176 : decode prog_14_method_13_code 176 = .ok (.aload_n 0, 1) := by decide +kernel
theorem d_X12_next_177 : decode prog_14_method_13_code 177 = .ok (.getfield 241, 3) := by decide +kernel
theorem d_X12_next_180 : decode prog_14_method_13_code 180 = .ok (.isub, 1) := by decide +kernel
theorem d_X12_next_181 : decode prog_14_method_13_code 181 = .ok (.iconst 4, 1) := by decide +kernel
theorem d_X12_next_182 : decode prog_14_method_13_code 182 = .ok (.if_icmp .ge 25, 3) := by decide +kernel
theorem d_X12_next_185 : decode prog_14_method_13_code 185 = .ok (.bipush 10, 2) := by decide +kernel
theorem d_X12_next_187 : decode prog_14_method_13_code 187 = .ok (.aload_n 0, 1) := by decide +kernel
theorem d_X12_next_188 : decode prog_14_method_13_code 188 = .ok (.getfield 305, 3) := by decide +kernel
theorem d_X12_next_191 : decode prog_14_method_13_code 191 = .ok (.imul, 1) := by decide +kernel
theorem d_X12_next_192 : decode prog_14_method_13_code 192 = .ok (.aload_n 0, 1) := by decide +kernel
theorem d_X12_next_193 : decode prog_14_method_13_code 193 = .ok (.aload_n 0, 1) := by decide +kernel
theorem d_X12_next_194 : decode prog_14_method_13_code 194 = .ok (.getfield 238, 3) := by decide +kernel
theorem d_X12_next_197 : decode prog_14_method_13_code 197 = .ok (.invokevirtual 234, 3) := by decide +kernel
theorem d_X12_next_200 : decode prog_14_method_13_code 200 = .ok (.iadd, 1) := by decide +kernel
theorem d_X12_next_201 : decode prog_14_method_13_code 201 = .ok (.bipush 48, 2) := by decide +kernel
theorem d_X12_next_203 : decode prog_14_method_13_code 203 = .ok (.isub, 1) := by decide +kernel
theorem d_X12_next_204 : decode prog_14_method_13_code 204 = .ok (.goto 7, 3) := by decide +kernel
theorem d_X12_next_207 : decode prog_14_method_13_code 207 = .ok (.aload_n 0, 1) := by decide +kernel
theorem d_X12_next_208 : decode prog_14_method_13_code 208 = .ok (.getfield 305, 3) := by decide +kernel
theorem d_X12_next_211 : decode prog_14_method_13_code 211 = .ok (.putfield 305, 3) := by decide +kernel
theorem d_X12_next_214 : decode prog_14_method_13_code 214 = .ok (.aload_n 0, 1) := by decide +kernel
theorem d_X12_next_215 : decode prog_14_method_13_code 215 = .ok (.dup, 1) := by decide +kernel
theorem d_X12_next_216 : decode prog_14_method_13_code 216 = .ok (.getfield 238, 3) := by decide +kernel
theorem d_X12_next_219 : decode prog_14_method_13_code 219 = .ok (.iconst 1, 1) := by decide +kernel
theorem d_X12_next_220 : decode prog_14_method_13_code 220 = .ok (.iadd, 1) := by decide +kernel
theorem d_X12_next_221 : decode prog_14_method_13_code 221 = .ok (.putfield 238, 3) := by decide +kernel
theorem d_X12_next_224 : decode prog_14_method_13_code 224 = .ok (.goto (-78), 3) := by decide +kernel
theorem d_X12_next_227 : decode prog_14_method_13_code 227 = .ok (.aload_n 0, 1) := by decide +kernel
theorem d_X12_next_228 : decode prog_14_method_13_code 228 = .ok (.aload_n 0, 1) := by decide +kernel
theorem d_X12_next_229 : decode prog_14_method_13_code 229 = .ok (.getfield 238, 3) := by decide +kernel
theorem d_X12_next_232 : decode prog_14_method_13_code 232 = .ok (.aload_n 0, 1) := by decide +kernel
theorem d_X12_next_233 : decode prog_14_method_13_code 233 = .ok (.getfield 241, 3) := by decide +kernel
theorem d_X12_next_236 : decode prog_14_method_13_code 236 = .ok (.isub, 1) := by decide +kernel
theorem d_X12_next_237 : decode prog_14_method_13_code 237 = .ok (.iconst 4, 1) := by decide +kernel
theorem d_X12_next_238 : decode prog_14_method_13_code 238 = .ok (.if_icmp .le 7, 3) := by decide +kernel
theorem d_X12_next_241 : decode prog_14_method_13_code 241 = .ok (.iconst 3, 1) := by decide +kernel
theorem d_X12_next_242 : decode prog_14_method_13_code 242 = .ok (.goto 4, 3) := by decide +kernel
theorem d_X12_next_245 : decode prog_14_method_13_code 245 = .ok (.iconst 2, 1) := by decide +kernel
theorem d_X12_next_246 : decode prog_14_method_13_code 246 = .ok (.putfield 292, 3) := by decide +kernel
theorem d_X12_next_249 : decode prog_14_method_13_code 249 = .ok (.goto 161, 3) := by decide +kernel
theorem d_X12_next_252 : decode prog_14_method_13_code 252 = .ok (.aload_n 0, 1) := by decide +kernel
theorem d_X12_next_253 : decode prog_14_method_13_code 253 = .ok (.getfield 238, 3) := by decide +kernel
theorem d_X12_next_256 : decode prog_14_method_13_code 256 = .ok (.iconst 1, 1) := by decide +kernel
theorem d_X12_next_257 : decode prog_14_method_13_code 257 = .ok (.iadd, 1) := by decide +kernel
theorem d_X12_next_258 : decode prog_14_method_13_code 258 = .ok (.aload_n 0, 1) := by decide +kernel
theorem d_X12_next_259 : decode prog_14_method_13_code 259 = .ok (.getfield 221, 3) := by decide +kernel
theorem d_X12_next_262 : decode prog_14_method_13_code 262 = .ok (.if_icmp .ge 16, 3) := by decide +kernel
theorem d_X12_next_265 : decode prog_14_method_13_code 265 = .ok (.aload_n 0, 1) := by decide +kernel
theorem d_X12_next_266 : decode prog_14_method_13_code 266 = .ok (.aload_n 0, 1) := by decide +kernel
theorem d_X12_next_267 : decode prog_14_method_13_code 267 = .ok (.getfield 238, 3) := by decide +kernel
theorem d_X12_next_270 : decode prog_14_method_13_code 270 = .ok (.iconst 1, 1) := by decide +kernel
theorem d_X12_next_271 : decode prog_14_method_13_code 271 = .ok (.iadd, 1) := by decide +kernel
theorem d_X12_next_272 : decode prog_14_method_13_code 272 = .ok (.invokevirtual 234, 3) := by decide +kernel
theorem d_X12_next_275 : decode prog_14_method_13_code 275 = .ok (.goto 4, 3) := by decide +kernel
theorem d_X12_next_278 : decode prog_14_method_13_code 278 = .ok (.iconst 0, 1) := by decide +kernel
theorem d_X12_next_279 : decode prog_14_method_13_code 279 = .ok (.istore_n 2, 1) := by decide +kernel
theorem d_X12_next_280 : decode prog_14_method_13_code 280 = .ok (.aload_n 0, 1) := by decide +kernel
theorem d_X12_next_281 : decode prog_14_method_13_code 281 = .ok (.dup, 1) := by decide +kernel
theorem d_X12_next_282 : decode prog_14_method_13_code 282 = .ok (.getfield 238, 3) := by decide +kernel
theorem d_X12_next_285 : decode prog_14_method_13_code 285 = .ok (.iconst 1, 1) := by decide +kernel
theorem d_X12_next_286 : decode prog_14_method_13_code 286 = .ok (.iadd, 1) := by decide +kernel
theorem d_X12_next_287 : decode prog_14_method_13_code 287 = .ok (.putfield 238, 3) := by decide +kernel
theorem d_X12_next_290 : decode prog_14_method_13_code 290 = .ok (.iload_n 1, 1) := by decide +kernel
theorem d_X12_next_291 : decode prog_14_method_13_code 291 = .ok (.bipush 60, 2) := by decide +kernel
theorem d_X12_next_293 : decode prog_14_method_13_code 293 = .ok (.if_icmp .ne 9, 3) := by decide +kernel
theorem d_X12_next_296 : decode prog_14_method_13_code 296 = .ok (.iload_n 2, 1) := by decide +kernel
theorem d_X12_next_297 : decode prog_14_method_13_code 297 = .ok (.bipush 61, 2) := by decide +kernel
theorem d_X12_next_299 : decode prog_14_method_13_code 299 = .ok (.if_icmp .eq 39, 3) := by decide +kernel
theorem d_X12_next_302 : decode prog_14_method_13_code 302 = .ok (.iload_n 1, 1) := by decide +kernel
theorem d_X12_next_303 : decode prog_14_method_13_code 303 = .ok (.bipush 62, 2) := by decide +kernel
theorem d_X12_next_305 : decode prog_14_method_13_code 305 = .ok (.if_icmp .ne 9, 3) := by decide +kernel
theorem d_X12_next_308 : decode prog_14_method_13_code 308 = .ok (.iload_n 2, 1) := by decide +kernel
theorem d_X12_next_309 : decode prog_14_method_13_code 309 = .ok (.bipush 61, 2) := by decide +kernel
theorem d_X12_next_311 : decode prog_14_method_13_code 311 = .ok (.if_icmp .eq 27, 3) := by decide +kernel
theorem d_X12_next_314 : decode prog_14_method_13_code 314 = .ok (.iload_n 1, 1) := by decide +kernel
theorem d_X12_next_315 : decode prog_14_method_13_code 315 = .ok (.bipush 46, 2) := by decide +kernel
theorem d_X12_next_317 : decode prog_14_method_13_code 317 = .ok (.if_icmp .ne 9, 3) := by decide +kernel
theorem d_X12_next_320 : decode prog_14_method_13_code 320 = .ok (.iload_n 2, 1) := by decide +kernel
theorem d_X12_next_321 : decode prog_14_method_13_code 321 = .ok (.bipush 46, 2) := by decide +kernel
theorem d_X12_next_323 : decode prog_14_method_13_code 323 = .ok (.if_icmp .eq 15, 3) := by decide +kernel
theorem d_X12_next_326 : decode prog_14_method_13_code 326 = .ok (.iload_n 1, 1) := by decide +kernel
theorem d_X12_next_327 : decode prog_14_method_13_code 327 = .ok (.bipush 45, 2) := by decide +kernel
theorem d_X12_next_329 : decode prog_14_method_13_code 329 = .ok (.if_icmp .ne 65, 3) := by decide +kernel
theorem d_X12_next_332 : decode prog_14_method_13_code 332 = .ok (.iload_n 2, 1) := by decide +kernel
theorem d_X12_next_333 : decode prog_14_method_13_code 333 = .ok (.bipush 62, 2) := by decide +kernel
theorem d_X12_next_335 : decode prog_14_method_13_code 335 = .ok (.if_icmp .ne 59, 3) := by decide +kernel
theorem d_X12_next_338 : decode prog_14_method_13_code 338 = .ok (.aload_n 0, 1) := by decide +kernel
theorem d_X12_next_339 : decode prog_14_method_13_code 339 = .ok (.iload_n 1, 1) := by decide +kernel
theorem d_X12_next_340 : decode prog_14_method_13_code 340 = .ok (.bipush 60, 2) := by decide +kernel
theorem d_X12_next_342 : decode prog_14_method_13_code 342 = .ok (.if_icmp .ne 9, 3) := by decide +kernel
theorem d_X12_next_345 : decode prog_14_method_13_code 345 = .ok (.sipush 200, 3) := by decide +kernel
theorem d_X12_next_348 : decode prog_14_method_13_code 348 = .ok (.goto 30, 3) := by decide +kernel
theorem d_X12_next_351 : decode prog_14_method_13_code 351 = .ok (.iload_n 1, 1) := by decide +kernel
theorem d_X12_next_352 : decode prog_14_method_13_code 352 = .ok (.bipush 62, 2) := by decide +kernel
theorem d_X12_next_354 : decode prog_14_method_13_code 354 = .ok (.if_icmp .ne 9, 3) := by decide +kernel
theorem d_X12_next_357 : decode prog_14_method_13_code 357 = .ok (.sipush 201, 3) := by decide +kernel
theorem d_X12_next_360 : decode prog_14_method_13_code 360 = .ok (.goto 18, 3) := by decide +kernel
theorem d_X12_next_363 : decode prog_14_method_13_code 363 = .ok (.iload_n 1, 1) := by decide +kernel
theorem d_X12_next_364 : decode prog_14_method_13_code 364 = .ok (.bipush 46, 2) := by decide +kernel
theorem d_X12_next_366 : decode prog_14_method_13_code 366 = .ok (.if_icmp .ne 9, 3) := by decide +kernel
theorem d_X12_next_369 : decode prog_14_method_13_code 369 = .ok (.sipush 202, 3) := by decide +kernel
theorem d_X12_next_372 : decode prog_14_method_13_code 372 = .ok (.goto 6, 3) := by decide +kernel
theorem d_X12_next_375 : decode prog_14_method_13_code 375 = .ok (.sipush 203, 3) := by decide +kernel
theorem d_X12_next_378 : decode prog_14_method_13_code 378 = .ok (.putfield 292, 3) := by decide +kernel
theorem d_X12_next_381 : decode prog_14_method_13_code 381 = .ok (.aload_n 0, 1) := by decide +kernel
theorem d_X12_next_382 : decode prog_14_method_13_code 382 = .ok (.dup, 1) := by decide +kernel
theorem d_X12_next_383 : decode prog_14_method_13_code 383 = .ok (.getfield 238, 3) := by decide +kernel
theorem d_X12_next_386 : decode prog_14_method_13_code 386 = .ok (.iconst 1, 1) := by decide +kernel
theorem d_X12_next_387 : decode prog_14_method_13_code 387 = .ok (.iadd, 1) := by decide +kernel
theorem d_X12_next_388 : decode prog_14_method_13_code 388 = .ok (.putfield 238, 3) := by decide +kernel
theorem d_X12_next_391 : decode prog_14_method_13_code 391 = .ok (.goto 19, 3) := by decide +kernel
theorem d_X12_next_394 : decode prog_14_method_13_code 394 = .ok (.aload_n 0, 1) := by decide +kernel
theorem d_X12_next_395 : decode prog_14_method_13_code 395 = .ok (.iload_n 1, 1) := by decide +kernel
theorem d_X12_next_396 : decode prog_14_method_13_code 396 = .ok (.invokestatic 308, 3) := by decide +kernel
theorem d_X12_next_399 : decode prog_14_method_13_code 399 = .ok (.ifCond .eq 7, 3) := by decide +kernel
theorem d_X12_next_402 : decode prog_14_method_13_code 402 = .ok (.iload_n 1, 1) := by decide +kernel
theorem d_X12_next_403 : decode prog_14_method_13_code 403 = .ok (.goto 4, 3) := by decide +kernel
theorem d_X12_next_406 : decode prog_14_method_13_code 406 = .ok (.iconst 3, 1) := by decide +kernel
theorem d_X12_next_407 : decode prog_14_method_13_code 407 = .ok (.putfield 292, 3) := by decide +kernel
theorem d_X12_next_410 : decode prog_14_method_13_code 410 = .ok (.aload_n 0, 1) := by decide +kernel
theorem d_X12_next_411 : decode prog_14_method_13_code 411 = .ok (.aload_n 0, 1) := by decide +kernel
theorem d_X12_next_412 : decode prog_14_method_13_code 412 = .ok (.getfield 238, 3) := by decide +kernel
theorem d_X12_next_415 : decode prog_14_method_13_code 415 = .ok (.putfield 231, 3) := by decide +kernel
theorem d_X12_next_418 : decode prog_14_method_13_code 418 = .ok (.return_, 1) := by decide +kernel
theorem v_X12_next_0 {E : EE} {d : Nat} {Q : Option AV → AH → Prop} {x0 : Nat} {G : AH} (h0 : 0 < d) (h : isO E G x0 12 ∧ (wpV E (d - 1) M_X12_passBlanks [vr x0] G (fun G1 => isO E G1 x0 12 ∧ (∀ G3 : AH, G3 = sI G1 x0 43 (gI G1 x0 40) → ∀ G5 : AH, G5 = sI G3 x0 44 (gI G3 x0 40) → ((gI G5 x0 40) < (gI G5 x0 39) → wpI E (d - 1) M_X12_look [vr x0, vi (gI G5 x0 40)] G5 (fun r7 G8 => wpI E (d - 1) M_X12_isLetter [vi r7] G8 (fun r9 G10 => (r9 = 0 → wpI E (d - 1) M_X12_isFigure [vi r7] G10 (fun r11 G12 => (r11 = 0 → isO E G12 x0 12 ∧ (((gI G12 x0 39) ≤ ((gI G12 x0 44) + 1) → wp E d M_X12_next 279 [some (vr x0), some (vi r7), none] [vi 0] G12 Q) ∧ (¬ ((gI G12 x0 39) ≤ ((gI G12 x0 44) + 1)) → wpI E (d - 1) M_X12_look [vr x0, vi ((gI G12 x0 44) + 1)] G12 (fun r14 G15 => wp E d M_X12_next 279 [some (vr x0), some (vi r7), none] [vi r14] G15 Q)))) ∧ (¬ (r11 = 0) → isO E G12 x0 12 ∧ (∀ G17 : AH, G17 = sI G12 x0 42 0 → wp E d M_X12_next 146 [some (vr x0), some (vi r7), none] [] G17 Q)))) ∧ (¬ (r9 = 0) → wp E d M_X12_next 53 [some (vr x0), some (vi r7), none] [] G10 Q)))) ∧ (¬ ((gI G5 x0 40) < (gI G5 x0 39)) → ∀ G19 : AH, G19 = sI G5 x0 41 0 → Q none G19))))) : wp E d M_X12_next 0 [some (vr x0), none, none] [] G Q := by
  refine wp_aload_n (pc := 0) d_X12_next_0 rfl ?_
  obtain ⟨ho21, h⟩ := h
  refine wp_invV (pc := 1) (N := M_X12_passBlanks) (As := []) (rest := []) (r := (cn_12, ct_12, 95)) d_X12_next_1 ml_X12_289 mk_X12_passBlanks mv_X12_passBlanks h0 ho21 rfl rfl (Nat.le_of_ble_eq_true rfl) ?_
  refine wpM.mono h (fun rr G1 hr => ?_)
  obtain ⟨rfl, h⟩ := hr
  show wp E d M_X12_next 4 [some (vr _), none, none] [] G1 Q
  refine wp_aload_n (pc := 4) d_X12_next_4 rfl ?_
  refine wp_aload_n (pc := 5) d_X12_next_5 rfl ?_
  obtain ⟨ho2, h⟩ := h
  refine wp_getI (pc := 6) d_X12_next_6 fl_X12_231 (fun _ _ _ => rfl) ho2 ?_
  refine wp_putI (pc := 9) d_X12_next_9 fl_X12_241 (fun _ _ _ => rfl) (Or.inl rfl) ho2 (okI_int _) ?_
  refine wp_nm (fun G3 eG3 => ?_)
  have h := h G3 eG3
  have ho4 := isO_sI eG3 ho2
  refine wp_aload_n (pc := 12) d_X12_next_12 rfl ?_
  refine wp_aload_n (pc := 13) d_X12_next_13 rfl ?_
  refine wp_getI (pc := 14) d_X12_next_14 fl_X12_231 (fun _ _ _ => rfl) ho4 ?_
  refine wp_putI (pc := 17) d_X12_next_17 fl_X12_238 (fun _ _ _ => rfl) (Or.inl rfl) ho4 (okI_int _) ?_
  refine wp_nm (fun G5 eG5 => ?_)
  have h := h G5 eG5
  have ho6 := isO_sI eG5 ho4
  refine wp_aload_n (pc := 20) d_X12_next_20 rfl ?_
  refine wp_getI (pc := 21) d_X12_next_21 fl_X12_231 (fun _ _ _ => rfl) ho6 ?_
  refine wp_aload_n (pc := 24) d_X12_next_24 rfl ?_
  refine wp_getI (pc := 25) d_X12_next_25 fl_X12_221 (fun _ _ _ => rfl) ho6 ?_
  refine wp_icmp_lt (pc := 28) (tgt := 37) d_X12_next_28 (by decide) (fun hc => ?_) (fun hc => ?_)
  · have h := h.1 hc
    refine wp_aload_n (pc := 37) d_X12_next_37 rfl ?_
    refine wp_aload_n (pc := 38) d_X12_next_38 rfl ?_
    refine wp_getI (pc := 39) d_X12_next_39 fl_X12_231 (fun _ _ _ => rfl) ho6 ?_
    refine wp_invV (pc := 42) (N := M_X12_look) (As := [vi _]) (rest := []) (r := (cn_12, ct_12, 95)) d_X12_next_42 ml_X12_234 mk_X12_look mv_X12_look h0 ho6 rfl rfl (Nat.le_of_ble_eq_true rfl) ?_
    refine wpM.mono h (fun rr G8 hr => ?_)
    obtain ⟨r7, rfl, h⟩ := hr
    show wp E d M_X12_next 45 [some (vr _), none, none] [vi _] G8 Q
    refine wp_istore_n (pc := 45) (lv' := [some (vr _), some (vi _), none]) d_X12_next_45 (by decide) rfl ?_
    refine wp_iload_n (pc := 46) d_X12_next_46 rfl ?_
    refine wp_invS (pc := 47) (N := M_X12_isLetter) (As := [vi _]) (rest := []) d_X12_next_47 ml_X12_295 mk_X12_isLetter ms_X12_isLetter h0 (Nat.le_of_ble_eq_true rfl) ?_
    refine wpM.mono h (fun rr G10 hr => ?_)
    obtain ⟨r9, rfl, h⟩ := hr
    show wp E d M_X12_next 50 [some (vr _), some (vi _), none] [vi _] G10 Q
    refine wp_if_eq (pc := 50) (tgt := 134) d_X12_next_50 (by decide) (fun hc => ?_) (fun hc => ?_)
    · have h := h.1 hc
      refine wp_iload_n (pc := 134) d_X12_next_134 rfl ?_
      refine wp_invS (pc := 135) (N := M_X12_isFigure) (As := [vi _]) (rest := []) d_X12_next_135 ml_X12_299 mk_X12_isFigure ms_X12_isFigure h0 (Nat.le_of_ble_eq_true rfl) ?_
      refine wpM.mono h (fun rr G12 hr => ?_)
      obtain ⟨r11, rfl, h⟩ := hr
      show wp E d M_X12_next 138 [some (vr _), some (vi _), none] [vi _] G12 Q
      refine wp_if_eq (pc := 138) (tgt := 252) d_X12_next_138 (by decide) (fun hc => ?_) (fun hc => ?_)
      · have h := h.1 hc
        refine wp_aload_n (pc := 252) d_X12_next_252 rfl ?_
        obtain ⟨ho13, h⟩ := h
        refine wp_getI (pc := 253) d_X12_next_253 fl_X12_238 (fun _ _ _ => rfl) ho13 ?_
        refine wp_iconst (pc := 256) (v := 1) d_X12_next_256 rfl ?_
        refine wp_iadd (pc := 257) d_X12_next_257 ?_
        refine wp_aload_n (pc := 258) d_X12_next_258 rfl ?_
        refine wp_getI (pc := 259) d_X12_next_259 fl_X12_221 (fun _ _ _ => rfl) ho13 ?_
        refine wp_icmp_ge (pc := 262) (tgt := 278) d_X12_next_262 (by decide) (fun hc => ?_) (fun hc => ?_)
        · have h := h.1 hc
          refine wp_iconst (pc := 278) (v := 0) d_X12_next_278 rfl ?_
          refine wp_sub ?_ h
          exact ⟨rfl, ⟨rfl, trivial⟩⟩
        · have h := h.2 hc
          refine wp_aload_n (pc := 265) d_X12_next_265 rfl ?_
          refine wp_aload_n (pc := 266) d_X12_next_266 rfl ?_
          refine wp_getI (pc := 267) d_X12_next_267 fl_X12_238 (fun _ _ _ => rfl) ho13 ?_
          refine wp_iconst (pc := 270) (v := 1) d_X12_next_270 rfl ?_
          refine wp_iadd (pc := 271) d_X12_next_271 ?_
          refine wp_invV (pc := 272) (N := M_X12_look) (As := [vi _]) (rest := []) (r := (cn_12, ct_12, 95)) d_X12_next_272 ml_X12_234 mk_X12_look mv_X12_look h0 ho13 rfl rfl (Nat.le_of_ble_eq_true rfl) ?_
          refine wpM.mono h (fun rr G15 hr => ?_)
          obtain ⟨r14, rfl, h⟩ := hr
          show wp E d M_X12_next 275 [some (vr _), some (vi _), none] [vi _] G15 Q
          refine wp_goto (pc := 275) (tgt := 279) d_X12_next_275 (by decide) ?_
          refine wp_sub ?_ h
          exact ⟨rfl, ⟨rfl, trivial⟩⟩
      · have h := h.2 hc
        refine wp_aload_n (pc := 141) d_X12_next_141 rfl ?_
        refine wp_iconst (pc := 142) (v := 0) d_X12_next_142 rfl ?_
        obtain ⟨ho16, h⟩ := h
        refine wp_putI (pc := 143) d_X12_next_143 fl_X12_305 (fun _ _ _ => rfl) (Or.inl rfl) ho16 (okI_int _) ?_
        refine wp_nm (fun G17 eG17 => ?_)
        have h := h G17 eG17
        have ho18 := isO_sI eG17 ho16
        refine wp_sub ?_ h
        exact ⟨rfl, ⟨rfl, trivial⟩⟩
    · have h := h.2 hc
      refine wp_sub ?_ h
      exact ⟨rfl, ⟨rfl, trivial⟩⟩
  · have h := h.2 hc
    refine wp_aload_n (pc := 31) d_X12_next_31 rfl ?_
    refine wp_iconst (pc := 32) (v := 0) d_X12_next_32 rfl ?_
    refine wp_putI (pc := 33) d_X12_next_33 fl_X12_292 (fun _ _ _ => rfl) (Or.inl rfl) ho6 (okI_int _) ?_
    refine wp_nm (fun G19 eG19 => ?_)
    have h := h G19 eG19
    have ho20 := isO_sI eG19 ho6
    exact wp_vret (pc := 36) d_X12_next_36 rfl h
theorem v_X12_next_53 {E : EE} {d : Nat} {Q : Option AV → AH → Prop} {x0 : Nat} {x1 : Int32} {G : AH} (h0 : 0 < d) (h : isO E G x0 12 ∧ (((gI G x0 39) ≤ (gI G x0 44) → wp E d M_X12_next 105 [some (vr x0), some (vi x1), none] [] G Q) ∧ (¬ ((gI G x0 39) ≤ (gI G x0 44)) → wpI E (d - 1) M_X12_look [vr x0, vi (gI G x0 44)] G (fun r2 G3 => wpI E (d - 1) M_X12_isLetter [vi r2] G3 (fun r4 G5 => (¬ r4 = 0 → wp E d M_X12_next 92 [some (vr x0), some (vi x1), none] [] G5 Q) ∧ (r4 = 0 → isO E G5 x0 12 ∧ (wpI E (d - 1) M_X12_look [vr x0, vi (gI G5 x0 44)] G5 (fun r7 G8 => wpI E (d - 1) M_X12_isFigure [vi r7] G8 (fun r9 G10 => (r9 = 0 → wp E d M_X12_next 105 [some (vr x0), some (vi x1), none] [] G10 Q) ∧ (¬ (r9 = 0) → wp E d M_X12_next 92 [some (vr x0), some (vi x1), none] [] G10 Q)))))))))) : wp E d M_X12_next 53 [some (vr x0), some (vi x1), none] [] G Q := by
  refine wp_aload_n (pc := 53) d_X12_next_53 rfl ?_
  obtain ⟨ho1, h⟩ := h
  refine wp_getI (pc := 54) d_X12_next_54 fl_X12_238 (fun _ _ _ => rfl) ho1 ?_
  refine wp_aload_n (pc := 57) d_X12_next_57 rfl ?_
  refine wp_getI (pc := 58) d_X12_next_58 fl_X12_221 (fun _ _ _ => rfl) ho1 ?_
  refine wp_icmp_ge (pc := 61) (tgt := 105) d_X12_next_61 (by decide) (fun hc => ?_) (fun hc => ?_)
  · have h := h.1 hc
    refine wp_sub ?_ h
    exact ⟨rfl, ⟨rfl, trivial⟩⟩
  · have h := h.2 hc
    refine wp_aload_n (pc := 64) d_X12_next_64 rfl ?_
    refine wp_aload_n (pc := 65) d_X12_next_65 rfl ?_
    refine wp_getI (pc := 66) d_X12_next_66 fl_X12_238 (fun _ _ _ => rfl) ho1 ?_
    refine wp_invV (pc := 69) (N := M_X12_look) (As := [vi _]) (rest := []) (r := (cn_12, ct_12, 95)) d_X12_next_69 ml_X12_234 mk_X12_look mv_X12_look h0 ho1 rfl rfl (Nat.le_of_ble_eq_true rfl) ?_
    refine wpM.mono h (fun rr G3 hr => ?_)
    obtain ⟨r2, rfl, h⟩ := hr
    show wp E d M_X12_next 72 [some (vr _), some (vi _), none] [vi _] G3 Q
    refine wp_invS (pc := 72) (N := M_X12_isLetter) (As := [vi _]) (rest := []) d_X12_next_72 ml_X12_295 mk_X12_isLetter ms_X12_isLetter h0 (Nat.le_of_ble_eq_true rfl) ?_
    refine wpM.mono h (fun rr G5 hr => ?_)
    obtain ⟨r4, rfl, h⟩ := hr
    show wp E d M_X12_next 75 [some (vr _), some (vi _), none] [vi _] G5 Q
    refine wp_if_ne (pc := 75) (tgt := 92) d_X12_next_75 (by decide) (fun hc => ?_) (fun hc => ?_)
    · have h := h.1 hc
      refine wp_sub ?_ h
      exact ⟨rfl, ⟨rfl, trivial⟩⟩
    · have h := h.2 hc
      refine wp_aload_n (pc := 78) d_X12_next_78 rfl ?_
      refine wp_aload_n (pc := 79) d_X12_next_79 rfl ?_
      obtain ⟨ho6, h⟩ := h
      refine wp_getI (pc := 80) d_X12_next_80 fl_X12_238 (fun _ _ _ => rfl) ho6 ?_
      refine wp_invV (pc := 83) (N := M_X12_look) (As := [vi _]) (rest := []) (r := (cn_12, ct_12, 95)) d_X12_next_83 ml_X12_234 mk_X12_look mv_X12_look h0 ho6 rfl rfl (Nat.le_of_ble_eq_true rfl) ?_
      refine wpM.mono h (fun rr G8 hr => ?_)
      obtain ⟨r7, rfl, h⟩ := hr
      show wp E d M_X12_next 86 [some (vr _), some (vi _), none] [vi _] G8 Q
      refine wp_invS (pc := 86) (N := M_X12_isFigure) (As := [vi _]) (rest := []) d_X12_next_86 ml_X12_299 mk_X12_isFigure ms_X12_isFigure h0 (Nat.le_of_ble_eq_true rfl) ?_
      refine wpM.mono h (fun rr G10 hr => ?_)
      obtain ⟨r9, rfl, h⟩ := hr
      show wp E d M_X12_next 89 [some (vr _), some (vi _), none] [vi _] G10 Q
      refine wp_if_eq (pc := 89) (tgt := 105) d_X12_next_89 (by decide) (fun hc => ?_) (fun hc => ?_)
      · have h := h.1 hc
        refine wp_sub ?_ h
        exact ⟨rfl, ⟨rfl, trivial⟩⟩
      · have h := h.2 hc
        refine wp_sub ?_ h
        exact ⟨rfl, ⟨rfl, trivial⟩⟩
theorem v_X12_next_92 {E : EE} {d : Nat} {Q : Option AV → AH → Prop} {x0 : Nat} {x1 : Int32} {G : AH} (h : isO E G x0 12 ∧ (wp E d M_X12_next 53 [some (vr x0), some (vi x1), none] [] (sI G x0 44 ((gI G x0 44) + 1)) Q)) : wp E d M_X12_next 92 [some (vr x0), some (vi x1), none] [] G Q := by
  refine wp_aload_n (pc := 92) d_X12_next_92 rfl ?_
  refine wp_dup (pc := 93) d_X12_next_93 (c1_r _) ?_
  obtain ⟨ho1, h⟩ := h
  refine wp_getI (pc := 94) d_X12_next_94 fl_X12_238 (fun _ _ _ => rfl) ho1 ?_
  refine wp_iconst (pc := 97) (v := 1) d_X12_next_97 rfl ?_
  refine wp_iadd (pc := 98) d_X12_next_98 ?_
  refine wp_putI (pc := 99) d_X12_next_99 fl_X12_238 (fun _ _ _ => rfl) (Or.inl rfl) ho1 (okI_int _) ?_
  refine wp_goto (pc := 102) (tgt := 53) d_X12_next_102 (by decide) ?_
  refine wp_sub ?_ h
  exact ⟨rfl, ⟨rfl, trivial⟩⟩
theorem v_X12_next_105 {E : EE} {d : Nat} {Q : Option AV → AH → Prop} {x0 : Nat} {x1 : Int32} {G : AH} (h0 : 0 < d) (h : isO E G x0 12 ∧ ((((gI G x0 44) - (gI G x0 43)) ≤ 8 → wpI E (d - 1) M_X12_wordOf [vr x0] G (fun r2 G3 => wp E d M_X12_next 128 [some (vr x0), some (vi x1), none] [vi r2, vr x0] G3 Q)) ∧ (¬ (((gI G x0 44) - (gI G x0 43)) ≤ 8) → wp E d M_X12_next 128 [some (vr x0), some (vi x1), none] [vi 3, vr x0] G Q))) : wp E d M_X12_next 105 [some (vr x0), some (vi x1), none] [] G Q := by
  refine wp_aload_n (pc := 105) d_X12_next_105 rfl ?_
  refine wp_aload_n (pc := 106) d_X12_next_106 rfl ?_
  obtain ⟨ho1, h⟩ := h
  refine wp_getI (pc := 107) d_X12_next_107 fl_X12_238 (fun _ _ _ => rfl) ho1 ?_
  refine wp_aload_n (pc := 110) d_X12_next_110 rfl ?_
  refine wp_getI (pc := 111) d_X12_next_111 fl_X12_241 (fun _ _ _ => rfl) ho1 ?_
  refine wp_isub (pc := 114) d_X12_next_114 ?_
  refine wp_bipush (pc := 115) (v := 8) d_X12_next_115 rfl ?_
  refine wp_icmp_le (pc := 117) (tgt := 124) d_X12_next_117 (by decide) (fun hc => ?_) (fun hc => ?_)
  · have h := h.1 hc
    refine wp_aload_n (pc := 124) d_X12_next_124 rfl ?_
    refine wp_invV (pc := 125) (N := M_X12_wordOf) (As := []) (rest := [vr _]) (r := (cn_12, ct_12, 95)) d_X12_next_125 ml_X12_302 mk_X12_wordOf mv_X12_wordOf h0 ho1 rfl rfl (Nat.le_of_ble_eq_true rfl) ?_
    refine wpM.mono h (fun rr G3 hr => ?_)
    obtain ⟨r2, rfl, h⟩ := hr
    show wp E d M_X12_next 128 [some (vr _), some (vi _), none] [vi _, vr _] G3 Q
    refine wp_sub ?_ h
    exact ⟨rfl, ⟨rfl, trivial⟩⟩
  · have h := h.2 hc
    refine wp_iconst (pc := 120) (v := 3) d_X12_next_120 rfl ?_
    refine wp_goto (pc := 121) (tgt := 128) d_X12_next_121 (by decide) ?_
    refine wp_sub ?_ h
    exact ⟨rfl, ⟨rfl, trivial⟩⟩
theorem v_X12_next_128 {E : EE} {d : Nat} {Q : Option AV → AH → Prop} {x0 : Nat} {x1 : Int32} {t0 : Nat} {t1 : Int32} {G : AH} (h : isO E G t0 12 ∧ (wp E d M_X12_next 410 [some (vr x0), some (vi x1), none] [] (sI G t0 41 t1) Q)) : wp E d M_X12_next 128 [some (vr x0), some (vi x1), none] [vi t1, vr t0] G Q := by
  obtain ⟨ho1, h⟩ := h
  refine wp_putI (pc := 128) d_X12_next_128 fl_X12_292 (fun _ _ _ => rfl) (Or.inl rfl) ho1 (okI_int _) ?_
  refine wp_goto (pc := 131) (tgt := 410) d_X12_next_131 (by decide) ?_
  refine wp_sub ?_ h
  exact ⟨rfl, ⟨rfl, trivial⟩⟩
theorem v_X12_next_146 {E : EE} {d : Nat} {Q : Option AV → AH → Prop} {x0 : Nat} {x1 : Int32} {G : AH} (h0 : 0 < d) (h : isO E G x0 12 ∧ (((gI G x0 39) ≤ (gI G x0 44) → wp E d M_X12_next 227 [some (vr x0), some (vi x1), none] [] G Q) ∧ (¬ ((gI G x0 39) ≤ (gI G x0 44)) → wpI E (d - 1) M_X12_look [vr x0, vi (gI G x0 44)] G (fun r2 G3 => wpI E (d - 1) M_X12_isFigure [vi r2] G3 (fun r4 G5 => (r4 = 0 → wp E d M_X12_next 227 [some (vr x0), some (vi x1), none] [] G5 Q) ∧ (¬ (r4 = 0) → isO E G5 x0 12 ∧ ((4 ≤ ((gI G5 x0 44) - (gI G5 x0 43)) → wp E d M_X12_next 211 [some (vr x0), some (vi x1), none] [vi (gI G5 x0 42), vr x0] G5 Q) ∧ (¬ (4 ≤ ((gI G5 x0 44) - (gI G5 x0 43))) → wpI E (d - 1) M_X12_look [vr x0, vi (gI G5 x0 44)] G5 (fun r7 G8 => wp E d M_X12_next 211 [some (vr x0), some (vi x1), none] [vi (((10 * (gI G5 x0 42)) + r7) - 48), vr x0] G8 Q))))))))) : wp E d M_X12_next 146 [some (vr x0), some (vi x1), none] [] G Q := by
  refine wp_aload_n (pc := 146) d_X12_next_146 rfl ?_
  obtain ⟨ho1, h⟩ := h
  refine wp_getI (pc := 147) d_X12_next_147 fl_X12_238 (fun _ _ _ => rfl) ho1 ?_
  refine wp_aload_n (pc := 150) d_X12_next_150 rfl ?_
  refine wp_getI (pc := 151) d_X12_next_151 fl_X12_221 (fun _ _ _ => rfl) ho1 ?_
  refine wp_icmp_ge (pc := 154) (tgt := 227) d_X12_next_154 (by decide) (fun hc => ?_) (fun hc => ?_)
  · have h := h.1 hc
    refine wp_sub ?_ h
    exact ⟨rfl, ⟨rfl, trivial⟩⟩
  · have h := h.2 hc
    refine wp_aload_n (pc := 157) d_X12_next_157 rfl ?_
    refine wp_aload_n (pc := 158) d_X12_next_158 rfl ?_
    refine wp_getI (pc := 159) d_X12_next_159 fl_X12_238 (fun _ _ _ => rfl) ho1 ?_
    refine wp_invV (pc := 162) (N := M_X12_look) (As := [vi _]) (rest := []) (r := (cn_12, ct_12, 95)) d_X12_next_162 ml_X12_234 mk_X12_look mv_X12_look h0 ho1 rfl rfl (Nat.le_of_ble_eq_true rfl) ?_
    refine wpM.mono h (fun rr G3 hr => ?_)
    obtain ⟨r2, rfl, h⟩ := hr
    show wp E d M_X12_next 165 [some (vr _), some (vi _), none] [vi _] G3 Q
    refine wp_invS (pc := 165) (N := M_X12_isFigure) (As := [vi _]) (rest := []) d_X12_next_165 ml_X12_299 mk_X12_isFigure ms_X12_isFigure h0 (Nat.le_of_ble_eq_true rfl) ?_
    refine wpM.mono h (fun rr G5 hr => ?_)
    obtain ⟨r4, rfl, h⟩ := hr
    show wp E d M_X12_next 168 [some (vr _), some (vi _), none] [vi _] G5 Q
    refine wp_if_eq (pc := 168) (tgt := 227) d_X12_next_168 (by decide) (fun hc => ?_) (fun hc => ?_)
    · have h := h.1 hc
      refine wp_sub ?_ h
      exact ⟨rfl, ⟨rfl, trivial⟩⟩
    · have h := h.2 hc
      refine wp_aload_n (pc := 171) d_X12_next_171 rfl ?_
      refine wp_aload_n (pc := 172) d_X12_next_172 rfl ?_
      obtain ⟨ho6, h⟩ := h
      refine wp_getI (pc := 173) d_X12_next_173 fl_X12_238 (fun _ _ _ => rfl) ho6 ?_
      refine wp_aload_n (pc := 176) d_X12_next_176 rfl ?_
      refine wp_getI (pc := 177) d_X12_next_177 fl_X12_241 (fun _ _ _ => rfl) ho6 ?_
      refine wp_isub (pc := 180) d_X12_next_180 ?_
      refine wp_iconst (pc := 181) (v := 4) d_X12_next_181 rfl ?_
      refine wp_icmp_ge (pc := 182) (tgt := 207) d_X12_next_182 (by decide) (fun hc => ?_) (fun hc => ?_)
      · have h := h.1 hc
        refine wp_aload_n (pc := 207) d_X12_next_207 rfl ?_
        refine wp_getI (pc := 208) d_X12_next_208 fl_X12_305 (fun _ _ _ => rfl) ho6 ?_
        refine wp_sub ?_ h
        exact ⟨rfl, ⟨rfl, trivial⟩⟩
      · have h := h.2 hc
        refine wp_bipush (pc := 185) (v := 10) d_X12_next_185 rfl ?_
        refine wp_aload_n (pc := 187) d_X12_next_187 rfl ?_
        refine wp_getI (pc := 188) d_X12_next_188 fl_X12_305 (fun _ _ _ => rfl) ho6 ?_
        refine wp_imul (pc := 191) d_X12_next_191 ?_
        refine wp_aload_n (pc := 192) d_X12_next_192 rfl ?_
        refine wp_aload_n (pc := 193) d_X12_next_193 rfl ?_
        refine wp_getI (pc := 194) d_X12_next_194 fl_X12_238 (fun _ _ _ => rfl) ho6 ?_
        refine wp_invV (pc := 197) (N := M_X12_look) (As := [vi _]) (rest := [vi _, vr _]) (r := (cn_12, ct_12, 95)) d_X12_next_197 ml_X12_234 mk_X12_look mv_X12_look h0 ho6 rfl rfl (Nat.le_of_ble_eq_true rfl) ?_
        refine wpM.mono h (fun rr G8 hr => ?_)
        obtain ⟨r7, rfl, h⟩ := hr
        show wp E d M_X12_next 200 [some (vr _), some (vi _), none] [vi _, vi _, vr _] G8 Q
        refine wp_iadd (pc := 200) d_X12_next_200 ?_
        refine wp_bipush (pc := 201) (v := 48) d_X12_next_201 rfl ?_
        refine wp_isub (pc := 203) d_X12_next_203 ?_
        refine wp_goto (pc := 204) (tgt := 211) d_X12_next_204 (by decide) ?_
        refine wp_sub ?_ h
        exact ⟨rfl, ⟨rfl, trivial⟩⟩
theorem v_X12_next_211 {E : EE} {d : Nat} {Q : Option AV → AH → Prop} {x0 : Nat} {x1 : Int32} {t0 : Nat} {t1 : Int32} {G : AH} (h : isO E G t0 12 ∧ (∀ G2 : AH, G2 = sI G t0 42 t1 → isO E G2 x0 12 ∧ (∀ G4 : AH, G4 = sI G2 x0 44 ((gI G2 x0 44) + 1) → wp E d M_X12_next 146 [some (vr x0), some (vi x1), none] [] G4 Q))) : wp E d M_X12_next 211 [some (vr x0), some (vi x1), none] [vi t1, vr t0] G Q := by
  obtain ⟨ho1, h⟩ := h
  refine wp_putI (pc := 211) d_X12_next_211 fl_X12_305 (fun _ _ _ => rfl) (Or.inl rfl) ho1 (okI_int _) ?_
  refine wp_nm (fun G2 eG2 => ?_)
  have h := h G2 eG2
  refine wp_aload_n (pc := 214) d_X12_next_214 rfl ?_
  refine wp_dup (pc := 215) d_X12_next_215 (c1_r _) ?_
  obtain ⟨ho3, h⟩ := h
  refine wp_getI (pc := 216) d_X12_next_216 fl_X12_238 (fun _ _ _ => rfl) ho3 ?_
  refine wp_iconst (pc := 219) (v := 1) d_X12_next_219 rfl ?_
  refine wp_iadd (pc := 220) d_X12_next_220 ?_
  refine wp_putI (pc := 221) d_X12_next_221 fl_X12_238 (fun _ _ _ => rfl) (Or.inl rfl) ho3 (okI_int _) ?_
  refine wp_nm (fun G4 eG4 => ?_)
  have h := h G4 eG4
  have ho5 := isO_sI eG4 ho3
  refine wp_goto (pc := 224) (tgt := 146) d_X12_next_224 (by decide) ?_
  refine wp_sub ?_ h
  exact ⟨rfl, ⟨rfl, trivial⟩⟩
theorem v_X12_next_227 {E : EE} {d : Nat} {Q : Option AV → AH → Prop} {x0 : Nat} {x1 : Int32} {G : AH} (h : isO E G x0 12 ∧ ((((gI G x0 44) - (gI G x0 43)) ≤ 4 → wp E d M_X12_next 246 [some (vr x0), some (vi x1), none] [vi 2, vr x0] G Q) ∧ (¬ (((gI G x0 44) - (gI G x0 43)) ≤ 4) → wp E d M_X12_next 246 [some (vr x0), some (vi x1), none] [vi 3, vr x0] G Q))) : wp E d M_X12_next 227 [some (vr x0), some (vi x1), none] [] G Q := by
  refine wp_aload_n (pc := 227) d_X12_next_227 rfl ?_
  refine wp_aload_n (pc := 228) d_X12_next_228 rfl ?_
  obtain ⟨ho1, h⟩ := h
  refine wp_getI (pc := 229) d_X12_next_229 fl_X12_238 (fun _ _ _ => rfl) ho1 ?_
  refine wp_aload_n (pc := 232) d_X12_next_232 rfl ?_
  refine wp_getI (pc := 233) d_X12_next_233 fl_X12_241 (fun _ _ _ => rfl) ho1 ?_
  refine wp_isub (pc := 236) d_X12_next_236 ?_
  refine wp_iconst (pc := 237) (v := 4) d_X12_next_237 rfl ?_
  refine wp_icmp_le (pc := 238) (tgt := 245) d_X12_next_238 (by decide) (fun hc => ?_) (fun hc => ?_)
  · have h := h.1 hc
    refine wp_iconst (pc := 245) (v := 2) d_X12_next_245 rfl ?_
    refine wp_sub ?_ h
    exact ⟨rfl, ⟨rfl, trivial⟩⟩
  · have h := h.2 hc
    refine wp_iconst (pc := 241) (v := 3) d_X12_next_241 rfl ?_
    refine wp_goto (pc := 242) (tgt := 246) d_X12_next_242 (by decide) ?_
    refine wp_sub ?_ h
    exact ⟨rfl, ⟨rfl, trivial⟩⟩
theorem v_X12_next_246 {E : EE} {d : Nat} {Q : Option AV → AH → Prop} {x0 : Nat} {x1 : Int32} {t0 : Nat} {t1 : Int32} {G : AH} (h : isO E G t0 12 ∧ (wp E d M_X12_next 410 [some (vr x0), some (vi x1), none] [] (sI G t0 41 t1) Q)) : wp E d M_X12_next 246 [some (vr x0), some (vi x1), none] [vi t1, vr t0] G Q := by
  obtain ⟨ho1, h⟩ := h
  refine wp_putI (pc := 246) d_X12_next_246 fl_X12_292 (fun _ _ _ => rfl) (Or.inl rfl) ho1 (okI_int _) ?_
  refine wp_goto (pc := 249) (tgt := 410) d_X12_next_249 (by decide) ?_
  refine wp_sub ?_ h
  exact ⟨rfl, ⟨rfl, trivial⟩⟩
theorem v_X12_next_279 {E : EE} {d : Nat} {Q : Option AV → AH → Prop} {x0 : Nat} {x1 : Int32} {t0 : Int32} {G : AH} (h : isO E G x0 12 ∧ ((¬ x1 = 60 → wp E d M_X12_next 302 [some (vr x0), some (vi x1), some (vi t0)] [] (sI G x0 44 ((gI G x0 44) + 1)) Q) ∧ (x1 = 60 → (t0 = 61 → wp E d M_X12_next 338 [some (vr x0), some (vi x1), some (vi t0)] [] (sI G x0 44 ((gI G x0 44) + 1)) Q) ∧ (¬ (t0 = 61) → wp E d M_X12_next 302 [some (vr x0), some (vi x1), some (vi t0)] [] (sI G x0 44 ((gI G x0 44) + 1)) Q)))) : wp E d M_X12_next 279 [some (vr x0), some (vi x1), none] [vi t0] G Q := by
  refine wp_istore_n (pc := 279) (lv' := [some (vr _), some (vi _), some (vi _)]) d_X12_next_279 (by decide) rfl ?_
  refine wp_aload_n (pc := 280) d_X12_next_280 rfl ?_
  refine wp_dup (pc := 281) d_X12_next_281 (c1_r _) ?_
  obtain ⟨ho1, h⟩ := h
  refine wp_getI (pc := 282) d_X12_next_282 fl_X12_238 (fun _ _ _ => rfl) ho1 ?_
  refine wp_iconst (pc := 285) (v := 1) d_X12_next_285 rfl ?_
  refine wp_iadd (pc := 286) d_X12_next_286 ?_
  refine wp_putI (pc := 287) d_X12_next_287 fl_X12_238 (fun _ _ _ => rfl) (Or.inl rfl) ho1 (okI_int _) ?_
  refine wp_iload_n (pc := 290) d_X12_next_290 rfl ?_
  refine wp_bipush (pc := 291) (v := 60) d_X12_next_291 rfl ?_
  refine wp_icmp_ne (pc := 293) (tgt := 302) d_X12_next_293 (by decide) (fun hc => ?_) (fun hc => ?_)
  · have h := h.1 hc
    refine wp_sub ?_ h
    exact ⟨rfl, ⟨rfl, ⟨rfl, trivial⟩⟩⟩
  · have h := h.2 hc
    refine wp_iload_n (pc := 296) d_X12_next_296 rfl ?_
    refine wp_bipush (pc := 297) (v := 61) d_X12_next_297 rfl ?_
    refine wp_icmp_eq (pc := 299) (tgt := 338) d_X12_next_299 (by decide) (fun hc => ?_) (fun hc => ?_)
    · have h := h.1 hc
      refine wp_sub ?_ h
      exact ⟨rfl, ⟨rfl, ⟨rfl, trivial⟩⟩⟩
    · have h := h.2 hc
      refine wp_sub ?_ h
      exact ⟨rfl, ⟨rfl, ⟨rfl, trivial⟩⟩⟩
theorem v_X12_next_302 {E : EE} {d : Nat} {Q : Option AV → AH → Prop} {x0 : Nat} {x1 : Int32} {x2 : Int32} {G : AH} (h : (¬ x1 = 62 → wp E d M_X12_next 314 [some (vr x0), some (vi x1), some (vi x2)] [] G Q) ∧ (x1 = 62 → (x2 = 61 → wp E d M_X12_next 338 [some (vr x0), some (vi x1), some (vi x2)] [] G Q) ∧ (¬ (x2 = 61) → wp E d M_X12_next 314 [some (vr x0), some (vi x1), some (vi x2)] [] G Q))) : wp E d M_X12_next 302 [some (vr x0), some (vi x1), some (vi x2)] [] G Q := by
  refine wp_iload_n (pc := 302) d_X12_next_302 rfl ?_
  refine wp_bipush (pc := 303) (v := 62) d_X12_next_303 rfl ?_
  refine wp_icmp_ne (pc := 305) (tgt := 314) d_X12_next_305 (by decide) (fun hc => ?_) (fun hc => ?_)
  · have h := h.1 hc
    refine wp_sub ?_ h
    exact ⟨rfl, ⟨rfl, ⟨rfl, trivial⟩⟩⟩
  · have h := h.2 hc
    refine wp_iload_n (pc := 308) d_X12_next_308 rfl ?_
    refine wp_bipush (pc := 309) (v := 61) d_X12_next_309 rfl ?_
    refine wp_icmp_eq (pc := 311) (tgt := 338) d_X12_next_311 (by decide) (fun hc => ?_) (fun hc => ?_)
    · have h := h.1 hc
      refine wp_sub ?_ h
      exact ⟨rfl, ⟨rfl, ⟨rfl, trivial⟩⟩⟩
    · have h := h.2 hc
      refine wp_sub ?_ h
      exact ⟨rfl, ⟨rfl, ⟨rfl, trivial⟩⟩⟩
theorem v_X12_next_314 {E : EE} {d : Nat} {Q : Option AV → AH → Prop} {x0 : Nat} {x1 : Int32} {x2 : Int32} {G : AH} (h : (¬ x1 = 46 → wp E d M_X12_next 326 [some (vr x0), some (vi x1), some (vi x2)] [] G Q) ∧ (x1 = 46 → (x2 = 46 → wp E d M_X12_next 338 [some (vr x0), some (vi x1), some (vi x2)] [] G Q) ∧ (¬ (x2 = 46) → wp E d M_X12_next 326 [some (vr x0), some (vi x1), some (vi x2)] [] G Q))) : wp E d M_X12_next 314 [some (vr x0), some (vi x1), some (vi x2)] [] G Q := by
  refine wp_iload_n (pc := 314) d_X12_next_314 rfl ?_
  refine wp_bipush (pc := 315) (v := 46) d_X12_next_315 rfl ?_
  refine wp_icmp_ne (pc := 317) (tgt := 326) d_X12_next_317 (by decide) (fun hc => ?_) (fun hc => ?_)
  · have h := h.1 hc
    refine wp_sub ?_ h
    exact ⟨rfl, ⟨rfl, ⟨rfl, trivial⟩⟩⟩
  · have h := h.2 hc
    refine wp_iload_n (pc := 320) d_X12_next_320 rfl ?_
    refine wp_bipush (pc := 321) (v := 46) d_X12_next_321 rfl ?_
    refine wp_icmp_eq (pc := 323) (tgt := 338) d_X12_next_323 (by decide) (fun hc => ?_) (fun hc => ?_)
    · have h := h.1 hc
      refine wp_sub ?_ h
      exact ⟨rfl, ⟨rfl, ⟨rfl, trivial⟩⟩⟩
    · have h := h.2 hc
      refine wp_sub ?_ h
      exact ⟨rfl, ⟨rfl, ⟨rfl, trivial⟩⟩⟩
theorem v_X12_next_326 {E : EE} {d : Nat} {Q : Option AV → AH → Prop} {x0 : Nat} {x1 : Int32} {x2 : Int32} {G : AH} (h : (¬ x1 = 45 → wp E d M_X12_next 394 [some (vr x0), some (vi x1), some (vi x2)] [] G Q) ∧ (x1 = 45 → (¬ x2 = 62 → wp E d M_X12_next 394 [some (vr x0), some (vi x1), some (vi x2)] [] G Q) ∧ (x2 = 62 → wp E d M_X12_next 338 [some (vr x0), some (vi x1), some (vi x2)] [] G Q))) : wp E d M_X12_next 326 [some (vr x0), some (vi x1), some (vi x2)] [] G Q := by
  refine wp_iload_n (pc := 326) d_X12_next_326 rfl ?_
  refine wp_bipush (pc := 327) (v := 45) d_X12_next_327 rfl ?_
  refine wp_icmp_ne (pc := 329) (tgt := 394) d_X12_next_329 (by decide) (fun hc => ?_) (fun hc => ?_)
  · have h := h.1 hc
    refine wp_sub ?_ h
    exact ⟨rfl, ⟨rfl, ⟨rfl, trivial⟩⟩⟩
  · have h := h.2 hc
    refine wp_iload_n (pc := 332) d_X12_next_332 rfl ?_
    refine wp_bipush (pc := 333) (v := 62) d_X12_next_333 rfl ?_
    refine wp_icmp_ne (pc := 335) (tgt := 394) d_X12_next_335 (by decide) (fun hc => ?_) (fun hc => ?_)
    · have h := h.1 hc
      refine wp_sub ?_ h
      exact ⟨rfl, ⟨rfl, ⟨rfl, trivial⟩⟩⟩
    · have h := h.2 hc
      refine wp_sub ?_ h
      exact ⟨rfl, ⟨rfl, ⟨rfl, trivial⟩⟩⟩
theorem v_X12_next_338 {E : EE} {d : Nat} {Q : Option AV → AH → Prop} {x0 : Nat} {x1 : Int32} {x2 : Int32} {G : AH} (h : (¬ x1 = 60 → (¬ x1 = 62 → (¬ x1 = 46 → wp E d M_X12_next 378 [some (vr x0), some (vi x1), some (vi x2)] [vi 203, vr x0] G Q) ∧ (x1 = 46 → wp E d M_X12_next 378 [some (vr x0), some (vi x1), some (vi x2)] [vi 202, vr x0] G Q)) ∧ (x1 = 62 → wp E d M_X12_next 378 [some (vr x0), some (vi x1), some (vi x2)] [vi 201, vr x0] G Q)) ∧ (x1 = 60 → wp E d M_X12_next 378 [some (vr x0), some (vi x1), some (vi x2)] [vi 200, vr x0] G Q)) : wp E d M_X12_next 338 [some (vr x0), some (vi x1), some (vi x2)] [] G Q := by
  refine wp_aload_n (pc := 338) d_X12_next_338 rfl ?_
  refine wp_iload_n (pc := 339) d_X12_next_339 rfl ?_
  refine wp_bipush (pc := 340) (v := 60) d_X12_next_340 rfl ?_
  refine wp_icmp_ne (pc := 342) (tgt := 351) d_X12_next_342 (by decide) (fun hc => ?_) (fun hc => ?_)
  · have h := h.1 hc
    refine wp_iload_n (pc := 351) d_X12_next_351 rfl ?_
    refine wp_bipush (pc := 352) (v := 62) d_X12_next_352 rfl ?_
    refine wp_icmp_ne (pc := 354) (tgt := 363) d_X12_next_354 (by decide) (fun hc => ?_) (fun hc => ?_)
    · have h := h.1 hc
      refine wp_iload_n (pc := 363) d_X12_next_363 rfl ?_
      refine wp_bipush (pc := 364) (v := 46) d_X12_next_364 rfl ?_
      refine wp_icmp_ne (pc := 366) (tgt := 375) d_X12_next_366 (by decide) (fun hc => ?_) (fun hc => ?_)
      · have h := h.1 hc
        refine wp_sipush (pc := 375) (v := 203) d_X12_next_375 rfl ?_
        refine wp_sub ?_ h
        exact ⟨rfl, ⟨rfl, ⟨rfl, trivial⟩⟩⟩
      · have h := h.2 hc
        refine wp_sipush (pc := 369) (v := 202) d_X12_next_369 rfl ?_
        refine wp_goto (pc := 372) (tgt := 378) d_X12_next_372 (by decide) ?_
        refine wp_sub ?_ h
        exact ⟨rfl, ⟨rfl, ⟨rfl, trivial⟩⟩⟩
    · have h := h.2 hc
      refine wp_sipush (pc := 357) (v := 201) d_X12_next_357 rfl ?_
      refine wp_goto (pc := 360) (tgt := 378) d_X12_next_360 (by decide) ?_
      refine wp_sub ?_ h
      exact ⟨rfl, ⟨rfl, ⟨rfl, trivial⟩⟩⟩
  · have h := h.2 hc
    refine wp_sipush (pc := 345) (v := 200) d_X12_next_345 rfl ?_
    refine wp_goto (pc := 348) (tgt := 378) d_X12_next_348 (by decide) ?_
    refine wp_sub ?_ h
    exact ⟨rfl, ⟨rfl, ⟨rfl, trivial⟩⟩⟩
theorem v_X12_next_378 {E : EE} {d : Nat} {Q : Option AV → AH → Prop} {x0 : Nat} {x1 : Int32} {x2 : Int32} {t0 : Nat} {t1 : Int32} {G : AH} (h : isO E G t0 12 ∧ (∀ G2 : AH, G2 = sI G t0 41 t1 → isO E G2 x0 12 ∧ (∀ G4 : AH, G4 = sI G2 x0 44 ((gI G2 x0 44) + 1) → wp E d M_X12_next 410 [some (vr x0), some (vi x1), none] [] G4 Q))) : wp E d M_X12_next 378 [some (vr x0), some (vi x1), some (vi x2)] [vi t1, vr t0] G Q := by
  obtain ⟨ho1, h⟩ := h
  refine wp_putI (pc := 378) d_X12_next_378 fl_X12_292 (fun _ _ _ => rfl) (Or.inl rfl) ho1 (okI_int _) ?_
  refine wp_nm (fun G2 eG2 => ?_)
  have h := h G2 eG2
  refine wp_aload_n (pc := 381) d_X12_next_381 rfl ?_
  refine wp_dup (pc := 382) d_X12_next_382 (c1_r _) ?_
  obtain ⟨ho3, h⟩ := h
  refine wp_getI (pc := 383) d_X12_next_383 fl_X12_238 (fun _ _ _ => rfl) ho3 ?_
  refine wp_iconst (pc := 386) (v := 1) d_X12_next_386 rfl ?_
  refine wp_iadd (pc := 387) d_X12_next_387 ?_
  refine wp_putI (pc := 388) d_X12_next_388 fl_X12_238 (fun _ _ _ => rfl) (Or.inl rfl) ho3 (okI_int _) ?_
  refine wp_nm (fun G4 eG4 => ?_)
  have h := h G4 eG4
  have ho5 := isO_sI eG4 ho3
  refine wp_goto (pc := 391) (tgt := 410) d_X12_next_391 (by decide) ?_
  refine wp_sub ?_ h
  exact ⟨rfl, ⟨rfl, trivial⟩⟩
theorem v_X12_next_394 {E : EE} {d : Nat} {Q : Option AV → AH → Prop} {x0 : Nat} {x1 : Int32} {x2 : Int32} {G : AH} (h0 : 0 < d) (h : wpI E (d - 1) M_X12_isSign [vi x1] G (fun r1 G2 => (r1 = 0 → wp E d M_X12_next 407 [some (vr x0), some (vi x1), some (vi x2)] [vi 3, vr x0] G2 Q) ∧ (¬ (r1 = 0) → wp E d M_X12_next 407 [some (vr x0), some (vi x1), some (vi x2)] [vi x1, vr x0] G2 Q))) : wp E d M_X12_next 394 [some (vr x0), some (vi x1), some (vi x2)] [] G Q := by
  refine wp_aload_n (pc := 394) d_X12_next_394 rfl ?_
  refine wp_iload_n (pc := 395) d_X12_next_395 rfl ?_
  refine wp_invS (pc := 396) (N := M_X12_isSign) (As := [vi _]) (rest := [vr _]) d_X12_next_396 ml_X12_308 mk_X12_isSign ms_X12_isSign h0 (Nat.le_of_ble_eq_true rfl) ?_
  refine wpM.mono h (fun rr G2 hr => ?_)
  obtain ⟨r1, rfl, h⟩ := hr
  show wp E d M_X12_next 399 [some (vr _), some (vi _), some (vi _)] [vi _, vr _] G2 Q
  refine wp_if_eq (pc := 399) (tgt := 406) d_X12_next_399 (by decide) (fun hc => ?_) (fun hc => ?_)
  · have h := h.1 hc
    refine wp_iconst (pc := 406) (v := 3) d_X12_next_406 rfl ?_
    refine wp_sub ?_ h
    exact ⟨rfl, ⟨rfl, ⟨rfl, trivial⟩⟩⟩
  · have h := h.2 hc
    refine wp_iload_n (pc := 402) d_X12_next_402 rfl ?_
    refine wp_goto (pc := 403) (tgt := 407) d_X12_next_403 (by decide) ?_
    refine wp_sub ?_ h
    exact ⟨rfl, ⟨rfl, ⟨rfl, trivial⟩⟩⟩
theorem v_X12_next_407 {E : EE} {d : Nat} {Q : Option AV → AH → Prop} {x0 : Nat} {x1 : Int32} {x2 : Int32} {t0 : Nat} {t1 : Int32} {G : AH} (h : isO E G t0 12 ∧ (wp E d M_X12_next 410 [some (vr x0), some (vi x1), none] [] (sI G t0 41 t1) Q)) : wp E d M_X12_next 407 [some (vr x0), some (vi x1), some (vi x2)] [vi t1, vr t0] G Q := by
  obtain ⟨ho1, h⟩ := h
  refine wp_putI (pc := 407) d_X12_next_407 fl_X12_292 (fun _ _ _ => rfl) (Or.inl rfl) ho1 (okI_int _) ?_
  refine wp_sub ?_ h
  exact ⟨rfl, ⟨rfl, trivial⟩⟩
theorem v_X12_next_410 {E : EE} {d : Nat} {Q : Option AV → AH → Prop} {x0 : Nat} {x1 : Int32} {G : AH} (h : isO E G x0 12 ∧ (Q none (sI G x0 40 (gI G x0 44)))) : wp E d M_X12_next 410 [some (vr x0), some (vi x1), none] [] G Q := by
  refine wp_aload_n (pc := 410) d_X12_next_410 rfl ?_
  refine wp_aload_n (pc := 411) d_X12_next_411 rfl ?_
  obtain ⟨ho1, h⟩ := h
  refine wp_getI (pc := 412) d_X12_next_412 fl_X12_238 (fun _ _ _ => rfl) ho1 ?_
  refine wp_putI (pc := 415) d_X12_next_415 fl_X12_231 (fun _ _ _ => rfl) (Or.inl rfl) ho1 (okI_int _) ?_
  exact wp_vret (pc := 418) d_X12_next_418 rfl h
theorem d_X12_passBlanks_0 : decode prog_14_method_9_code 0 = .ok (.iconst 1, 1) := by decide +kernel
theorem d_X12_passBlanks_1 : decode prog_14_method_9_code 1 = .ok (.istore_n 1, 1) := by decide +kernel
theorem d_X12_passBlanks_2 : decode prog_14_method_9_code 2 = .ok (.iload_n 1, 1) := by decide +kernel
theorem d_X12_passBlanks_3 : decode prog_14_method_9_code 3 = .ok (.ifCond .eq 108, 3) := by decide +kernel
theorem d_X12_passBlanks_6 : decode prog_14_method_9_code 6 = .ok (.aload_n 0, 1) := by decide +kernel
theorem d_X12_passBlanks_7 : decode prog_14_method_9_code 7 = .ok (.getfield 231, 3) := by decide +kernel
theorem d_X12_passBlanks_10 : decode prog_14_method_9_code 10 = .ok (.aload_n 0, 1) := by decide +kernel
theorem d_X12_passBlanks_11 : decode prog_14_method_9_code 11 = .ok (.getfield 221, 3) := by decide +kernel
theorem d_X12_passBlanks_14 : decode prog_14_method_9_code 14 = .ok (.if_icmp .ge 97, 3) := by decide +kernel
theorem d_X12_passBlanks_17 : decode prog_14_method_9_code 17 = .ok (.aload_n 0, 1) := by decide +kernel
theorem d_X12_passBlanks_18 : decode prog_14_method_9_code 18 = .ok (.aload_n 0, 1) := by decide +kernel
theorem d_X12_passBlanks_19 : decode prog_14_method_9_code 19 = .ok (.getfield 231, 3) := by decide +kernel
theorem d_X12_passBlanks_22 : decode prog_14_method_9_code 22 = .ok (.invokevirtual 234, 3) := by decide +kernel
theorem d_X12_passBlanks_25 : decode prog_14_method_9_code 25 = .ok (.istore_n 2, 1) := by decide +kernel
theorem d_X12_passBlanks_26 : decode prog_14_method_9_code 26 = .ok (.iload_n 2, 1) := by decide +kernel
theorem d_X12_passBlanks_27 : decode prog_14_method_9_code 27 = .ok (.bipush 9, 2) := by decide +kernel
theorem d_X12_passBlanks_29 : decode prog_14_method_9_code 29 = .ok (.if_icmp .eq 21, 3) := by decide +kernel
theorem d_X12_passBlanks_32 : decode prog_14_method_9_code 32 = .ok (.iload_n 2, 1) := by decide +kernel
theorem d_X12_passBlanks_33 : decode prog_14_method_9_code 33 = .ok (.bipush 10, 2) := by decide +kernel
theorem d_X12_passBlanks_35 : decode prog_14_method_9_code 35 = .ok (.if_icmp .eq 15, 3) := by decide +kernel
theorem d_X12_passBlanks_38 : decode prog_14_method_9_code 38 = .ok (.iload_n 2, 1) := by decide +kernel
theorem d_X12_passBlanks_39 : decode prog_14_method_9_code 39 = .ok (.bipush 13, 2) := by decide +kernel
theorem d_X12_passBlanks_41 : decode prog_14_method_9_code 41 = .ok (.if_icmp .eq 9, 3) := by decide +kernel
theorem d_X12_passBlanks_44 : decode prog_14_method_9_code 44 = .ok (.iload_n 2, 1) := by decide +kernel
theorem d_X12_passBlanks_45 : decode prog_14_method_9_code 45 = .ok (.bipush 32, 2) := by decide +kernel
theorem d_X12_passBlanks_47 : decode prog_14_method_9_code 47 = .ok (.if_icmp .ne 16, 3) := by decide +kernel
theorem d_X12_passBlanks_50 : decode prog_14_method_9_code 50 = .ok (.aload_n 0, 1) := by decide +kernel
theorem d_X12_passBlanks_51 : decode prog_14_method_9_code 51 = .ok (.dup, 1) := by decide +kernel
theorem d_X12_passBlanks_52 : decode prog_14_method_9_code 52 = .ok (.getfield 231, 3) := by decide +kernel
theorem d_X12_passBlanks_55 : decode prog_14_method_9_code 55 = .ok (.iconst 1, 1) := by decide +kernel
theorem d_X12_passBlanks_56 : decode prog_14_method_9_code 56 = .ok (.iadd, 1) := by decide +kernel
theorem d_X12_passBlanks_57 : decode prog_14_method_9_code 57 = .ok (.putfield 231, 3) := by decide +kernel
theorem d_X12_passBlanks_60 : decode prog_14_method_9_code 60 = .ok (.goto 48, 3) := by decide +kernel
theorem d_X12_passBlanks_63 : decode prog_14_method_9_code 63 = .ok (.iload_n 2, 1) := by decide +kernel
theorem d_X12_passBlanks_64 : decode prog_14_method_9_code 64 = .ok (.bipush 37, 2) := by decide +kernel
theorem d_X12_passBlanks_66 : decode prog_14_method_9_code 66 = .ok (.if_icmp .ne 40, 3) := by decide +kernel
theorem d_X12_passBlanks_69 : decode prog_14_method_9_code 69 = .ok (.aload_n 0, 1) := by decide +kernel
theorem d_X12_passBlanks_70 : decode prog_14_method_9_code 70 = .ok (.getfield 231, 3) := by decide +kernel
theorem d_X12_passBlanks_73 : decode prog_14_method_9_code 73 = .ok (.aload_n 0, 1) := by decide +kernel
theorem d_X12_passBlanks_74 : decode prog_14_method_9_code 74 = .ok (.getfield 221, 3) := by decide +kernel
theorem d_X12_passBlanks_77 : decode prog_14_method_9_code 77 = .ok (.if_icmp .ge 31, 3) := by decide +kernel
theorem d_X12_passBlanks_80 : decode prog_14_method_9_code 80 = .ok (.aload_n 0, 1) := by decide +kernel
theorem d_X12_passBlanks_81 : decode prog_14_method_9_code 81 = .ok (.aload_n 0, 1) := by decide +kernel
theorem d_X12_passBlanks_82 : decode prog_14_method_9_code 82 = .ok (.getfield 231, 3) := by decide +kernel
theorem d_X12_passBlanks_85 : decode prog_14_method_9_code 85 = .ok (.invokevirtual 234, 3) := by decide +kernel
theorem d_X12_passBlanks_88 : decode prog_14_method_9_code 88 = .ok (.bipush 10, 2) := by decide +kernel
theorem d_X12_passBlanks_90 : decode prog_14_method_9_code 90 = .ok (.if_icmp .eq 18, 3) := by decide +kernel
theorem d_X12_passBlanks_93 : decode prog_14_method_9_code 93 = .ok (.aload_n 0, 1) := by decide +kernel
theorem d_X12_passBlanks_94 : decode prog_14_method_9_code 94 = .ok (.dup, 1) := by decide +kernel
theorem d_X12_passBlanks_95 : decode prog_14_method_9_code 95 = .ok (.getfield 231, 3) := by decide +kernel
theorem d_X12_passBlanks_98 : decode prog_14_method_9_code 98 = .ok (.iconst 1, 1) := by decide +kernel
theorem d_X12_passBlanks_99 : decode prog_14_method_9_code 99 = .ok (.iadd, 1) := by decide +kernel
theorem d_X12_passBlanks_100 : decode prog_14_method_9_code 100 = .ok (.putfield 231, 3) := by decide +kernel
theorem d_X12_passBlanks_103 : decode prog_14_method_9_code 103 = .ok (.goto (-34), 3) := by decide +kernel
theorem d_X12_passBlanks_106 : decode prog_14_method_9_code 106 = .ok (.iconst 0, 1) := by decide +kernel
theorem d_X12_passBlanks_107 : decode prog_14_method_9_code 107 = .ok (.istore_n 1, 1) := by decide +kernel
theorem d_X12_passBlanks_108 : decode prog_14_method_9_code 108 = .ok (.goto (-106), 3) := by decide +kernel
theorem d_X12_passBlanks_111 : decode prog_14_method_9_code 111 = .ok (.return_, 1) := by decide +kernel
theorem v_X12_passBlanks_0 {E : EE} {d : Nat} {Q : Option AV → AH → Prop} {x0 : Nat} {G : AH} (h : wp E d M_X12_passBlanks 2 [some (vr x0), some (vi 1), none] [] G Q) : wp E d M_X12_passBlanks 0 [some (vr x0), none, none] [] G Q := by
  refine wp_iconst (pc := 0) (v := 1) d_X12_passBlanks_0 rfl ?_
  refine wp_istore_n (pc := 1) (lv' := [some (vr _), some (vi _), none]) d_X12_passBlanks_1 (by decide) rfl ?_
  refine wp_sub ?_ h
  exact ⟨rfl, ⟨rfl, trivial⟩⟩
theorem v_X12_passBlanks_2 {E : EE} {d : Nat} {Q : Option AV → AH → Prop} {x0 : Nat} {x1 : Int32} {G : AH} (h0 : 0 < d) (h : (x1 = 0 → Q none G) ∧ (¬ (x1 = 0) → isO E G x0 12 ∧ (((gI G x0 39) ≤ (gI G x0 40) → Q none G) ∧ (¬ ((gI G x0 39) ≤ (gI G x0 40)) → wpI E (d - 1) M_X12_look [vr x0, vi (gI G x0 40)] G (fun r2 G3 => (r2 = 9 → wp E d M_X12_passBlanks 50 [some (vr x0), some (vi x1), some (vi r2)] [] G3 Q) ∧ (¬ (r2 = 9) → (r2 = 10 → wp E d M_X12_passBlanks 50 [some (vr x0), some (vi x1), some (vi r2)] [] G3 Q) ∧ (¬ (r2 = 10) → (r2 = 13 → wp E d M_X12_passBlanks 50 [some (vr x0), some (vi x1), some (vi r2)] [] G3 Q) ∧ (¬ (r2 = 13) → (¬ r2 = 32 → (¬ r2 = 37 → wp E d M_X12_passBlanks 108 [some (vr x0), some (vi 0), some (vi r2)] [] G3 Q) ∧ (r2 = 37 → wp E d M_X12_passBlanks 69 [some (vr x0), some (vi x1), some (vi r2)] [] G3 Q)) ∧ (r2 = 32 → wp E d M_X12_passBlanks 50 [some (vr x0), some (vi x1), some (vi r2)] [] G3 Q))))))))) : wp E d M_X12_passBlanks 2 [some (vr x0), some (vi x1), none] [] G Q := by
  refine wp_iload_n (pc := 2) d_X12_passBlanks_2 rfl ?_
  refine wp_if_eq (pc := 3) (tgt := 111) d_X12_passBlanks_3 (by decide) (fun hc => ?_) (fun hc => ?_)
  · have h := h.1 hc
    exact wp_vret (pc := 111) d_X12_passBlanks_111 rfl h
  · have h := h.2 hc
    refine wp_aload_n (pc := 6) d_X12_passBlanks_6 rfl ?_
    obtain ⟨ho1, h⟩ := h
    refine wp_getI (pc := 7) d_X12_passBlanks_7 fl_X12_231 (fun _ _ _ => rfl) ho1 ?_
    refine wp_aload_n (pc := 10) d_X12_passBlanks_10 rfl ?_
    refine wp_getI (pc := 11) d_X12_passBlanks_11 fl_X12_221 (fun _ _ _ => rfl) ho1 ?_
    refine wp_icmp_ge (pc := 14) (tgt := 111) d_X12_passBlanks_14 (by decide) (fun hc => ?_) (fun hc => ?_)
    · have h := h.1 hc
      exact wp_vret (pc := 111) d_X12_passBlanks_111 rfl h
    · have h := h.2 hc
      refine wp_aload_n (pc := 17) d_X12_passBlanks_17 rfl ?_
      refine wp_aload_n (pc := 18) d_X12_passBlanks_18 rfl ?_
      refine wp_getI (pc := 19) d_X12_passBlanks_19 fl_X12_231 (fun _ _ _ => rfl) ho1 ?_
      refine wp_invV (pc := 22) (N := M_X12_look) (As := [vi _]) (rest := []) (r := (cn_12, ct_12, 95)) d_X12_passBlanks_22 ml_X12_234 mk_X12_look mv_X12_look h0 ho1 rfl rfl (Nat.le_of_ble_eq_true rfl) ?_
      refine wpM.mono h (fun rr G3 hr => ?_)
      obtain ⟨r2, rfl, h⟩ := hr
      show wp E d M_X12_passBlanks 25 [some (vr _), some (vi _), none] [vi _] G3 Q
      refine wp_istore_n (pc := 25) (lv' := [some (vr _), some (vi _), some (vi _)]) d_X12_passBlanks_25 (by decide) rfl ?_
      refine wp_iload_n (pc := 26) d_X12_passBlanks_26 rfl ?_
      refine wp_bipush (pc := 27) (v := 9) d_X12_passBlanks_27 rfl ?_
      refine wp_icmp_eq (pc := 29) (tgt := 50) d_X12_passBlanks_29 (by decide) (fun hc => ?_) (fun hc => ?_)
      · have h := h.1 hc
        refine wp_sub ?_ h
        exact ⟨rfl, ⟨rfl, ⟨rfl, trivial⟩⟩⟩
      · have h := h.2 hc
        refine wp_iload_n (pc := 32) d_X12_passBlanks_32 rfl ?_
        refine wp_bipush (pc := 33) (v := 10) d_X12_passBlanks_33 rfl ?_
        refine wp_icmp_eq (pc := 35) (tgt := 50) d_X12_passBlanks_35 (by decide) (fun hc => ?_) (fun hc => ?_)
        · have h := h.1 hc
          refine wp_sub ?_ h
          exact ⟨rfl, ⟨rfl, ⟨rfl, trivial⟩⟩⟩
        · have h := h.2 hc
          refine wp_iload_n (pc := 38) d_X12_passBlanks_38 rfl ?_
          refine wp_bipush (pc := 39) (v := 13) d_X12_passBlanks_39 rfl ?_
          refine wp_icmp_eq (pc := 41) (tgt := 50) d_X12_passBlanks_41 (by decide) (fun hc => ?_) (fun hc => ?_)
          · have h := h.1 hc
            refine wp_sub ?_ h
            exact ⟨rfl, ⟨rfl, ⟨rfl, trivial⟩⟩⟩
          · have h := h.2 hc
            refine wp_iload_n (pc := 44) d_X12_passBlanks_44 rfl ?_
            refine wp_bipush (pc := 45) (v := 32) d_X12_passBlanks_45 rfl ?_
            refine wp_icmp_ne (pc := 47) (tgt := 63) d_X12_passBlanks_47 (by decide) (fun hc => ?_) (fun hc => ?_)
            · have h := h.1 hc
              refine wp_iload_n (pc := 63) d_X12_passBlanks_63 rfl ?_
              refine wp_bipush (pc := 64) (v := 37) d_X12_passBlanks_64 rfl ?_
              refine wp_icmp_ne (pc := 66) (tgt := 106) d_X12_passBlanks_66 (by decide) (fun hc => ?_) (fun hc => ?_)
              · have h := h.1 hc
                refine wp_iconst (pc := 106) (v := 0) d_X12_passBlanks_106 rfl ?_
                refine wp_istore_n (pc := 107) (lv' := [some (vr _), some (vi _), some (vi _)]) d_X12_passBlanks_107 (by decide) rfl ?_
                refine wp_sub ?_ h
                exact ⟨rfl, ⟨rfl, ⟨rfl, trivial⟩⟩⟩
              · have h := h.2 hc
                refine wp_sub ?_ h
                exact ⟨rfl, ⟨rfl, ⟨rfl, trivial⟩⟩⟩
            · have h := h.2 hc
              refine wp_sub ?_ h
              exact ⟨rfl, ⟨rfl, ⟨rfl, trivial⟩⟩⟩
theorem v_X12_passBlanks_50 {E : EE} {d : Nat} {Q : Option AV → AH → Prop} {x0 : Nat} {x1 : Int32} {x2 : Int32} {G : AH} (h : isO E G x0 12 ∧ (wp E d M_X12_passBlanks 108 [some (vr x0), some (vi x1), some (vi x2)] [] (sI G x0 40 ((gI G x0 40) + 1)) Q)) : wp E d M_X12_passBlanks 50 [some (vr x0), some (vi x1), some (vi x2)] [] G Q := by
  refine wp_aload_n (pc := 50) d_X12_passBlanks_50 rfl ?_
  refine wp_dup (pc := 51) d_X12_passBlanks_51 (c1_r _) ?_
  obtain ⟨ho1, h⟩ := h
  refine wp_getI (pc := 52) d_X12_passBlanks_52 fl_X12_231 (fun _ _ _ => rfl) ho1 ?_
  refine wp_iconst (pc := 55) (v := 1) d_X12_passBlanks_55 rfl ?_
  refine wp_iadd (pc := 56) d_X12_passBlanks_56 ?_
  refine wp_putI (pc := 57) d_X12_passBlanks_57 fl_X12_231 (fun _ _ _ => rfl) (Or.inl rfl) ho1 (okI_int _) ?_
  refine wp_goto (pc := 60) (tgt := 108) d_X12_passBlanks_60 (by decide) ?_
  refine wp_sub ?_ h
  exact ⟨rfl, ⟨rfl, ⟨rfl, trivial⟩⟩⟩
theorem v_X12_passBlanks_69 {E : EE} {d : Nat} {Q : Option AV → AH → Prop} {x0 : Nat} {x1 : Int32} {x2 : Int32} {G : AH} (h0 : 0 < d) (h : isO E G x0 12 ∧ (((gI G x0 39) ≤ (gI G x0 40) → wp E d M_X12_passBlanks 108 [some (vr x0), some (vi x1), some (vi x2)] [] G Q) ∧ (¬ ((gI G x0 39) ≤ (gI G x0 40)) → wpI E (d - 1) M_X12_look [vr x0, vi (gI G x0 40)] G (fun r2 G3 => (r2 = 10 → wp E d M_X12_passBlanks 108 [some (vr x0), some (vi x1), some (vi x2)] [] G3 Q) ∧ (¬ (r2 = 10) → isO E G3 x0 12 ∧ (wp E d M_X12_passBlanks 69 [some (vr x0), some (vi x1), some (vi x2)] [] (sI G3 x0 40 ((gI G3 x0 40) + 1)) Q)))))) : wp E d M_X12_passBlanks 69 [some (vr x0), some (vi x1), some (vi x2)] [] G Q := by
  refine wp_aload_n (pc := 69) d_X12_passBlanks_69 rfl ?_
  obtain ⟨ho1, h⟩ := h
  refine wp_getI (pc := 70) d_X12_passBlanks_70 fl_X12_231 (fun _ _ _ => rfl) ho1 ?_
  refine wp_aload_n (pc := 73) d_X12_passBlanks_73 rfl ?_
  refine wp_getI (pc := 74) d_X12_passBlanks_74 fl_X12_221 (fun _ _ _ => rfl) ho1 ?_
  refine wp_icmp_ge (pc := 77) (tgt := 108) d_X12_passBlanks_77 (by decide) (fun hc => ?_) (fun hc => ?_)
  · have h := h.1 hc
    refine wp_sub ?_ h
    exact ⟨rfl, ⟨rfl, ⟨rfl, trivial⟩⟩⟩
  · have h := h.2 hc
    refine wp_aload_n (pc := 80) d_X12_passBlanks_80 rfl ?_
    refine wp_aload_n (pc := 81) d_X12_passBlanks_81 rfl ?_
    refine wp_getI (pc := 82) d_X12_passBlanks_82 fl_X12_231 (fun _ _ _ => rfl) ho1 ?_
    refine wp_invV (pc := 85) (N := M_X12_look) (As := [vi _]) (rest := []) (r := (cn_12, ct_12, 95)) d_X12_passBlanks_85 ml_X12_234 mk_X12_look mv_X12_look h0 ho1 rfl rfl (Nat.le_of_ble_eq_true rfl) ?_
    refine wpM.mono h (fun rr G3 hr => ?_)
    obtain ⟨r2, rfl, h⟩ := hr
    show wp E d M_X12_passBlanks 88 [some (vr _), some (vi _), some (vi _)] [vi _] G3 Q
    refine wp_bipush (pc := 88) (v := 10) d_X12_passBlanks_88 rfl ?_
    refine wp_icmp_eq (pc := 90) (tgt := 108) d_X12_passBlanks_90 (by decide) (fun hc => ?_) (fun hc => ?_)
    · have h := h.1 hc
      refine wp_sub ?_ h
      exact ⟨rfl, ⟨rfl, ⟨rfl, trivial⟩⟩⟩
    · have h := h.2 hc
      refine wp_aload_n (pc := 93) d_X12_passBlanks_93 rfl ?_
      refine wp_dup (pc := 94) d_X12_passBlanks_94 (c1_r _) ?_
      obtain ⟨ho4, h⟩ := h
      refine wp_getI (pc := 95) d_X12_passBlanks_95 fl_X12_231 (fun _ _ _ => rfl) ho4 ?_
      refine wp_iconst (pc := 98) (v := 1) d_X12_passBlanks_98 rfl ?_
      refine wp_iadd (pc := 99) d_X12_passBlanks_99 ?_
      refine wp_putI (pc := 100) d_X12_passBlanks_100 fl_X12_231 (fun _ _ _ => rfl) (Or.inl rfl) ho4 (okI_int _) ?_
      refine wp_goto (pc := 103) (tgt := 69) d_X12_passBlanks_103 (by decide) ?_
      refine wp_sub ?_ h
      exact ⟨rfl, ⟨rfl, ⟨rfl, trivial⟩⟩⟩
theorem v_X12_passBlanks_108 {E : EE} {d : Nat} {Q : Option AV → AH → Prop} {x0 : Nat} {x1 : Int32} {x2 : Int32} {G : AH} (h : wp E d M_X12_passBlanks 2 [some (vr x0), some (vi x1), none] [] G Q) : wp E d M_X12_passBlanks 108 [some (vr x0), some (vi x1), some (vi x2)] [] G Q := by
  refine wp_goto (pc := 108) (tgt := 2) d_X12_passBlanks_108 (by decide) ?_
  refine wp_sub ?_ h
  exact ⟨rfl, ⟨rfl, trivial⟩⟩
theorem d_X12_look_0 : decode prog_14_method_6_code 0 = .ok (.iload_n 1, 1) := by decide +kernel
theorem d_X12_look_1 : decode prog_14_method_6_code 1 = .ok (.aload_n 0, 1) := by decide +kernel
theorem d_X12_look_2 : decode prog_14_method_6_code 2 = .ok (.getfield 221, 3) := by decide +kernel
theorem d_X12_look_5 : decode prog_14_method_6_code 5 = .ok (.if_icmp .lt 7, 3) := by decide +kernel
theorem d_X12_look_8 : decode prog_14_method_6_code 8 = .ok (.iconst 0, 1) := by decide +kernel
theorem d_X12_look_9 : decode prog_14_method_6_code 9 = .ok (.goto 34, 3) := by decide +kernel
theorem d_X12_look_12 : decode prog_14_method_6_code 12 = .ok (.aload_n 0, 1) := by decide +kernel
theorem d_X12_look_13 : decode prog_14_method_6_code 13 = .ok (.getfield 224, 3) := by decide +kernel
theorem d_X12_look_16 : decode prog_14_method_6_code 16 = .ok (.ifCond .eq 12, 3) := by decide +kernel
theorem d_X12_look_19 : decode prog_14_method_6_code 19 = .ok (.aload_n 0, 1) := by decide +kernel
theorem d_X12_look_20 : decode prog_14_method_6_code 20 = .ok (.getfield 9, 3) := by decide +kernel
theorem d_X12_look_23 : decode prog_14_method_6_code 23 = .ok (.iload_n 1, 1) := by decide +kernel
theorem d_X12_look_24 : decode prog_14_method_6_code 24 = .ok (.baload, 1) := by decide +kernel
theorem d_X12_look_25 : decode prog_14_method_6_code 25 = .ok (.goto 14, 3) := by decide +kernel
theorem d_X12_look_28 : decode prog_14_method_6_code 28 = .ok (.aload_n 0, 1) := by decide +kernel
theorem d_X12_look_29 : decode prog_14_method_6_code 29 = .ok (.getfield 24, 3) := by decide +kernel
theorem d_X12_look_32 : decode prog_14_method_6_code 32 = .ok (.aload_n 0, 1) := by decide +kernel
theorem d_X12_look_33 : decode prog_14_method_6_code 33 = .ok (.getfield 228, 3) := by decide +kernel
theorem d_X12_look_36 : decode prog_14_method_6_code 36 = .ok (.iload_n 1, 1) := by decide +kernel
theorem d_X12_look_37 : decode prog_14_method_6_code 37 = .ok (.iadd, 1) := by decide +kernel
theorem d_X12_look_38 : decode prog_14_method_6_code 38 = .ok (.baload, 1) := by decide +kernel
theorem d_X12_look_39 : decode prog_14_method_6_code 39 = .ok (.sipush 255, 3) := by decide +kernel
theorem d_X12_look_42 : decode prog_14_method_6_code 42 = .ok (.iand, 1) := by decide +kernel
theorem d_X12_look_43 : decode prog_14_method_6_code 43 = .ok (.ireturn, 1) := by decide +kernel
theorem v_X12_look_0 {E : EE} {d : Nat} {Q : Option AV → AH → Prop} {x0 : Nat} {x1 : Int32} {G : AH} (h : isO E G x0 12 ∧ ((x1 < (gI G x0 39) → ((gI G x0 37) = 0 → isO E G (gR G x0 6) 13 ∧ (vp_in ((gI G x0 38) + x1) (gN G (gR G x0 6)) ∧ (wp E d M_X12_look 39 [some (vr x0), some (vi x1)] [vi (gI G (gR G x0 6) (Int32.toNatClampNeg ((gI G x0 38) + x1)))] G Q))) ∧ (¬ ((gI G x0 37) = 0) → isO E G (gR G x0 0) 13 ∧ (vp_in x1 (gN G (gR G x0 0)) ∧ (wp E d M_X12_look 39 [some (vr x0), some (vi x1)] [vi (gI G (gR G x0 0) (Int32.toNatClampNeg x1))] G Q)))) ∧ (¬ (x1 < (gI G x0 39)) → Q (some (vi 0)) G))) : wp E d M_X12_look 0 [some (vr x0), some (vi x1)] [] G Q := by
  refine wp_iload_n (pc := 0) d_X12_look_0 rfl ?_
  refine wp_aload_n (pc := 1) d_X12_look_1 rfl ?_
  obtain ⟨ho1, h⟩ := h
  refine wp_getI (pc := 2) d_X12_look_2 fl_X12_221 (fun _ _ _ => rfl) ho1 ?_
  refine wp_icmp_lt (pc := 5) (tgt := 12) d_X12_look_5 (by decide) (fun hc => ?_) (fun hc => ?_)
  · have h := h.1 hc
    refine wp_aload_n (pc := 12) d_X12_look_12 rfl ?_
    refine wp_getI (pc := 13) d_X12_look_13 fl_X12_224 (fun _ _ _ => rfl) ho1 ?_
    refine wp_if_eq (pc := 16) (tgt := 28) d_X12_look_16 (by decide) (fun hc => ?_) (fun hc => ?_)
    · have h := h.1 hc
      refine wp_aload_n (pc := 28) d_X12_look_28 rfl ?_
      refine wp_getR (pc := 29) d_X12_look_29 fl_X12_24 (fun _ _ _ => rfl) ho1 ?_
      refine wp_aload_n (pc := 32) d_X12_look_32 rfl ?_
      refine wp_getI (pc := 33) d_X12_look_33 fl_X12_228 (fun _ _ _ => rfl) ho1 ?_
      refine wp_iload_n (pc := 36) d_X12_look_36 rfl ?_
      refine wp_iadd (pc := 37) d_X12_look_37 ?_
      obtain ⟨ho2, h⟩ := h
      obtain ⟨hi3, h⟩ := h
      refine wp_bald (pc := 38) d_X12_look_38 ho2 hi3 ?_
      refine wp_sub ?_ h
      exact ⟨rfl, ⟨rfl, trivial⟩⟩
    · have h := h.2 hc
      refine wp_aload_n (pc := 19) d_X12_look_19 rfl ?_
      refine wp_getR (pc := 20) d_X12_look_20 fl_X12_9 (fun _ _ _ => rfl) ho1 ?_
      refine wp_iload_n (pc := 23) d_X12_look_23 rfl ?_
      obtain ⟨ho4, h⟩ := h
      obtain ⟨hi5, h⟩ := h
      refine wp_bald (pc := 24) d_X12_look_24 ho4 hi5 ?_
      refine wp_goto (pc := 25) (tgt := 39) d_X12_look_25 (by decide) ?_
      refine wp_sub ?_ h
      exact ⟨rfl, ⟨rfl, trivial⟩⟩
  · have h := h.2 hc
    refine wp_iconst (pc := 8) (v := 0) d_X12_look_8 rfl ?_
    refine wp_goto (pc := 9) (tgt := 43) d_X12_look_9 (by decide) ?_
    exact wp_iret (pc := 43) d_X12_look_43 rfl h
theorem v_X12_look_39 {E : EE} {d : Nat} {Q : Option AV → AH → Prop} {x0 : Nat} {x1 : Int32} {t0 : Int32} {G : AH} (h : Q (some (vi (t0 &&& 255))) G) : wp E d M_X12_look 39 [some (vr x0), some (vi x1)] [vi t0] G Q := by
  refine wp_sipush (pc := 39) (v := 255) d_X12_look_39 rfl ?_
  refine wp_iand (pc := 42) d_X12_look_42 ?_
  exact wp_iret (pc := 43) d_X12_look_43 rfl h
theorem d_X12_isLetter_0 : decode prog_14_method_7_code 0 = .ok (.iload_n 0, 1) := by decide +kernel
theorem d_X12_isLetter_1 : decode prog_14_method_7_code 1 = .ok (.bipush 97, 2) := by decide +kernel
theorem d_X12_isLetter_3 : decode prog_14_method_7_code 3 = .ok (.if_icmp .lt 9, 3) := by decide +kernel
theorem d_X12_isLetter_6 : decode prog_14_method_7_code 6 = .ok (.iload_n 0, 1) := by decide +kernel
theorem d_X12_isLetter_7 : decode prog_14_method_7_code 7 = .ok (.bipush 122, 2) := by decide +kernel
theorem d_X12_isLetter_9 : decode prog_14_method_7_code 9 = .ok (.if_icmp .le 15, 3) := by decide +kernel
theorem d_X12_isLetter_12 : decode prog_14_method_7_code 12 = .ok (.iload_n 0, 1) := by decide +kernel
theorem d_X12_isLetter_13 : decode prog_14_method_7_code 13 = .ok (.bipush 65, 2) := by decide +kernel
theorem d_X12_isLetter_15 : decode prog_14_method_7_code 15 = .ok (.if_icmp .lt 13, 3) := by decide +kernel
theorem d_X12_isLetter_18 : decode prog_14_method_7_code 18 = .ok (.iload_n 0, 1) := by decide +kernel
theorem d_X12_isLetter_19 : decode prog_14_method_7_code 19 = .ok (.bipush 90, 2) := by decide +kernel
theorem d_X12_isLetter_21 : decode prog_14_method_7_code 21 = .ok (.if_icmp .gt 7, 3) := by decide +kernel
theorem d_X12_isLetter_24 : decode prog_14_method_7_code 24 = .ok (.iconst 1, 1) := by decide +kernel
theorem d_X12_isLetter_25 : decode prog_14_method_7_code 25 = .ok (.goto 4, 3) := by decide +kernel
theorem d_X12_isLetter_28 : decode prog_14_method_7_code 28 = .ok (.iconst 0, 1) := by decide +kernel
theorem d_X12_isLetter_29 : decode prog_14_method_7_code 29 = .ok (.ireturn, 1) := by decide +kernel
theorem v_X12_isLetter_0 {E : EE} {d : Nat} {Q : Option AV → AH → Prop} {x0 : Int32} {G : AH} (h : (x0 < 97 → wp E d M_X12_isLetter 12 [some (vi x0)] [] G Q) ∧ (¬ (x0 < 97) → (x0 ≤ 122 → wp E d M_X12_isLetter 24 [some (vi x0)] [] G Q) ∧ (¬ (x0 ≤ 122) → wp E d M_X12_isLetter 12 [some (vi x0)] [] G Q))) : wp E d M_X12_isLetter 0 [some (vi x0)] [] G Q := by
  refine wp_iload_n (pc := 0) d_X12_isLetter_0 rfl ?_
  refine wp_bipush (pc := 1) (v := 97) d_X12_isLetter_1 rfl ?_
  refine wp_icmp_lt (pc := 3) (tgt := 12) d_X12_isLetter_3 (by decide) (fun hc => ?_) (fun hc => ?_)
  · have h := h.1 hc
    refine wp_sub ?_ h
    exact ⟨rfl, trivial⟩
  · have h := h.2 hc
    refine wp_iload_n (pc := 6) d_X12_isLetter_6 rfl ?_
    refine wp_bipush (pc := 7) (v := 122) d_X12_isLetter_7 rfl ?_
    refine wp_icmp_le (pc := 9) (tgt := 24) d_X12_isLetter_9 (by decide) (fun hc => ?_) (fun hc => ?_)
    · have h := h.1 hc
      refine wp_sub ?_ h
      exact ⟨rfl, trivial⟩
    · have h := h.2 hc
      refine wp_sub ?_ h
      exact ⟨rfl, trivial⟩
theorem v_X12_isLetter_12 {E : EE} {d : Nat} {Q : Option AV → AH → Prop} {x0 : Int32} {G : AH} (h : (x0 < 65 → Q (some (vi 0)) G) ∧ (¬ (x0 < 65) → (90 < x0 → Q (some (vi 0)) G) ∧ (¬ (90 < x0) → wp E d M_X12_isLetter 24 [some (vi x0)] [] G Q))) : wp E d M_X12_isLetter 12 [some (vi x0)] [] G Q := by
  refine wp_iload_n (pc := 12) d_X12_isLetter_12 rfl ?_
  refine wp_bipush (pc := 13) (v := 65) d_X12_isLetter_13 rfl ?_
  refine wp_icmp_lt (pc := 15) (tgt := 28) d_X12_isLetter_15 (by decide) (fun hc => ?_) (fun hc => ?_)
  · have h := h.1 hc
    refine wp_iconst (pc := 28) (v := 0) d_X12_isLetter_28 rfl ?_
    exact wp_zret (pc := 29) d_X12_isLetter_29 rfl rfl h
  · have h := h.2 hc
    refine wp_iload_n (pc := 18) d_X12_isLetter_18 rfl ?_
    refine wp_bipush (pc := 19) (v := 90) d_X12_isLetter_19 rfl ?_
    refine wp_icmp_gt (pc := 21) (tgt := 28) d_X12_isLetter_21 (by decide) (fun hc => ?_) (fun hc => ?_)
    · have h := h.1 hc
      refine wp_iconst (pc := 28) (v := 0) d_X12_isLetter_28 rfl ?_
      exact wp_zret (pc := 29) d_X12_isLetter_29 rfl rfl h
    · have h := h.2 hc
      refine wp_sub ?_ h
      exact ⟨rfl, trivial⟩
theorem v_X12_isLetter_24 {E : EE} {d : Nat} {Q : Option AV → AH → Prop} {x0 : Int32} {G : AH} (h : Q (some (vi 1)) G) : wp E d M_X12_isLetter 24 [some (vi x0)] [] G Q := by
  refine wp_iconst (pc := 24) (v := 1) d_X12_isLetter_24 rfl ?_
  refine wp_goto (pc := 25) (tgt := 29) d_X12_isLetter_25 (by decide) ?_
  exact wp_zret (pc := 29) d_X12_isLetter_29 rfl rfl h
theorem d_X12_isFigure_0 : decode prog_14_method_8_code 0 = .ok (.iload_n 0, 1) := by decide +kernel
theorem d_X12_isFigure_1 : decode prog_14_method_8_code 1 = .ok (.bipush 48, 2) := by decide +kernel
theorem d_X12_isFigure_3 : decode prog_14_method_8_code 3 = .ok (.if_icmp .lt 13, 3) := by decide +kernel
theorem d_X12_isFigure_6 : decode prog_14_method_8_code 6 = .ok (.iload_n 0, 1) := by decide +kernel
theorem d_X12_isFigure_7 : decode prog_14_method_8_code 7 = .ok (.bipush 57, 2) := by decide +kernel
theorem d_X12_isFigure_9 : decode prog_14_method_8_code 9 = .ok (.if_icmp .gt 7, 3) := by decide +kernel
theorem d_X12_isFigure_12 : decode prog_14_method_8_code 12 = .ok (.iconst 1, 1) := by decide +kernel
theorem d_X12_isFigure_13 : decode prog_14_method_8_code 13 = .ok (.goto 4, 3) := by decide +kernel
theorem d_X12_isFigure_16 : decode prog_14_method_8_code 16 = .ok (.iconst 0, 1) := by decide +kernel
theorem d_X12_isFigure_17 : decode prog_14_method_8_code 17 = .ok (.ireturn, 1) := by decide +kernel
theorem v_X12_isFigure_0 {E : EE} {d : Nat} {Q : Option AV → AH → Prop} {x0 : Int32} {G : AH} (h : (x0 < 48 → Q (some (vi 0)) G) ∧ (¬ (x0 < 48) → (57 < x0 → Q (some (vi 0)) G) ∧ (¬ (57 < x0) → Q (some (vi 1)) G))) : wp E d M_X12_isFigure 0 [some (vi x0)] [] G Q := by
  refine wp_iload_n (pc := 0) d_X12_isFigure_0 rfl ?_
  refine wp_bipush (pc := 1) (v := 48) d_X12_isFigure_1 rfl ?_
  refine wp_icmp_lt (pc := 3) (tgt := 16) d_X12_isFigure_3 (by decide) (fun hc => ?_) (fun hc => ?_)
  · have h := h.1 hc
    refine wp_iconst (pc := 16) (v := 0) d_X12_isFigure_16 rfl ?_
    exact wp_zret (pc := 17) d_X12_isFigure_17 rfl rfl h
  · have h := h.2 hc
    refine wp_iload_n (pc := 6) d_X12_isFigure_6 rfl ?_
    refine wp_bipush (pc := 7) (v := 57) d_X12_isFigure_7 rfl ?_
    refine wp_icmp_gt (pc := 9) (tgt := 16) d_X12_isFigure_9 (by decide) (fun hc => ?_) (fun hc => ?_)
    · have h := h.1 hc
      refine wp_iconst (pc := 16) (v := 0) d_X12_isFigure_16 rfl ?_
      exact wp_zret (pc := 17) d_X12_isFigure_17 rfl rfl h
    · have h := h.2 hc
      refine wp_iconst (pc := 12) (v := 1) d_X12_isFigure_12 rfl ?_
      refine wp_goto (pc := 13) (tgt := 17) d_X12_isFigure_13 (by decide) ?_
      exact wp_zret (pc := 17) d_X12_isFigure_17 rfl rfl h
theorem d_X12_wordOf_0 : decode prog_14_method_11_code 0 = .ok (.aload_n 0, 1) := by decide +kernel
theorem d_X12_wordOf_1 : decode prog_14_method_11_code 1 = .ok (.ldc 253, 2) := by decide +kernel
theorem d_X12_wordOf_3 : decode prog_14_method_11_code 3 = .ok (.invokevirtual 255, 3) := by decide +kernel
theorem d_X12_wordOf_6 : decode prog_14_method_11_code 6 = .ok (.ifCond .eq 7, 3) := by decide +kernel
theorem d_X12_wordOf_9 : decode prog_14_method_11_code 9 = .ok (.sipush 300, 3) := by decide +kernel
theorem d_X12_wordOf_12 : decode prog_14_method_11_code 12 = .ok (.ireturn, 1) := by decide +kernel
theorem d_X12_wordOf_13 : decode prog_14_method_11_code 13 = .ok (.aload_n 0, 1) := by decide +kernel
theorem d_X12_wordOf_14 : decode prog_14_method_11_code 14 = .ok (.ldc_w 259, 3) := by decide +kernel
theorem d_X12_wordOf_17 : decode prog_14_method_11_code 17 = .ok (.invokevirtual 255, 3) := by decide +kernel
theorem d_X12_wordOf_20 : decode prog_14_method_11_code 20 = .ok (.ifCond .eq 7, 3) := by decide +kernel
theorem d_X12_wordOf_23 : decode prog_14_method_11_code 23 = .ok (.sipush 301, 3) := by decide +kernel
theorem d_X12_wordOf_26 : decode prog_14_method_11_code 26 = .ok (.ireturn, 1) := by decide +kernel
theorem d_X12_wordOf_27 : decode prog_14_method_11_code 27 = .ok (.aload_n 0, 1) := by decide +kernel
theorem d_X12_wordOf_28 : decode prog_14_method_11_code 28 = .ok (.ldc_w 261, 3) := by decide +kernel
theorem d_X12_wordOf_31 : decode prog_14_method_11_code 31 = .ok (.invokevirtual 255, 3) := by decide +kernel
theorem d_X12_wordOf_34 : decode prog_14_method_11_code 34 = .ok (.ifCond .eq 7, 3) := by decide +kernel
theorem d_X12_wordOf_37 : decode prog_14_method_11_code 37 = .ok (.sipush 302, 3) := by decide +kernel
theorem d_X12_wordOf_40 : decode prog_14_method_11_code 40 = .ok (.ireturn, 1) := by decide +kernel
theorem d_X12_wordOf_41 : decode prog_14_method_11_code 41 = .ok (.aload_n 0, 1) := by decide +kernel
theorem d_X12_wordOf_42 : decode prog_14_method_11_code 42 = .ok (.ldc_w 263, 3) := by decide +kernel
theorem d_X12_wordOf_45 : decode prog_14_method_11_code 45 = .ok (.invokevirtual 255, 3) := by decide +kernel
theorem d_X12_wordOf_48 : decode prog_14_method_11_code 48 = .ok (.ifCond .eq 7, 3) := by decide +kernel
theorem d_X12_wordOf_51 : decode prog_14_method_11_code 51 = .ok (.sipush 303, 3) := by decide +kernel
theorem d_X12_wordOf_54 : decode prog_14_method_11_code 54 = .ok (.ireturn, 1) := by decide +kernel
theorem d_X12_wordOf_55 : decode prog_14_method_11_code 55 = .ok (.aload_n 0, 1) := by decide +kernel
theorem d_X12_wordOf_56 : decode prog_14_method_11_code 56 = .ok (.ldc_w 265, 3) := by decide +kernel
theorem d_X12_wordOf_59 : decode prog_14_method_11_code 59 = .ok (.invokevirtual 255, 3) := by decide +kernel
theorem d_X12_wordOf_62 : decode prog_14_method_11_code 62 = .ok (.ifCond .eq 7, 3) := by decide +kernel
theorem d_X12_wordOf_65 : decode prog_14_method_11_code 65 = .ok (.sipush 304, 3) := by decide +kernel
theorem d_X12_wordOf_68 : decode prog_14_method_11_code 68 = .ok (.ireturn, 1) := by decide +kernel
theorem d_X12_wordOf_69 : decode prog_14_method_11_code 69 = .ok (.aload_n 0, 1) := by decide +kernel
theorem d_X12_wordOf_70 : decode prog_14_method_11_code 70 = .ok (.ldc_w 266, 3) := by decide +kernel
theorem d_X12_wordOf_73 : decode prog_14_method_11_code 73 = .ok (.invokevirtual 255, 3) := by decide +kernel
theorem d_X12_wordOf_76 : decode prog_14_method_11_code 76 = .ok (.ifCond .eq 7, 3) := by decide +kernel
theorem d_X12_wordOf_79 : decode prog_14_method_11_code 79 = .ok (.sipush 305, 3) := by decide +kernel
theorem d_X12_wordOf_82 : decode prog_14_method_11_code 82 = .ok (.ireturn, 1) := by decide +kernel
theorem d_X12_wordOf_83 : decode prog_14_method_11_code 83 = .ok (.aload_n 0, 1) := by decide +kernel
theorem d_X12_wordOf_84 : decode prog_14_method_11_code 84 = .ok (.ldc_w 268, 3) := by decide +kernel
theorem d_X12_wordOf_87 : decode prog_14_method_11_code 87 = .ok (.invokevirtual 255, 3) := by decide +kernel
theorem d_X12_wordOf_90 : decode prog_14_method_11_code 90 = .ok (.ifCond .eq 7, 3) := by decide +kernel
theorem d_X12_wordOf_93 : decode prog_14_method_11_code 93 = .ok (.sipush 306, 3) := by decide +kernel
theorem d_X12_wordOf_96 : decode prog_14_method_11_code 96 = .ok (.ireturn, 1) := by decide +kernel
theorem d_X12_wordOf_97 : decode prog_14_method_11_code 97 = .ok (.aload_n 0, 1) := by decide +kernel
theorem d_X12_wordOf_98 : decode prog_14_method_11_code 98 = .ok (.ldc_w 270, 3) := by decide +kernel
theorem d_X12_wordOf_101 : decode prog_14_method_11_code 101 = .ok (.invokevirtual 255, 3) := by decide +kernel
theorem d_X12_wordOf_104 : decode prog_14_method_11_code 104 = .ok (.ifCond .eq 7, 3) := by decide +kernel
theorem d_X12_wordOf_107 : decode prog_14_method_11_code 107 = .ok (.sipush 307, 3) := by decide +kernel
theorem d_X12_wordOf_110 : decode prog_14_method_11_code 110 = .ok (.ireturn, 1) := by decide +kernel
theorem d_X12_wordOf_111 : decode prog_14_method_11_code 111 = .ok (.aload_n 0, 1) := by decide +kernel
theorem d_X12_wordOf_112 : decode prog_14_method_11_code 112 = .ok (.ldc_w 271, 3) := by decide +kernel
theorem d_X12_wordOf_115 : decode prog_14_method_11_code 115 = .ok (.invokevirtual 255, 3) := by decide +kernel
theorem d_X12_wordOf_118 : decode prog_14_method_11_code 118 = .ok (.ifCond .eq 7, 3) := by decide +kernel
theorem d_X12_wordOf_121 : decode prog_14_method_11_code 121 = .ok (.sipush 308, 3) := by decide +kernel
theorem d_X12_wordOf_124 : decode prog_14_method_11_code 124 = .ok (.ireturn, 1) := by decide +kernel
theorem d_X12_wordOf_125 : decode prog_14_method_11_code 125 = .ok (.aload_n 0, 1) := by decide +kernel
theorem d_X12_wordOf_126 : decode prog_14_method_11_code 126 = .ok (.ldc_w 273, 3) := by decide +kernel
theorem d_X12_wordOf_129 : decode prog_14_method_11_code 129 = .ok (.invokevirtual 255, 3) := by decide +kernel
theorem d_X12_wordOf_132 : decode prog_14_method_11_code 132 = .ok (.ifCond .eq 7, 3) := by decide +kernel
theorem d_X12_wordOf_135 : decode prog_14_method_11_code 135 = .ok (.sipush 309, 3) := by decide +kernel
theorem d_X12_wordOf_138 : decode prog_14_method_11_code 138 = .ok (.ireturn, 1) := by decide +kernel
theorem d_X12_wordOf_139 : decode prog_14_method_11_code 139 = .ok (.aload_n 0, 1) := by decide +kernel
theorem d_X12_wordOf_140 : decode prog_14_method_11_code 140 = .ok (.ldc_w 275, 3) := by decide +kernel
theorem d_X12_wordOf_143 : decode prog_14_method_11_code 143 = .ok (.invokevirtual 255, 3) := by decide +kernel
theorem d_X12_wordOf_146 : decode prog_14_method_11_code 146 = .ok (.ifCond .eq 7, 3) := by decide +kernel
theorem d_X12_wordOf_149 : decode prog_14_method_11_code 149 = .ok (.sipush 310, 3) := by decide +kernel
theorem d_X12_wordOf_152 : decode prog_14_method_11_code 152 = .ok (.ireturn, 1) := by decide +kernel
theorem d_X12_wordOf_153 : decode prog_14_method_11_code 153 = .ok (.aload_n 0, 1) := by decide +kernel
theorem d_X12_wordOf_154 : decode prog_14_method_11_code 154 = .ok (.ldc_w 277, 3) := by decide +kernel
theorem d_X12_wordOf_157 : decode prog_14_method_11_code 157 = .ok (.invokevirtual 255, 3) := by decide +kernel
theorem d_X12_wordOf_160 : decode prog_14_method_11_code 160 = .ok (.ifCond .eq 7, 3) := by decide +kernel
theorem d_X12_wordOf_163 : decode prog_14_method_11_code 163 = .ok (.sipush 311, 3) := by decide +kernel
theorem d_X12_wordOf_166 : decode prog_14_method_11_code 166 = .ok (.ireturn, 1) := by decide +kernel
theorem d_X12_wordOf_167 : decode prog_14_method_11_code 167 = .ok (.aload_n 0, 1) := by decide +kernel
theorem d_X12_wordOf_168 : decode prog_14_method_11_code 168 = .ok (.ldc_w 279, 3) := by decide +kernel
theorem d_X12_wordOf_171 : decode prog_14_method_11_code 171 = .ok (.invokevirtual 255, 3) := by decide +kernel
theorem d_X12_wordOf_174 : decode prog_14_method_11_code 174 = .ok (.ifCond .eq 7, 3) := by decide +kernel
theorem d_X12_wordOf_177 : decode prog_14_method_11_code 177 = .ok (.sipush 312, 3) := by decide +kernel
theorem d_X12_wordOf_180 : decode prog_14_method_11_code 180 = .ok (.ireturn, 1) := by decide +kernel
theorem d_X12_wordOf_181 : decode prog_14_method_11_code 181 = .ok (.aload_n 0, 1) := by decide +kernel
theorem d_X12_wordOf_182 : decode prog_14_method_11_code 182 = .ok (.ldc_w 281, 3) := by decide +kernel
theorem d_X12_wordOf_185 : decode prog_14_method_11_code 185 = .ok (.invokevirtual 255, 3) := by decide +kernel
theorem d_X12_wordOf_188 : decode prog_14_method_11_code 188 = .ok (.ifCond .eq 7, 3) := by decide +kernel
theorem d_X12_wordOf_191 : decode prog_14_method_11_code 191 = .ok (.sipush 313, 3) := by decide +kernel
theorem d_X12_wordOf_194 : decode prog_14_method_11_code 194 = .ok (.ireturn, 1) := by decide +kernel
theorem d_X12_wordOf_195 : decode prog_14_method_11_code 195 = .ok (.aload_n 0, 1) := by decide +kernel
theorem d_X12_wordOf_196 : decode prog_14_method_11_code 196 = .ok (.ldc_w 283, 3) := by decide +kernel
theorem d_X12_wordOf_199 : decode prog_14_method_11_code 199 = .ok (.invokevirtual 255, 3) := by decide +kernel
theorem d_X12_wordOf_202 : decode prog_14_method_11_code 202 = .ok (.ifCond .eq 7, 3) := by decide +kernel
theorem d_X12_wordOf_205 : decode prog_14_method_11_code 205 = .ok (.sipush 314, 3) := by decide +kernel
theorem d_X12_wordOf_208 : decode prog_14_method_11_code 208 = .ok (.ireturn, 1) := by decide +kernel
theorem d_X12_wordOf_209 : decode prog_14_method_11_code 209 = .ok (.aload_n 0, 1) := by decide +kernel
theorem d_X12_wordOf_210 : decode prog_14_method_11_code 210 = .ok (.ldc_w 285, 3) := by decide +kernel
theorem d_X12_wordOf_213 : decode prog_14_method_11_code 213 = .ok (.invokevirtual 255, 3) := by decide +kernel
theorem d_X12_wordOf_216 : decode prog_14_method_11_code 216 = .ok (.ifCond .eq 7, 3) := by decide +kernel
theorem d_X12_wordOf_219 : decode prog_14_method_11_code 219 = .ok (.sipush 315, 3) := by decide +kernel
theorem d_X12_wordOf_222 : decode prog_14_method_11_code 222 = .ok (.ireturn, 1) := by decide +kernel
theorem d_X12_wordOf_223 : decode prog_14_method_11_code 223 = .ok (.aload_n 0, 1) := by decide +kernel
theorem d_X12_wordOf_224 : decode prog_14_method_11_code 224 = .ok (.ldc_w 287, 3) := by decide +kernel
theorem d_X12_wordOf_227 : decode prog_14_method_11_code 227 = .ok (.invokevirtual 255, 3) := by decide +kernel
theorem d_X12_wordOf_230 : decode prog_14_method_11_code 230 = .ok (.ifCond .eq 9, 3) := by decide +kernel
theorem d_X12_wordOf_233 : decode prog_14_method_11_code 233 = .ok (.sipush 316, 3) := by decide +kernel
theorem d_X12_wordOf_236 : decode prog_14_method_11_code 236 = .ok (.goto 4, 3) := by decide +kernel
theorem d_X12_wordOf_239 : decode prog_14_method_11_code 239 = .ok (.iconst 1, 1) := by decide +kernel
theorem d_X12_wordOf_240 : decode prog_14_method_11_code 240 = .ok (.ireturn, 1) := by decide +kernel
theorem v_X12_wordOf_0 {E : EE} {d : Nat} {Q : Option AV → AH → Prop} {x0 : Nat} {G : AH} (h0 : 0 < d) (h : isO E G x0 12 ∧ (wpI E (d - 1) M_X12_isSpelt [vr x0, vs (eK E 5)] G (fun r1 G2 => (r1 = 0 → isO E G2 x0 12 ∧ (wpI E (d - 1) M_X12_isSpelt [vr x0, vs (eK E 6)] G2 (fun r3 G4 => (r3 = 0 → isO E G4 x0 12 ∧ (wpI E (d - 1) M_X12_isSpelt [vr x0, vs (eK E 7)] G4 (fun r5 G6 => (r5 = 0 → isO E G6 x0 12 ∧ (wpI E (d - 1) M_X12_isSpelt [vr x0, vs (eK E 8)] G6 (fun r7 G8 => (r7 = 0 → isO E G8 x0 12 ∧ (wpI E (d - 1) M_X12_isSpelt [vr x0, vs (eK E 9)] G8 (fun r9 G10 => (r9 = 0 → isO E G10 x0 12 ∧ (wpI E (d - 1) M_X12_isSpelt [vr x0, vs (eK E 10)] G10 (fun r11 G12 => (r11 = 0 → isO E G12 x0 12 ∧ (wpI E (d - 1) M_X12_isSpelt [vr x0, vs (eK E 11)] G12 (fun r13 G14 => (r13 = 0 → isO E G14 x0 12 ∧ (wpI E (d - 1) M_X12_isSpelt [vr x0, vs (eK E 12)] G14 (fun r15 G16 => (r15 = 0 → isO E G16 x0 12 ∧ (wpI E (d - 1) M_X12_isSpelt [vr x0, vs (eK E 13)] G16 (fun r17 G18 => (r17 = 0 → isO E G18 x0 12 ∧ (wpI E (d - 1) M_X12_isSpelt [vr x0, vs (eK E 14)] G18 (fun r19 G20 => (r19 = 0 → isO E G20 x0 12 ∧ (wpI E (d - 1) M_X12_isSpelt [vr x0, vs (eK E 15)] G20 (fun r21 G22 => (r21 = 0 → isO E G22 x0 12 ∧ (wpI E (d - 1) M_X12_isSpelt [vr x0, vs (eK E 16)] G22 (fun r23 G24 => (r23 = 0 → isO E G24 x0 12 ∧ (wpI E (d - 1) M_X12_isSpelt [vr x0, vs (eK E 17)] G24 (fun r25 G26 => (r25 = 0 → isO E G26 x0 12 ∧ (wpI E (d - 1) M_X12_isSpelt [vr x0, vs (eK E 18)] G26 (fun r27 G28 => (r27 = 0 → isO E G28 x0 12 ∧ (wpI E (d - 1) M_X12_isSpelt [vr x0, vs (eK E 19)] G28 (fun r29 G30 => (r29 = 0 → isO E G30 x0 12 ∧ (wpI E (d - 1) M_X12_isSpelt [vr x0, vs (eK E 20)] G30 (fun r31 G32 => (r31 = 0 → isO E G32 x0 12 ∧ (wpI E (d - 1) M_X12_isSpelt [vr x0, vs (eK E 21)] G32 (fun r33 G34 => (r33 = 0 → Q (some (vi 1)) G34) ∧ (¬ (r33 = 0) → Q (some (vi 316)) G34)))) ∧ (¬ (r31 = 0) → Q (some (vi 315)) G32)))) ∧ (¬ (r29 = 0) → Q (some (vi 314)) G30)))) ∧ (¬ (r27 = 0) → Q (some (vi 313)) G28)))) ∧ (¬ (r25 = 0) → Q (some (vi 312)) G26)))) ∧ (¬ (r23 = 0) → Q (some (vi 311)) G24)))) ∧ (¬ (r21 = 0) → Q (some (vi 310)) G22)))) ∧ (¬ (r19 = 0) → Q (some (vi 309)) G20)))) ∧ (¬ (r17 = 0) → Q (some (vi 308)) G18)))) ∧ (¬ (r15 = 0) → Q (some (vi 307)) G16)))) ∧ (¬ (r13 = 0) → Q (some (vi 306)) G14)))) ∧ (¬ (r11 = 0) → Q (some (vi 305)) G12)))) ∧ (¬ (r9 = 0) → Q (some (vi 304)) G10)))) ∧ (¬ (r7 = 0) → Q (some (vi 303)) G8)))) ∧ (¬ (r5 = 0) → Q (some (vi 302)) G6)))) ∧ (¬ (r3 = 0) → Q (some (vi 301)) G4)))) ∧ (¬ (r1 = 0) → Q (some (vi 300)) G2)))) : wp E d M_X12_wordOf 0 [some (vr x0)] [] G Q := by
  refine wp_aload_n (pc := 0) d_X12_wordOf_0 rfl ?_
  refine wp_text (pc := 1) (n := 5) d_X12_wordOf_1 rfl ?_
  obtain ⟨ho51, h⟩ := h
  refine wp_invV (pc := 3) (N := M_X12_isSpelt) (As := [vs (eK E 5)]) (rest := []) (r := (cn_12, ct_12, 95)) d_X12_wordOf_3 ml_X12_255 mk_X12_isSpelt mv_X12_isSpelt h0 ho51 rfl rfl (Nat.le_of_ble_eq_true rfl) ?_
  refine wpM.mono h (fun rr G2 hr => ?_)
  obtain ⟨r1, rfl, h⟩ := hr
  show wp E d M_X12_wordOf 6 [some (vr _)] [vi _] G2 Q
  refine wp_if_eq (pc := 6) (tgt := 13) d_X12_wordOf_6 (by decide) (fun hc => ?_) (fun hc => ?_)
  · have h := h.1 hc
    refine wp_aload_n (pc := 13) d_X12_wordOf_13 rfl ?_
    refine wp_textw (pc := 14) (n := 6) d_X12_wordOf_14 rfl ?_
    obtain ⟨ho50, h⟩ := h
    refine wp_invV (pc := 17) (N := M_X12_isSpelt) (As := [vs (eK E 6)]) (rest := []) (r := (cn_12, ct_12, 95)) d_X12_wordOf_17 ml_X12_255 mk_X12_isSpelt mv_X12_isSpelt h0 ho50 rfl rfl (Nat.le_of_ble_eq_true rfl) ?_
    refine wpM.mono h (fun rr G4 hr => ?_)
    obtain ⟨r3, rfl, h⟩ := hr
    show wp E d M_X12_wordOf 20 [some (vr _)] [vi _] G4 Q
    refine wp_if_eq (pc := 20) (tgt := 27) d_X12_wordOf_20 (by decide) (fun hc => ?_) (fun hc => ?_)
    · have h := h.1 hc
      refine wp_aload_n (pc := 27) d_X12_wordOf_27 rfl ?_
      refine wp_textw (pc := 28) (n := 7) d_X12_wordOf_28 rfl ?_
      obtain ⟨ho49, h⟩ := h
      refine wp_invV (pc := 31) (N := M_X12_isSpelt) (As := [vs (eK E 7)]) (rest := []) (r := (cn_12, ct_12, 95)) d_X12_wordOf_31 ml_X12_255 mk_X12_isSpelt mv_X12_isSpelt h0 ho49 rfl rfl (Nat.le_of_ble_eq_true rfl) ?_
      refine wpM.mono h (fun rr G6 hr => ?_)
      obtain ⟨r5, rfl, h⟩ := hr
      show wp E d M_X12_wordOf 34 [some (vr _)] [vi _] G6 Q
      refine wp_if_eq (pc := 34) (tgt := 41) d_X12_wordOf_34 (by decide) (fun hc => ?_) (fun hc => ?_)
      · have h := h.1 hc
        refine wp_aload_n (pc := 41) d_X12_wordOf_41 rfl ?_
        refine wp_textw (pc := 42) (n := 8) d_X12_wordOf_42 rfl ?_
        obtain ⟨ho48, h⟩ := h
        refine wp_invV (pc := 45) (N := M_X12_isSpelt) (As := [vs (eK E 8)]) (rest := []) (r := (cn_12, ct_12, 95)) d_X12_wordOf_45 ml_X12_255 mk_X12_isSpelt mv_X12_isSpelt h0 ho48 rfl rfl (Nat.le_of_ble_eq_true rfl) ?_
        refine wpM.mono h (fun rr G8 hr => ?_)
        obtain ⟨r7, rfl, h⟩ := hr
        show wp E d M_X12_wordOf 48 [some (vr _)] [vi _] G8 Q
        refine wp_if_eq (pc := 48) (tgt := 55) d_X12_wordOf_48 (by decide) (fun hc => ?_) (fun hc => ?_)
        · have h := h.1 hc
          refine wp_aload_n (pc := 55) d_X12_wordOf_55 rfl ?_
          refine wp_textw (pc := 56) (n := 9) d_X12_wordOf_56 rfl ?_
          obtain ⟨ho47, h⟩ := h
          refine wp_invV (pc := 59) (N := M_X12_isSpelt) (As := [vs (eK E 9)]) (rest := []) (r := (cn_12, ct_12, 95)) d_X12_wordOf_59 ml_X12_255 mk_X12_isSpelt mv_X12_isSpelt h0 ho47 rfl rfl (Nat.le_of_ble_eq_true rfl) ?_
          refine wpM.mono h (fun rr G10 hr => ?_)
          obtain ⟨r9, rfl, h⟩ := hr
          show wp E d M_X12_wordOf 62 [some (vr _)] [vi _] G10 Q
          refine wp_if_eq (pc := 62) (tgt := 69) d_X12_wordOf_62 (by decide) (fun hc => ?_) (fun hc => ?_)
          · have h := h.1 hc
            refine wp_aload_n (pc := 69) d_X12_wordOf_69 rfl ?_
            refine wp_textw (pc := 70) (n := 10) d_X12_wordOf_70 rfl ?_
            obtain ⟨ho46, h⟩ := h
            refine wp_invV (pc := 73) (N := M_X12_isSpelt) (As := [vs (eK E 10)]) (rest := []) (r := (cn_12, ct_12, 95)) d_X12_wordOf_73 ml_X12_255 mk_X12_isSpelt mv_X12_isSpelt h0 ho46 rfl rfl (Nat.le_of_ble_eq_true rfl) ?_
            refine wpM.mono h (fun rr G12 hr => ?_)
            obtain ⟨r11, rfl, h⟩ := hr
            show wp E d M_X12_wordOf 76 [some (vr _)] [vi _] G12 Q
            refine wp_if_eq (pc := 76) (tgt := 83) d_X12_wordOf_76 (by decide) (fun hc => ?_) (fun hc => ?_)
            · have h := h.1 hc
              refine wp_aload_n (pc := 83) d_X12_wordOf_83 rfl ?_
              refine wp_textw (pc := 84) (n := 11) d_X12_wordOf_84 rfl ?_
              obtain ⟨ho45, h⟩ := h
              refine wp_invV (pc := 87) (N := M_X12_isSpelt) (As := [vs (eK E 11)]) (rest := []) (r := (cn_12, ct_12, 95)) d_X12_wordOf_87 ml_X12_255 mk_X12_isSpelt mv_X12_isSpelt h0 ho45 rfl rfl (Nat.le_of_ble_eq_true rfl) ?_
              refine wpM.mono h (fun rr G14 hr => ?_)
              obtain ⟨r13, rfl, h⟩ := hr
              show wp E d M_X12_wordOf 90 [some (vr _)] [vi _] G14 Q
              refine wp_if_eq (pc := 90) (tgt := 97) d_X12_wordOf_90 (by decide) (fun hc => ?_) (fun hc => ?_)
              · have h := h.1 hc
                refine wp_aload_n (pc := 97) d_X12_wordOf_97 rfl ?_
                refine wp_textw (pc := 98) (n := 12) d_X12_wordOf_98 rfl ?_
                obtain ⟨ho44, h⟩ := h
                refine wp_invV (pc := 101) (N := M_X12_isSpelt) (As := [vs (eK E 12)]) (rest := []) (r := (cn_12, ct_12, 95)) d_X12_wordOf_101 ml_X12_255 mk_X12_isSpelt mv_X12_isSpelt h0 ho44 rfl rfl (Nat.le_of_ble_eq_true rfl) ?_
                refine wpM.mono h (fun rr G16 hr => ?_)
                obtain ⟨r15, rfl, h⟩ := hr
                show wp E d M_X12_wordOf 104 [some (vr _)] [vi _] G16 Q
                refine wp_if_eq (pc := 104) (tgt := 111) d_X12_wordOf_104 (by decide) (fun hc => ?_) (fun hc => ?_)
                · have h := h.1 hc
                  refine wp_aload_n (pc := 111) d_X12_wordOf_111 rfl ?_
                  refine wp_textw (pc := 112) (n := 13) d_X12_wordOf_112 rfl ?_
                  obtain ⟨ho43, h⟩ := h
                  refine wp_invV (pc := 115) (N := M_X12_isSpelt) (As := [vs (eK E 13)]) (rest := []) (r := (cn_12, ct_12, 95)) d_X12_wordOf_115 ml_X12_255 mk_X12_isSpelt mv_X12_isSpelt h0 ho43 rfl rfl (Nat.le_of_ble_eq_true rfl) ?_
                  refine wpM.mono h (fun rr G18 hr => ?_)
                  obtain ⟨r17, rfl, h⟩ := hr
                  show wp E d M_X12_wordOf 118 [some (vr _)] [vi _] G18 Q
                  refine wp_if_eq (pc := 118) (tgt := 125) d_X12_wordOf_118 (by decide) (fun hc => ?_) (fun hc => ?_)
                  · have h := h.1 hc
                    refine wp_aload_n (pc := 125) d_X12_wordOf_125 rfl ?_
                    refine wp_textw (pc := 126) (n := 14) d_X12_wordOf_126 rfl ?_
                    obtain ⟨ho42, h⟩ := h
                    refine wp_invV (pc := 129) (N := M_X12_isSpelt) (As := [vs (eK E 14)]) (rest := []) (r := (cn_12, ct_12, 95)) d_X12_wordOf_129 ml_X12_255 mk_X12_isSpelt mv_X12_isSpelt h0 ho42 rfl rfl (Nat.le_of_ble_eq_true rfl) ?_
                    refine wpM.mono h (fun rr G20 hr => ?_)
                    obtain ⟨r19, rfl, h⟩ := hr
                    show wp E d M_X12_wordOf 132 [some (vr _)] [vi _] G20 Q
                    refine wp_if_eq (pc := 132) (tgt := 139) d_X12_wordOf_132 (by decide) (fun hc => ?_) (fun hc => ?_)
                    · have h := h.1 hc
                      refine wp_aload_n (pc := 139) d_X12_wordOf_139 rfl ?_
                      refine wp_textw (pc := 140) (n := 15) d_X12_wordOf_140 rfl ?_
                      obtain ⟨ho41, h⟩ := h
                      refine wp_invV (pc := 143) (N := M_X12_isSpelt) (As := [vs (eK E 15)]) (rest := []) (r := (cn_12, ct_12, 95)) d_X12_wordOf_143 ml_X12_255 mk_X12_isSpelt mv_X12_isSpelt h0 ho41 rfl rfl (Nat.le_of_ble_eq_true rfl) ?_
                      refine wpM.mono h (fun rr G22 hr => ?_)
                      obtain ⟨r21, rfl, h⟩ := hr
                      show wp E d M_X12_wordOf 146 [some (vr _)] [vi _] G22 Q
                      refine wp_if_eq (pc := 146) (tgt := 153) d_X12_wordOf_146 (by decide) (fun hc => ?_) (fun hc => ?_)
                      · have h := h.1 hc
                        refine wp_aload_n (pc := 153) d_X12_wordOf_153 rfl ?_
                        refine wp_textw (pc := 154) (n := 16) d_X12_wordOf_154 rfl ?_
                        obtain ⟨ho40, h⟩ := h
                        refine wp_invV (pc := 157) (N := M_X12_isSpelt) (As := [vs (eK E 16)]) (rest := []) (r := (cn_12, ct_12, 95)) d_X12_wordOf_157 ml_X12_255 mk_X12_isSpelt mv_X12_isSpelt h0 ho40 rfl rfl (Nat.le_of_ble_eq_true rfl) ?_
                        refine wpM.mono h (fun rr G24 hr => ?_)
                        obtain ⟨r23, rfl, h⟩ := hr
                        show wp E d M_X12_wordOf 160 [some (vr _)] [vi _] G24 Q
                        refine wp_if_eq (pc := 160) (tgt := 167) d_X12_wordOf_160 (by decide) (fun hc => ?_) (fun hc => ?_)
                        · have h := h.1 hc
                          refine wp_aload_n (pc := 167) d_X12_wordOf_167 rfl ?_
                          refine wp_textw (pc := 168) (n := 17) d_X12_wordOf_168 rfl ?_
                          obtain ⟨ho39, h⟩ := h
                          refine wp_invV (pc := 171) (N := M_X12_isSpelt) (As := [vs (eK E 17)]) (rest := []) (r := (cn_12, ct_12, 95)) d_X12_wordOf_171 ml_X12_255 mk_X12_isSpelt mv_X12_isSpelt h0 ho39 rfl rfl (Nat.le_of_ble_eq_true rfl) ?_
                          refine wpM.mono h (fun rr G26 hr => ?_)
                          obtain ⟨r25, rfl, h⟩ := hr
                          show wp E d M_X12_wordOf 174 [some (vr _)] [vi _] G26 Q
                          refine wp_if_eq (pc := 174) (tgt := 181) d_X12_wordOf_174 (by decide) (fun hc => ?_) (fun hc => ?_)
                          · have h := h.1 hc
                            refine wp_aload_n (pc := 181) d_X12_wordOf_181 rfl ?_
                            refine wp_textw (pc := 182) (n := 18) d_X12_wordOf_182 rfl ?_
                            obtain ⟨ho38, h⟩ := h
                            refine wp_invV (pc := 185) (N := M_X12_isSpelt) (As := [vs (eK E 18)]) (rest := []) (r := (cn_12, ct_12, 95)) d_X12_wordOf_185 ml_X12_255 mk_X12_isSpelt mv_X12_isSpelt h0 ho38 rfl rfl (Nat.le_of_ble_eq_true rfl) ?_
                            refine wpM.mono h (fun rr G28 hr => ?_)
                            obtain ⟨r27, rfl, h⟩ := hr
                            show wp E d M_X12_wordOf 188 [some (vr _)] [vi _] G28 Q
                            refine wp_if_eq (pc := 188) (tgt := 195) d_X12_wordOf_188 (by decide) (fun hc => ?_) (fun hc => ?_)
                            · have h := h.1 hc
                              refine wp_aload_n (pc := 195) d_X12_wordOf_195 rfl ?_
                              refine wp_textw (pc := 196) (n := 19) d_X12_wordOf_196 rfl ?_
                              obtain ⟨ho37, h⟩ := h
                              refine wp_invV (pc := 199) (N := M_X12_isSpelt) (As := [vs (eK E 19)]) (rest := []) (r := (cn_12, ct_12, 95)) d_X12_wordOf_199 ml_X12_255 mk_X12_isSpelt mv_X12_isSpelt h0 ho37 rfl rfl (Nat.le_of_ble_eq_true rfl) ?_
                              refine wpM.mono h (fun rr G30 hr => ?_)
                              obtain ⟨r29, rfl, h⟩ := hr
                              show wp E d M_X12_wordOf 202 [some (vr _)] [vi _] G30 Q
                              refine wp_if_eq (pc := 202) (tgt := 209) d_X12_wordOf_202 (by decide) (fun hc => ?_) (fun hc => ?_)
                              · have h := h.1 hc
                                refine wp_aload_n (pc := 209) d_X12_wordOf_209 rfl ?_
                                refine wp_textw (pc := 210) (n := 20) d_X12_wordOf_210 rfl ?_
                                obtain ⟨ho36, h⟩ := h
                                refine wp_invV (pc := 213) (N := M_X12_isSpelt) (As := [vs (eK E 20)]) (rest := []) (r := (cn_12, ct_12, 95)) d_X12_wordOf_213 ml_X12_255 mk_X12_isSpelt mv_X12_isSpelt h0 ho36 rfl rfl (Nat.le_of_ble_eq_true rfl) ?_
                                refine wpM.mono h (fun rr G32 hr => ?_)
                                obtain ⟨r31, rfl, h⟩ := hr
                                show wp E d M_X12_wordOf 216 [some (vr _)] [vi _] G32 Q
                                refine wp_if_eq (pc := 216) (tgt := 223) d_X12_wordOf_216 (by decide) (fun hc => ?_) (fun hc => ?_)
                                · have h := h.1 hc
                                  refine wp_aload_n (pc := 223) d_X12_wordOf_223 rfl ?_
                                  refine wp_textw (pc := 224) (n := 21) d_X12_wordOf_224 rfl ?_
                                  obtain ⟨ho35, h⟩ := h
                                  refine wp_invV (pc := 227) (N := M_X12_isSpelt) (As := [vs (eK E 21)]) (rest := []) (r := (cn_12, ct_12, 95)) d_X12_wordOf_227 ml_X12_255 mk_X12_isSpelt mv_X12_isSpelt h0 ho35 rfl rfl (Nat.le_of_ble_eq_true rfl) ?_
                                  refine wpM.mono h (fun rr G34 hr => ?_)
                                  obtain ⟨r33, rfl, h⟩ := hr
                                  show wp E d M_X12_wordOf 230 [some (vr _)] [vi _] G34 Q
                                  refine wp_if_eq (pc := 230) (tgt := 239) d_X12_wordOf_230 (by decide) (fun hc => ?_) (fun hc => ?_)
                                  · have h := h.1 hc
                                    refine wp_iconst (pc := 239) (v := 1) d_X12_wordOf_239 rfl ?_
                                    exact wp_iret (pc := 240) d_X12_wordOf_240 rfl h
                                  · have h := h.2 hc
                                    refine wp_sipush (pc := 233) (v := 316) d_X12_wordOf_233 rfl ?_
                                    refine wp_goto (pc := 236) (tgt := 240) d_X12_wordOf_236 (by decide) ?_
                                    exact wp_iret (pc := 240) d_X12_wordOf_240 rfl h
                                · have h := h.2 hc
                                  refine wp_sipush (pc := 219) (v := 315) d_X12_wordOf_219 rfl ?_
                                  exact wp_iret (pc := 222) d_X12_wordOf_222 rfl h
                              · have h := h.2 hc
                                refine wp_sipush (pc := 205) (v := 314) d_X12_wordOf_205 rfl ?_
                                exact wp_iret (pc := 208) d_X12_wordOf_208 rfl h
                            · have h := h.2 hc
                              refine wp_sipush (pc := 191) (v := 313) d_X12_wordOf_191 rfl ?_
                              exact wp_iret (pc := 194) d_X12_wordOf_194 rfl h
                          · have h := h.2 hc
                            refine wp_sipush (pc := 177) (v := 312) d_X12_wordOf_177 rfl ?_
                            exact wp_iret (pc := 180) d_X12_wordOf_180 rfl h
                        · have h := h.2 hc
                          refine wp_sipush (pc := 163) (v := 311) d_X12_wordOf_163 rfl ?_
                          exact wp_iret (pc := 166) d_X12_wordOf_166 rfl h
                      · have h := h.2 hc
                        refine wp_sipush (pc := 149) (v := 310) d_X12_wordOf_149 rfl ?_
                        exact wp_iret (pc := 152) d_X12_wordOf_152 rfl h
                    · have h := h.2 hc
                      refine wp_sipush (pc := 135) (v := 309) d_X12_wordOf_135 rfl ?_
                      exact wp_iret (pc := 138) d_X12_wordOf_138 rfl h
                  · have h := h.2 hc
                    refine wp_sipush (pc := 121) (v := 308) d_X12_wordOf_121 rfl ?_
                    exact wp_iret (pc := 124) d_X12_wordOf_124 rfl h
                · have h := h.2 hc
                  refine wp_sipush (pc := 107) (v := 307) d_X12_wordOf_107 rfl ?_
                  exact wp_iret (pc := 110) d_X12_wordOf_110 rfl h
              · have h := h.2 hc
                refine wp_sipush (pc := 93) (v := 306) d_X12_wordOf_93 rfl ?_
                exact wp_iret (pc := 96) d_X12_wordOf_96 rfl h
            · have h := h.2 hc
              refine wp_sipush (pc := 79) (v := 305) d_X12_wordOf_79 rfl ?_
              exact wp_iret (pc := 82) d_X12_wordOf_82 rfl h
          · have h := h.2 hc
            refine wp_sipush (pc := 65) (v := 304) d_X12_wordOf_65 rfl ?_
            exact wp_iret (pc := 68) d_X12_wordOf_68 rfl h
        · have h := h.2 hc
          refine wp_sipush (pc := 51) (v := 303) d_X12_wordOf_51 rfl ?_
          exact wp_iret (pc := 54) d_X12_wordOf_54 rfl h
      · have h := h.2 hc
        refine wp_sipush (pc := 37) (v := 302) d_X12_wordOf_37 rfl ?_
        exact wp_iret (pc := 40) d_X12_wordOf_40 rfl h
    · have h := h.2 hc
      refine wp_sipush (pc := 23) (v := 301) d_X12_wordOf_23 rfl ?_
      exact wp_iret (pc := 26) d_X12_wordOf_26 rfl h
  · have h := h.2 hc
    refine wp_sipush (pc := 9) (v := 300) d_X12_wordOf_9 rfl ?_
    exact wp_iret (pc := 12) d_X12_wordOf_12 rfl h
theorem d_X12_isSpelt_0 : decode prog_14_method_10_code 0 = .ok (.aload_n 0, 1) := by decide +kernel
theorem d_X12_isSpelt_1 : decode prog_14_method_10_code 1 = .ok (.getfield 238, 3) := by decide +kernel
theorem d_X12_isSpelt_4 : decode prog_14_method_10_code 4 = .ok (.aload_n 0, 1) := by decide +kernel
theorem d_X12_isSpelt_5 : decode prog_14_method_10_code 5 = .ok (.getfield 241, 3) := by decide +kernel
theorem d_X12_isSpelt_8 : decode prog_14_method_10_code 8 = .ok (.isub, 1) := by decide +kernel
theorem d_X12_isSpelt_9 : decode prog_14_method_10_code 9 = .ok (.aload_n 1, 1) := by decide +kernel
theorem d_X12_isSpelt_10 : decode prog_14_method_10_code 10 = .ok (.invokevirtual 244, 3) := by decide +kernel
theorem d_X12_isSpelt_13 : decode prog_14_method_10_code 13 = .ok (.if_icmp .ne 7, 3) := by decide +kernel
theorem d_X12_isSpelt_16 : decode prog_14_method_10_code 16 = .ok (.iconst 1, 1) := by decide +kernel
theorem d_X12_isSpelt_17 : decode prog_14_method_10_code 17 = .ok (.goto 4, 3) := by decide +kernel
theorem d_X12_isSpelt_20 : decode prog_14_method_10_code 20 = .ok (.iconst 0, 1) := by decide +kernel
theorem d_X12_isSpelt_21 : decode prog_14_method_10_code 21 = .ok (.istore_n 2, 1) := by decide +kernel
theorem d_X12_isSpelt_22 : decode prog_14_method_10_code 22 = .ok (.iconst 0, 1) := by decide +kernel
theorem d_X12_isSpelt_23 : decode prog_14_method_10_code 23 = .ok (.istore_n 3, 1) := by decide +kernel
theorem d_X12_isSpelt_24 : decode prog_14_method_10_code 24 = .ok (.iload_n 2, 1) := by decide +kernel
theorem d_X12_isSpelt_25 : decode prog_14_method_10_code 25 = .ok (.ifCond .eq 41, 3) := by decide +kernel
theorem d_X12_isSpelt_28 : decode prog_14_method_10_code 28 = .ok (.iload_n 3, 1) := by decide +kernel
theorem d_X12_isSpelt_29 : decode prog_14_method_10_code 29 = .ok (.aload_n 1, 1) := by decide +kernel
theorem d_X12_isSpelt_30 : decode prog_14_method_10_code 30 = .ok (.invokevirtual 244, 3) := by decide +kernel
theorem d_X12_isSpelt_33 : decode prog_14_method_10_code 33 = .ok (.if_icmp .ge 33, 3) := by decide +kernel
theorem d_X12_isSpelt_36 : decode prog_14_method_10_code 36 = .ok (.aload_n 0, 1) := by decide +kernel
theorem d_X12_isSpelt_37 : decode prog_14_method_10_code 37 = .ok (.aload_n 0, 1) := by decide +kernel
theorem d_X12_isSpelt_38 : decode prog_14_method_10_code 38 = .ok (.getfield 241, 3) := by decide +kernel
theorem d_X12_isSpelt_41 : decode prog_14_method_10_code 41 = .ok (.iload_n 3, 1) := by decide +kernel
theorem d_X12_isSpelt_42 : decode prog_14_method_10_code 42 = .ok (.iadd, 1) := by decide +kernel
theorem d_X12_isSpelt_43 : decode prog_14_method_10_code 43 = .ok (.invokevirtual 234, 3) := by decide +kernel
theorem d_X12_isSpelt_46 : decode prog_14_method_10_code 46 = .ok (.aload_n 1, 1) := by decide +kernel
theorem d_X12_isSpelt_47 : decode prog_14_method_10_code 47 = .ok (.iload_n 3, 1) := by decide +kernel
theorem d_X12_isSpelt_48 : decode prog_14_method_10_code 48 = .ok (.invokevirtual 249, 3) := by decide +kernel
theorem d_X12_isSpelt_51 : decode prog_14_method_10_code 51 = .ok (.if_icmp .ne 7, 3) := by decide +kernel
theorem d_X12_isSpelt_54 : decode prog_14_method_10_code 54 = .ok (.iconst 1, 1) := by decide +kernel
theorem d_X12_isSpelt_55 : decode prog_14_method_10_code 55 = .ok (.goto 4, 3) := by decide +kernel
theorem d_X12_isSpelt_58 : decode prog_14_method_10_code 58 = .ok (.iconst 0, 1) := by decide +kernel
theorem d_X12_isSpelt_59 : decode prog_14_method_10_code 59 = .ok (.istore_n 2, 1) := by decide +kernel
theorem d_X12_isSpelt_60 : decode prog_14_method_10_code 60 = .ok (.iinc 3 1, 3) := by decide +kernel
theorem d_X12_isSpelt_63 : decode prog_14_method_10_code 63 = .ok (.goto (-39), 3) := by decide +kernel
theorem d_X12_isSpelt_66 : decode prog_14_method_10_code 66 = .ok (.iload_n 2, 1) := by decide +kernel
theorem d_X12_isSpelt_67 : decode prog_14_method_10_code 67 = .ok (.ireturn, 1) := by decide +kernel
theorem v_X12_isSpelt_0 {E : EE} {d : Nat} {Q : Option AV → AH → Prop} {x0 : Nat} {x1 : Nat} {G : AH} (h0 : 0 < d) (h : isO E G x0 12 ∧ (x1 < 22 ∧ (wpI E (d - 1) M_J0_length_8abf5 [vs (eK E x1)] G (fun r2 G3 => (¬ ((gI G x0 44) - (gI G x0 43)) = r2 → wp E d M_X12_isSpelt 21 [some (vr x0), some (vs (eK E x1)), none, none] [vi 0] G3 Q) ∧ (((gI G x0 44) - (gI G x0 43)) = r2 → wp E d M_X12_isSpelt 21 [some (vr x0), some (vs (eK E x1)), none, none] [vi 1] G3 Q))))) : wp E d M_X12_isSpelt 0 [some (vr x0), some (vs (eK E x1)), none, none] [] G Q := by
  refine wp_aload_n (pc := 0) d_X12_isSpelt_0 rfl ?_
  obtain ⟨ho1, h⟩ := h
  refine wp_getI (pc := 1) d_X12_isSpelt_1 fl_X12_238 (fun _ _ _ => rfl) ho1 ?_
  refine wp_aload_n (pc := 4) d_X12_isSpelt_4 rfl ?_
  refine wp_getI (pc := 5) d_X12_isSpelt_5 fl_X12_241 (fun _ _ _ => rfl) ho1 ?_
  refine wp_isub (pc := 8) d_X12_isSpelt_8 ?_
  refine wp_aload_nS (pc := 9) d_X12_isSpelt_9 rfl ?_
  obtain ⟨ht4, h⟩ := h
  refine wp_invT (pc := 10) (N := M_J0_length_8abf5) (i := x1) (As := []) (rest := [vi _]) ht4 d_X12_isSpelt_10 ml_X12_244 mk_J0_length_8abf5 mv_J0_length_8abf5 h0 rfl (Nat.le_of_ble_eq_true rfl) ?_
  refine wpM.mono h (fun rr G3 hr => ?_)
  obtain ⟨r2, rfl, h⟩ := hr
  show wp E d M_X12_isSpelt 13 [some (vr _), some (vs (eK E x1)), none, none] [vi _, vi _] G3 Q
  refine wp_icmp_ne (pc := 13) (tgt := 20) d_X12_isSpelt_13 (by decide) (fun hc => ?_) (fun hc => ?_)
  · have h := h.1 hc
    refine wp_iconst (pc := 20) (v := 0) d_X12_isSpelt_20 rfl ?_
    refine wp_sub ?_ h
    exact ⟨rfl, ⟨rfl, trivial⟩⟩
  · have h := h.2 hc
    refine wp_iconst (pc := 16) (v := 1) d_X12_isSpelt_16 rfl ?_
    refine wp_goto (pc := 17) (tgt := 21) d_X12_isSpelt_17 (by decide) ?_
    refine wp_sub ?_ h
    exact ⟨rfl, ⟨rfl, trivial⟩⟩
theorem v_X12_isSpelt_21 {E : EE} {d : Nat} {Q : Option AV → AH → Prop} {x0 : Nat} {x1 : Nat} {t0 : Int32} {G : AH} (h : wp E d M_X12_isSpelt 24 [some (vr x0), some (vs (eK E x1)), some (vi t0), some (vi 0)] [] G Q) : wp E d M_X12_isSpelt 21 [some (vr x0), some (vs (eK E x1)), none, none] [vi t0] G Q := by
  refine wp_istore_n (pc := 21) (lv' := [some (vr _), some (vs (eK E x1)), some (vi _), none]) d_X12_isSpelt_21 (by decide) rfl ?_
  refine wp_iconst (pc := 22) (v := 0) d_X12_isSpelt_22 rfl ?_
  refine wp_istore_n (pc := 23) (lv' := [some (vr _), some (vs (eK E x1)), some (vi _), some (vi _)]) d_X12_isSpelt_23 (by decide) rfl ?_
  refine wp_sub ?_ h
  exact ⟨rfl, ⟨rfl, ⟨rfl, ⟨rfl, trivial⟩⟩⟩⟩
theorem v_X12_isSpelt_24 {E : EE} {d : Nat} {Q : Option AV → AH → Prop} {x0 : Nat} {x1 : Nat} {x2 : Int32} {x3 : Int32} {G : AH} (h0 : 0 < d) (h : (x2 = 0 → okI .boolean x2 ∧ Q (some (vi x2)) G) ∧ (¬ (x2 = 0) → x1 < 22 ∧ (wpI E (d - 1) M_J0_length_8abf5 [vs (eK E x1)] G (fun r1 G2 => (r1 ≤ x3 → okI .boolean x2 ∧ Q (some (vi x2)) G2) ∧ (¬ (r1 ≤ x3) → isO E G2 x0 12 ∧ (wpI E (d - 1) M_X12_look [vr x0, vi ((gI G2 x0 43) + x3)] G2 (fun r11 G12 => wpI E (d - 1) M_J0_charAt_5068e [vs (eK E x1), vi x3] G12 (fun r13 G14 => (¬ r11 = r13 → wp E d M_X12_isSpelt 59 [some (vr x0), some (vs (eK E x1)), some (vi x2), some (vi x3)] [vi 0] G14 Q) ∧ (r11 = r13 → wp E d M_X12_isSpelt 59 [some (vr x0), some (vs (eK E x1)), some (vi x2), some (vi x3)] [vi 1] G14 Q))))))))) : wp E d M_X12_isSpelt 24 [some (vr x0), some (vs (eK E x1)), some (vi x2), some (vi x3)] [] G Q := by
  refine wp_iload_n (pc := 24) d_X12_isSpelt_24 rfl ?_
  refine wp_if_eq (pc := 25) (tgt := 66) d_X12_isSpelt_25 (by decide) (fun hc => ?_) (fun hc => ?_)
  · have h := h.1 hc
    refine wp_iload_n (pc := 66) d_X12_isSpelt_66 rfl ?_
    exact wp_zret (pc := 67) d_X12_isSpelt_67 rfl h.1.1 h.2
  · have h := h.2 hc
    refine wp_iload_n (pc := 28) d_X12_isSpelt_28 rfl ?_
    refine wp_aload_nS (pc := 29) d_X12_isSpelt_29 rfl ?_
    obtain ⟨ht9, h⟩ := h
    refine wp_invT (pc := 30) (N := M_J0_length_8abf5) (i := x1) (As := []) (rest := [vi _]) ht9 d_X12_isSpelt_30 ml_X12_244 mk_J0_length_8abf5 mv_J0_length_8abf5 h0 rfl (Nat.le_of_ble_eq_true rfl) ?_
    refine wpM.mono h (fun rr G2 hr => ?_)
    obtain ⟨r1, rfl, h⟩ := hr
    show wp E d M_X12_isSpelt 33 [some (vr _), some (vs (eK E x1)), some (vi _), some (vi _)] [vi _, vi _] G2 Q
    refine wp_icmp_ge (pc := 33) (tgt := 66) d_X12_isSpelt_33 (by decide) (fun hc => ?_) (fun hc => ?_)
    · have h := h.1 hc
      refine wp_iload_n (pc := 66) d_X12_isSpelt_66 rfl ?_
      exact wp_zret (pc := 67) d_X12_isSpelt_67 rfl h.1.1 h.2
    · have h := h.2 hc
      refine wp_aload_n (pc := 36) d_X12_isSpelt_36 rfl ?_
      refine wp_aload_n (pc := 37) d_X12_isSpelt_37 rfl ?_
      obtain ⟨ho10, h⟩ := h
      refine wp_getI (pc := 38) d_X12_isSpelt_38 fl_X12_241 (fun _ _ _ => rfl) ho10 ?_
      refine wp_iload_n (pc := 41) d_X12_isSpelt_41 rfl ?_
      refine wp_iadd (pc := 42) d_X12_isSpelt_42 ?_
      refine wp_invV (pc := 43) (N := M_X12_look) (As := [vi _]) (rest := []) (r := (cn_12, ct_12, 95)) d_X12_isSpelt_43 ml_X12_234 mk_X12_look mv_X12_look h0 ho10 rfl rfl (Nat.le_of_ble_eq_true rfl) ?_
      refine wpM.mono h (fun rr G12 hr => ?_)
      obtain ⟨r11, rfl, h⟩ := hr
      show wp E d M_X12_isSpelt 46 [some (vr _), some (vs (eK E x1)), some (vi _), some (vi _)] [vi _] G12 Q
      refine wp_aload_nS (pc := 46) d_X12_isSpelt_46 rfl ?_
      refine wp_iload_n (pc := 47) d_X12_isSpelt_47 rfl ?_
      refine wp_invT (pc := 48) (N := M_J0_charAt_5068e) (i := x1) (As := [vi _]) (rest := [vi _]) ht9 d_X12_isSpelt_48 ml_X12_249 mk_J0_charAt_5068e mv_J0_charAt_5068e h0 rfl (Nat.le_of_ble_eq_true rfl) ?_
      refine wpM.mono h (fun rr G14 hr => ?_)
      obtain ⟨r13, rfl, h⟩ := hr
      show wp E d M_X12_isSpelt 51 [some (vr _), some (vs (eK E x1)), some (vi _), some (vi _)] [vi _, vi _] G14 Q
      refine wp_icmp_ne (pc := 51) (tgt := 58) d_X12_isSpelt_51 (by decide) (fun hc => ?_) (fun hc => ?_)
      · have h := h.1 hc
        refine wp_iconst (pc := 58) (v := 0) d_X12_isSpelt_58 rfl ?_
        refine wp_sub ?_ h
        exact ⟨rfl, ⟨rfl, ⟨rfl, ⟨rfl, trivial⟩⟩⟩⟩
      · have h := h.2 hc
        refine wp_iconst (pc := 54) (v := 1) d_X12_isSpelt_54 rfl ?_
        refine wp_goto (pc := 55) (tgt := 59) d_X12_isSpelt_55 (by decide) ?_
        refine wp_sub ?_ h
        exact ⟨rfl, ⟨rfl, ⟨rfl, ⟨rfl, trivial⟩⟩⟩⟩
theorem v_X12_isSpelt_59 {E : EE} {d : Nat} {Q : Option AV → AH → Prop} {x0 : Nat} {x1 : Nat} {x2 : Int32} {x3 : Int32} {t0 : Int32} {G : AH} (h : wp E d M_X12_isSpelt 24 [some (vr x0), some (vs (eK E x1)), some (vi t0), some (vi (x3 + 1))] [] G Q) : wp E d M_X12_isSpelt 59 [some (vr x0), some (vs (eK E x1)), some (vi x2), some (vi x3)] [vi t0] G Q := by
  refine wp_istore_n (pc := 59) (lv' := [some (vr _), some (vs (eK E x1)), some (vi _), some (vi _)]) d_X12_isSpelt_59 (by decide) rfl ?_
  refine wp_iinc (pc := 60) (v := 1) (lv' := [some (vr _), some (vs (eK E x1)), some (vi _), some (vi _)]) d_X12_isSpelt_60 (by decide) rfl rfl rfl ?_
  refine wp_goto (pc := 63) (tgt := 24) d_X12_isSpelt_63 (by decide) ?_
  refine wp_sub ?_ h
  exact ⟨rfl, ⟨rfl, ⟨rfl, ⟨rfl, trivial⟩⟩⟩⟩
theorem d_X12_isSign_0 : decode prog_14_method_12_code 0 = .ok (.iload_n 0, 1) := by decide +kernel
theorem d_X12_isSign_1 : decode prog_14_method_12_code 1 = .ok (.bipush 59, 2) := by decide +kernel
theorem d_X12_isSign_3 : decode prog_14_method_12_code 3 = .ok (.if_icmp .eq 123, 3) := by decide +kernel
theorem d_X12_isSign_6 : decode prog_14_method_12_code 6 = .ok (.iload_n 0, 1) := by decide +kernel
theorem d_X12_isSign_7 : decode prog_14_method_12_code 7 = .ok (.bipush 61, 2) := by decide +kernel
theorem d_X12_isSign_9 : decode prog_14_method_12_code 9 = .ok (.if_icmp .eq 117, 3) := by decide +kernel
theorem d_X12_isSign_12 : decode prog_14_method_12_code 12 = .ok (.iload_n 0, 1) := by decide +kernel
theorem d_X12_isSign_13 : decode prog_14_method_12_code 13 = .ok (.bipush 35, 2) := by decide +kernel
theorem d_X12_isSign_15 : decode prog_14_method_12_code 15 = .ok (.if_icmp .eq 111, 3) := by decide +kernel
theorem d_X12_isSign_18 : decode prog_14_method_12_code 18 = .ok (.iload_n 0, 1) := by decide +kernel
theorem d_X12_isSign_19 : decode prog_14_method_12_code 19 = .ok (.bipush 60, 2) := by decide +kernel
theorem d_X12_isSign_21 : decode prog_14_method_12_code 21 = .ok (.if_icmp .eq 105, 3) := by decide +kernel
theorem d_X12_isSign_24 : decode prog_14_method_12_code 24 = .ok (.iload_n 0, 1) := by decide +kernel
theorem d_X12_isSign_25 : decode prog_14_method_12_code 25 = .ok (.bipush 62, 2) := by decide +kernel
theorem d_X12_isSign_27 : decode prog_14_method_12_code 27 = .ok (.if_icmp .eq 99, 3) := by decide +kernel
theorem d_X12_isSign_30 : decode prog_14_method_12_code 30 = .ok (.iload_n 0, 1) := by decide +kernel
theorem d_X12_isSign_31 : decode prog_14_method_12_code 31 = .ok (.bipush 43, 2) := by decide +kernel
theorem d_X12_isSign_33 : decode prog_14_method_12_code 33 = .ok (.if_icmp .eq 93, 3) := by decide +kernel
theorem d_X12_isSign_36 : decode prog_14_method_12_code 36 = .ok (.iload_n 0, 1) := by decide +kernel
theorem d_X12_isSign_37 : decode prog_14_method_12_code 37 = .ok (.bipush 45, 2) := by decide +kernel
theorem d_X12_isSign_39 : decode prog_14_method_12_code 39 = .ok (.if_icmp .eq 87, 3) := by decide +kernel
theorem d_X12_isSign_42 : decode prog_14_method_12_code 42 = .ok (.iload_n 0, 1) := by decide +kernel
theorem d_X12_isSign_43 : decode prog_14_method_12_code 43 = .ok (.bipush 42, 2) := by decide +kernel
theorem d_X12_isSign_45 : decode prog_14_method_12_code 45 = .ok (.if_icmp .eq 81, 3) := by decide +kernel
theorem d_X12_isSign_48 : decode prog_14_method_12_code 48 = .ok (.iload_n 0, 1) := by decide +kernel
theorem d_X12_isSign_49 : decode prog_14_method_12_code 49 = .ok (.bipush 40, 2) := by decide +kernel
theorem d_X12_isSign_51 : decode prog_14_method_12_code 51 = .ok (.if_icmp .eq 75, 3) := by decide +kernel
theorem d_X12_isSign_54 : decode prog_14_method_12_code 54 = .ok (.iload_n 0, 1) := by decide +kernel
theorem d_X12_isSign_55 : decode prog_14_method_12_code 55 = .ok (.bipush 41, 2) := by decide +kernel
theorem d_X12_isSign_57 : decode prog_14_method_12_code 57 = .ok (.if_icmp .eq 69, 3) := by decide +kernel
theorem d_X12_isSign_60 : decode prog_14_method_12_code 60 = .ok (.iload_n 0, 1) := by decide +kernel
theorem d_X12_isSign_61 : decode prog_14_method_12_code 61 = .ok (.bipush 91, 2) := by decide +kernel
theorem d_X12_isSign_63 : decode prog_14_method_12_code 63 = .ok (.if_icmp .eq 63, 3) := by decide +kernel
theorem d_X12_isSign_66 : decode prog_14_method_12_code 66 = .ok (.iload_n 0, 1) := by decide +kernel
theorem d_X12_isSign_67 : decode prog_14_method_12_code 67 = .ok (.bipush 93, 2) := by decide +kernel
theorem d_X12_isSign_69 : decode prog_14_method_12_code 69 = .ok (.if_icmp .eq 57, 3) := by decide +kernel
theorem d_X12_isSign_72 : decode prog_14_method_12_code 72 = .ok (.iload_n 0, 1) := by decide +kernel
theorem d_X12_isSign_73 : decode prog_14_method_12_code 73 = .ok (.bipush 123, 2) := by decide +kernel
theorem d_X12_isSign_75 : decode prog_14_method_12_code 75 = .ok (.if_icmp .eq 51, 3) := by decide +kernel
theorem d_X12_isSign_78 : decode prog_14_method_12_code 78 = .ok (.iload_n 0, 1) := by decide +kernel
theorem d_X12_isSign_79 : decode prog_14_method_12_code 79 = .ok (.bipush 125, 2) := by decide +kernel
theorem d_X12_isSign_81 : decode prog_14_method_12_code 81 = .ok (.if_icmp .eq 45, 3) := by decide +kernel
theorem d_X12_isSign_84 : decode prog_14_method_12_code 84 = .ok (.iload_n 0, 1) := by decide +kernel
theorem d_X12_isSign_85 : decode prog_14_method_12_code 85 = .ok (.bipush 44, 2) := by decide +kernel
theorem d_X12_isSign_87 : decode prog_14_method_12_code 87 = .ok (.if_icmp .eq 39, 3) := by decide +kernel
theorem d_X12_isSign_90 : decode prog_14_method_12_code 90 = .ok (.iload_n 0, 1) := by decide +kernel
theorem d_X12_isSign_91 : decode prog_14_method_12_code 91 = .ok (.bipush 58, 2) := by decide +kernel
theorem d_X12_isSign_93 : decode prog_14_method_12_code 93 = .ok (.if_icmp .eq 33, 3) := by decide +kernel
theorem d_X12_isSign_96 : decode prog_14_method_12_code 96 = .ok (.iload_n 0, 1) := by decide +kernel
theorem d_X12_isSign_97 : decode prog_14_method_12_code 97 = .ok (.bipush 38, 2) := by decide +kernel
theorem d_X12_isSign_99 : decode prog_14_method_12_code 99 = .ok (.if_icmp .eq 27, 3) := by decide +kernel
theorem d_X12_isSign_102 : decode prog_14_method_12_code 102 = .ok (.iload_n 0, 1) := by decide +kernel
theorem d_X12_isSign_103 : decode prog_14_method_12_code 103 = .ok (.bipush 124, 2) := by decide +kernel
theorem d_X12_isSign_105 : decode prog_14_method_12_code 105 = .ok (.if_icmp .eq 21, 3) := by decide +kernel
theorem d_X12_isSign_108 : decode prog_14_method_12_code 108 = .ok (.iload_n 0, 1) := by decide +kernel
theorem d_X12_isSign_109 : decode prog_14_method_12_code 109 = .ok (.bipush 126, 2) := by decide +kernel
theorem d_X12_isSign_111 : decode prog_14_method_12_code 111 = .ok (.if_icmp .eq 15, 3) := by decide +kernel
theorem d_X12_isSign_114 : decode prog_14_method_12_code 114 = .ok (.iload_n 0, 1) := by decide +kernel
theorem d_X12_isSign_115 : decode prog_14_method_12_code 115 = .ok (.bipush 33, 2) := by decide +kernel
theorem d_X12_isSign_117 : decode prog_14_method_12_code 117 = .ok (.if_icmp .eq 9, 3) := by decide +kernel
theorem d_X12_isSign_120 : decode prog_14_method_12_code 120 = .ok (.iload_n 0, 1) := by decide +kernel
theorem d_X12_isSign_121 : decode prog_14_method_12_code 121 = .ok (.bipush 46, 2) := by decide +kernel
theorem d_X12_isSign_123 : decode prog_14_method_12_code 123 = .ok (.if_icmp .ne 7, 3) := by decide +kernel
theorem d_X12_isSign_126 : decode prog_14_method_12_code 126 = .ok (.iconst 1, 1) := by decide +kernel
theorem d_X12_isSign_127 : decode prog_14_method_12_code 127 = .ok (.goto 4, 3) := by decide +kernel
theorem d_X12_isSign_130 : decode prog_14_method_12_code 130 = .ok (.iconst 0, 1) := by decide +kernel
theorem d_X12_isSign_131 : decode prog_14_method_12_code 131 = .ok (.ireturn, 1) := by decide +kernel
theorem v_X12_isSign_0 {E : EE} {d : Nat} {Q : Option AV → AH → Prop} {x0 : Int32} {G : AH} (h : (x0 = 59 → wp E d M_X12_isSign 126 [some (vi x0)] [] G Q) ∧ (¬ (x0 = 59) → (x0 = 61 → wp E d M_X12_isSign 126 [some (vi x0)] [] G Q) ∧ (¬ (x0 = 61) → (x0 = 35 → wp E d M_X12_isSign 126 [some (vi x0)] [] G Q) ∧ (¬ (x0 = 35) → (x0 = 60 → wp E d M_X12_isSign 126 [some (vi x0)] [] G Q) ∧ (¬ (x0 = 60) → (x0 = 62 → wp E d M_X12_isSign 126 [some (vi x0)] [] G Q) ∧ (¬ (x0 = 62) → (x0 = 43 → wp E d M_X12_isSign 126 [some (vi x0)] [] G Q) ∧ (¬ (x0 = 43) → (x0 = 45 → wp E d M_X12_isSign 126 [some (vi x0)] [] G Q) ∧ (¬ (x0 = 45) → (x0 = 42 → wp E d M_X12_isSign 126 [some (vi x0)] [] G Q) ∧ (¬ (x0 = 42) → (x0 = 40 → wp E d M_X12_isSign 126 [some (vi x0)] [] G Q) ∧ (¬ (x0 = 40) → (x0 = 41 → wp E d M_X12_isSign 126 [some (vi x0)] [] G Q) ∧ (¬ (x0 = 41) → (x0 = 91 → wp E d M_X12_isSign 126 [some (vi x0)] [] G Q) ∧ (¬ (x0 = 91) → (x0 = 93 → wp E d M_X12_isSign 126 [some (vi x0)] [] G Q) ∧ (¬ (x0 = 93) → (x0 = 123 → wp E d M_X12_isSign 126 [some (vi x0)] [] G Q) ∧ (¬ (x0 = 123) → (x0 = 125 → wp E d M_X12_isSign 126 [some (vi x0)] [] G Q) ∧ (¬ (x0 = 125) → (x0 = 44 → wp E d M_X12_isSign 126 [some (vi x0)] [] G Q) ∧ (¬ (x0 = 44) → (x0 = 58 → wp E d M_X12_isSign 126 [some (vi x0)] [] G Q) ∧ (¬ (x0 = 58) → (x0 = 38 → wp E d M_X12_isSign 126 [some (vi x0)] [] G Q) ∧ (¬ (x0 = 38) → (x0 = 124 → wp E d M_X12_isSign 126 [some (vi x0)] [] G Q) ∧ (¬ (x0 = 124) → (x0 = 126 → wp E d M_X12_isSign 126 [some (vi x0)] [] G Q) ∧ (¬ (x0 = 126) → (x0 = 33 → wp E d M_X12_isSign 126 [some (vi x0)] [] G Q) ∧ (¬ (x0 = 33) → (¬ x0 = 46 → Q (some (vi 0)) G) ∧ (x0 = 46 → wp E d M_X12_isSign 126 [some (vi x0)] [] G Q)))))))))))))))))))))) : wp E d M_X12_isSign 0 [some (vi x0)] [] G Q := by
  refine wp_iload_n (pc := 0) d_X12_isSign_0 rfl ?_
  refine wp_bipush (pc := 1) (v := 59) d_X12_isSign_1 rfl ?_
  refine wp_icmp_eq (pc := 3) (tgt := 126) d_X12_isSign_3 (by decide) (fun hc => ?_) (fun hc => ?_)
  · have h := h.1 hc
    refine wp_sub ?_ h
    exact ⟨rfl, trivial⟩
  · have h := h.2 hc
    refine wp_iload_n (pc := 6) d_X12_isSign_6 rfl ?_
    refine wp_bipush (pc := 7) (v := 61) d_X12_isSign_7 rfl ?_
    refine wp_icmp_eq (pc := 9) (tgt := 126) d_X12_isSign_9 (by decide) (fun hc => ?_) (fun hc => ?_)
    · have h := h.1 hc
      refine wp_sub ?_ h
      exact ⟨rfl, trivial⟩
    · have h := h.2 hc
      refine wp_iload_n (pc := 12) d_X12_isSign_12 rfl ?_
      refine wp_bipush (pc := 13) (v := 35) d_X12_isSign_13 rfl ?_
      refine wp_icmp_eq (pc := 15) (tgt := 126) d_X12_isSign_15 (by decide) (fun hc => ?_) (fun hc => ?_)
      · have h := h.1 hc
        refine wp_sub ?_ h
        exact ⟨rfl, trivial⟩
      · have h := h.2 hc
        refine wp_iload_n (pc := 18) d_X12_isSign_18 rfl ?_
        refine wp_bipush (pc := 19) (v := 60) d_X12_isSign_19 rfl ?_
        refine wp_icmp_eq (pc := 21) (tgt := 126) d_X12_isSign_21 (by decide) (fun hc => ?_) (fun hc => ?_)
        · have h := h.1 hc
          refine wp_sub ?_ h
          exact ⟨rfl, trivial⟩
        · have h := h.2 hc
          refine wp_iload_n (pc := 24) d_X12_isSign_24 rfl ?_
          refine wp_bipush (pc := 25) (v := 62) d_X12_isSign_25 rfl ?_
          refine wp_icmp_eq (pc := 27) (tgt := 126) d_X12_isSign_27 (by decide) (fun hc => ?_) (fun hc => ?_)
          · have h := h.1 hc
            refine wp_sub ?_ h
            exact ⟨rfl, trivial⟩
          · have h := h.2 hc
            refine wp_iload_n (pc := 30) d_X12_isSign_30 rfl ?_
            refine wp_bipush (pc := 31) (v := 43) d_X12_isSign_31 rfl ?_
            refine wp_icmp_eq (pc := 33) (tgt := 126) d_X12_isSign_33 (by decide) (fun hc => ?_) (fun hc => ?_)
            · have h := h.1 hc
              refine wp_sub ?_ h
              exact ⟨rfl, trivial⟩
            · have h := h.2 hc
              refine wp_iload_n (pc := 36) d_X12_isSign_36 rfl ?_
              refine wp_bipush (pc := 37) (v := 45) d_X12_isSign_37 rfl ?_
              refine wp_icmp_eq (pc := 39) (tgt := 126) d_X12_isSign_39 (by decide) (fun hc => ?_) (fun hc => ?_)
              · have h := h.1 hc
                refine wp_sub ?_ h
                exact ⟨rfl, trivial⟩
              · have h := h.2 hc
                refine wp_iload_n (pc := 42) d_X12_isSign_42 rfl ?_
                refine wp_bipush (pc := 43) (v := 42) d_X12_isSign_43 rfl ?_
                refine wp_icmp_eq (pc := 45) (tgt := 126) d_X12_isSign_45 (by decide) (fun hc => ?_) (fun hc => ?_)
                · have h := h.1 hc
                  refine wp_sub ?_ h
                  exact ⟨rfl, trivial⟩
                · have h := h.2 hc
                  refine wp_iload_n (pc := 48) d_X12_isSign_48 rfl ?_
                  refine wp_bipush (pc := 49) (v := 40) d_X12_isSign_49 rfl ?_
                  refine wp_icmp_eq (pc := 51) (tgt := 126) d_X12_isSign_51 (by decide) (fun hc => ?_) (fun hc => ?_)
                  · have h := h.1 hc
                    refine wp_sub ?_ h
                    exact ⟨rfl, trivial⟩
                  · have h := h.2 hc
                    refine wp_iload_n (pc := 54) d_X12_isSign_54 rfl ?_
                    refine wp_bipush (pc := 55) (v := 41) d_X12_isSign_55 rfl ?_
                    refine wp_icmp_eq (pc := 57) (tgt := 126) d_X12_isSign_57 (by decide) (fun hc => ?_) (fun hc => ?_)
                    · have h := h.1 hc
                      refine wp_sub ?_ h
                      exact ⟨rfl, trivial⟩
                    · have h := h.2 hc
                      refine wp_iload_n (pc := 60) d_X12_isSign_60 rfl ?_
                      refine wp_bipush (pc := 61) (v := 91) d_X12_isSign_61 rfl ?_
                      refine wp_icmp_eq (pc := 63) (tgt := 126) d_X12_isSign_63 (by decide) (fun hc => ?_) (fun hc => ?_)
                      · have h := h.1 hc
                        refine wp_sub ?_ h
                        exact ⟨rfl, trivial⟩
                      · have h := h.2 hc
                        refine wp_iload_n (pc := 66) d_X12_isSign_66 rfl ?_
                        refine wp_bipush (pc := 67) (v := 93) d_X12_isSign_67 rfl ?_
                        refine wp_icmp_eq (pc := 69) (tgt := 126) d_X12_isSign_69 (by decide) (fun hc => ?_) (fun hc => ?_)
                        · have h := h.1 hc
                          refine wp_sub ?_ h
                          exact ⟨rfl, trivial⟩
                        · have h := h.2 hc
                          refine wp_iload_n (pc := 72) d_X12_isSign_72 rfl ?_
                          refine wp_bipush (pc := 73) (v := 123) d_X12_isSign_73 rfl ?_
                          refine wp_icmp_eq (pc := 75) (tgt := 126) d_X12_isSign_75 (by decide) (fun hc => ?_) (fun hc => ?_)
                          · have h := h.1 hc
                            refine wp_sub ?_ h
                            exact ⟨rfl, trivial⟩
                          · have h := h.2 hc
                            refine wp_iload_n (pc := 78) d_X12_isSign_78 rfl ?_
                            refine wp_bipush (pc := 79) (v := 125) d_X12_isSign_79 rfl ?_
                            refine wp_icmp_eq (pc := 81) (tgt := 126) d_X12_isSign_81 (by decide) (fun hc => ?_) (fun hc => ?_)
                            · have h := h.1 hc
                              refine wp_sub ?_ h
                              exact ⟨rfl, trivial⟩
                            · have h := h.2 hc
                              refine wp_iload_n (pc := 84) d_X12_isSign_84 rfl ?_
                              refine wp_bipush (pc := 85) (v := 44) d_X12_isSign_85 rfl ?_
                              refine wp_icmp_eq (pc := 87) (tgt := 126) d_X12_isSign_87 (by decide) (fun hc => ?_) (fun hc => ?_)
                              · have h := h.1 hc
                                refine wp_sub ?_ h
                                exact ⟨rfl, trivial⟩
                              · have h := h.2 hc
                                refine wp_iload_n (pc := 90) d_X12_isSign_90 rfl ?_
                                refine wp_bipush (pc := 91) (v := 58) d_X12_isSign_91 rfl ?_
                                refine wp_icmp_eq (pc := 93) (tgt := 126) d_X12_isSign_93 (by decide) (fun hc => ?_) (fun hc => ?_)
                                · have h := h.1 hc
                                  refine wp_sub ?_ h
                                  exact ⟨rfl, trivial⟩
                                · have h := h.2 hc
                                  refine wp_iload_n (pc := 96) d_X12_isSign_96 rfl ?_
                                  refine wp_bipush (pc := 97) (v := 38) d_X12_isSign_97 rfl ?_
                                  refine wp_icmp_eq (pc := 99) (tgt := 126) d_X12_isSign_99 (by decide) (fun hc => ?_) (fun hc => ?_)
                                  · have h := h.1 hc
                                    refine wp_sub ?_ h
                                    exact ⟨rfl, trivial⟩
                                  · have h := h.2 hc
                                    refine wp_iload_n (pc := 102) d_X12_isSign_102 rfl ?_
                                    refine wp_bipush (pc := 103) (v := 124) d_X12_isSign_103 rfl ?_
                                    refine wp_icmp_eq (pc := 105) (tgt := 126) d_X12_isSign_105 (by decide) (fun hc => ?_) (fun hc => ?_)
                                    · have h := h.1 hc
                                      refine wp_sub ?_ h
                                      exact ⟨rfl, trivial⟩
                                    · have h := h.2 hc
                                      refine wp_iload_n (pc := 108) d_X12_isSign_108 rfl ?_
                                      refine wp_bipush (pc := 109) (v := 126) d_X12_isSign_109 rfl ?_
                                      refine wp_icmp_eq (pc := 111) (tgt := 126) d_X12_isSign_111 (by decide) (fun hc => ?_) (fun hc => ?_)
                                      · have h := h.1 hc
                                        refine wp_sub ?_ h
                                        exact ⟨rfl, trivial⟩
                                      · have h := h.2 hc
                                        refine wp_iload_n (pc := 114) d_X12_isSign_114 rfl ?_
                                        refine wp_bipush (pc := 115) (v := 33) d_X12_isSign_115 rfl ?_
                                        refine wp_icmp_eq (pc := 117) (tgt := 126) d_X12_isSign_117 (by decide) (fun hc => ?_) (fun hc => ?_)
                                        · have h := h.1 hc
                                          refine wp_sub ?_ h
                                          exact ⟨rfl, trivial⟩
                                        · have h := h.2 hc
                                          refine wp_iload_n (pc := 120) d_X12_isSign_120 rfl ?_
                                          refine wp_bipush (pc := 121) (v := 46) d_X12_isSign_121 rfl ?_
                                          refine wp_icmp_ne (pc := 123) (tgt := 130) d_X12_isSign_123 (by decide) (fun hc => ?_) (fun hc => ?_)
                                          · have h := h.1 hc
                                            refine wp_iconst (pc := 130) (v := 0) d_X12_isSign_130 rfl ?_
                                            exact wp_zret (pc := 131) d_X12_isSign_131 rfl rfl h
                                          · have h := h.2 hc
                                            refine wp_sub ?_ h
                                            exact ⟨rfl, trivial⟩
theorem v_X12_isSign_126 {E : EE} {d : Nat} {Q : Option AV → AH → Prop} {x0 : Int32} {G : AH} (h : Q (some (vi 1)) G) : wp E d M_X12_isSign 126 [some (vi x0)] [] G Q := by
  refine wp_iconst (pc := 126) (v := 1) d_X12_isSign_126 rfl ?_
  refine wp_goto (pc := 127) (tgt := 131) d_X12_isSign_127 (by decide) ?_
  exact wp_zret (pc := 131) d_X12_isSign_131 rfl rfl h
theorem d_X12_statement_0 : decode prog_14_method_26_code 0 = .ok (.aload_n 0, 1) := by decide +kernel
theorem d_X12_statement_1 : decode prog_14_method_26_code 1 = .ok (.iconst 0, 1) := by decide +kernel
theorem d_X12_statement_2 : decode prog_14_method_26_code 2 = .ok (.putfield 334, 3) := by decide +kernel
theorem d_X12_statement_5 : decode prog_14_method_26_code 5 = .ok (.aload_n 0, 1) := by decide +kernel
theorem d_X12_statement_6 : decode prog_14_method_26_code 6 = .ok (.getfield 46, 3) := by decide +kernel
theorem d_X12_statement_9 : decode prog_14_method_26_code 9 = .ok (.bipush 64, 2) := by decide +kernel
theorem d_X12_statement_11 : decode prog_14_method_26_code 11 = .ok (.aload_n 0, 1) := by decide +kernel
theorem d_X12_statement_12 : decode prog_14_method_26_code 12 = .ok (.getfield 321, 3) := by decide +kernel
theorem d_X12_statement_15 : decode prog_14_method_26_code 15 = .ok (.imul, 1) := by decide +kernel
theorem d_X12_statement_16 : decode prog_14_method_26_code 16 = .ok (.aload_n 0, 1) := by decide +kernel
theorem d_X12_statement_17 : decode prog_14_method_26_code 17 = .ok (.getfield 49, 3) := by decide +kernel
theorem d_X12_statement_20 : decode prog_14_method_26_code 20 = .ok (.aload_n 0, 1) := by decide +kernel
theorem d_X12_statement_21 : decode prog_14_method_26_code 21 = .ok (.getfield 321, 3) := by decide +kernel
theorem d_X12_statement_24 : decode prog_14_method_26_code 24 = .ok (.iaload, 1) := by decide +kernel
theorem d_X12_statement_25 : decode prog_14_method_26_code 25 = .ok (.iadd, 1) := by decide +kernel
theorem d_X12_statement_26 : decode prog_14_method_26_code 26 = .ok (.aload_n 0, 1) := by decide +kernel
theorem d_X12_statement_27 : decode prog_14_method_26_code 27 = .ok (.getfield 43, 3) := by decide +kernel
theorem d_X12_statement_30 : decode prog_14_method_26_code 30 = .ok (.aload_n 0, 1) := by decide +kernel
theorem d_X12_statement_31 : decode prog_14_method_26_code 31 = .ok (.getfield 321, 3) := by decide +kernel
theorem d_X12_statement_34 : decode prog_14_method_26_code 34 = .ok (.iaload, 1) := by decide +kernel
theorem d_X12_statement_35 : decode prog_14_method_26_code 35 = .ok (.iastore, 1) := by decide +kernel
theorem d_X12_statement_36 : decode prog_14_method_26_code 36 = .ok (.aload_n 0, 1) := by decide +kernel
theorem d_X12_statement_37 : decode prog_14_method_26_code 37 = .ok (.getfield 292, 3) := by decide +kernel
theorem d_X12_statement_40 : decode prog_14_method_26_code 40 = .ok (.tableswitch 88 300 305 #[40, 52, 88, 64, 88, 76], 40) := by decide +kernel
theorem d_X12_statement_80 : decode prog_14_method_26_code 80 = .ok (.aload_n 0, 1) := by decide +kernel
theorem d_X12_statement_81 : decode prog_14_method_26_code 81 = .ok (.iconst 0, 1) := by decide +kernel
theorem d_X12_statement_82 : decode prog_14_method_26_code 82 = .ok (.invokevirtual 330, 3) := by decide +kernel
theorem d_X12_statement_85 : decode prog_14_method_26_code 85 = .ok (.aload_n 0, 1) := by decide +kernel
theorem d_X12_statement_86 : decode prog_14_method_26_code 86 = .ok (.invokevirtual 358, 3) := by decide +kernel
theorem d_X12_statement_89 : decode prog_14_method_26_code 89 = .ok (.goto 43, 3) := by decide +kernel
theorem d_X12_statement_92 : decode prog_14_method_26_code 92 = .ok (.aload_n 0, 1) := by decide +kernel
theorem d_X12_statement_93 : decode prog_14_method_26_code 93 = .ok (.iconst 0, 1) := by decide +kernel
theorem d_X12_statement_94 : decode prog_14_method_26_code 94 = .ok (.invokevirtual 330, 3) := by decide +kernel
theorem d_X12_statement_97 : decode prog_14_method_26_code 97 = .ok (.aload_n 0, 1) := by decide +kernel
theorem d_X12_statement_98 : decode prog_14_method_26_code 98 = .ok (.invokevirtual 361, 3) := by decide +kernel
theorem d_X12_statement_101 : decode prog_14_method_26_code 101 = .ok (.goto 31, 3) := by decide +kernel
theorem d_X12_statement_104 : decode prog_14_method_26_code 104 = .ok (.aload_n 0, 1) := by decide +kernel
theorem d_X12_statement_105 : decode prog_14_method_26_code 105 = .ok (.iconst 0, 1) := by decide +kernel
theorem d_X12_statement_106 : decode prog_14_method_26_code 106 = .ok (.invokevirtual 330, 3) := by decide +kernel
theorem d_X12_statement_109 : decode prog_14_method_26_code 109 = .ok (.aload_n 0, 1) := by decide +kernel
theorem d_X12_statement_110 : decode prog_14_method_26_code 110 = .ok (.invokevirtual 364, 3) := by decide +kernel
theorem d_X12_statement_113 : decode prog_14_method_26_code 113 = .ok (.goto 19, 3) := by decide +kernel
theorem d_X12_statement_116 : decode prog_14_method_26_code 116 = .ok (.aload_n 0, 1) := by decide +kernel
theorem d_X12_statement_117 : decode prog_14_method_26_code 117 = .ok (.iconst 0, 1) := by decide +kernel
theorem d_X12_statement_118 : decode prog_14_method_26_code 118 = .ok (.invokevirtual 330, 3) := by decide +kernel
theorem d_X12_statement_121 : decode prog_14_method_26_code 121 = .ok (.aload_n 0, 1) := by decide +kernel
theorem d_X12_statement_122 : decode prog_14_method_26_code 122 = .ok (.invokevirtual 367, 3) := by decide +kernel
theorem d_X12_statement_125 : decode prog_14_method_26_code 125 = .ok (.goto 7, 3) := by decide +kernel
theorem d_X12_statement_128 : decode prog_14_method_26_code 128 = .ok (.aload_n 0, 1) := by decide +kernel
theorem d_X12_statement_129 : decode prog_14_method_26_code 129 = .ok (.invokevirtual 327, 3) := by decide +kernel
theorem d_X12_statement_132 : decode prog_14_method_26_code 132 = .ok (.aload_n 0, 1) := by decide +kernel
theorem d_X12_statement_133 : decode prog_14_method_26_code 133 = .ok (.getfield 49, 3) := by decide +kernel
theorem d_X12_statement_136 : decode prog_14_method_26_code 136 = .ok (.aload_n 0, 1) := by decide +kernel
theorem d_X12_statement_137 : decode prog_14_method_26_code 137 = .ok (.getfield 321, 3) := by decide +kernel
theorem d_X12_statement_140 : decode prog_14_method_26_code 140 = .ok (.dup2, 1) := by decide +kernel
theorem d_X12_statement_141 : decode prog_14_method_26_code 141 = .ok (.iaload, 1) := by decide +kernel
theorem d_X12_statement_142 : decode prog_14_method_26_code 142 = .ok (.iconst 1, 1) := by decide +kernel
theorem d_X12_statement_143 : decode prog_14_method_26_code 143 = .ok (.iadd, 1) := by decide +kernel
theorem d_X12_statement_144 : decode prog_14_method_26_code 144 = .ok (.iastore, 1) := by decide +kernel
theorem d_X12_statement_145 : decode prog_14_method_26_code 145 = .ok (.return_, 1) := by decide +kernel
theorem v_X12_statement_0 {E : EE} {d : Nat} {Q : Option AV → AH → Prop} {x0 : Nat} {G : AH} (h0 : 0 < d) (h : isO E G x0 12 ∧ (∀ G2 : AH, G2 = sI G x0 48 0 → isO E G2 (gR G2 x0 14) 14 ∧ (vp_in (gI G2 x0 47) (gN G2 (gR G2 x0 14)) ∧ (isO E G2 (gR G2 x0 12) 14 ∧ (vp_in (gI G2 x0 47) (gN G2 (gR G2 x0 12)) ∧ (isO E G2 (gR G2 x0 13) 14 ∧ (vp_in ((64 * (gI G2 x0 47)) + (gI G2 (gR G2 x0 14) (Int32.toNatClampNeg (gI G2 x0 47)))) (gN G2 (gR G2 x0 13)) ∧ (∀ G10 : AH, G10 = sI G2 (gR G2 x0 13) (Int32.toNatClampNeg ((64 * (gI G2 x0 47)) + (gI G2 (gR G2 x0 14) (Int32.toNatClampNeg (gI G2 x0 47))))) (gI G2 (gR G2 x0 12) (Int32.toNatClampNeg (gI G2 x0 47))) → ((gI G10 x0 41) = 300 → wpV E (d - 1) M_X12_keep [vr x0, vi 0] G10 (fun G13 => isO E G13 x0 12 ∧ (wpV E (d - 1) M_X12_factStatement [vr x0] G13 (fun G14 => wp E d M_X12_statement 132 [some (vr x0)] [] G14 Q)))) ∧ (((gI G10 x0 41) = 301 → wpV E (d - 1) M_X12_keep [vr x0, vi 0] G10 (fun G17 => isO E G17 x0 12 ∧ (wpV E (d - 1) M_X12_varStatement [vr x0] G17 (fun G18 => wp E d M_X12_statement 132 [some (vr x0)] [] G18 Q)))) ∧ (((gI G10 x0 41) = 302 → wpV E (d - 1) M_X12_failHere [vr x0] G10 (fun G21 => wp E d M_X12_statement 132 [some (vr x0)] [] G21 Q)) ∧ (((gI G10 x0 41) = 303 → wpV E (d - 1) M_X12_keep [vr x0, vi 0] G10 (fun G23 => isO E G23 x0 12 ∧ (wpV E (d - 1) M_X12_ruleStatement [vr x0] G23 (fun G24 => wp E d M_X12_statement 132 [some (vr x0)] [] G24 Q)))) ∧ (((gI G10 x0 41) = 304 → wpV E (d - 1) M_X12_failHere [vr x0] G10 (fun G27 => wp E d M_X12_statement 132 [some (vr x0)] [] G27 Q)) ∧ (((gI G10 x0 41) = 305 → wpV E (d - 1) M_X12_keep [vr x0, vi 0] G10 (fun G29 => isO E G29 x0 12 ∧ (wpV E (d - 1) M_X12_aimStatement [vr x0] G29 (fun G30 => wp E d M_X12_statement 132 [some (vr x0)] [] G30 Q)))) ∧ ((¬ (gI G10 x0 41) = 300 → ¬ (gI G10 x0 41) = 301 → ¬ (gI G10 x0 41) = 302 → ¬ (gI G10 x0 41) = 303 → ¬ (gI G10 x0 41) = 304 → ¬ (gI G10 x0 41) = 305 → wpV E (d - 1) M_X12_failHere [vr x0] G10 (fun G32 => wp E d M_X12_statement 132 [some (vr x0)] [] G32 Q)))))))))))))))) : wp E d M_X12_statement 0 [some (vr x0)] [] G Q := by
  refine wp_aload_n (pc := 0) d_X12_statement_0 rfl ?_
  refine wp_iconst (pc := 1) (v := 0) d_X12_statement_1 rfl ?_
  obtain ⟨ho1, h⟩ := h
  refine wp_putI (pc := 2) d_X12_statement_2 fl_X12_334 (fun _ _ _ => rfl) (Or.inl rfl) ho1 (okI_int _) ?_
  refine wp_nm (fun G2 eG2 => ?_)
  have h := h G2 eG2
  have ho3 := isO_sI eG2 ho1
  refine wp_aload_n (pc := 5) d_X12_statement_5 rfl ?_
  refine wp_getR (pc := 6) d_X12_statement_6 fl_X12_46 (fun _ _ _ => rfl) ho3 ?_
  refine wp_bipush (pc := 9) (v := 64) d_X12_statement_9 rfl ?_
  refine wp_aload_n (pc := 11) d_X12_statement_11 rfl ?_
  refine wp_getI (pc := 12) d_X12_statement_12 fl_X12_321 (fun _ _ _ => rfl) ho3 ?_
  refine wp_imul (pc := 15) d_X12_statement_15 ?_
  refine wp_aload_n (pc := 16) d_X12_statement_16 rfl ?_
  refine wp_getR (pc := 17) d_X12_statement_17 fl_X12_49 (fun _ _ _ => rfl) ho3 ?_
  refine wp_aload_n (pc := 20) d_X12_statement_20 rfl ?_
  refine wp_getI (pc := 21) d_X12_statement_21 fl_X12_321 (fun _ _ _ => rfl) ho3 ?_
  obtain ⟨ho4, h⟩ := h
  obtain ⟨hi5, h⟩ := h
  refine wp_iald (pc := 24) d_X12_statement_24 ho4 hi5 ?_
  refine wp_iadd (pc := 25) d_X12_statement_25 ?_
  refine wp_aload_n (pc := 26) d_X12_statement_26 rfl ?_
  refine wp_getR (pc := 27) d_X12_statement_27 fl_X12_43 (fun _ _ _ => rfl) ho3 ?_
  refine wp_aload_n (pc := 30) d_X12_statement_30 rfl ?_
  refine wp_getI (pc := 31) d_X12_statement_31 fl_X12_321 (fun _ _ _ => rfl) ho3 ?_
  obtain ⟨ho6, h⟩ := h
  obtain ⟨hi7, h⟩ := h
  refine wp_iald (pc := 34) d_X12_statement_34 ho6 hi7 ?_
  obtain ⟨ho8, h⟩ := h
  obtain ⟨hi9, h⟩ := h
  refine wp_iast (pc := 35) d_X12_statement_35 ho8 hi9 ?_
  refine wp_nm (fun G10 eG10 => ?_)
  have h := h G10 eG10
  have ho11 := isO_sI eG10 ho3
  refine wp_aload_n (pc := 36) d_X12_statement_36 rfl ?_
  refine wp_getI (pc := 37) d_X12_statement_37 fl_X12_292 (fun _ _ _ => rfl) ho11 ?_
  obtain ⟨hk, h⟩ := h
  by_cases hn12 : (gI G10 x0 41) = 300
  · have h := hk hn12
    refine wp_tblI (pc := 40) (tgt := 80) d_X12_statement_40 (by rw [hn12]; decide) (by rw [hn12]; decide) (by rw [hn12]; first | done | rfl) (by decide) ?_
    refine wp_aload_n (pc := 80) d_X12_statement_80 rfl ?_
    refine wp_iconst (pc := 81) (v := 0) d_X12_statement_81 rfl ?_
    refine wp_invV (pc := 82) (N := M_X12_keep) (As := [vi _]) (rest := []) (r := (cn_12, ct_12, 95)) d_X12_statement_82 ml_X12_330 mk_X12_keep mv_X12_keep h0 ho11 rfl rfl (Nat.le_of_ble_eq_true rfl) ?_
    refine wpM.mono h (fun rr G13 hr => ?_)
    obtain ⟨rfl, h⟩ := hr
    show wp E d M_X12_statement 85 [some (vr _)] [] G13 Q
    refine wp_aload_n (pc := 85) d_X12_statement_85 rfl ?_
    obtain ⟨ho15, h⟩ := h
    refine wp_invV (pc := 86) (N := M_X12_factStatement) (As := []) (rest := []) (r := (cn_12, ct_12, 95)) d_X12_statement_86 ml_X12_358 mk_X12_factStatement mv_X12_factStatement h0 ho15 rfl rfl (Nat.le_of_ble_eq_true rfl) ?_
    refine wpM.mono h (fun rr G14 hr => ?_)
    obtain ⟨rfl, h⟩ := hr
    show wp E d M_X12_statement 89 [some (vr _)] [] G14 Q
    refine wp_goto (pc := 89) (tgt := 132) d_X12_statement_89 (by decide) ?_
    refine wp_sub ?_ h
    exact ⟨rfl, trivial⟩
  obtain ⟨hk, h⟩ := h
  by_cases hn16 : (gI G10 x0 41) = 301
  · have h := hk hn16
    refine wp_tblI (pc := 40) (tgt := 92) d_X12_statement_40 (by rw [hn16]; decide) (by rw [hn16]; decide) (by rw [hn16]; first | done | rfl) (by decide) ?_
    refine wp_aload_n (pc := 92) d_X12_statement_92 rfl ?_
    refine wp_iconst (pc := 93) (v := 0) d_X12_statement_93 rfl ?_
    refine wp_invV (pc := 94) (N := M_X12_keep) (As := [vi _]) (rest := []) (r := (cn_12, ct_12, 95)) d_X12_statement_94 ml_X12_330 mk_X12_keep mv_X12_keep h0 ho11 rfl rfl (Nat.le_of_ble_eq_true rfl) ?_
    refine wpM.mono h (fun rr G17 hr => ?_)
    obtain ⟨rfl, h⟩ := hr
    show wp E d M_X12_statement 97 [some (vr _)] [] G17 Q
    refine wp_aload_n (pc := 97) d_X12_statement_97 rfl ?_
    obtain ⟨ho19, h⟩ := h
    refine wp_invV (pc := 98) (N := M_X12_varStatement) (As := []) (rest := []) (r := (cn_12, ct_12, 95)) d_X12_statement_98 ml_X12_361 mk_X12_varStatement mv_X12_varStatement h0 ho19 rfl rfl (Nat.le_of_ble_eq_true rfl) ?_
    refine wpM.mono h (fun rr G18 hr => ?_)
    obtain ⟨rfl, h⟩ := hr
    show wp E d M_X12_statement 101 [some (vr _)] [] G18 Q
    refine wp_goto (pc := 101) (tgt := 132) d_X12_statement_101 (by decide) ?_
    refine wp_sub ?_ h
    exact ⟨rfl, trivial⟩
  obtain ⟨hk, h⟩ := h
  by_cases hn20 : (gI G10 x0 41) = 302
  · have h := hk hn20
    refine wp_tblI (pc := 40) (tgt := 128) d_X12_statement_40 (by rw [hn20]; decide) (by rw [hn20]; decide) (by rw [hn20]; first | done | rfl) (by decide) ?_
    refine wp_aload_n (pc := 128) d_X12_statement_128 rfl ?_
    refine wp_invV (pc := 129) (N := M_X12_failHere) (As := []) (rest := []) (r := (cn_12, ct_12, 95)) d_X12_statement_129 ml_X12_327 mk_X12_failHere mv_X12_failHere h0 ho11 rfl rfl (Nat.le_of_ble_eq_true rfl) ?_
    refine wpM.mono h (fun rr G21 hr => ?_)
    obtain ⟨rfl, h⟩ := hr
    show wp E d M_X12_statement 132 [some (vr _)] [] G21 Q
    refine wp_sub ?_ h
    exact ⟨rfl, trivial⟩
  obtain ⟨hk, h⟩ := h
  by_cases hn22 : (gI G10 x0 41) = 303
  · have h := hk hn22
    refine wp_tblI (pc := 40) (tgt := 104) d_X12_statement_40 (by rw [hn22]; decide) (by rw [hn22]; decide) (by rw [hn22]; first | done | rfl) (by decide) ?_
    refine wp_aload_n (pc := 104) d_X12_statement_104 rfl ?_
    refine wp_iconst (pc := 105) (v := 0) d_X12_statement_105 rfl ?_
    refine wp_invV (pc := 106) (N := M_X12_keep) (As := [vi _]) (rest := []) (r := (cn_12, ct_12, 95)) d_X12_statement_106 ml_X12_330 mk_X12_keep mv_X12_keep h0 ho11 rfl rfl (Nat.le_of_ble_eq_true rfl) ?_
    refine wpM.mono h (fun rr G23 hr => ?_)
    obtain ⟨rfl, h⟩ := hr
    show wp E d M_X12_statement 109 [some (vr _)] [] G23 Q
    refine wp_aload_n (pc := 109) d_X12_statement_109 rfl ?_
    obtain ⟨ho25, h⟩ := h
    refine wp_invV (pc := 110) (N := M_X12_ruleStatement) (As := []) (rest := []) (r := (cn_12, ct_12, 95)) d_X12_statement_110 ml_X12_364 mk_X12_ruleStatement mv_X12_ruleStatement h0 ho25 rfl rfl (Nat.le_of_ble_eq_true rfl) ?_
    refine wpM.mono h (fun rr G24 hr => ?_)
    obtain ⟨rfl, h⟩ := hr
    show wp E d M_X12_statement 113 [some (vr _)] [] G24 Q
    refine wp_goto (pc := 113) (tgt := 132) d_X12_statement_113 (by decide) ?_
    refine wp_sub ?_ h
    exact ⟨rfl, trivial⟩
  obtain ⟨hk, h⟩ := h
  by_cases hn26 : (gI G10 x0 41) = 304
  · have h := hk hn26
    refine wp_tblI (pc := 40) (tgt := 128) d_X12_statement_40 (by rw [hn26]; decide) (by rw [hn26]; decide) (by rw [hn26]; first | done | rfl) (by decide) ?_
    refine wp_aload_n (pc := 128) d_X12_statement_128 rfl ?_
    refine wp_invV (pc := 129) (N := M_X12_failHere) (As := []) (rest := []) (r := (cn_12, ct_12, 95)) d_X12_statement_129 ml_X12_327 mk_X12_failHere mv_X12_failHere h0 ho11 rfl rfl (Nat.le_of_ble_eq_true rfl) ?_
    refine wpM.mono h (fun rr G27 hr => ?_)
    obtain ⟨rfl, h⟩ := hr
    show wp E d M_X12_statement 132 [some (vr _)] [] G27 Q
    refine wp_sub ?_ h
    exact ⟨rfl, trivial⟩
  obtain ⟨hk, h⟩ := h
  by_cases hn28 : (gI G10 x0 41) = 305
  · have h := hk hn28
    refine wp_tblI (pc := 40) (tgt := 116) d_X12_statement_40 (by rw [hn28]; decide) (by rw [hn28]; decide) (by rw [hn28]; first | done | rfl) (by decide) ?_
    refine wp_aload_n (pc := 116) d_X12_statement_116 rfl ?_
    refine wp_iconst (pc := 117) (v := 0) d_X12_statement_117 rfl ?_
    refine wp_invV (pc := 118) (N := M_X12_keep) (As := [vi _]) (rest := []) (r := (cn_12, ct_12, 95)) d_X12_statement_118 ml_X12_330 mk_X12_keep mv_X12_keep h0 ho11 rfl rfl (Nat.le_of_ble_eq_true rfl) ?_
    refine wpM.mono h (fun rr G29 hr => ?_)
    obtain ⟨rfl, h⟩ := hr
    show wp E d M_X12_statement 121 [some (vr _)] [] G29 Q
    refine wp_aload_n (pc := 121) d_X12_statement_121 rfl ?_
    obtain ⟨ho31, h⟩ := h
    refine wp_invV (pc := 122) (N := M_X12_aimStatement) (As := []) (rest := []) (r := (cn_12, ct_12, 95)) d_X12_statement_122 ml_X12_367 mk_X12_aimStatement mv_X12_aimStatement h0 ho31 rfl rfl (Nat.le_of_ble_eq_true rfl) ?_
    refine wpM.mono h (fun rr G30 hr => ?_)
    obtain ⟨rfl, h⟩ := hr
    show wp E d M_X12_statement 125 [some (vr _)] [] G30 Q
    refine wp_goto (pc := 125) (tgt := 132) d_X12_statement_125 (by decide) ?_
    refine wp_sub ?_ h
    exact ⟨rfl, trivial⟩
  have h := h hn12 hn16 hn20 hn22 hn26 hn28
  have qhn12 := lv_neT (a := 300) hn12 (by decide)
  have qhn16 := lv_neT (a := 301) hn16 (by decide)
  have qhn20 := lv_neT (a := 302) hn20 (by decide)
  have qhn22 := lv_neT (a := 303) hn22 (by decide)
  have qhn26 := lv_neT (a := 304) hn26 (by decide)
  have qhn28 := lv_neT (a := 305) hn28 (by decide)
  refine wp_tblO (pc := 40) (tgt := 128) d_X12_statement_40 (by omega) (by decide) ?_
  refine wp_aload_n (pc := 128) d_X12_statement_128 rfl ?_
  refine wp_invV (pc := 129) (N := M_X12_failHere) (As := []) (rest := []) (r := (cn_12, ct_12, 95)) d_X12_statement_129 ml_X12_327 mk_X12_failHere mv_X12_failHere h0 ho11 rfl rfl (Nat.le_of_ble_eq_true rfl) ?_
  refine wpM.mono h (fun rr G32 hr => ?_)
  obtain ⟨rfl, h⟩ := hr
  show wp E d M_X12_statement 132 [some (vr _)] [] G32 Q
  refine wp_sub ?_ h
  exact ⟨rfl, trivial⟩
theorem v_X12_statement_132 {E : EE} {d : Nat} {Q : Option AV → AH → Prop} {x0 : Nat} {G : AH} (h : isO E G x0 12 ∧ (isO E G (gR G x0 14) 14 ∧ (vp_in (gI G x0 47) (gN G (gR G x0 14)) ∧ (vp_in (gI G x0 47) (gN G (gR G x0 14)) ∧ (Q none (sI G (gR G x0 14) (Int32.toNatClampNeg (gI G x0 47)) ((gI G (gR G x0 14) (Int32.toNatClampNeg (gI G x0 47))) + 1))))))) : wp E d M_X12_statement 132 [some (vr x0)] [] G Q := by
  refine wp_aload_n (pc := 132) d_X12_statement_132 rfl ?_
  obtain ⟨ho1, h⟩ := h
  refine wp_getR (pc := 133) d_X12_statement_133 fl_X12_49 (fun _ _ _ => rfl) ho1 ?_
  refine wp_aload_n (pc := 136) d_X12_statement_136 rfl ?_
  refine wp_getI (pc := 137) d_X12_statement_137 fl_X12_321 (fun _ _ _ => rfl) ho1 ?_
  refine wp_dup2 (pc := 140) d_X12_statement_140 (c1_i _) (c1_r _) ?_
  obtain ⟨ho2, h⟩ := h
  obtain ⟨hi3, h⟩ := h
  refine wp_iald (pc := 141) d_X12_statement_141 ho2 hi3 ?_
  refine wp_iconst (pc := 142) (v := 1) d_X12_statement_142 rfl ?_
  refine wp_iadd (pc := 143) d_X12_statement_143 ?_
  obtain ⟨hi4, h⟩ := h
  refine wp_iast (pc := 144) d_X12_statement_144 ho2 hi4 ?_
  exact wp_vret (pc := 145) d_X12_statement_145 rfl h
theorem d_X12_keep_0 : decode prog_14_method_16_code 0 = .ok (.sipush 20000, 3) := by decide +kernel
theorem d_X12_keep_3 : decode prog_14_method_16_code 3 = .ok (.aload_n 0, 1) := by decide +kernel
theorem d_X12_keep_4 : decode prog_14_method_16_code 4 = .ok (.getfield 321, 3) := by decide +kernel
theorem d_X12_keep_7 : decode prog_14_method_16_code 7 = .ok (.imul, 1) := by decide +kernel
theorem d_X12_keep_8 : decode prog_14_method_16_code 8 = .ok (.aload_n 0, 1) := by decide +kernel
theorem d_X12_keep_9 : decode prog_14_method_16_code 9 = .ok (.getfield 43, 3) := by decide +kernel
theorem d_X12_keep_12 : decode prog_14_method_16_code 12 = .ok (.aload_n 0, 1) := by decide +kernel
theorem d_X12_keep_13 : decode prog_14_method_16_code 13 = .ok (.getfield 321, 3) := by decide +kernel
theorem d_X12_keep_16 : decode prog_14_method_16_code 16 = .ok (.iaload, 1) := by decide +kernel
theorem d_X12_keep_17 : decode prog_14_method_16_code 17 = .ok (.iadd, 1) := by decide +kernel
theorem d_X12_keep_18 : decode prog_14_method_16_code 18 = .ok (.istore_n 2, 1) := by decide +kernel
theorem d_X12_keep_19 : decode prog_14_method_16_code 19 = .ok (.aload_n 0, 1) := by decide +kernel
theorem d_X12_keep_20 : decode prog_14_method_16_code 20 = .ok (.getfield 31, 3) := by decide +kernel
theorem d_X12_keep_23 : decode prog_14_method_16_code 23 = .ok (.iload_n 2, 1) := by decide +kernel
theorem d_X12_keep_24 : decode prog_14_method_16_code 24 = .ok (.aload_n 0, 1) := by decide +kernel
theorem d_X12_keep_25 : decode prog_14_method_16_code 25 = .ok (.getfield 292, 3) := by decide +kernel
theorem d_X12_keep_28 : decode prog_14_method_16_code 28 = .ok (.iastore, 1) := by decide +kernel
theorem d_X12_keep_29 : decode prog_14_method_16_code 29 = .ok (.aload_n 0, 1) := by decide +kernel
theorem d_X12_keep_30 : decode prog_14_method_16_code 30 = .ok (.getfield 34, 3) := by decide +kernel
theorem d_X12_keep_33 : decode prog_14_method_16_code 33 = .ok (.iload_n 2, 1) := by decide +kernel
theorem d_X12_keep_34 : decode prog_14_method_16_code 34 = .ok (.iload_n 1, 1) := by decide +kernel
theorem d_X12_keep_35 : decode prog_14_method_16_code 35 = .ok (.iastore, 1) := by decide +kernel
theorem d_X12_keep_36 : decode prog_14_method_16_code 36 = .ok (.aload_n 0, 1) := by decide +kernel
theorem d_X12_keep_37 : decode prog_14_method_16_code 37 = .ok (.getfield 37, 3) := by decide +kernel
theorem d_X12_keep_40 : decode prog_14_method_16_code 40 = .ok (.iload_n 2, 1) := by decide +kernel
theorem d_X12_keep_41 : decode prog_14_method_16_code 41 = .ok (.aload_n 0, 1) := by decide +kernel
theorem d_X12_keep_42 : decode prog_14_method_16_code 42 = .ok (.getfield 241, 3) := by decide +kernel
theorem d_X12_keep_45 : decode prog_14_method_16_code 45 = .ok (.iastore, 1) := by decide +kernel
theorem d_X12_keep_46 : decode prog_14_method_16_code 46 = .ok (.aload_n 0, 1) := by decide +kernel
theorem d_X12_keep_47 : decode prog_14_method_16_code 47 = .ok (.getfield 40, 3) := by decide +kernel
theorem d_X12_keep_50 : decode prog_14_method_16_code 50 = .ok (.iload_n 2, 1) := by decide +kernel
theorem d_X12_keep_51 : decode prog_14_method_16_code 51 = .ok (.aload_n 0, 1) := by decide +kernel
theorem d_X12_keep_52 : decode prog_14_method_16_code 52 = .ok (.getfield 238, 3) := by decide +kernel
theorem d_X12_keep_55 : decode prog_14_method_16_code 55 = .ok (.iastore, 1) := by decide +kernel
theorem d_X12_keep_56 : decode prog_14_method_16_code 56 = .ok (.aload_n 0, 1) := by decide +kernel
theorem d_X12_keep_57 : decode prog_14_method_16_code 57 = .ok (.getfield 43, 3) := by decide +kernel
theorem d_X12_keep_60 : decode prog_14_method_16_code 60 = .ok (.aload_n 0, 1) := by decide +kernel
theorem d_X12_keep_61 : decode prog_14_method_16_code 61 = .ok (.getfield 321, 3) := by decide +kernel
theorem d_X12_keep_64 : decode prog_14_method_16_code 64 = .ok (.dup2, 1) := by decide +kernel
theorem d_X12_keep_65 : decode prog_14_method_16_code 65 = .ok (.iaload, 1) := by decide +kernel
theorem d_X12_keep_66 : decode prog_14_method_16_code 66 = .ok (.iconst 1, 1) := by decide +kernel
theorem d_X12_keep_67 : decode prog_14_method_16_code 67 = .ok (.iadd, 1) := by decide +kernel
theorem d_X12_keep_68 : decode prog_14_method_16_code 68 = .ok (.iastore, 1) := by decide +kernel
theorem d_X12_keep_69 : decode prog_14_method_16_code 69 = .ok (.aload_n 0, 1) := by decide +kernel
theorem d_X12_keep_70 : decode prog_14_method_16_code 70 = .ok (.invokevirtual 324, 3) := by decide +kernel
theorem d_X12_keep_73 : decode prog_14_method_16_code 73 = .ok (.return_, 1) := by decide +kernel
theorem v_X12_keep_0 {E : EE} {d : Nat} {Q : Option AV → AH → Prop} {x0 : Nat} {x1 : Int32} {G : AH} (h0 : 0 < d) (h : isO E G x0 12 ∧ (isO E G (gR G x0 12) 14 ∧ (vp_in (gI G x0 47) (gN G (gR G x0 12)) ∧ (isO E G (gR G x0 8) 14 ∧ (vp_in ((20000 * (gI G x0 47)) + (gI G (gR G x0 12) (Int32.toNatClampNeg (gI G x0 47)))) (gN G (gR G x0 8)) ∧ (∀ G6 : AH, G6 = sI G (gR G x0 8) (Int32.toNatClampNeg ((20000 * (gI G x0 47)) + (gI G (gR G x0 12) (Int32.toNatClampNeg (gI G x0 47))))) (gI G x0 41) → isO E G6 (gR G6 x0 9) 14 ∧ (vp_in ((20000 * (gI G x0 47)) + (gI G (gR G x0 12) (Int32.toNatClampNeg (gI G x0 47)))) (gN G6 (gR G6 x0 9)) ∧ (∀ G10 : AH, G10 = sI G6 (gR G6 x0 9) (Int32.toNatClampNeg ((20000 * (gI G x0 47)) + (gI G (gR G x0 12) (Int32.toNatClampNeg (gI G x0 47))))) x1 → isO E G10 (gR G10 x0 10) 14 ∧ (vp_in ((20000 * (gI G x0 47)) + (gI G (gR G x0 12) (Int32.toNatClampNeg (gI G x0 47)))) (gN G10 (gR G10 x0 10)) ∧ (∀ G14 : AH, G14 = sI G10 (gR G10 x0 10) (Int32.toNatClampNeg ((20000 * (gI G x0 47)) + (gI G (gR G x0 12) (Int32.toNatClampNeg (gI G x0 47))))) (gI G10 x0 43) → isO E G14 (gR G14 x0 11) 14 ∧ (vp_in ((20000 * (gI G x0 47)) + (gI G (gR G x0 12) (Int32.toNatClampNeg (gI G x0 47)))) (gN G14 (gR G14 x0 11)) ∧ (∀ G18 : AH, G18 = sI G14 (gR G14 x0 11) (Int32.toNatClampNeg ((20000 * (gI G x0 47)) + (gI G (gR G x0 12) (Int32.toNatClampNeg (gI G x0 47))))) (gI G14 x0 44) → isO E G18 (gR G18 x0 12) 14 ∧ (vp_in (gI G18 x0 47) (gN G18 (gR G18 x0 12)) ∧ (vp_in (gI G18 x0 47) (gN G18 (gR G18 x0 12)) ∧ (∀ G23 : AH, G23 = sI G18 (gR G18 x0 12) (Int32.toNatClampNeg (gI G18 x0 47)) ((gI G18 (gR G18 x0 12) (Int32.toNatClampNeg (gI G18 x0 47))) + 1) → wpV E (d - 1) M_X12_next [vr x0] G23 (fun G25 => Q none G25)))))))))))))))) : wp E d M_X12_keep 0 [some (vr x0), some (vi x1), none] [] G Q := by
  refine wp_sipush (pc := 0) (v := 20000) d_X12_keep_0 rfl ?_
  refine wp_aload_n (pc := 3) d_X12_keep_3 rfl ?_
  obtain ⟨ho1, h⟩ := h
  refine wp_getI (pc := 4) d_X12_keep_4 fl_X12_321 (fun _ _ _ => rfl) ho1 ?_
  refine wp_imul (pc := 7) d_X12_keep_7 ?_
  refine wp_aload_n (pc := 8) d_X12_keep_8 rfl ?_
  refine wp_getR (pc := 9) d_X12_keep_9 fl_X12_43 (fun _ _ _ => rfl) ho1 ?_
  refine wp_aload_n (pc := 12) d_X12_keep_12 rfl ?_
  refine wp_getI (pc := 13) d_X12_keep_13 fl_X12_321 (fun _ _ _ => rfl) ho1 ?_
  obtain ⟨ho2, h⟩ := h
  obtain ⟨hi3, h⟩ := h
  refine wp_iald (pc := 16) d_X12_keep_16 ho2 hi3 ?_
  refine wp_iadd (pc := 17) d_X12_keep_17 ?_
  refine wp_istore_n (pc := 18) (lv' := [some (vr _), some (vi _), some (vi _)]) d_X12_keep_18 (by decide) rfl ?_
  refine wp_aload_n (pc := 19) d_X12_keep_19 rfl ?_
  refine wp_getR (pc := 20) d_X12_keep_20 fl_X12_31 (fun _ _ _ => rfl) ho1 ?_
  refine wp_iload_n (pc := 23) d_X12_keep_23 rfl ?_
  refine wp_aload_n (pc := 24) d_X12_keep_24 rfl ?_
  refine wp_getI (pc := 25) d_X12_keep_25 fl_X12_292 (fun _ _ _ => rfl) ho1 ?_
  obtain ⟨ho4, h⟩ := h
  obtain ⟨hi5, h⟩ := h
  refine wp_iast (pc := 28) d_X12_keep_28 ho4 hi5 ?_
  refine wp_nm (fun G6 eG6 => ?_)
  have h := h G6 eG6
  have ho7 := isO_sI eG6 ho1
  refine wp_aload_n (pc := 29) d_X12_keep_29 rfl ?_
  refine wp_getR (pc := 30) d_X12_keep_30 fl_X12_34 (fun _ _ _ => rfl) ho7 ?_
  refine wp_iload_n (pc := 33) d_X12_keep_33 rfl ?_
  refine wp_iload_n (pc := 34) d_X12_keep_34 rfl ?_
  obtain ⟨ho8, h⟩ := h
  obtain ⟨hi9, h⟩ := h
  refine wp_iast (pc := 35) d_X12_keep_35 ho8 hi9 ?_
  refine wp_nm (fun G10 eG10 => ?_)
  have h := h G10 eG10
  have ho11 := isO_sI eG10 ho7
  refine wp_aload_n (pc := 36) d_X12_keep_36 rfl ?_
  refine wp_getR (pc := 37) d_X12_keep_37 fl_X12_37 (fun _ _ _ => rfl) ho11 ?_
  refine wp_iload_n (pc := 40) d_X12_keep_40 rfl ?_
  refine wp_aload_n (pc := 41) d_X12_keep_41 rfl ?_
  refine wp_getI (pc := 42) d_X12_keep_42 fl_X12_241 (fun _ _ _ => rfl) ho11 ?_
  obtain ⟨ho12, h⟩ := h
  obtain ⟨hi13, h⟩ := h
  refine wp_iast (pc := 45) d_X12_keep_45 ho12 hi13 ?_
  refine wp_nm (fun G14 eG14 => ?_)
  have h := h G14 eG14
  have ho15 := isO_sI eG14 ho11
  refine wp_aload_n (pc := 46) d_X12_keep_46 rfl ?_
  refine wp_getR (pc := 47) d_X12_keep_47 fl_X12_40 (fun _ _ _ => rfl) ho15 ?_
  refine wp_iload_n (pc := 50) d_X12_keep_50 rfl ?_
  refine wp_aload_n (pc := 51) d_X12_keep_51 rfl ?_
  refine wp_getI (pc := 52) d_X12_keep_52 fl_X12_238 (fun _ _ _ => rfl) ho15 ?_
  obtain ⟨ho16, h⟩ := h
  obtain ⟨hi17, h⟩ := h
  refine wp_iast (pc := 55) d_X12_keep_55 ho16 hi17 ?_
  refine wp_nm (fun G18 eG18 => ?_)
  have h := h G18 eG18
  have ho19 := isO_sI eG18 ho15
  refine wp_aload_n (pc := 56) d_X12_keep_56 rfl ?_
  refine wp_getR (pc := 57) d_X12_keep_57 fl_X12_43 (fun _ _ _ => rfl) ho19 ?_
  refine wp_aload_n (pc := 60) d_X12_keep_60 rfl ?_
  refine wp_getI (pc := 61) d_X12_keep_61 fl_X12_321 (fun _ _ _ => rfl) ho19 ?_
  refine wp_dup2 (pc := 64) d_X12_keep_64 (c1_i _) (c1_r _) ?_
  obtain ⟨ho20, h⟩ := h
  obtain ⟨hi21, h⟩ := h
  refine wp_iald (pc := 65) d_X12_keep_65 ho20 hi21 ?_
  refine wp_iconst (pc := 66) (v := 1) d_X12_keep_66 rfl ?_
  refine wp_iadd (pc := 67) d_X12_keep_67 ?_
  obtain ⟨hi22, h⟩ := h
  refine wp_iast (pc := 68) d_X12_keep_68 ho20 hi22 ?_
  refine wp_nm (fun G23 eG23 => ?_)
  have h := h G23 eG23
  have ho24 := isO_sI eG23 ho19
  refine wp_aload_n (pc := 69) d_X12_keep_69 rfl ?_
  refine wp_invV (pc := 70) (N := M_X12_next) (As := []) (rest := []) (r := (cn_12, ct_12, 95)) d_X12_keep_70 ml_X12_324 mk_X12_next mv_X12_next h0 ho24 rfl rfl (Nat.le_of_ble_eq_true rfl) ?_
  refine wpM.mono h (fun rr G25 hr => ?_)
  obtain ⟨rfl, h⟩ := hr
  show wp E d M_X12_keep 73 [some (vr _), some (vi _), some (vi _)] [] G25 Q
  exact wp_vret (pc := 73) d_X12_keep_73 rfl h
theorem d_X12_aimStatement_0 : decode prog_14_method_32_code 0 = .ok (.aload_n 0, 1) := by decide +kernel
theorem d_X12_aimStatement_1 : decode prog_14_method_32_code 1 = .ok (.iconst 3, 1) := by decide +kernel
theorem d_X12_aimStatement_2 : decode prog_14_method_32_code 2 = .ok (.bipush 6, 2) := by decide +kernel
theorem d_X12_aimStatement_4 : decode prog_14_method_32_code 4 = .ok (.invokevirtual 370, 3) := by decide +kernel
theorem d_X12_aimStatement_7 : decode prog_14_method_32_code 7 = .ok (.aload_n 0, 1) := by decide +kernel
theorem d_X12_aimStatement_8 : decode prog_14_method_32_code 8 = .ok (.sipush 304, 3) := by decide +kernel
theorem d_X12_aimStatement_11 : decode prog_14_method_32_code 11 = .ok (.invokevirtual 373, 3) := by decide +kernel
theorem d_X12_aimStatement_14 : decode prog_14_method_32_code 14 = .ok (.aload_n 0, 1) := by decide +kernel
theorem d_X12_aimStatement_15 : decode prog_14_method_32_code 15 = .ok (.iconst 1, 1) := by decide +kernel
theorem d_X12_aimStatement_16 : decode prog_14_method_32_code 16 = .ok (.iconst 2, 1) := by decide +kernel
theorem d_X12_aimStatement_17 : decode prog_14_method_32_code 17 = .ok (.invokevirtual 354, 3) := by decide +kernel
theorem d_X12_aimStatement_20 : decode prog_14_method_32_code 20 = .ok (.istore_n 1, 1) := by decide +kernel
theorem d_X12_aimStatement_21 : decode prog_14_method_32_code 21 = .ok (.aload_n 0, 1) := by decide +kernel
theorem d_X12_aimStatement_22 : decode prog_14_method_32_code 22 = .ok (.bipush 58, 2) := by decide +kernel
theorem d_X12_aimStatement_24 : decode prog_14_method_32_code 24 = .ok (.invokevirtual 373, 3) := by decide +kernel
theorem d_X12_aimStatement_27 : decode prog_14_method_32_code 27 = .ok (.aload_n 0, 1) := by decide +kernel
theorem d_X12_aimStatement_28 : decode prog_14_method_32_code 28 = .ok (.getfield 43, 3) := by decide +kernel
theorem d_X12_aimStatement_31 : decode prog_14_method_32_code 31 = .ok (.aload_n 0, 1) := by decide +kernel
theorem d_X12_aimStatement_32 : decode prog_14_method_32_code 32 = .ok (.getfield 321, 3) := by decide +kernel
theorem d_X12_aimStatement_35 : decode prog_14_method_32_code 35 = .ok (.iaload, 1) := by decide +kernel
theorem d_X12_aimStatement_36 : decode prog_14_method_32_code 36 = .ok (.istore_n 2, 1) := by decide +kernel
theorem d_X12_aimStatement_37 : decode prog_14_method_32_code 37 = .ok (.aload_n 0, 1) := by decide +kernel
theorem d_X12_aimStatement_38 : decode prog_14_method_32_code 38 = .ok (.invokevirtual 393, 3) := by decide +kernel
theorem d_X12_aimStatement_41 : decode prog_14_method_32_code 41 = .ok (.aload_n 0, 1) := by decide +kernel
theorem d_X12_aimStatement_42 : decode prog_14_method_32_code 42 = .ok (.bipush 59, 2) := by decide +kernel
theorem d_X12_aimStatement_44 : decode prog_14_method_32_code 44 = .ok (.invokevirtual 373, 3) := by decide +kernel
theorem d_X12_aimStatement_47 : decode prog_14_method_32_code 47 = .ok (.aload_n 0, 1) := by decide +kernel
theorem d_X12_aimStatement_48 : decode prog_14_method_32_code 48 = .ok (.getfield 311, 3) := by decide +kernel
theorem d_X12_aimStatement_51 : decode prog_14_method_32_code 51 = .ok (.ifCond .ne 40, 3) := by decide +kernel
theorem d_X12_aimStatement_54 : decode prog_14_method_32_code 54 = .ok (.bipush 6, 2) := by decide +kernel
theorem d_X12_aimStatement_56 : decode prog_14_method_32_code 56 = .ok (.aload_n 0, 1) := by decide +kernel
theorem d_X12_aimStatement_57 : decode prog_14_method_32_code 57 = .ok (.getfield 321, 3) := by decide +kernel
theorem d_X12_aimStatement_60 : decode prog_14_method_32_code 60 = .ok (.imul, 1) := by decide +kernel
theorem d_X12_aimStatement_61 : decode prog_14_method_32_code 61 = .ok (.aload_n 0, 1) := by decide +kernel
theorem d_X12_aimStatement_62 : decode prog_14_method_32_code 62 = .ok (.iconst 3, 1) := by decide +kernel
theorem d_X12_aimStatement_63 : decode prog_14_method_32_code 63 = .ok (.invokevirtual 379, 3) := by decide +kernel
theorem d_X12_aimStatement_66 : decode prog_14_method_32_code 66 = .ok (.iadd, 1) := by decide +kernel
theorem d_X12_aimStatement_67 : decode prog_14_method_32_code 67 = .ok (.istore_n 3, 1) := by decide +kernel
theorem d_X12_aimStatement_68 : decode prog_14_method_32_code 68 = .ok (.aload_n 0, 1) := by decide +kernel
theorem d_X12_aimStatement_69 : decode prog_14_method_32_code 69 = .ok (.getfield 97, 3) := by decide +kernel
theorem d_X12_aimStatement_72 : decode prog_14_method_32_code 72 = .ok (.iload_n 3, 1) := by decide +kernel
theorem d_X12_aimStatement_73 : decode prog_14_method_32_code 73 = .ok (.iload_n 1, 1) := by decide +kernel
theorem d_X12_aimStatement_74 : decode prog_14_method_32_code 74 = .ok (.iastore, 1) := by decide +kernel
theorem d_X12_aimStatement_75 : decode prog_14_method_32_code 75 = .ok (.aload_n 0, 1) := by decide +kernel
theorem d_X12_aimStatement_76 : decode prog_14_method_32_code 76 = .ok (.getfield 100, 3) := by decide +kernel
theorem d_X12_aimStatement_79 : decode prog_14_method_32_code 79 = .ok (.iload_n 3, 1) := by decide +kernel
theorem d_X12_aimStatement_80 : decode prog_14_method_32_code 80 = .ok (.sipush 20000, 3) := by decide +kernel
theorem d_X12_aimStatement_83 : decode prog_14_method_32_code 83 = .ok (.aload_n 0, 1) := by decide +kernel
theorem d_X12_aimStatement_84 : decode prog_14_method_32_code 84 = .ok (.getfield 321, 3) := by decide +kernel
theorem d_X12_aimStatement_87 : decode prog_14_method_32_code 87 = .ok (.imul, 1) := by decide +kernel
theorem d_X12_aimStatement_88 : decode prog_14_method_32_code 88 = .ok (.iload_n 2, 1) := by decide +kernel
theorem d_X12_aimStatement_89 : decode prog_14_method_32_code 89 = .ok (.iadd, 1) := by decide +kernel
theorem d_X12_aimStatement_90 : decode prog_14_method_32_code 90 = .ok (.iastore, 1) := by decide +kernel
theorem d_X12_aimStatement_91 : decode prog_14_method_32_code 91 = .ok (.return_, 1) := by decide +kernel
theorem v_X12_aimStatement_0 {E : EE} {d : Nat} {Q : Option AV → AH → Prop} {x0 : Nat} {G : AH} (h0 : 0 < d) (h : isO E G x0 12 ∧ (wpV E (d - 1) M_X12_newName [vr x0, vi 3, vi 6] G (fun G1 => isO E G1 x0 12 ∧ (wpV E (d - 1) M_X12_need [vr x0, vi 304] G1 (fun G2 => isO E G2 x0 12 ∧ (wpI E (d - 1) M_X12_aNumber [vr x0, vi 1, vi 2] G2 (fun r3 G4 => isO E G4 x0 12 ∧ (wpV E (d - 1) M_X12_need [vr x0, vi 58] G4 (fun G5 => isO E G5 x0 12 ∧ (isO E G5 (gR G5 x0 12) 14 ∧ (vp_in (gI G5 x0 47) (gN G5 (gR G5 x0 12)) ∧ (wpV E (d - 1) M_X12_sum [vr x0] G5 (fun G9 => isO E G9 x0 12 ∧ (wpV E (d - 1) M_X12_need [vr x0, vi 59] G9 (fun G10 => isO E G10 x0 12 ∧ ((¬ (gI G10 x0 45) = 0 → Q none G10) ∧ ((gI G10 x0 45) = 0 → wpI E (d - 1) M_X12_tell [vr x0, vi 3] G10 (fun r12 G13 => isO E G13 x0 12 ∧ (isO E G13 (gR G13 x0 30) 14 ∧ (vp_in ((6 * (gI G10 x0 47)) + r12) (gN G13 (gR G13 x0 30)) ∧ (∀ G17 : AH, G17 = sI G13 (gR G13 x0 30) (Int32.toNatClampNeg ((6 * (gI G10 x0 47)) + r12)) r3 → isO E G17 (gR G17 x0 31) 14 ∧ (vp_in ((6 * (gI G10 x0 47)) + r12) (gN G17 (gR G17 x0 31)) ∧ (∀ G21 : AH, G21 = sI G17 (gR G17 x0 31) (Int32.toNatClampNeg ((6 * (gI G10 x0 47)) + r12)) ((20000 * (gI G17 x0 47)) + (gI G5 (gR G5 x0 12) (Int32.toNatClampNeg (gI G5 x0 47)))) → Q none G21))))))))))))))))))))))) : wp E d M_X12_aimStatement 0 [some (vr x0), none, none, none] [] G Q := by
  refine wp_aload_n (pc := 0) d_X12_aimStatement_0 rfl ?_
  refine wp_iconst (pc := 1) (v := 3) d_X12_aimStatement_1 rfl ?_
  refine wp_bipush (pc := 2) (v := 6) d_X12_aimStatement_2 rfl ?_
  obtain ⟨ho27, h⟩ := h
  refine wp_invV (pc := 4) (N := M_X12_newName) (As := [vi _, vi _]) (rest := []) (r := (cn_12, ct_12, 95)) d_X12_aimStatement_4 ml_X12_370 mk_X12_newName mv_X12_newName h0 ho27 rfl rfl (Nat.le_of_ble_eq_true rfl) ?_
  refine wpM.mono h (fun rr G1 hr => ?_)
  obtain ⟨rfl, h⟩ := hr
  show wp E d M_X12_aimStatement 7 [some (vr _), none, none, none] [] G1 Q
  refine wp_aload_n (pc := 7) d_X12_aimStatement_7 rfl ?_
  refine wp_sipush (pc := 8) (v := 304) d_X12_aimStatement_8 rfl ?_
  obtain ⟨ho26, h⟩ := h
  refine wp_invV (pc := 11) (N := M_X12_need) (As := [vi _]) (rest := []) (r := (cn_12, ct_12, 95)) d_X12_aimStatement_11 ml_X12_373 mk_X12_need mv_X12_need h0 ho26 rfl rfl (Nat.le_of_ble_eq_true rfl) ?_
  refine wpM.mono h (fun rr G2 hr => ?_)
  obtain ⟨rfl, h⟩ := hr
  show wp E d M_X12_aimStatement 14 [some (vr _), none, none, none] [] G2 Q
  refine wp_aload_n (pc := 14) d_X12_aimStatement_14 rfl ?_
  refine wp_iconst (pc := 15) (v := 1) d_X12_aimStatement_15 rfl ?_
  refine wp_iconst (pc := 16) (v := 2) d_X12_aimStatement_16 rfl ?_
  obtain ⟨ho25, h⟩ := h
  refine wp_invV (pc := 17) (N := M_X12_aNumber) (As := [vi _, vi _]) (rest := []) (r := (cn_12, ct_12, 95)) d_X12_aimStatement_17 ml_X12_354 mk_X12_aNumber mv_X12_aNumber h0 ho25 rfl rfl (Nat.le_of_ble_eq_true rfl) ?_
  refine wpM.mono h (fun rr G4 hr => ?_)
  obtain ⟨r3, rfl, h⟩ := hr
  show wp E d M_X12_aimStatement 20 [some (vr _), none, none, none] [vi _] G4 Q
  refine wp_istore_n (pc := 20) (lv' := [some (vr _), some (vi _), none, none]) d_X12_aimStatement_20 (by decide) rfl ?_
  refine wp_aload_n (pc := 21) d_X12_aimStatement_21 rfl ?_
  refine wp_bipush (pc := 22) (v := 58) d_X12_aimStatement_22 rfl ?_
  obtain ⟨ho24, h⟩ := h
  refine wp_invV (pc := 24) (N := M_X12_need) (As := [vi _]) (rest := []) (r := (cn_12, ct_12, 95)) d_X12_aimStatement_24 ml_X12_373 mk_X12_need mv_X12_need h0 ho24 rfl rfl (Nat.le_of_ble_eq_true rfl) ?_
  refine wpM.mono h (fun rr G5 hr => ?_)
  obtain ⟨rfl, h⟩ := hr
  show wp E d M_X12_aimStatement 27 [some (vr _), some (vi _), none, none] [] G5 Q
  refine wp_aload_n (pc := 27) d_X12_aimStatement_27 rfl ?_
  obtain ⟨ho6, h⟩ := h
  refine wp_getR (pc := 28) d_X12_aimStatement_28 fl_X12_43 (fun _ _ _ => rfl) ho6 ?_
  refine wp_aload_n (pc := 31) d_X12_aimStatement_31 rfl ?_
  refine wp_getI (pc := 32) d_X12_aimStatement_32 fl_X12_321 (fun _ _ _ => rfl) ho6 ?_
  obtain ⟨ho7, h⟩ := h
  obtain ⟨hi8, h⟩ := h
  refine wp_iald (pc := 35) d_X12_aimStatement_35 ho7 hi8 ?_
  refine wp_istore_n (pc := 36) (lv' := [some (vr _), some (vi _), some (vi _), none]) d_X12_aimStatement_36 (by decide) rfl ?_
  refine wp_aload_n (pc := 37) d_X12_aimStatement_37 rfl ?_
  refine wp_invV (pc := 38) (N := M_X12_sum) (As := []) (rest := []) (r := (cn_12, ct_12, 95)) d_X12_aimStatement_38 ml_X12_393 mk_X12_sum mv_X12_sum h0 ho6 rfl rfl (Nat.le_of_ble_eq_true rfl) ?_
  refine wpM.mono h (fun rr G9 hr => ?_)
  obtain ⟨rfl, h⟩ := hr
  show wp E d M_X12_aimStatement 41 [some (vr _), some (vi _), some (vi _), none] [] G9 Q
  refine wp_aload_n (pc := 41) d_X12_aimStatement_41 rfl ?_
  refine wp_bipush (pc := 42) (v := 59) d_X12_aimStatement_42 rfl ?_
  obtain ⟨ho23, h⟩ := h
  refine wp_invV (pc := 44) (N := M_X12_need) (As := [vi _]) (rest := []) (r := (cn_12, ct_12, 95)) d_X12_aimStatement_44 ml_X12_373 mk_X12_need mv_X12_need h0 ho23 rfl rfl (Nat.le_of_ble_eq_true rfl) ?_
  refine wpM.mono h (fun rr G10 hr => ?_)
  obtain ⟨rfl, h⟩ := hr
  show wp E d M_X12_aimStatement 47 [some (vr _), some (vi _), some (vi _), none] [] G10 Q
  refine wp_aload_n (pc := 47) d_X12_aimStatement_47 rfl ?_
  obtain ⟨ho11, h⟩ := h
  refine wp_getI (pc := 48) d_X12_aimStatement_48 fl_X12_311 (fun _ _ _ => rfl) ho11 ?_
  refine wp_if_ne (pc := 51) (tgt := 91) d_X12_aimStatement_51 (by decide) (fun hc => ?_) (fun hc => ?_)
  · have h := h.1 hc
    exact wp_vret (pc := 91) d_X12_aimStatement_91 rfl h
  · have h := h.2 hc
    refine wp_bipush (pc := 54) (v := 6) d_X12_aimStatement_54 rfl ?_
    refine wp_aload_n (pc := 56) d_X12_aimStatement_56 rfl ?_
    refine wp_getI (pc := 57) d_X12_aimStatement_57 fl_X12_321 (fun _ _ _ => rfl) ho11 ?_
    refine wp_imul (pc := 60) d_X12_aimStatement_60 ?_
    refine wp_aload_n (pc := 61) d_X12_aimStatement_61 rfl ?_
    refine wp_iconst (pc := 62) (v := 3) d_X12_aimStatement_62 rfl ?_
    refine wp_invV (pc := 63) (N := M_X12_tell) (As := [vi _]) (rest := [vi _]) (r := (cn_12, ct_12, 95)) d_X12_aimStatement_63 ml_X12_379 mk_X12_tell mv_X12_tell h0 ho11 rfl rfl (Nat.le_of_ble_eq_true rfl) ?_
    refine wpM.mono h (fun rr G13 hr => ?_)
    obtain ⟨r12, rfl, h⟩ := hr
    show wp E d M_X12_aimStatement 66 [some (vr _), some (vi _), some (vi _), none] [vi _, vi _] G13 Q
    refine wp_iadd (pc := 66) d_X12_aimStatement_66 ?_
    refine wp_istore_n (pc := 67) (lv' := [some (vr _), some (vi _), some (vi _), some (vi _)]) d_X12_aimStatement_67 (by decide) rfl ?_
    refine wp_aload_n (pc := 68) d_X12_aimStatement_68 rfl ?_
    obtain ⟨ho14, h⟩ := h
    refine wp_getR (pc := 69) d_X12_aimStatement_69 fl_X12_97 (fun _ _ _ => rfl) ho14 ?_
    refine wp_iload_n (pc := 72) d_X12_aimStatement_72 rfl ?_
    refine wp_iload_n (pc := 73) d_X12_aimStatement_73 rfl ?_
    obtain ⟨ho15, h⟩ := h
    obtain ⟨hi16, h⟩ := h
    refine wp_iast (pc := 74) d_X12_aimStatement_74 ho15 hi16 ?_
    refine wp_nm (fun G17 eG17 => ?_)
    have h := h G17 eG17
    have ho18 := isO_sI eG17 ho14
    refine wp_aload_n (pc := 75) d_X12_aimStatement_75 rfl ?_
    refine wp_getR (pc := 76) d_X12_aimStatement_76 fl_X12_100 (fun _ _ _ => rfl) ho18 ?_
    refine wp_iload_n (pc := 79) d_X12_aimStatement_79 rfl ?_
    refine wp_sipush (pc := 80) (v := 20000) d_X12_aimStatement_80 rfl ?_
    refine wp_aload_n (pc := 83) d_X12_aimStatement_83 rfl ?_
    refine wp_getI (pc := 84) d_X12_aimStatement_84 fl_X12_321 (fun _ _ _ => rfl) ho18 ?_
    refine wp_imul (pc := 87) d_X12_aimStatement_87 ?_
    refine wp_iload_n (pc := 88) d_X12_aimStatement_88 rfl ?_
    refine wp_iadd (pc := 89) d_X12_aimStatement_89 ?_
    obtain ⟨ho19, h⟩ := h
    obtain ⟨hi20, h⟩ := h
    refine wp_iast (pc := 90) d_X12_aimStatement_90 ho19 hi20 ?_
    refine wp_nm (fun G21 eG21 => ?_)
    have h := h G21 eG21
    have ho22 := isO_sI eG21 ho18
    exact wp_vret (pc := 91) d_X12_aimStatement_91 rfl h
theorem d_X12_newName_0 : decode prog_14_method_21_code 0 = .ok (.aload_n 0, 1) := by decide +kernel
theorem d_X12_newName_1 : decode prog_14_method_21_code 1 = .ok (.getfield 311, 3) := by decide +kernel
theorem d_X12_newName_4 : decode prog_14_method_21_code 4 = .ok (.ifCond .eq 4, 3) := by decide +kernel
theorem d_X12_newName_7 : decode prog_14_method_21_code 7 = .ok (.return_, 1) := by decide +kernel
theorem d_X12_newName_8 : decode prog_14_method_21_code 8 = .ok (.aload_n 0, 1) := by decide +kernel
theorem d_X12_newName_9 : decode prog_14_method_21_code 9 = .ok (.getfield 292, 3) := by decide +kernel
theorem d_X12_newName_12 : decode prog_14_method_21_code 12 = .ok (.iconst 1, 1) := by decide +kernel
theorem d_X12_newName_13 : decode prog_14_method_21_code 13 = .ok (.if_icmp .eq 10, 3) := by decide +kernel
theorem d_X12_newName_16 : decode prog_14_method_21_code 16 = .ok (.aload_n 0, 1) := by decide +kernel
theorem d_X12_newName_17 : decode prog_14_method_21_code 17 = .ok (.invokevirtual 327, 3) := by decide +kernel
theorem d_X12_newName_20 : decode prog_14_method_21_code 20 = .ok (.goto 99, 3) := by decide +kernel
theorem d_X12_newName_23 : decode prog_14_method_21_code 23 = .ok (.aload_n 0, 1) := by decide +kernel
theorem d_X12_newName_24 : decode prog_14_method_21_code 24 = .ok (.aload_n 0, 1) := by decide +kernel
theorem d_X12_newName_25 : decode prog_14_method_21_code 25 = .ok (.getfield 321, 3) := by decide +kernel
theorem d_X12_newName_28 : decode prog_14_method_21_code 28 = .ok (.invokevirtual 341, 3) := by decide +kernel
theorem d_X12_newName_31 : decode prog_14_method_21_code 31 = .ok (.ifCond .lt 15, 3) := by decide +kernel
theorem d_X12_newName_34 : decode prog_14_method_21_code 34 = .ok (.aload_n 0, 1) := by decide +kernel
theorem d_X12_newName_35 : decode prog_14_method_21_code 35 = .ok (.iconst 3, 1) := by decide +kernel
theorem d_X12_newName_36 : decode prog_14_method_21_code 36 = .ok (.aload_n 0, 1) := by decide +kernel
theorem d_X12_newName_37 : decode prog_14_method_21_code 37 = .ok (.getfield 241, 3) := by decide +kernel
theorem d_X12_newName_40 : decode prog_14_method_21_code 40 = .ok (.invokevirtual 317, 3) := by decide +kernel
theorem d_X12_newName_43 : decode prog_14_method_21_code 43 = .ok (.goto 76, 3) := by decide +kernel
theorem d_X12_newName_46 : decode prog_14_method_21_code 46 = .ok (.aload_n 0, 1) := by decide +kernel
theorem d_X12_newName_47 : decode prog_14_method_21_code 47 = .ok (.getfield 58, 3) := by decide +kernel
theorem d_X12_newName_50 : decode prog_14_method_21_code 50 = .ok (.iconst 4, 1) := by decide +kernel
theorem d_X12_newName_51 : decode prog_14_method_21_code 51 = .ok (.aload_n 0, 1) := by decide +kernel
theorem d_X12_newName_52 : decode prog_14_method_21_code 52 = .ok (.getfield 321, 3) := by decide +kernel
theorem d_X12_newName_55 : decode prog_14_method_21_code 55 = .ok (.imul, 1) := by decide +kernel
theorem d_X12_newName_56 : decode prog_14_method_21_code 56 = .ok (.iload_n 1, 1) := by decide +kernel
theorem d_X12_newName_57 : decode prog_14_method_21_code 57 = .ok (.iadd, 1) := by decide +kernel
theorem d_X12_newName_58 : decode prog_14_method_21_code 58 = .ok (.iaload, 1) := by decide +kernel
theorem d_X12_newName_59 : decode prog_14_method_21_code 59 = .ok (.iload_n 2, 1) := by decide +kernel
theorem d_X12_newName_60 : decode prog_14_method_21_code 60 = .ok (.if_icmp .ne 16, 3) := by decide +kernel
theorem d_X12_newName_63 : decode prog_14_method_21_code 63 = .ok (.aload_n 0, 1) := by decide +kernel
theorem d_X12_newName_64 : decode prog_14_method_21_code 64 = .ok (.bipush 6, 2) := by decide +kernel
theorem d_X12_newName_66 : decode prog_14_method_21_code 66 = .ok (.aload_n 0, 1) := by decide +kernel
theorem d_X12_newName_67 : decode prog_14_method_21_code 67 = .ok (.getfield 241, 3) := by decide +kernel
theorem d_X12_newName_70 : decode prog_14_method_21_code 70 = .ok (.invokevirtual 317, 3) := by decide +kernel
theorem d_X12_newName_73 : decode prog_14_method_21_code 73 = .ok (.goto 46, 3) := by decide +kernel
theorem d_X12_newName_76 : decode prog_14_method_21_code 76 = .ok (.aload_n 0, 1) := by decide +kernel
theorem d_X12_newName_77 : decode prog_14_method_21_code 77 = .ok (.aload_n 0, 1) := by decide +kernel
theorem d_X12_newName_78 : decode prog_14_method_21_code 78 = .ok (.getfield 241, 3) := by decide +kernel
theorem d_X12_newName_81 : decode prog_14_method_21_code 81 = .ok (.putfield 344, 3) := by decide +kernel
theorem d_X12_newName_84 : decode prog_14_method_21_code 84 = .ok (.aload_n 0, 1) := by decide +kernel
theorem d_X12_newName_85 : decode prog_14_method_21_code 85 = .ok (.aload_n 0, 1) := by decide +kernel
theorem d_X12_newName_86 : decode prog_14_method_21_code 86 = .ok (.getfield 238, 3) := by decide +kernel
theorem d_X12_newName_89 : decode prog_14_method_21_code 89 = .ok (.aload_n 0, 1) := by decide +kernel
theorem d_X12_newName_90 : decode prog_14_method_21_code 90 = .ok (.getfield 241, 3) := by decide +kernel
theorem d_X12_newName_93 : decode prog_14_method_21_code 93 = .ok (.isub, 1) := by decide +kernel
theorem d_X12_newName_94 : decode prog_14_method_21_code 94 = .ok (.putfield 347, 3) := by decide +kernel
theorem d_X12_newName_97 : decode prog_14_method_21_code 97 = .ok (.aload_n 0, 1) := by decide +kernel
theorem d_X12_newName_98 : decode prog_14_method_21_code 98 = .ok (.bipush 100, 2) := by decide +kernel
theorem d_X12_newName_100 : decode prog_14_method_21_code 100 = .ok (.iload_n 1, 1) := by decide +kernel
theorem d_X12_newName_101 : decode prog_14_method_21_code 101 = .ok (.imul, 1) := by decide +kernel
theorem d_X12_newName_102 : decode prog_14_method_21_code 102 = .ok (.aload_n 0, 1) := by decide +kernel
theorem d_X12_newName_103 : decode prog_14_method_21_code 103 = .ok (.getfield 58, 3) := by decide +kernel
theorem d_X12_newName_106 : decode prog_14_method_21_code 106 = .ok (.iconst 4, 1) := by decide +kernel
theorem d_X12_newName_107 : decode prog_14_method_21_code 107 = .ok (.aload_n 0, 1) := by decide +kernel
theorem d_X12_newName_108 : decode prog_14_method_21_code 108 = .ok (.getfield 321, 3) := by decide +kernel
theorem d_X12_newName_111 : decode prog_14_method_21_code 111 = .ok (.imul, 1) := by decide +kernel
theorem d_X12_newName_112 : decode prog_14_method_21_code 112 = .ok (.iload_n 1, 1) := by decide +kernel
theorem d_X12_newName_113 : decode prog_14_method_21_code 113 = .ok (.iadd, 1) := by decide +kernel
theorem d_X12_newName_114 : decode prog_14_method_21_code 114 = .ok (.iaload, 1) := by decide +kernel
theorem d_X12_newName_115 : decode prog_14_method_21_code 115 = .ok (.iadd, 1) := by decide +kernel
theorem d_X12_newName_116 : decode prog_14_method_21_code 116 = .ok (.invokevirtual 330, 3) := by decide +kernel
theorem d_X12_newName_119 : decode prog_14_method_21_code 119 = .ok (.return_, 1) := by decide +kernel
theorem v_X12_newName_0 {E : EE} {d : Nat} {Q : Option AV → AH → Prop} {x0 : Nat} {x1 : Int32} {x2 : Int32} {G : AH} (h0 : 0 < d) (h : isO E G x0 12 ∧ (((gI G x0 45) = 0 → ((gI G x0 41) = 1 → wpI E (d - 1) M_X12_meaning [vr x0, vi (gI G x0 47)] G (fun r2 G3 => (r2 < 0 → isO E G3 x0 12 ∧ (isO E G3 (gR G3 x0 17) 14 ∧ (vp_in ((4 * (gI G3 x0 47)) + x1) (gN G3 (gR G3 x0 17)) ∧ ((¬ (gI G3 (gR G3 x0 17) (Int32.toNatClampNeg ((4 * (gI G3 x0 47)) + x1))) = x2 → ∀ G7 : AH, G7 = sI G3 x0 50 (gI G3 x0 43) → ∀ G9 : AH, G9 = sI G7 x0 51 ((gI G7 x0 44) - (gI G7 x0 43)) → isO E G9 (gR G9 x0 17) 14 ∧ (vp_in ((4 * (gI G9 x0 47)) + x1) (gN G9 (gR G9 x0 17)) ∧ (wpV E (d - 1) M_X12_keep [vr x0, vi ((100 * x1) + (gI G9 (gR G9 x0 17) (Int32.toNatClampNeg ((4 * (gI G9 x0 47)) + x1))))] G9 (fun G13 => Q none G13)))) ∧ ((gI G3 (gR G3 x0 17) (Int32.toNatClampNeg ((4 * (gI G3 x0 47)) + x1))) = x2 → wpV E (d - 1) M_X12_fail [vr x0, vi 6, vi (gI G3 x0 43)] G3 (fun G14 => Q none G14)))))) ∧ (¬ (r2 < 0) → isO E G3 x0 12 ∧ (wpV E (d - 1) M_X12_fail [vr x0, vi 3, vi (gI G3 x0 43)] G3 (fun G16 => Q none G16))))) ∧ (¬ ((gI G x0 41) = 1) → wpV E (d - 1) M_X12_failHere [vr x0] G (fun G17 => Q none G17))) ∧ (¬ ((gI G x0 45) = 0) → Q none G))) : wp E d M_X12_newName 0 [some (vr x0), some (vi x1), some (vi x2)] [] G Q := by
  refine wp_aload_n (pc := 0) d_X12_newName_0 rfl ?_
  obtain ⟨ho1, h⟩ := h
  refine wp_getI (pc := 1) d_X12_newName_1 fl_X12_311 (fun _ _ _ => rfl) ho1 ?_
  refine wp_if_eq (pc := 4) (tgt := 8) d_X12_newName_4 (by decide) (fun hc => ?_) (fun hc => ?_)
  · have h := h.1 hc
    refine wp_aload_n (pc := 8) d_X12_newName_8 rfl ?_
    refine wp_getI (pc := 9) d_X12_newName_9 fl_X12_292 (fun _ _ _ => rfl) ho1 ?_
    refine wp_iconst (pc := 12) (v := 1) d_X12_newName_12 rfl ?_
    refine wp_icmp_eq (pc := 13) (tgt := 23) d_X12_newName_13 (by decide) (fun hc => ?_) (fun hc => ?_)
    · have h := h.1 hc
      refine wp_aload_n (pc := 23) d_X12_newName_23 rfl ?_
      refine wp_aload_n (pc := 24) d_X12_newName_24 rfl ?_
      refine wp_getI (pc := 25) d_X12_newName_25 fl_X12_321 (fun _ _ _ => rfl) ho1 ?_
      refine wp_invV (pc := 28) (N := M_X12_meaning) (As := [vi _]) (rest := []) (r := (cn_12, ct_12, 95)) d_X12_newName_28 ml_X12_341 mk_X12_meaning mv_X12_meaning h0 ho1 rfl rfl (Nat.le_of_ble_eq_true rfl) ?_
      refine wpM.mono h (fun rr G3 hr => ?_)
      obtain ⟨r2, rfl, h⟩ := hr
      show wp E d M_X12_newName 31 [some (vr _), some (vi _), some (vi _)] [vi _] G3 Q
      refine wp_if_lt (pc := 31) (tgt := 46) d_X12_newName_31 (by decide) (fun hc => ?_) (fun hc => ?_)
      · have h := h.1 hc
        refine wp_aload_n (pc := 46) d_X12_newName_46 rfl ?_
        obtain ⟨ho4, h⟩ := h
        refine wp_getR (pc := 47) d_X12_newName_47 fl_X12_58 (fun _ _ _ => rfl) ho4 ?_
        refine wp_iconst (pc := 50) (v := 4) d_X12_newName_50 rfl ?_
        refine wp_aload_n (pc := 51) d_X12_newName_51 rfl ?_
        refine wp_getI (pc := 52) d_X12_newName_52 fl_X12_321 (fun _ _ _ => rfl) ho4 ?_
        refine wp_imul (pc := 55) d_X12_newName_55 ?_
        refine wp_iload_n (pc := 56) d_X12_newName_56 rfl ?_
        refine wp_iadd (pc := 57) d_X12_newName_57 ?_
        obtain ⟨ho5, h⟩ := h
        obtain ⟨hi6, h⟩ := h
        refine wp_iald (pc := 58) d_X12_newName_58 ho5 hi6 ?_
        refine wp_iload_n (pc := 59) d_X12_newName_59 rfl ?_
        refine wp_icmp_ne (pc := 60) (tgt := 76) d_X12_newName_60 (by decide) (fun hc => ?_) (fun hc => ?_)
        · have h := h.1 hc
          refine wp_aload_n (pc := 76) d_X12_newName_76 rfl ?_
          refine wp_aload_n (pc := 77) d_X12_newName_77 rfl ?_
          refine wp_getI (pc := 78) d_X12_newName_78 fl_X12_241 (fun _ _ _ => rfl) ho4 ?_
          refine wp_putI (pc := 81) d_X12_newName_81 fl_X12_344 (fun _ _ _ => rfl) (Or.inl rfl) ho4 (okI_int _) ?_
          refine wp_nm (fun G7 eG7 => ?_)
          have h := h G7 eG7
          have ho8 := isO_sI eG7 ho4
          refine wp_aload_n (pc := 84) d_X12_newName_84 rfl ?_
          refine wp_aload_n (pc := 85) d_X12_newName_85 rfl ?_
          refine wp_getI (pc := 86) d_X12_newName_86 fl_X12_238 (fun _ _ _ => rfl) ho8 ?_
          refine wp_aload_n (pc := 89) d_X12_newName_89 rfl ?_
          refine wp_getI (pc := 90) d_X12_newName_90 fl_X12_241 (fun _ _ _ => rfl) ho8 ?_
          refine wp_isub (pc := 93) d_X12_newName_93 ?_
          refine wp_putI (pc := 94) d_X12_newName_94 fl_X12_347 (fun _ _ _ => rfl) (Or.inl rfl) ho8 (okI_int _) ?_
          refine wp_nm (fun G9 eG9 => ?_)
          have h := h G9 eG9
          have ho10 := isO_sI eG9 ho8
          refine wp_aload_n (pc := 97) d_X12_newName_97 rfl ?_
          refine wp_bipush (pc := 98) (v := 100) d_X12_newName_98 rfl ?_
          refine wp_iload_n (pc := 100) d_X12_newName_100 rfl ?_
          refine wp_imul (pc := 101) d_X12_newName_101 ?_
          refine wp_aload_n (pc := 102) d_X12_newName_102 rfl ?_
          refine wp_getR (pc := 103) d_X12_newName_103 fl_X12_58 (fun _ _ _ => rfl) ho10 ?_
          refine wp_iconst (pc := 106) (v := 4) d_X12_newName_106 rfl ?_
          refine wp_aload_n (pc := 107) d_X12_newName_107 rfl ?_
          refine wp_getI (pc := 108) d_X12_newName_108 fl_X12_321 (fun _ _ _ => rfl) ho10 ?_
          refine wp_imul (pc := 111) d_X12_newName_111 ?_
          refine wp_iload_n (pc := 112) d_X12_newName_112 rfl ?_
          refine wp_iadd (pc := 113) d_X12_newName_113 ?_
          obtain ⟨ho11, h⟩ := h
          obtain ⟨hi12, h⟩ := h
          refine wp_iald (pc := 114) d_X12_newName_114 ho11 hi12 ?_
          refine wp_iadd (pc := 115) d_X12_newName_115 ?_
          refine wp_invV (pc := 116) (N := M_X12_keep) (As := [vi _]) (rest := []) (r := (cn_12, ct_12, 95)) d_X12_newName_116 ml_X12_330 mk_X12_keep mv_X12_keep h0 ho10 rfl rfl (Nat.le_of_ble_eq_true rfl) ?_
          refine wpM.mono h (fun rr G13 hr => ?_)
          obtain ⟨rfl, h⟩ := hr
          show wp E d M_X12_newName 119 [some (vr _), some (vi _), some (vi _)] [] G13 Q
          exact wp_vret (pc := 119) d_X12_newName_119 rfl h
        · have h := h.2 hc
          refine wp_aload_n (pc := 63) d_X12_newName_63 rfl ?_
          refine wp_bipush (pc := 64) (v := 6) d_X12_newName_64 rfl ?_
          refine wp_aload_n (pc := 66) d_X12_newName_66 rfl ?_
          refine wp_getI (pc := 67) d_X12_newName_67 fl_X12_241 (fun _ _ _ => rfl) ho4 ?_
          refine wp_invV (pc := 70) (N := M_X12_fail) (As := [vi _, vi _]) (rest := []) (r := (cn_12, ct_12, 95)) d_X12_newName_70 ml_X12_317 mk_X12_fail mv_X12_fail h0 ho4 rfl rfl (Nat.le_of_ble_eq_true rfl) ?_
          refine wpM.mono h (fun rr G14 hr => ?_)
          obtain ⟨rfl, h⟩ := hr
          show wp E d M_X12_newName 73 [some (vr _), some (vi _), some (vi _)] [] G14 Q
          refine wp_goto (pc := 73) (tgt := 119) d_X12_newName_73 (by decide) ?_
          exact wp_vret (pc := 119) d_X12_newName_119 rfl h
      · have h := h.2 hc
        refine wp_aload_n (pc := 34) d_X12_newName_34 rfl ?_
        refine wp_iconst (pc := 35) (v := 3) d_X12_newName_35 rfl ?_
        refine wp_aload_n (pc := 36) d_X12_newName_36 rfl ?_
        obtain ⟨ho15, h⟩ := h
        refine wp_getI (pc := 37) d_X12_newName_37 fl_X12_241 (fun _ _ _ => rfl) ho15 ?_
        refine wp_invV (pc := 40) (N := M_X12_fail) (As := [vi _, vi _]) (rest := []) (r := (cn_12, ct_12, 95)) d_X12_newName_40 ml_X12_317 mk_X12_fail mv_X12_fail h0 ho15 rfl rfl (Nat.le_of_ble_eq_true rfl) ?_
        refine wpM.mono h (fun rr G16 hr => ?_)
        obtain ⟨rfl, h⟩ := hr
        show wp E d M_X12_newName 43 [some (vr _), some (vi _), some (vi _)] [] G16 Q
        refine wp_goto (pc := 43) (tgt := 119) d_X12_newName_43 (by decide) ?_
        exact wp_vret (pc := 119) d_X12_newName_119 rfl h
    · have h := h.2 hc
      refine wp_aload_n (pc := 16) d_X12_newName_16 rfl ?_
      refine wp_invV (pc := 17) (N := M_X12_failHere) (As := []) (rest := []) (r := (cn_12, ct_12, 95)) d_X12_newName_17 ml_X12_327 mk_X12_failHere mv_X12_failHere h0 ho1 rfl rfl (Nat.le_of_ble_eq_true rfl) ?_
      refine wpM.mono h (fun rr G17 hr => ?_)
      obtain ⟨rfl, h⟩ := hr
      show wp E d M_X12_newName 20 [some (vr _), some (vi _), some (vi _)] [] G17 Q
      refine wp_goto (pc := 20) (tgt := 119) d_X12_newName_20 (by decide) ?_
      exact wp_vret (pc := 119) d_X12_newName_119 rfl h
  · have h := h.2 hc
    exact wp_vret (pc := 7) d_X12_newName_7 rfl h
theorem d_X12_failHere_0 : decode prog_14_method_15_code 0 = .ok (.aload_n 0, 1) := by decide +kernel
theorem d_X12_failHere_1 : decode prog_14_method_15_code 1 = .ok (.aload_n 0, 1) := by decide +kernel
theorem d_X12_failHere_2 : decode prog_14_method_15_code 2 = .ok (.getfield 292, 3) := by decide +kernel
theorem d_X12_failHere_5 : decode prog_14_method_15_code 5 = .ok (.iconst 3, 1) := by decide +kernel
theorem d_X12_failHere_6 : decode prog_14_method_15_code 6 = .ok (.if_icmp .ne 7, 3) := by decide +kernel
theorem d_X12_failHere_9 : decode prog_14_method_15_code 9 = .ok (.iconst 1, 1) := by decide +kernel
theorem d_X12_failHere_10 : decode prog_14_method_15_code 10 = .ok (.goto 4, 3) := by decide +kernel
theorem d_X12_failHere_13 : decode prog_14_method_15_code 13 = .ok (.iconst 2, 1) := by decide +kernel
theorem d_X12_failHere_14 : decode prog_14_method_15_code 14 = .ok (.aload_n 0, 1) := by decide +kernel
theorem d_X12_failHere_15 : decode prog_14_method_15_code 15 = .ok (.getfield 241, 3) := by decide +kernel
theorem d_X12_failHere_18 : decode prog_14_method_15_code 18 = .ok (.invokevirtual 317, 3) := by decide +kernel
theorem d_X12_failHere_21 : decode prog_14_method_15_code 21 = .ok (.return_, 1) := by decide +kernel
theorem v_X12_failHere_0 {E : EE} {d : Nat} {Q : Option AV → AH → Prop} {x0 : Nat} {G : AH} (h : isO E G x0 12 ∧ ((¬ (gI G x0 41) = 3 → wp E d M_X12_failHere 14 [some (vr x0)] [vi 2, vr x0] G Q) ∧ ((gI G x0 41) = 3 → wp E d M_X12_failHere 14 [some (vr x0)] [vi 1, vr x0] G Q))) : wp E d M_X12_failHere 0 [some (vr x0)] [] G Q := by
  refine wp_aload_n (pc := 0) d_X12_failHere_0 rfl ?_
  refine wp_aload_n (pc := 1) d_X12_failHere_1 rfl ?_
  obtain ⟨ho1, h⟩ := h
  refine wp_getI (pc := 2) d_X12_failHere_2 fl_X12_292 (fun _ _ _ => rfl) ho1 ?_
  refine wp_iconst (pc := 5) (v := 3) d_X12_failHere_5 rfl ?_
  refine wp_icmp_ne (pc := 6) (tgt := 13) d_X12_failHere_6 (by decide) (fun hc => ?_) (fun hc => ?_)
  · have h := h.1 hc
    refine wp_iconst (pc := 13) (v := 2) d_X12_failHere_13 rfl ?_
    refine wp_sub ?_ h
    exact ⟨rfl, trivial⟩
  · have h := h.2 hc
    refine wp_iconst (pc := 9) (v := 1) d_X12_failHere_9 rfl ?_
    refine wp_goto (pc := 10) (tgt := 14) d_X12_failHere_10 (by decide) ?_
    refine wp_sub ?_ h
    exact ⟨rfl, trivial⟩
theorem v_X12_failHere_14 {E : EE} {d : Nat} {Q : Option AV → AH → Prop} {x0 : Nat} {t0 : Nat} {t1 : Int32} {G : AH} (h0 : 0 < d) (h : isO E G x0 12 ∧ (isO E G t0 12 ∧ (wpV E (d - 1) M_X12_fail [vr t0, vi t1, vi (gI G x0 43)] G (fun G2 => Q none G2)))) : wp E d M_X12_failHere 14 [some (vr x0)] [vi t1, vr t0] G Q := by
  refine wp_aload_n (pc := 14) d_X12_failHere_14 rfl ?_
  obtain ⟨ho1, h⟩ := h
  refine wp_getI (pc := 15) d_X12_failHere_15 fl_X12_241 (fun _ _ _ => rfl) ho1 ?_
  obtain ⟨ho3, h⟩ := h
  refine wp_invV (pc := 18) (N := M_X12_fail) (As := [vi _, vi _]) (rest := []) (r := (cn_12, ct_12, 95)) d_X12_failHere_18 ml_X12_317 mk_X12_fail mv_X12_fail h0 ho3 rfl rfl (Nat.le_of_ble_eq_true rfl) ?_
  refine wpM.mono h (fun rr G2 hr => ?_)
  obtain ⟨rfl, h⟩ := hr
  show wp E d M_X12_failHere 21 [some (vr _)] [] G2 Q
  exact wp_vret (pc := 21) d_X12_failHere_21 rfl h
theorem d_X12_fail_0 : decode prog_14_method_14_code 0 = .ok (.aload_n 0, 1) := by decide +kernel
theorem d_X12_fail_1 : decode prog_14_method_14_code 1 = .ok (.getfield 311, 3) := by decide +kernel
theorem d_X12_fail_4 : decode prog_14_method_14_code 4 = .ok (.ifCond .ne 13, 3) := by decide +kernel
theorem d_X12_fail_7 : decode prog_14_method_14_code 7 = .ok (.aload_n 0, 1) := by decide +kernel
theorem d_X12_fail_8 : decode prog_14_method_14_code 8 = .ok (.iload_n 1, 1) := by decide +kernel
theorem d_X12_fail_9 : decode prog_14_method_14_code 9 = .ok (.putfield 311, 3) := by decide +kernel
theorem d_X12_fail_12 : decode prog_14_method_14_code 12 = .ok (.aload_n 0, 1) := by decide +kernel
theorem d_X12_fail_13 : decode prog_14_method_14_code 13 = .ok (.iload_n 2, 1) := by decide +kernel
theorem d_X12_fail_14 : decode prog_14_method_14_code 14 = .ok (.putfield 314, 3) := by decide +kernel
theorem d_X12_fail_17 : decode prog_14_method_14_code 17 = .ok (.return_, 1) := by decide +kernel
theorem v_X12_fail_0 {E : EE} {d : Nat} {Q : Option AV → AH → Prop} {x0 : Nat} {x1 : Int32} {x2 : Int32} {G : AH} (h : isO E G x0 12 ∧ ((¬ (gI G x0 45) = 0 → Q none G) ∧ ((gI G x0 45) = 0 → ∀ G2 : AH, G2 = sI G x0 45 x1 → ∀ G4 : AH, G4 = sI G2 x0 46 x2 → Q none G4))) : wp E d M_X12_fail 0 [some (vr x0), some (vi x1), some (vi x2)] [] G Q := by
  refine wp_aload_n (pc := 0) d_X12_fail_0 rfl ?_
  obtain ⟨ho1, h⟩ := h
  refine wp_getI (pc := 1) d_X12_fail_1 fl_X12_311 (fun _ _ _ => rfl) ho1 ?_
  refine wp_if_ne (pc := 4) (tgt := 17) d_X12_fail_4 (by decide) (fun hc => ?_) (fun hc => ?_)
  · have h := h.1 hc
    exact wp_vret (pc := 17) d_X12_fail_17 rfl h
  · have h := h.2 hc
    refine wp_aload_n (pc := 7) d_X12_fail_7 rfl ?_
    refine wp_iload_n (pc := 8) d_X12_fail_8 rfl ?_
    refine wp_putI (pc := 9) d_X12_fail_9 fl_X12_311 (fun _ _ _ => rfl) (Or.inl rfl) ho1 (okI_int _) ?_
    refine wp_nm (fun G2 eG2 => ?_)
    have h := h G2 eG2
    have ho3 := isO_sI eG2 ho1
    refine wp_aload_n (pc := 12) d_X12_fail_12 rfl ?_
    refine wp_iload_n (pc := 13) d_X12_fail_13 rfl ?_
    refine wp_putI (pc := 14) d_X12_fail_14 fl_X12_314 (fun _ _ _ => rfl) (Or.inl rfl) ho3 (okI_int _) ?_
    refine wp_nm (fun G4 eG4 => ?_)
    have h := h G4 eG4
    have ho5 := isO_sI eG4 ho3
    exact wp_vret (pc := 17) d_X12_fail_17 rfl h
theorem d_X12_meaning_0 : decode prog_14_method_20_code 0 = .ok (.iconst 0, 1) := by decide +kernel
theorem d_X12_meaning_1 : decode prog_14_method_20_code 1 = .ok (.istore_n 2, 1) := by decide +kernel
theorem d_X12_meaning_2 : decode prog_14_method_20_code 2 = .ok (.iload_n 2, 1) := by decide +kernel
theorem d_X12_meaning_3 : decode prog_14_method_20_code 3 = .ok (.iconst 4, 1) := by decide +kernel
theorem d_X12_meaning_4 : decode prog_14_method_20_code 4 = .ok (.if_icmp .ge 48, 3) := by decide +kernel
theorem d_X12_meaning_7 : decode prog_14_method_20_code 7 = .ok (.iconst 0, 1) := by decide +kernel
theorem d_X12_meaning_8 : decode prog_14_method_20_code 8 = .ok (.istore_n 3, 1) := by decide +kernel
theorem d_X12_meaning_9 : decode prog_14_method_20_code 9 = .ok (.iload_n 3, 1) := by decide +kernel
theorem d_X12_meaning_10 : decode prog_14_method_20_code 10 = .ok (.aload_n 0, 1) := by decide +kernel
theorem d_X12_meaning_11 : decode prog_14_method_20_code 11 = .ok (.getfield 58, 3) := by decide +kernel
theorem d_X12_meaning_14 : decode prog_14_method_20_code 14 = .ok (.iconst 4, 1) := by decide +kernel
theorem d_X12_meaning_15 : decode prog_14_method_20_code 15 = .ok (.iload_n 1, 1) := by decide +kernel
theorem d_X12_meaning_16 : decode prog_14_method_20_code 16 = .ok (.imul, 1) := by decide +kernel
theorem d_X12_meaning_17 : decode prog_14_method_20_code 17 = .ok (.iload_n 2, 1) := by decide +kernel
theorem d_X12_meaning_18 : decode prog_14_method_20_code 18 = .ok (.iadd, 1) := by decide +kernel
theorem d_X12_meaning_19 : decode prog_14_method_20_code 19 = .ok (.iaload, 1) := by decide +kernel
theorem d_X12_meaning_20 : decode prog_14_method_20_code 20 = .ok (.if_icmp .ge 26, 3) := by decide +kernel
theorem d_X12_meaning_23 : decode prog_14_method_20_code 23 = .ok (.aload_n 0, 1) := by decide +kernel
theorem d_X12_meaning_24 : decode prog_14_method_20_code 24 = .ok (.iload_n 1, 1) := by decide +kernel
theorem d_X12_meaning_25 : decode prog_14_method_20_code 25 = .ok (.iload_n 2, 1) := by decide +kernel
theorem d_X12_meaning_26 : decode prog_14_method_20_code 26 = .ok (.iload_n 3, 1) := by decide +kernel
theorem d_X12_meaning_27 : decode prog_14_method_20_code 27 = .ok (.invokevirtual 337, 3) := by decide +kernel
theorem d_X12_meaning_30 : decode prog_14_method_20_code 30 = .ok (.ifCond .eq 10, 3) := by decide +kernel
theorem d_X12_meaning_33 : decode prog_14_method_20_code 33 = .ok (.bipush 100, 2) := by decide +kernel
theorem d_X12_meaning_35 : decode prog_14_method_20_code 35 = .ok (.iload_n 2, 1) := by decide +kernel
theorem d_X12_meaning_36 : decode prog_14_method_20_code 36 = .ok (.imul, 1) := by decide +kernel
theorem d_X12_meaning_37 : decode prog_14_method_20_code 37 = .ok (.iload_n 3, 1) := by decide +kernel
theorem d_X12_meaning_38 : decode prog_14_method_20_code 38 = .ok (.iadd, 1) := by decide +kernel
theorem d_X12_meaning_39 : decode prog_14_method_20_code 39 = .ok (.ireturn, 1) := by decide +kernel
theorem d_X12_meaning_40 : decode prog_14_method_20_code 40 = .ok (.iinc 3 1, 3) := by decide +kernel
theorem d_X12_meaning_43 : decode prog_14_method_20_code 43 = .ok (.goto (-34), 3) := by decide +kernel
theorem d_X12_meaning_46 : decode prog_14_method_20_code 46 = .ok (.iinc 2 1, 3) := by decide +kernel
theorem d_X12_meaning_49 : decode prog_14_method_20_code 49 = .ok (.goto (-47), 3) := by decide +kernel
theorem d_X12_meaning_52 : decode prog_14_method_20_code 52 = .ok (.iconst (-1), 1) := by decide +kernel
theorem d_X12_meaning_53 : decode prog_14_method_20_code 53 = .ok (.ireturn, 1) := by decide +kernel
theorem v_X12_meaning_0 {E : EE} {d : Nat} {Q : Option AV → AH → Prop} {x0 : Nat} {x1 : Int32} {G : AH} (h : wp E d M_X12_meaning 2 [some (vr x0), some (vi x1), some (vi 0), none] [] G Q) : wp E d M_X12_meaning 0 [some (vr x0), some (vi x1), none, none] [] G Q := by
  refine wp_iconst (pc := 0) (v := 0) d_X12_meaning_0 rfl ?_
  refine wp_istore_n (pc := 1) (lv' := [some (vr _), some (vi _), some (vi _), none]) d_X12_meaning_1 (by decide) rfl ?_
  refine wp_sub ?_ h
  exact ⟨rfl, ⟨rfl, ⟨rfl, trivial⟩⟩⟩
theorem v_X12_meaning_2 {E : EE} {d : Nat} {Q : Option AV → AH → Prop} {x0 : Nat} {x1 : Int32} {x2 : Int32} {G : AH} (h : (4 ≤ x2 → Q (some (vi (-1))) G) ∧ (¬ (4 ≤ x2) → wp E d M_X12_meaning 9 [some (vr x0), some (vi x1), some (vi x2), some (vi 0)] [] G Q)) : wp E d M_X12_meaning 2 [some (vr x0), some (vi x1), some (vi x2), none] [] G Q := by
  refine wp_iload_n (pc := 2) d_X12_meaning_2 rfl ?_
  refine wp_iconst (pc := 3) (v := 4) d_X12_meaning_3 rfl ?_
  refine wp_icmp_ge (pc := 4) (tgt := 52) d_X12_meaning_4 (by decide) (fun hc => ?_) (fun hc => ?_)
  · have h := h.1 hc
    refine wp_iconst (pc := 52) (v := (-1)) d_X12_meaning_52 rfl ?_
    exact wp_iret (pc := 53) d_X12_meaning_53 rfl h
  · have h := h.2 hc
    refine wp_iconst (pc := 7) (v := 0) d_X12_meaning_7 rfl ?_
    refine wp_istore_n (pc := 8) (lv' := [some (vr _), some (vi _), some (vi _), some (vi _)]) d_X12_meaning_8 (by decide) rfl ?_
    refine wp_sub ?_ h
    exact ⟨rfl, ⟨rfl, ⟨rfl, ⟨rfl, trivial⟩⟩⟩⟩
theorem v_X12_meaning_9 {E : EE} {d : Nat} {Q : Option AV → AH → Prop} {x0 : Nat} {x1 : Int32} {x2 : Int32} {x3 : Int32} {G : AH} (h0 : 0 < d) (h : isO E G x0 12 ∧ (isO E G (gR G x0 17) 14 ∧ (vp_in ((4 * x1) + x2) (gN G (gR G x0 17)) ∧ (((gI G (gR G x0 17) (Int32.toNatClampNeg ((4 * x1) + x2))) ≤ x3 → wp E d M_X12_meaning 2 [some (vr x0), some (vi x1), some (vi (x2 + 1)), none] [] G Q) ∧ (¬ ((gI G (gR G x0 17) (Int32.toNatClampNeg ((4 * x1) + x2))) ≤ x3) → wpI E (d - 1) M_X12_isName [vr x0, vi x1, vi x2, vi x3] G (fun r4 G5 => (r4 = 0 → wp E d M_X12_meaning 9 [some (vr x0), some (vi x1), some (vi x2), some (vi (x3 + 1))] [] G5 Q) ∧ (¬ (r4 = 0) → Q (some (vi ((100 * x2) + x3))) G5))))))) : wp E d M_X12_meaning 9 [some (vr x0), some (vi x1), some (vi x2), some (vi x3)] [] G Q := by
  refine wp_iload_n (pc := 9) d_X12_meaning_9 rfl ?_
  refine wp_aload_n (pc := 10) d_X12_meaning_10 rfl ?_
  obtain ⟨ho1, h⟩ := h
  refine wp_getR (pc := 11) d_X12_meaning_11 fl_X12_58 (fun _ _ _ => rfl) ho1 ?_
  refine wp_iconst (pc := 14) (v := 4) d_X12_meaning_14 rfl ?_
  refine wp_iload_n (pc := 15) d_X12_meaning_15 rfl ?_
  refine wp_imul (pc := 16) d_X12_meaning_16 ?_
  refine wp_iload_n (pc := 17) d_X12_meaning_17 rfl ?_
  refine wp_iadd (pc := 18) d_X12_meaning_18 ?_
  obtain ⟨ho2, h⟩ := h
  obtain ⟨hi3, h⟩ := h
  refine wp_iald (pc := 19) d_X12_meaning_19 ho2 hi3 ?_
  refine wp_icmp_ge (pc := 20) (tgt := 46) d_X12_meaning_20 (by decide) (fun hc => ?_) (fun hc => ?_)
  · have h := h.1 hc
    refine wp_iinc (pc := 46) (v := 1) (lv' := [some (vr _), some (vi _), some (vi _), some (vi _)]) d_X12_meaning_46 (by decide) rfl rfl rfl ?_
    refine wp_goto (pc := 49) (tgt := 2) d_X12_meaning_49 (by decide) ?_
    refine wp_sub ?_ h
    exact ⟨rfl, ⟨rfl, ⟨rfl, trivial⟩⟩⟩
  · have h := h.2 hc
    refine wp_aload_n (pc := 23) d_X12_meaning_23 rfl ?_
    refine wp_iload_n (pc := 24) d_X12_meaning_24 rfl ?_
    refine wp_iload_n (pc := 25) d_X12_meaning_25 rfl ?_
    refine wp_iload_n (pc := 26) d_X12_meaning_26 rfl ?_
    refine wp_invV (pc := 27) (N := M_X12_isName) (As := [vi _, vi _, vi _]) (rest := []) (r := (cn_12, ct_12, 95)) d_X12_meaning_27 ml_X12_337 mk_X12_isName mv_X12_isName h0 ho1 rfl rfl (Nat.le_of_ble_eq_true rfl) ?_
    refine wpM.mono h (fun rr G5 hr => ?_)
    obtain ⟨r4, rfl, h⟩ := hr
    show wp E d M_X12_meaning 30 [some (vr _), some (vi _), some (vi _), some (vi _)] [vi _] G5 Q
    refine wp_if_eq (pc := 30) (tgt := 40) d_X12_meaning_30 (by decide) (fun hc => ?_) (fun hc => ?_)
    · have h := h.1 hc
      refine wp_iinc (pc := 40) (v := 1) (lv' := [some (vr _), some (vi _), some (vi _), some (vi _)]) d_X12_meaning_40 (by decide) rfl rfl rfl ?_
      refine wp_goto (pc := 43) (tgt := 9) d_X12_meaning_43 (by decide) ?_
      refine wp_sub ?_ h
      exact ⟨rfl, ⟨rfl, ⟨rfl, ⟨rfl, trivial⟩⟩⟩⟩
    · have h := h.2 hc
      refine wp_bipush (pc := 33) (v := 100) d_X12_meaning_33 rfl ?_
      refine wp_iload_n (pc := 35) d_X12_meaning_35 rfl ?_
      refine wp_imul (pc := 36) d_X12_meaning_36 ?_
      refine wp_iload_n (pc := 37) d_X12_meaning_37 rfl ?_
      refine wp_iadd (pc := 38) d_X12_meaning_38 ?_
      exact wp_iret (pc := 39) d_X12_meaning_39 rfl h
theorem d_X12_isName_0 : decode prog_14_method_19_code 0 = .ok (.bipush 96, 2) := by decide +kernel
theorem d_X12_isName_2 : decode prog_14_method_19_code 2 = .ok (.iload_n 1, 1) := by decide +kernel
theorem d_X12_isName_3 : decode prog_14_method_19_code 3 = .ok (.imul, 1) := by decide +kernel
theorem d_X12_isName_4 : decode prog_14_method_19_code 4 = .ok (.bipush 24, 2) := by decide +kernel
theorem d_X12_isName_6 : decode prog_14_method_19_code 6 = .ok (.iload_n 2, 1) := by decide +kernel
theorem d_X12_isName_7 : decode prog_14_method_19_code 7 = .ok (.imul, 1) := by decide +kernel
theorem d_X12_isName_8 : decode prog_14_method_19_code 8 = .ok (.iadd, 1) := by decide +kernel
theorem d_X12_isName_9 : decode prog_14_method_19_code 9 = .ok (.iload_n 3, 1) := by decide +kernel
theorem d_X12_isName_10 : decode prog_14_method_19_code 10 = .ok (.iadd, 1) := by decide +kernel
theorem d_X12_isName_11 : decode prog_14_method_19_code 11 = .ok (.istore 4, 2) := by decide +kernel
theorem d_X12_isName_13 : decode prog_14_method_19_code 13 = .ok (.aload_n 0, 1) := by decide +kernel
theorem d_X12_isName_14 : decode prog_14_method_19_code 14 = .ok (.getfield 55, 3) := by decide +kernel
theorem d_X12_isName_17 : decode prog_14_method_19_code 17 = .ok (.iload 4, 2) := by decide +kernel
theorem d_X12_isName_19 : decode prog_14_method_19_code 19 = .ok (.iaload, 1) := by decide +kernel
theorem d_X12_isName_20 : decode prog_14_method_19_code 20 = .ok (.aload_n 0, 1) := by decide +kernel
theorem d_X12_isName_21 : decode prog_14_method_19_code 21 = .ok (.getfield 238, 3) := by decide +kernel
theorem d_X12_isName_24 : decode prog_14_method_19_code 24 = .ok (.aload_n 0, 1) := by decide +kernel
theorem d_X12_isName_25 : decode prog_14_method_19_code 25 = .ok (.getfield 241, 3) := by decide +kernel
theorem d_X12_isName_28 : decode prog_14_method_19_code 28 = .ok (.isub, 1) := by decide +kernel
theorem d_X12_isName_29 : decode prog_14_method_19_code 29 = .ok (.if_icmp .ne 7, 3) := by decide +kernel
theorem d_X12_isName_32 : decode prog_14_method_19_code 32 = .ok (.iconst 1, 1) := by decide +kernel
theorem d_X12_isName_33 : decode prog_14_method_19_code 33 = .ok (.goto 4, 3) := by decide +kernel
theorem d_X12_isName_36 : decode prog_14_method_19_code 36 = .ok (.iconst 0, 1) := by decide +kernel
theorem d_X12_isName_37 : decode prog_14_method_19_code 37 = .ok (.istore 5, 2) := by decide +kernel
theorem d_X12_isName_39 : decode prog_14_method_19_code 39 = .ok (.iconst 0, 1) := by decide +kernel
theorem d_X12_isName_40 : decode prog_14_method_19_code 40 = .ok (.istore 6, 2) := by decide +kernel
theorem d_X12_isName_42 : decode prog_14_method_19_code 42 = .ok (.iload 5, 2) := by decide +kernel
theorem d_X12_isName_44 : decode prog_14_method_19_code 44 = .ok (.ifCond .eq 69, 3) := by decide +kernel
theorem d_X12_isName_47 : decode prog_14_method_19_code 47 = .ok (.iload 6, 2) := by decide +kernel
theorem d_X12_isName_49 : decode prog_14_method_19_code 49 = .ok (.aload_n 0, 1) := by decide +kernel
theorem d_X12_isName_50 : decode prog_14_method_19_code 50 = .ok (.getfield 238, 3) := by decide +kernel
theorem d_X12_isName_53 : decode prog_14_method_19_code 53 = .ok (.aload_n 0, 1) := by decide +kernel
theorem d_X12_isName_54 : decode prog_14_method_19_code 54 = .ok (.getfield 241, 3) := by decide +kernel
theorem d_X12_isName_57 : decode prog_14_method_19_code 57 = .ok (.isub, 1) := by decide +kernel
theorem d_X12_isName_58 : decode prog_14_method_19_code 58 = .ok (.if_icmp .ge 55, 3) := by decide +kernel
theorem d_X12_isName_61 : decode prog_14_method_19_code 61 = .ok (.aload_n 0, 1) := by decide +kernel
theorem d_X12_isName_62 : decode prog_14_method_19_code 62 = .ok (.aload_n 0, 1) := by decide +kernel
theorem d_X12_isName_63 : decode prog_14_method_19_code 63 = .ok (.getfield 241, 3) := by decide +kernel
theorem d_X12_isName_66 : decode prog_14_method_19_code 66 = .ok (.iload 6, 2) := by decide +kernel
theorem d_X12_isName_68 : decode prog_14_method_19_code 68 = .ok (.iadd, 1) := by decide +kernel
theorem d_X12_isName_69 : decode prog_14_method_19_code 69 = .ok (.invokevirtual 234, 3) := by decide +kernel
theorem d_X12_isName_72 : decode prog_14_method_19_code 72 = .ok (.aload_n 0, 1) := by decide +kernel
theorem d_X12_isName_73 : decode prog_14_method_19_code 73 = .ok (.getfield 24, 3) := by decide +kernel
theorem d_X12_isName_76 : decode prog_14_method_19_code 76 = .ok (.sipush 20000, 3) := by decide +kernel
theorem d_X12_isName_79 : decode prog_14_method_19_code 79 = .ok (.iload_n 1, 1) := by decide +kernel
theorem d_X12_isName_80 : decode prog_14_method_19_code 80 = .ok (.imul, 1) := by decide +kernel
theorem d_X12_isName_81 : decode prog_14_method_19_code 81 = .ok (.aload_n 0, 1) := by decide +kernel
theorem d_X12_isName_82 : decode prog_14_method_19_code 82 = .ok (.getfield 52, 3) := by decide +kernel
theorem d_X12_isName_85 : decode prog_14_method_19_code 85 = .ok (.iload 4, 2) := by decide +kernel
theorem d_X12_isName_87 : decode prog_14_method_19_code 87 = .ok (.iaload, 1) := by decide +kernel
theorem d_X12_isName_88 : decode prog_14_method_19_code 88 = .ok (.iadd, 1) := by decide +kernel
theorem d_X12_isName_89 : decode prog_14_method_19_code 89 = .ok (.iload 6, 2) := by decide +kernel
theorem d_X12_isName_91 : decode prog_14_method_19_code 91 = .ok (.iadd, 1) := by decide +kernel
theorem d_X12_isName_92 : decode prog_14_method_19_code 92 = .ok (.baload, 1) := by decide +kernel
theorem d_X12_isName_93 : decode prog_14_method_19_code 93 = .ok (.sipush 255, 3) := by decide +kernel
theorem d_X12_isName_96 : decode prog_14_method_19_code 96 = .ok (.iand, 1) := by decide +kernel
theorem d_X12_isName_97 : decode prog_14_method_19_code 97 = .ok (.if_icmp .ne 7, 3) := by decide +kernel
theorem d_X12_isName_100 : decode prog_14_method_19_code 100 = .ok (.iconst 1, 1) := by decide +kernel
theorem d_X12_isName_101 : decode prog_14_method_19_code 101 = .ok (.goto 4, 3) := by decide +kernel
theorem d_X12_isName_104 : decode prog_14_method_19_code 104 = .ok (.iconst 0, 1) := by decide +kernel
theorem d_X12_isName_105 : decode prog_14_method_19_code 105 = .ok (.istore 5, 2) := by decide +kernel
theorem d_X12_isName_107 : decode prog_14_method_19_code 107 = .ok (.iinc 6 1, 3) := by decide +kernel
theorem d_X12_isName_110 : decode prog_14_method_19_code 110 = .ok (.goto (-68), 3) := by decide +kernel
theorem d_X12_isName_113 : decode prog_14_method_19_code 113 = .ok (.iload 5, 2) := by decide +kernel
theorem d_X12_isName_115 : decode prog_14_method_19_code 115 = .ok (.ireturn, 1) := by decide +kernel
theorem v_X12_isName_0 {E : EE} {d : Nat} {Q : Option AV → AH → Prop} {x0 : Nat} {x1 : Int32} {x2 : Int32} {x3 : Int32} {G : AH} (h : isO E G x0 12 ∧ (isO E G (gR G x0 16) 14 ∧ (vp_in (((96 * x1) + (24 * x2)) + x3) (gN G (gR G x0 16)) ∧ ((¬ (gI G (gR G x0 16) (Int32.toNatClampNeg (((96 * x1) + (24 * x2)) + x3))) = ((gI G x0 44) - (gI G x0 43)) → wp E d M_X12_isName 37 [some (vr x0), some (vi x1), some (vi x2), some (vi x3), some (vi (((96 * x1) + (24 * x2)) + x3)), none, none] [vi 0] G Q) ∧ ((gI G (gR G x0 16) (Int32.toNatClampNeg (((96 * x1) + (24 * x2)) + x3))) = ((gI G x0 44) - (gI G x0 43)) → wp E d M_X12_isName 37 [some (vr x0), some (vi x1), some (vi x2), some (vi x3), some (vi (((96 * x1) + (24 * x2)) + x3)), none, none] [vi 1] G Q))))) : wp E d M_X12_isName 0 [some (vr x0), some (vi x1), some (vi x2), some (vi x3), none, none, none] [] G Q := by
  refine wp_bipush (pc := 0) (v := 96) d_X12_isName_0 rfl ?_
  refine wp_iload_n (pc := 2) d_X12_isName_2 rfl ?_
  refine wp_imul (pc := 3) d_X12_isName_3 ?_
  refine wp_bipush (pc := 4) (v := 24) d_X12_isName_4 rfl ?_
  refine wp_iload_n (pc := 6) d_X12_isName_6 rfl ?_
  refine wp_imul (pc := 7) d_X12_isName_7 ?_
  refine wp_iadd (pc := 8) d_X12_isName_8 ?_
  refine wp_iload_n (pc := 9) d_X12_isName_9 rfl ?_
  refine wp_iadd (pc := 10) d_X12_isName_10 ?_
  refine wp_istore (pc := 11) (lv' := [some (vr _), some (vi _), some (vi _), some (vi _), some (vi _), none, none]) d_X12_isName_11 (by decide) rfl ?_
  refine wp_aload_n (pc := 13) d_X12_isName_13 rfl ?_
  obtain ⟨ho1, h⟩ := h
  refine wp_getR (pc := 14) d_X12_isName_14 fl_X12_55 (fun _ _ _ => rfl) ho1 ?_
  refine wp_iload (pc := 17) d_X12_isName_17 rfl ?_
  obtain ⟨ho2, h⟩ := h
  obtain ⟨hi3, h⟩ := h
  refine wp_iald (pc := 19) d_X12_isName_19 ho2 hi3 ?_
  refine wp_aload_n (pc := 20) d_X12_isName_20 rfl ?_
  refine wp_getI (pc := 21) d_X12_isName_21 fl_X12_238 (fun _ _ _ => rfl) ho1 ?_
  refine wp_aload_n (pc := 24) d_X12_isName_24 rfl ?_
  refine wp_getI (pc := 25) d_X12_isName_25 fl_X12_241 (fun _ _ _ => rfl) ho1 ?_
  refine wp_isub (pc := 28) d_X12_isName_28 ?_
  refine wp_icmp_ne (pc := 29) (tgt := 36) d_X12_isName_29 (by decide) (fun hc => ?_) (fun hc => ?_)
  · have h := h.1 hc
    refine wp_iconst (pc := 36) (v := 0) d_X12_isName_36 rfl ?_
    refine wp_sub ?_ h
    exact ⟨rfl, ⟨rfl, ⟨rfl, ⟨rfl, ⟨rfl, trivial⟩⟩⟩⟩⟩
  · have h := h.2 hc
    refine wp_iconst (pc := 32) (v := 1) d_X12_isName_32 rfl ?_
    refine wp_goto (pc := 33) (tgt := 37) d_X12_isName_33 (by decide) ?_
    refine wp_sub ?_ h
    exact ⟨rfl, ⟨rfl, ⟨rfl, ⟨rfl, ⟨rfl, trivial⟩⟩⟩⟩⟩
theorem v_X12_isName_37 {E : EE} {d : Nat} {Q : Option AV → AH → Prop} {x0 : Nat} {x1 : Int32} {x2 : Int32} {x3 : Int32} {x4 : Int32} {t0 : Int32} {G : AH} (h : wp E d M_X12_isName 42 [some (vr x0), some (vi x1), some (vi x2), some (vi x3), some (vi x4), some (vi t0), some (vi 0)] [] G Q) : wp E d M_X12_isName 37 [some (vr x0), some (vi x1), some (vi x2), some (vi x3), some (vi x4), none, none] [vi t0] G Q := by
  refine wp_istore (pc := 37) (lv' := [some (vr _), some (vi _), some (vi _), some (vi _), some (vi _), some (vi _), none]) d_X12_isName_37 (by decide) rfl ?_
  refine wp_iconst (pc := 39) (v := 0) d_X12_isName_39 rfl ?_
  refine wp_istore (pc := 40) (lv' := [some (vr _), some (vi _), some (vi _), some (vi _), some (vi _), some (vi _), some (vi _)]) d_X12_isName_40 (by decide) rfl ?_
  refine wp_sub ?_ h
  exact ⟨rfl, ⟨rfl, ⟨rfl, ⟨rfl, ⟨rfl, ⟨rfl, ⟨rfl, trivial⟩⟩⟩⟩⟩⟩⟩
theorem v_X12_isName_42 {E : EE} {d : Nat} {Q : Option AV → AH → Prop} {x0 : Nat} {x1 : Int32} {x2 : Int32} {x3 : Int32} {x4 : Int32} {x5 : Int32} {x6 : Int32} {G : AH} (h0 : 0 < d) (h : (x5 = 0 → okI .boolean x5 ∧ Q (some (vi x5)) G) ∧ (¬ (x5 = 0) → isO E G x0 12 ∧ ((((gI G x0 44) - (gI G x0 43)) ≤ x6 → okI .boolean x5 ∧ Q (some (vi x5)) G) ∧ (¬ (((gI G x0 44) - (gI G x0 43)) ≤ x6) → wpI E (d - 1) M_X12_look [vr x0, vi ((gI G x0 43) + x6)] G (fun r2 G3 => isO E G3 x0 12 ∧ (isO E G3 (gR G3 x0 15) 14 ∧ (vp_in x4 (gN G3 (gR G3 x0 15)) ∧ (isO E G3 (gR G3 x0 6) 13 ∧ (vp_in (((20000 * x1) + (gI G3 (gR G3 x0 15) (Int32.toNatClampNeg x4))) + x6) (gN G3 (gR G3 x0 6)) ∧ ((¬ r2 = ((gI G3 (gR G3 x0 6) (Int32.toNatClampNeg (((20000 * x1) + (gI G3 (gR G3 x0 15) (Int32.toNatClampNeg x4))) + x6))) &&& 255) → wp E d M_X12_isName 105 [some (vr x0), some (vi x1), some (vi x2), some (vi x3), some (vi x4), some (vi x5), some (vi x6)] [vi 0] G3 Q) ∧ (r2 = ((gI G3 (gR G3 x0 6) (Int32.toNatClampNeg (((20000 * x1) + (gI G3 (gR G3 x0 15) (Int32.toNatClampNeg x4))) + x6))) &&& 255) → wp E d M_X12_isName 105 [some (vr x0), some (vi x1), some (vi x2), some (vi x3), some (vi x4), some (vi x5), some (vi x6)] [vi 1] G3 Q))))))))))) : wp E d M_X12_isName 42 [some (vr x0), some (vi x1), some (vi x2), some (vi x3), some (vi x4), some (vi x5), some (vi x6)] [] G Q := by
  refine wp_iload (pc := 42) d_X12_isName_42 rfl ?_
  refine wp_if_eq (pc := 44) (tgt := 113) d_X12_isName_44 (by decide) (fun hc => ?_) (fun hc => ?_)
  · have h := h.1 hc
    refine wp_iload (pc := 113) d_X12_isName_113 rfl ?_
    exact wp_zret (pc := 115) d_X12_isName_115 rfl h.1.1 h.2
  · have h := h.2 hc
    refine wp_iload (pc := 47) d_X12_isName_47 rfl ?_
    refine wp_aload_n (pc := 49) d_X12_isName_49 rfl ?_
    obtain ⟨ho1, h⟩ := h
    refine wp_getI (pc := 50) d_X12_isName_50 fl_X12_238 (fun _ _ _ => rfl) ho1 ?_
    refine wp_aload_n (pc := 53) d_X12_isName_53 rfl ?_
    refine wp_getI (pc := 54) d_X12_isName_54 fl_X12_241 (fun _ _ _ => rfl) ho1 ?_
    refine wp_isub (pc := 57) d_X12_isName_57 ?_
    refine wp_icmp_ge (pc := 58) (tgt := 113) d_X12_isName_58 (by decide) (fun hc => ?_) (fun hc => ?_)
    · have h := h.1 hc
      refine wp_iload (pc := 113) d_X12_isName_113 rfl ?_
      exact wp_zret (pc := 115) d_X12_isName_115 rfl h.1.1 h.2
    · have h := h.2 hc
      refine wp_aload_n (pc := 61) d_X12_isName_61 rfl ?_
      refine wp_aload_n (pc := 62) d_X12_isName_62 rfl ?_
      refine wp_getI (pc := 63) d_X12_isName_63 fl_X12_241 (fun _ _ _ => rfl) ho1 ?_
      refine wp_iload (pc := 66) d_X12_isName_66 rfl ?_
      refine wp_iadd (pc := 68) d_X12_isName_68 ?_
      refine wp_invV (pc := 69) (N := M_X12_look) (As := [vi _]) (rest := []) (r := (cn_12, ct_12, 95)) d_X12_isName_69 ml_X12_234 mk_X12_look mv_X12_look h0 ho1 rfl rfl (Nat.le_of_ble_eq_true rfl) ?_
      refine wpM.mono h (fun rr G3 hr => ?_)
      obtain ⟨r2, rfl, h⟩ := hr
      show wp E d M_X12_isName 72 [some (vr _), some (vi _), some (vi _), some (vi _), some (vi _), some (vi _), some (vi _)] [vi _] G3 Q
      refine wp_aload_n (pc := 72) d_X12_isName_72 rfl ?_
      obtain ⟨ho4, h⟩ := h
      refine wp_getR (pc := 73) d_X12_isName_73 fl_X12_24 (fun _ _ _ => rfl) ho4 ?_
      refine wp_sipush (pc := 76) (v := 20000) d_X12_isName_76 rfl ?_
      refine wp_iload_n (pc := 79) d_X12_isName_79 rfl ?_
      refine wp_imul (pc := 80) d_X12_isName_80 ?_
      refine wp_aload_n (pc := 81) d_X12_isName_81 rfl ?_
      refine wp_getR (pc := 82) d_X12_isName_82 fl_X12_52 (fun _ _ _ => rfl) ho4 ?_
      refine wp_iload (pc := 85) d_X12_isName_85 rfl ?_
      obtain ⟨ho5, h⟩ := h
      obtain ⟨hi6, h⟩ := h
      refine wp_iald (pc := 87) d_X12_isName_87 ho5 hi6 ?_
      refine wp_iadd (pc := 88) d_X12_isName_88 ?_
      refine wp_iload (pc := 89) d_X12_isName_89 rfl ?_
      refine wp_iadd (pc := 91) d_X12_isName_91 ?_
      obtain ⟨ho7, h⟩ := h
      obtain ⟨hi8, h⟩ := h
      refine wp_bald (pc := 92) d_X12_isName_92 ho7 hi8 ?_
      refine wp_sipush (pc := 93) (v := 255) d_X12_isName_93 rfl ?_
      refine wp_iand (pc := 96) d_X12_isName_96 ?_
      refine wp_icmp_ne (pc := 97) (tgt := 104) d_X12_isName_97 (by decide) (fun hc => ?_) (fun hc => ?_)
      · have h := h.1 hc
        refine wp_iconst (pc := 104) (v := 0) d_X12_isName_104 rfl ?_
        refine wp_sub ?_ h
        exact ⟨rfl, ⟨rfl, ⟨rfl, ⟨rfl, ⟨rfl, ⟨rfl, ⟨rfl, trivial⟩⟩⟩⟩⟩⟩⟩
      · have h := h.2 hc
        refine wp_iconst (pc := 100) (v := 1) d_X12_isName_100 rfl ?_
        refine wp_goto (pc := 101) (tgt := 105) d_X12_isName_101 (by decide) ?_
        refine wp_sub ?_ h
        exact ⟨rfl, ⟨rfl, ⟨rfl, ⟨rfl, ⟨rfl, ⟨rfl, ⟨rfl, trivial⟩⟩⟩⟩⟩⟩⟩
theorem v_X12_isName_105 {E : EE} {d : Nat} {Q : Option AV → AH → Prop} {x0 : Nat} {x1 : Int32} {x2 : Int32} {x3 : Int32} {x4 : Int32} {x5 : Int32} {x6 : Int32} {t0 : Int32} {G : AH} (h : wp E d M_X12_isName 42 [some (vr x0), some (vi x1), some (vi x2), some (vi x3), some (vi x4), some (vi t0), some (vi (x6 + 1))] [] G Q) : wp E d M_X12_isName 105 [some (vr x0), some (vi x1), some (vi x2), some (vi x3), some (vi x4), some (vi x5), some (vi x6)] [vi t0] G Q := by
  refine wp_istore (pc := 105) (lv' := [some (vr _), some (vi _), some (vi _), some (vi _), some (vi _), some (vi _), some (vi _)]) d_X12_isName_105 (by decide) rfl ?_
  refine wp_iinc (pc := 107) (v := 1) (lv' := [some (vr _), some (vi _), some (vi _), some (vi _), some (vi _), some (vi _), some (vi _)]) d_X12_isName_107 (by decide) rfl rfl rfl ?_
  refine wp_goto (pc := 110) (tgt := 42) d_X12_isName_110 (by decide) ?_
  refine wp_sub ?_ h
  exact ⟨rfl, ⟨rfl, ⟨rfl, ⟨rfl, ⟨rfl, ⟨rfl, ⟨rfl, trivial⟩⟩⟩⟩⟩⟩⟩
theorem d_X12_need_0 : decode prog_14_method_17_code 0 = .ok (.aload_n 0, 1) := by decide +kernel
theorem d_X12_need_1 : decode prog_14_method_17_code 1 = .ok (.getfield 311, 3) := by decide +kernel
theorem d_X12_need_4 : decode prog_14_method_17_code 4 = .ok (.ifCond .eq 4, 3) := by decide +kernel
theorem d_X12_need_7 : decode prog_14_method_17_code 7 = .ok (.return_, 1) := by decide +kernel
theorem d_X12_need_8 : decode prog_14_method_17_code 8 = .ok (.aload_n 0, 1) := by decide +kernel
theorem d_X12_need_9 : decode prog_14_method_17_code 9 = .ok (.getfield 292, 3) := by decide +kernel
theorem d_X12_need_12 : decode prog_14_method_17_code 12 = .ok (.iload_n 1, 1) := by decide +kernel
theorem d_X12_need_13 : decode prog_14_method_17_code 13 = .ok (.if_icmp .eq 8, 3) := by decide +kernel
theorem d_X12_need_16 : decode prog_14_method_17_code 16 = .ok (.aload_n 0, 1) := by decide +kernel
theorem d_X12_need_17 : decode prog_14_method_17_code 17 = .ok (.invokevirtual 327, 3) := by decide +kernel
theorem d_X12_need_20 : decode prog_14_method_17_code 20 = .ok (.return_, 1) := by decide +kernel
theorem d_X12_need_21 : decode prog_14_method_17_code 21 = .ok (.aload_n 0, 1) := by decide +kernel
theorem d_X12_need_22 : decode prog_14_method_17_code 22 = .ok (.iconst 0, 1) := by decide +kernel
theorem d_X12_need_23 : decode prog_14_method_17_code 23 = .ok (.invokevirtual 330, 3) := by decide +kernel
theorem d_X12_need_26 : decode prog_14_method_17_code 26 = .ok (.return_, 1) := by decide +kernel
theorem v_X12_need_0 {E : EE} {d : Nat} {Q : Option AV → AH → Prop} {x0 : Nat} {x1 : Int32} {G : AH} (h0 : 0 < d) (h : isO E G x0 12 ∧ (((gI G x0 45) = 0 → ((gI G x0 41) = x1 → wpV E (d - 1) M_X12_keep [vr x0, vi 0] G (fun G2 => Q none G2)) ∧ (¬ ((gI G x0 41) = x1) → wpV E (d - 1) M_X12_failHere [vr x0] G (fun G3 => Q none G3))) ∧ (¬ ((gI G x0 45) = 0) → Q none G))) : wp E d M_X12_need 0 [some (vr x0), some (vi x1)] [] G Q := by
  refine wp_aload_n (pc := 0) d_X12_need_0 rfl ?_
  obtain ⟨ho1, h⟩ := h
  refine wp_getI (pc := 1) d_X12_need_1 fl_X12_311 (fun _ _ _ => rfl) ho1 ?_
  refine wp_if_eq (pc := 4) (tgt := 8) d_X12_need_4 (by decide) (fun hc => ?_) (fun hc => ?_)
  · have h := h.1 hc
    refine wp_aload_n (pc := 8) d_X12_need_8 rfl ?_
    refine wp_getI (pc := 9) d_X12_need_9 fl_X12_292 (fun _ _ _ => rfl) ho1 ?_
    refine wp_iload_n (pc := 12) d_X12_need_12 rfl ?_
    refine wp_icmp_eq (pc := 13) (tgt := 21) d_X12_need_13 (by decide) (fun hc => ?_) (fun hc => ?_)
    · have h := h.1 hc
      refine wp_aload_n (pc := 21) d_X12_need_21 rfl ?_
      refine wp_iconst (pc := 22) (v := 0) d_X12_need_22 rfl ?_
      refine wp_invV (pc := 23) (N := M_X12_keep) (As := [vi _]) (rest := []) (r := (cn_12, ct_12, 95)) d_X12_need_23 ml_X12_330 mk_X12_keep mv_X12_keep h0 ho1 rfl rfl (Nat.le_of_ble_eq_true rfl) ?_
      refine wpM.mono h (fun rr G2 hr => ?_)
      obtain ⟨rfl, h⟩ := hr
      show wp E d M_X12_need 26 [some (vr _), some (vi _)] [] G2 Q
      exact wp_vret (pc := 26) d_X12_need_26 rfl h
    · have h := h.2 hc
      refine wp_aload_n (pc := 16) d_X12_need_16 rfl ?_
      refine wp_invV (pc := 17) (N := M_X12_failHere) (As := []) (rest := []) (r := (cn_12, ct_12, 95)) d_X12_need_17 ml_X12_327 mk_X12_failHere mv_X12_failHere h0 ho1 rfl rfl (Nat.le_of_ble_eq_true rfl) ?_
      refine wpM.mono h (fun rr G3 hr => ?_)
      obtain ⟨rfl, h⟩ := hr
      show wp E d M_X12_need 20 [some (vr _), some (vi _)] [] G3 Q
      exact wp_vret (pc := 20) d_X12_need_20 rfl h
  · have h := h.2 hc
    exact wp_vret (pc := 7) d_X12_need_7 rfl h
theorem d_X12_aNumber_0 : decode prog_14_method_23_code 0 = .ok (.aload_n 0, 1) := by decide +kernel
theorem d_X12_aNumber_1 : decode prog_14_method_23_code 1 = .ok (.getfield 311, 3) := by decide +kernel
theorem d_X12_aNumber_4 : decode prog_14_method_23_code 4 = .ok (.ifCond .eq 5, 3) := by decide +kernel
theorem d_X12_aNumber_7 : decode prog_14_method_23_code 7 = .ok (.iconst 0, 1) := by decide +kernel
theorem d_X12_aNumber_8 : decode prog_14_method_23_code 8 = .ok (.ireturn, 1) := by decide +kernel
theorem d_X12_aNumber_9 : decode prog_14_method_23_code 9 = .ok (.aload_n 0, 1) := by decide +kernel
theorem d_X12_aNumber_10 : decode prog_14_method_23_code 10 = .ok (.getfield 305, 3) := by decide +kernel
theorem d_X12_aNumber_13 : decode prog_14_method_23_code 13 = .ok (.istore_n 3, 1) := by decide +kernel
theorem d_X12_aNumber_14 : decode prog_14_method_23_code 14 = .ok (.aload_n 0, 1) := by decide +kernel
theorem d_X12_aNumber_15 : decode prog_14_method_23_code 15 = .ok (.getfield 292, 3) := by decide +kernel
theorem d_X12_aNumber_18 : decode prog_14_method_23_code 18 = .ok (.iconst 2, 1) := by decide +kernel
theorem d_X12_aNumber_19 : decode prog_14_method_23_code 19 = .ok (.if_icmp .eq 10, 3) := by decide +kernel
theorem d_X12_aNumber_22 : decode prog_14_method_23_code 22 = .ok (.aload_n 0, 1) := by decide +kernel
theorem d_X12_aNumber_23 : decode prog_14_method_23_code 23 = .ok (.invokevirtual 327, 3) := by decide +kernel
theorem d_X12_aNumber_26 : decode prog_14_method_23_code 26 = .ok (.goto 30, 3) := by decide +kernel
theorem d_X12_aNumber_29 : decode prog_14_method_23_code 29 = .ok (.iload_n 3, 1) := by decide +kernel
theorem d_X12_aNumber_30 : decode prog_14_method_23_code 30 = .ok (.iload_n 1, 1) := by decide +kernel
theorem d_X12_aNumber_31 : decode prog_14_method_23_code 31 = .ok (.if_icmp .lt 8, 3) := by decide +kernel
theorem d_X12_aNumber_34 : decode prog_14_method_23_code 34 = .ok (.iload_n 3, 1) := by decide +kernel
theorem d_X12_aNumber_35 : decode prog_14_method_23_code 35 = .ok (.iload_n 2, 1) := by decide +kernel
theorem d_X12_aNumber_36 : decode prog_14_method_23_code 36 = .ok (.if_icmp .le 15, 3) := by decide +kernel
theorem d_X12_aNumber_39 : decode prog_14_method_23_code 39 = .ok (.aload_n 0, 1) := by decide +kernel
theorem d_X12_aNumber_40 : decode prog_14_method_23_code 40 = .ok (.iconst 5, 1) := by decide +kernel
theorem d_X12_aNumber_41 : decode prog_14_method_23_code 41 = .ok (.aload_n 0, 1) := by decide +kernel
theorem d_X12_aNumber_42 : decode prog_14_method_23_code 42 = .ok (.getfield 241, 3) := by decide +kernel
theorem d_X12_aNumber_45 : decode prog_14_method_23_code 45 = .ok (.invokevirtual 317, 3) := by decide +kernel
theorem d_X12_aNumber_48 : decode prog_14_method_23_code 48 = .ok (.goto 8, 3) := by decide +kernel
theorem d_X12_aNumber_51 : decode prog_14_method_23_code 51 = .ok (.aload_n 0, 1) := by decide +kernel
theorem d_X12_aNumber_52 : decode prog_14_method_23_code 52 = .ok (.iload_n 3, 1) := by decide +kernel
theorem d_X12_aNumber_53 : decode prog_14_method_23_code 53 = .ok (.invokevirtual 330, 3) := by decide +kernel
theorem d_X12_aNumber_56 : decode prog_14_method_23_code 56 = .ok (.iload_n 3, 1) := by decide +kernel
theorem d_X12_aNumber_57 : decode prog_14_method_23_code 57 = .ok (.ireturn, 1) := by decide +kernel
theorem v_X12_aNumber_0 {E : EE} {d : Nat} {Q : Option AV → AH → Prop} {x0 : Nat} {x1 : Int32} {x2 : Int32} {G : AH} (h0 : 0 < d) (h : isO E G x0 12 ∧ (((gI G x0 45) = 0 → ((gI G x0 41) = 2 → ((gI G x0 42) < x1 → wp E d M_X12_aNumber 39 [some (vr x0), some (vi x1), some (vi x2), some (vi (gI G x0 42))] [] G Q) ∧ (¬ ((gI G x0 42) < x1) → ((gI G x0 42) ≤ x2 → wpV E (d - 1) M_X12_keep [vr x0, vi (gI G x0 42)] G (fun G2 => Q (some (vi (gI G x0 42))) G2)) ∧ (¬ ((gI G x0 42) ≤ x2) → wp E d M_X12_aNumber 39 [some (vr x0), some (vi x1), some (vi x2), some (vi (gI G x0 42))] [] G Q))) ∧ (¬ ((gI G x0 41) = 2) → wpV E (d - 1) M_X12_failHere [vr x0] G (fun G3 => Q (some (vi (gI G x0 42))) G3))) ∧ (¬ ((gI G x0 45) = 0) → Q (some (vi 0)) G))) : wp E d M_X12_aNumber 0 [some (vr x0), some (vi x1), some (vi x2), none] [] G Q := by
  refine wp_aload_n (pc := 0) d_X12_aNumber_0 rfl ?_
  obtain ⟨ho1, h⟩ := h
  refine wp_getI (pc := 1) d_X12_aNumber_1 fl_X12_311 (fun _ _ _ => rfl) ho1 ?_
  refine wp_if_eq (pc := 4) (tgt := 9) d_X12_aNumber_4 (by decide) (fun hc => ?_) (fun hc => ?_)
  · have h := h.1 hc
    refine wp_aload_n (pc := 9) d_X12_aNumber_9 rfl ?_
    refine wp_getI (pc := 10) d_X12_aNumber_10 fl_X12_305 (fun _ _ _ => rfl) ho1 ?_
    refine wp_istore_n (pc := 13) (lv' := [some (vr _), some (vi _), some (vi _), some (vi _)]) d_X12_aNumber_13 (by decide) rfl ?_
    refine wp_aload_n (pc := 14) d_X12_aNumber_14 rfl ?_
    refine wp_getI (pc := 15) d_X12_aNumber_15 fl_X12_292 (fun _ _ _ => rfl) ho1 ?_
    refine wp_iconst (pc := 18) (v := 2) d_X12_aNumber_18 rfl ?_
    refine wp_icmp_eq (pc := 19) (tgt := 29) d_X12_aNumber_19 (by decide) (fun hc => ?_) (fun hc => ?_)
    · have h := h.1 hc
      refine wp_iload_n (pc := 29) d_X12_aNumber_29 rfl ?_
      refine wp_iload_n (pc := 30) d_X12_aNumber_30 rfl ?_
      refine wp_icmp_lt (pc := 31) (tgt := 39) d_X12_aNumber_31 (by decide) (fun hc => ?_) (fun hc => ?_)
      · have h := h.1 hc
        refine wp_sub ?_ h
        exact ⟨rfl, ⟨rfl, ⟨rfl, ⟨rfl, trivial⟩⟩⟩⟩
      · have h := h.2 hc
        refine wp_iload_n (pc := 34) d_X12_aNumber_34 rfl ?_
        refine wp_iload_n (pc := 35) d_X12_aNumber_35 rfl ?_
        refine wp_icmp_le (pc := 36) (tgt := 51) d_X12_aNumber_36 (by decide) (fun hc => ?_) (fun hc => ?_)
        · have h := h.1 hc
          refine wp_aload_n (pc := 51) d_X12_aNumber_51 rfl ?_
          refine wp_iload_n (pc := 52) d_X12_aNumber_52 rfl ?_
          refine wp_invV (pc := 53) (N := M_X12_keep) (As := [vi _]) (rest := []) (r := (cn_12, ct_12, 95)) d_X12_aNumber_53 ml_X12_330 mk_X12_keep mv_X12_keep h0 ho1 rfl rfl (Nat.le_of_ble_eq_true rfl) ?_
          refine wpM.mono h (fun rr G2 hr => ?_)
          obtain ⟨rfl, h⟩ := hr
          show wp E d M_X12_aNumber 56 [some (vr _), some (vi _), some (vi _), some (vi _)] [] G2 Q
          refine wp_iload_n (pc := 56) d_X12_aNumber_56 rfl ?_
          exact wp_iret (pc := 57) d_X12_aNumber_57 rfl h
        · have h := h.2 hc
          refine wp_sub ?_ h
          exact ⟨rfl, ⟨rfl, ⟨rfl, ⟨rfl, trivial⟩⟩⟩⟩
    · have h := h.2 hc
      refine wp_aload_n (pc := 22) d_X12_aNumber_22 rfl ?_
      refine wp_invV (pc := 23) (N := M_X12_failHere) (As := []) (rest := []) (r := (cn_12, ct_12, 95)) d_X12_aNumber_23 ml_X12_327 mk_X12_failHere mv_X12_failHere h0 ho1 rfl rfl (Nat.le_of_ble_eq_true rfl) ?_
      refine wpM.mono h (fun rr G3 hr => ?_)
      obtain ⟨rfl, h⟩ := hr
      show wp E d M_X12_aNumber 26 [some (vr _), some (vi _), some (vi _), some (vi _)] [] G3 Q
      refine wp_goto (pc := 26) (tgt := 56) d_X12_aNumber_26 (by decide) ?_
      refine wp_iload_n (pc := 56) d_X12_aNumber_56 rfl ?_
      exact wp_iret (pc := 57) d_X12_aNumber_57 rfl h
  · have h := h.2 hc
    refine wp_iconst (pc := 7) (v := 0) d_X12_aNumber_7 rfl ?_
    exact wp_iret (pc := 8) d_X12_aNumber_8 rfl h
theorem v_X12_aNumber_39 {E : EE} {d : Nat} {Q : Option AV → AH → Prop} {x0 : Nat} {x1 : Int32} {x2 : Int32} {x3 : Int32} {G : AH} (h0 : 0 < d) (h : isO E G x0 12 ∧ (wpV E (d - 1) M_X12_fail [vr x0, vi 5, vi (gI G x0 43)] G (fun G2 => Q (some (vi x3)) G2))) : wp E d M_X12_aNumber 39 [some (vr x0), some (vi x1), some (vi x2), some (vi x3)] [] G Q := by
  refine wp_aload_n (pc := 39) d_X12_aNumber_39 rfl ?_
  refine wp_iconst (pc := 40) (v := 5) d_X12_aNumber_40 rfl ?_
  refine wp_aload_n (pc := 41) d_X12_aNumber_41 rfl ?_
  obtain ⟨ho1, h⟩ := h
  refine wp_getI (pc := 42) d_X12_aNumber_42 fl_X12_241 (fun _ _ _ => rfl) ho1 ?_
  refine wp_invV (pc := 45) (N := M_X12_fail) (As := [vi _, vi _]) (rest := []) (r := (cn_12, ct_12, 95)) d_X12_aNumber_45 ml_X12_317 mk_X12_fail mv_X12_fail h0 ho1 rfl rfl (Nat.le_of_ble_eq_true rfl) ?_
  refine wpM.mono h (fun rr G2 hr => ?_)
  obtain ⟨rfl, h⟩ := hr
  show wp E d M_X12_aNumber 48 [some (vr _), some (vi _), some (vi _), some (vi _)] [] G2 Q
  refine wp_goto (pc := 48) (tgt := 56) d_X12_aNumber_48 (by decide) ?_
  refine wp_iload_n (pc := 56) d_X12_aNumber_56 rfl ?_
  exact wp_iret (pc := 57) d_X12_aNumber_57 rfl h
theorem d_X12_sum_0 : decode prog_14_method_44_code 0 = .ok (.aload_n 0, 1) := by decide +kernel
theorem d_X12_sum_1 : decode prog_14_method_44_code 1 = .ok (.invokevirtual 430, 3) := by decide +kernel
theorem d_X12_sum_4 : decode prog_14_method_44_code 4 = .ok (.aload_n 0, 1) := by decide +kernel
theorem d_X12_sum_5 : decode prog_14_method_44_code 5 = .ok (.getfield 311, 3) := by decide +kernel
theorem d_X12_sum_8 : decode prog_14_method_44_code 8 = .ok (.ifCond .ne 33, 3) := by decide +kernel
theorem d_X12_sum_11 : decode prog_14_method_44_code 11 = .ok (.aload_n 0, 1) := by decide +kernel
theorem d_X12_sum_12 : decode prog_14_method_44_code 12 = .ok (.getfield 292, 3) := by decide +kernel
theorem d_X12_sum_15 : decode prog_14_method_44_code 15 = .ok (.bipush 43, 2) := by decide +kernel
theorem d_X12_sum_17 : decode prog_14_method_44_code 17 = .ok (.if_icmp .eq 12, 3) := by decide +kernel
theorem d_X12_sum_20 : decode prog_14_method_44_code 20 = .ok (.aload_n 0, 1) := by decide +kernel
theorem d_X12_sum_21 : decode prog_14_method_44_code 21 = .ok (.getfield 292, 3) := by decide +kernel
theorem d_X12_sum_24 : decode prog_14_method_44_code 24 = .ok (.bipush 45, 2) := by decide +kernel
theorem d_X12_sum_26 : decode prog_14_method_44_code 26 = .ok (.if_icmp .ne 15, 3) := by decide +kernel
theorem d_X12_sum_29 : decode prog_14_method_44_code 29 = .ok (.aload_n 0, 1) := by decide +kernel
theorem d_X12_sum_30 : decode prog_14_method_44_code 30 = .ok (.iconst 0, 1) := by decide +kernel
theorem d_X12_sum_31 : decode prog_14_method_44_code 31 = .ok (.invokevirtual 330, 3) := by decide +kernel
theorem d_X12_sum_34 : decode prog_14_method_44_code 34 = .ok (.aload_n 0, 1) := by decide +kernel
theorem d_X12_sum_35 : decode prog_14_method_44_code 35 = .ok (.invokevirtual 430, 3) := by decide +kernel
theorem d_X12_sum_38 : decode prog_14_method_44_code 38 = .ok (.goto (-34), 3) := by decide +kernel
theorem d_X12_sum_41 : decode prog_14_method_44_code 41 = .ok (.return_, 1) := by decide +kernel
theorem v_X12_sum_0 {E : EE} {d : Nat} {Q : Option AV → AH → Prop} {x0 : Nat} {G : AH} (h0 : 0 < d) (h : isO E G x0 12 ∧ (wpV E (d - 1) M_X12_term [vr x0] G (fun G1 => wp E d M_X12_sum 4 [some (vr x0)] [] G1 Q))) : wp E d M_X12_sum 0 [some (vr x0)] [] G Q := by
  refine wp_aload_n (pc := 0) d_X12_sum_0 rfl ?_
  obtain ⟨ho2, h⟩ := h
  refine wp_invV (pc := 1) (N := M_X12_term) (As := []) (rest := []) (r := (cn_12, ct_12, 95)) d_X12_sum_1 ml_X12_430 mk_X12_term mv_X12_term h0 ho2 rfl rfl (Nat.le_of_ble_eq_true rfl) ?_
  refine wpM.mono h (fun rr G1 hr => ?_)
  obtain ⟨rfl, h⟩ := hr
  show wp E d M_X12_sum 4 [some (vr _)] [] G1 Q
  refine wp_sub ?_ h
  exact ⟨rfl, trivial⟩
theorem v_X12_sum_4 {E : EE} {d : Nat} {Q : Option AV → AH → Prop} {x0 : Nat} {G : AH} (h : isO E G x0 12 ∧ ((¬ (gI G x0 45) = 0 → Q none G) ∧ ((gI G x0 45) = 0 → ((gI G x0 41) = 43 → wp E d M_X12_sum 29 [some (vr x0)] [] G Q) ∧ (¬ ((gI G x0 41) = 43) → (¬ (gI G x0 41) = 45 → Q none G) ∧ ((gI G x0 41) = 45 → wp E d M_X12_sum 29 [some (vr x0)] [] G Q))))) : wp E d M_X12_sum 4 [some (vr x0)] [] G Q := by
  refine wp_aload_n (pc := 4) d_X12_sum_4 rfl ?_
  obtain ⟨ho1, h⟩ := h
  refine wp_getI (pc := 5) d_X12_sum_5 fl_X12_311 (fun _ _ _ => rfl) ho1 ?_
  refine wp_if_ne (pc := 8) (tgt := 41) d_X12_sum_8 (by decide) (fun hc => ?_) (fun hc => ?_)
  · have h := h.1 hc
    exact wp_vret (pc := 41) d_X12_sum_41 rfl h
  · have h := h.2 hc
    refine wp_aload_n (pc := 11) d_X12_sum_11 rfl ?_
    refine wp_getI (pc := 12) d_X12_sum_12 fl_X12_292 (fun _ _ _ => rfl) ho1 ?_
    refine wp_bipush (pc := 15) (v := 43) d_X12_sum_15 rfl ?_
    refine wp_icmp_eq (pc := 17) (tgt := 29) d_X12_sum_17 (by decide) (fun hc => ?_) (fun hc => ?_)
    · have h := h.1 hc
      refine wp_sub ?_ h
      exact ⟨rfl, trivial⟩
    · have h := h.2 hc
      refine wp_aload_n (pc := 20) d_X12_sum_20 rfl ?_
      refine wp_getI (pc := 21) d_X12_sum_21 fl_X12_292 (fun _ _ _ => rfl) ho1 ?_
      refine wp_bipush (pc := 24) (v := 45) d_X12_sum_24 rfl ?_
      refine wp_icmp_ne (pc := 26) (tgt := 41) d_X12_sum_26 (by decide) (fun hc => ?_) (fun hc => ?_)
      · have h := h.1 hc
        exact wp_vret (pc := 41) d_X12_sum_41 rfl h
      · have h := h.2 hc
        refine wp_sub ?_ h
        exact ⟨rfl, trivial⟩
theorem v_X12_sum_29 {E : EE} {d : Nat} {Q : Option AV → AH → Prop} {x0 : Nat} {G : AH} (h0 : 0 < d) (h : isO E G x0 12 ∧ (wpV E (d - 1) M_X12_keep [vr x0, vi 0] G (fun G1 => isO E G1 x0 12 ∧ (wpV E (d - 1) M_X12_term [vr x0] G1 (fun G2 => wp E d M_X12_sum 4 [some (vr x0)] [] G2 Q))))) : wp E d M_X12_sum 29 [some (vr x0)] [] G Q := by
  refine wp_aload_n (pc := 29) d_X12_sum_29 rfl ?_
  refine wp_iconst (pc := 30) (v := 0) d_X12_sum_30 rfl ?_
  obtain ⟨ho4, h⟩ := h
  refine wp_invV (pc := 31) (N := M_X12_keep) (As := [vi _]) (rest := []) (r := (cn_12, ct_12, 95)) d_X12_sum_31 ml_X12_330 mk_X12_keep mv_X12_keep h0 ho4 rfl rfl (Nat.le_of_ble_eq_true rfl) ?_
  refine wpM.mono h (fun rr G1 hr => ?_)
  obtain ⟨rfl, h⟩ := hr
  show wp E d M_X12_sum 34 [some (vr _)] [] G1 Q
  refine wp_aload_n (pc := 34) d_X12_sum_34 rfl ?_
  obtain ⟨ho3, h⟩ := h
  refine wp_invV (pc := 35) (N := M_X12_term) (As := []) (rest := []) (r := (cn_12, ct_12, 95)) d_X12_sum_35 ml_X12_430 mk_X12_term mv_X12_term h0 ho3 rfl rfl (Nat.le_of_ble_eq_true rfl) ?_
  refine wpM.mono h (fun rr G2 hr => ?_)
  obtain ⟨rfl, h⟩ := hr
  show wp E d M_X12_sum 38 [some (vr _)] [] G2 Q
  refine wp_goto (pc := 38) (tgt := 4) d_X12_sum_38 (by decide) ?_
  refine wp_sub ?_ h
  exact ⟨rfl, trivial⟩
theorem d_X12_term_0 : decode prog_14_method_45_code 0 = .ok (.aload_n 0, 1) := by decide +kernel
theorem d_X12_term_1 : decode prog_14_method_45_code 1 = .ok (.invokevirtual 433, 3) := by decide +kernel
theorem d_X12_term_4 : decode prog_14_method_45_code 4 = .ok (.aload_n 0, 1) := by decide +kernel
theorem d_X12_term_5 : decode prog_14_method_45_code 5 = .ok (.getfield 311, 3) := by decide +kernel
theorem d_X12_term_8 : decode prog_14_method_45_code 8 = .ok (.ifCond .ne 24, 3) := by decide +kernel
theorem d_X12_term_11 : decode prog_14_method_45_code 11 = .ok (.aload_n 0, 1) := by decide +kernel
theorem d_X12_term_12 : decode prog_14_method_45_code 12 = .ok (.getfield 292, 3) := by decide +kernel
theorem d_X12_term_15 : decode prog_14_method_45_code 15 = .ok (.bipush 42, 2) := by decide +kernel
theorem d_X12_term_17 : decode prog_14_method_45_code 17 = .ok (.if_icmp .ne 15, 3) := by decide +kernel
theorem d_X12_term_20 : decode prog_14_method_45_code 20 = .ok (.aload_n 0, 1) := by decide +kernel
theorem d_X12_term_21 : decode prog_14_method_45_code 21 = .ok (.iconst 0, 1) := by decide +kernel
theorem d_X12_term_22 : decode prog_14_method_45_code 22 = .ok (.invokevirtual 330, 3) := by decide +kernel
theorem d_X12_term_25 : decode prog_14_method_45_code 25 = .ok (.aload_n 0, 1) := by decide +kernel
theorem d_X12_term_26 : decode prog_14_method_45_code 26 = .ok (.invokevirtual 433, 3) := by decide +kernel
theorem d_X12_term_29 : decode prog_14_method_45_code 29 = .ok (.goto (-25), 3) := by decide +kernel
theorem d_X12_term_32 : decode prog_14_method_45_code 32 = .ok (.return_, 1) := by decide +kernel
theorem v_X12_term_0 {E : EE} {d : Nat} {Q : Option AV → AH → Prop} {x0 : Nat} {G : AH} (h0 : 0 < d) (h : isO E G x0 12 ∧ (wpV E (d - 1) M_X12_factor [vr x0] G (fun G1 => wp E d M_X12_term 4 [some (vr x0)] [] G1 Q))) : wp E d M_X12_term 0 [some (vr x0)] [] G Q := by
  refine wp_aload_n (pc := 0) d_X12_term_0 rfl ?_
  obtain ⟨ho2, h⟩ := h
  refine wp_invV (pc := 1) (N := M_X12_factor) (As := []) (rest := []) (r := (cn_12, ct_12, 95)) d_X12_term_1 ml_X12_433 mk_X12_factor mv_X12_factor h0 ho2 rfl rfl (Nat.le_of_ble_eq_true rfl) ?_
  refine wpM.mono h (fun rr G1 hr => ?_)
  obtain ⟨rfl, h⟩ := hr
  show wp E d M_X12_term 4 [some (vr _)] [] G1 Q
  refine wp_sub ?_ h
  exact ⟨rfl, trivial⟩
theorem v_X12_term_4 {E : EE} {d : Nat} {Q : Option AV → AH → Prop} {x0 : Nat} {G : AH} (h0 : 0 < d) (h : isO E G x0 12 ∧ ((¬ (gI G x0 45) = 0 → Q none G) ∧ ((gI G x0 45) = 0 → (¬ (gI G x0 41) = 42 → Q none G) ∧ ((gI G x0 41) = 42 → wpV E (d - 1) M_X12_keep [vr x0, vi 0] G (fun G2 => isO E G2 x0 12 ∧ (wpV E (d - 1) M_X12_factor [vr x0] G2 (fun G3 => wp E d M_X12_term 4 [some (vr x0)] [] G3 Q))))))) : wp E d M_X12_term 4 [some (vr x0)] [] G Q := by
  refine wp_aload_n (pc := 4) d_X12_term_4 rfl ?_
  obtain ⟨ho1, h⟩ := h
  refine wp_getI (pc := 5) d_X12_term_5 fl_X12_311 (fun _ _ _ => rfl) ho1 ?_
  refine wp_if_ne (pc := 8) (tgt := 32) d_X12_term_8 (by decide) (fun hc => ?_) (fun hc => ?_)
  · have h := h.1 hc
    exact wp_vret (pc := 32) d_X12_term_32 rfl h
  · have h := h.2 hc
    refine wp_aload_n (pc := 11) d_X12_term_11 rfl ?_
    refine wp_getI (pc := 12) d_X12_term_12 fl_X12_292 (fun _ _ _ => rfl) ho1 ?_
    refine wp_bipush (pc := 15) (v := 42) d_X12_term_15 rfl ?_
    refine wp_icmp_ne (pc := 17) (tgt := 32) d_X12_term_17 (by decide) (fun hc => ?_) (fun hc => ?_)
    · have h := h.1 hc
      exact wp_vret (pc := 32) d_X12_term_32 rfl h
    · have h := h.2 hc
      refine wp_aload_n (pc := 20) d_X12_term_20 rfl ?_
      refine wp_iconst (pc := 21) (v := 0) d_X12_term_21 rfl ?_
      refine wp_invV (pc := 22) (N := M_X12_keep) (As := [vi _]) (rest := []) (r := (cn_12, ct_12, 95)) d_X12_term_22 ml_X12_330 mk_X12_keep mv_X12_keep h0 ho1 rfl rfl (Nat.le_of_ble_eq_true rfl) ?_
      refine wpM.mono h (fun rr G2 hr => ?_)
      obtain ⟨rfl, h⟩ := hr
      show wp E d M_X12_term 25 [some (vr _)] [] G2 Q
      refine wp_aload_n (pc := 25) d_X12_term_25 rfl ?_
      obtain ⟨ho4, h⟩ := h
      refine wp_invV (pc := 26) (N := M_X12_factor) (As := []) (rest := []) (r := (cn_12, ct_12, 95)) d_X12_term_26 ml_X12_433 mk_X12_factor mv_X12_factor h0 ho4 rfl rfl (Nat.le_of_ble_eq_true rfl) ?_
      refine wpM.mono h (fun rr G3 hr => ?_)
      obtain ⟨rfl, h⟩ := hr
      show wp E d M_X12_term 29 [some (vr _)] [] G3 Q
      refine wp_goto (pc := 29) (tgt := 4) d_X12_term_29 (by decide) ?_
      refine wp_sub ?_ h
      exact ⟨rfl, trivial⟩
theorem d_X12_factor_0 : decode prog_14_method_46_code 0 = .ok (.aload_n 0, 1) := by decide +kernel
theorem d_X12_factor_1 : decode prog_14_method_46_code 1 = .ok (.getfield 311, 3) := by decide +kernel
theorem d_X12_factor_4 : decode prog_14_method_46_code 4 = .ok (.ifCond .eq 4, 3) := by decide +kernel
theorem d_X12_factor_7 : decode prog_14_method_46_code 7 = .ok (.return_, 1) := by decide +kernel
theorem d_X12_factor_8 : decode prog_14_method_46_code 8 = .ok (.aload_n 0, 1) := by decide +kernel
theorem d_X12_factor_9 : decode prog_14_method_46_code 9 = .ok (.getfield 292, 3) := by decide +kernel
theorem d_X12_factor_12 : decode prog_14_method_46_code 12 = .ok (.iconst 2, 1) := by decide +kernel
theorem d_X12_factor_13 : decode prog_14_method_46_code 13 = .ok (.if_icmp .ne 14, 3) := by decide +kernel
theorem d_X12_factor_16 : decode prog_14_method_46_code 16 = .ok (.aload_n 0, 1) := by decide +kernel
theorem d_X12_factor_17 : decode prog_14_method_46_code 17 = .ok (.aload_n 0, 1) := by decide +kernel
theorem d_X12_factor_18 : decode prog_14_method_46_code 18 = .ok (.getfield 305, 3) := by decide +kernel
theorem d_X12_factor_21 : decode prog_14_method_46_code 21 = .ok (.invokevirtual 330, 3) := by decide +kernel
theorem d_X12_factor_24 : decode prog_14_method_46_code 24 = .ok (.goto 208, 3) := by decide +kernel
theorem d_X12_factor_27 : decode prog_14_method_46_code 27 = .ok (.aload_n 0, 1) := by decide +kernel
theorem d_X12_factor_28 : decode prog_14_method_46_code 28 = .ok (.getfield 292, 3) := by decide +kernel
theorem d_X12_factor_31 : decode prog_14_method_46_code 31 = .ok (.iconst 1, 1) := by decide +kernel
theorem d_X12_factor_32 : decode prog_14_method_46_code 32 = .ok (.if_icmp .ne 43, 3) := by decide +kernel
theorem d_X12_factor_35 : decode prog_14_method_46_code 35 = .ok (.aload_n 0, 1) := by decide +kernel
theorem d_X12_factor_36 : decode prog_14_method_46_code 36 = .ok (.aload_n 0, 1) := by decide +kernel
theorem d_X12_factor_37 : decode prog_14_method_46_code 37 = .ok (.getfield 321, 3) := by decide +kernel
theorem d_X12_factor_40 : decode prog_14_method_46_code 40 = .ok (.invokevirtual 341, 3) := by decide +kernel
theorem d_X12_factor_43 : decode prog_14_method_46_code 43 = .ok (.istore_n 1, 1) := by decide +kernel
theorem d_X12_factor_44 : decode prog_14_method_46_code 44 = .ok (.iload_n 1, 1) := by decide +kernel
theorem d_X12_factor_45 : decode prog_14_method_46_code 45 = .ok (.ifCond .lt 10, 3) := by decide +kernel
theorem d_X12_factor_48 : decode prog_14_method_46_code 48 = .ok (.iload_n 1, 1) := by decide +kernel
theorem d_X12_factor_49 : decode prog_14_method_46_code 49 = .ok (.sipush 200, 3) := by decide +kernel
theorem d_X12_factor_52 : decode prog_14_method_46_code 52 = .ok (.if_icmp .lt 15, 3) := by decide +kernel
theorem d_X12_factor_55 : decode prog_14_method_46_code 55 = .ok (.aload_n 0, 1) := by decide +kernel
theorem d_X12_factor_56 : decode prog_14_method_46_code 56 = .ok (.iconst 4, 1) := by decide +kernel
theorem d_X12_factor_57 : decode prog_14_method_46_code 57 = .ok (.aload_n 0, 1) := by decide +kernel
theorem d_X12_factor_58 : decode prog_14_method_46_code 58 = .ok (.getfield 241, 3) := by decide +kernel
theorem d_X12_factor_61 : decode prog_14_method_46_code 61 = .ok (.invokevirtual 317, 3) := by decide +kernel
theorem d_X12_factor_64 : decode prog_14_method_46_code 64 = .ok (.goto 8, 3) := by decide +kernel
theorem d_X12_factor_67 : decode prog_14_method_46_code 67 = .ok (.aload_n 0, 1) := by decide +kernel
theorem d_X12_factor_68 : decode prog_14_method_46_code 68 = .ok (.iload_n 1, 1) := by decide +kernel
theorem d_X12_factor_69 : decode prog_14_method_46_code 69 = .ok (.invokevirtual 330, 3) := by decide +kernel
theorem d_X12_factor_72 : decode prog_14_method_46_code 72 = .ok (.goto 160, 3) := by decide +kernel
theorem d_X12_factor_75 : decode prog_14_method_46_code 75 = .ok (.aload_n 0, 1) := by decide +kernel
theorem d_X12_factor_76 : decode prog_14_method_46_code 76 = .ok (.getfield 292, 3) := by decide +kernel
theorem d_X12_factor_79 : decode prog_14_method_46_code 79 = .ok (.bipush 45, 2) := by decide +kernel
theorem d_X12_factor_81 : decode prog_14_method_46_code 81 = .ok (.if_icmp .ne 32, 3) := by decide +kernel
theorem d_X12_factor_84 : decode prog_14_method_46_code 84 = .ok (.aload_n 0, 1) := by decide +kernel
theorem d_X12_factor_85 : decode prog_14_method_46_code 85 = .ok (.invokevirtual 399, 3) := by decide +kernel
theorem d_X12_factor_88 : decode prog_14_method_46_code 88 = .ok (.ifCond .eq 144, 3) := by decide +kernel
theorem d_X12_factor_91 : decode prog_14_method_46_code 91 = .ok (.aload_n 0, 1) := by decide +kernel
theorem d_X12_factor_92 : decode prog_14_method_46_code 92 = .ok (.iconst 0, 1) := by decide +kernel
theorem d_X12_factor_93 : decode prog_14_method_46_code 93 = .ok (.invokevirtual 330, 3) := by decide +kernel
theorem d_X12_factor_96 : decode prog_14_method_46_code 96 = .ok (.aload_n 0, 1) := by decide +kernel
theorem d_X12_factor_97 : decode prog_14_method_46_code 97 = .ok (.invokevirtual 433, 3) := by decide +kernel
theorem d_X12_factor_100 : decode prog_14_method_46_code 100 = .ok (.aload_n 0, 1) := by decide +kernel
theorem d_X12_factor_101 : decode prog_14_method_46_code 101 = .ok (.dup, 1) := by decide +kernel
theorem d_X12_factor_102 : decode prog_14_method_46_code 102 = .ok (.getfield 334, 3) := by decide +kernel
theorem d_X12_factor_105 : decode prog_14_method_46_code 105 = .ok (.iconst 1, 1) := by decide +kernel
theorem d_X12_factor_106 : decode prog_14_method_46_code 106 = .ok (.isub, 1) := by decide +kernel
theorem d_X12_factor_107 : decode prog_14_method_46_code 107 = .ok (.putfield 334, 3) := by decide +kernel
theorem d_X12_factor_110 : decode prog_14_method_46_code 110 = .ok (.goto 122, 3) := by decide +kernel
theorem d_X12_factor_113 : decode prog_14_method_46_code 113 = .ok (.aload_n 0, 1) := by decide +kernel
theorem d_X12_factor_114 : decode prog_14_method_46_code 114 = .ok (.getfield 292, 3) := by decide +kernel
theorem d_X12_factor_117 : decode prog_14_method_46_code 117 = .ok (.bipush 40, 2) := by decide +kernel
theorem d_X12_factor_119 : decode prog_14_method_46_code 119 = .ok (.if_icmp .ne 11, 3) := by decide +kernel
theorem d_X12_factor_122 : decode prog_14_method_46_code 122 = .ok (.aload_n 0, 1) := by decide +kernel
theorem d_X12_factor_123 : decode prog_14_method_46_code 123 = .ok (.iconst 0, 1) := by decide +kernel
theorem d_X12_factor_124 : decode prog_14_method_46_code 124 = .ok (.invokevirtual 436, 3) := by decide +kernel
theorem d_X12_factor_127 : decode prog_14_method_46_code 127 = .ok (.goto 105, 3) := by decide +kernel
theorem d_X12_factor_130 : decode prog_14_method_46_code 130 = .ok (.aload_n 0, 1) := by decide +kernel
theorem d_X12_factor_131 : decode prog_14_method_46_code 131 = .ok (.getfield 292, 3) := by decide +kernel
theorem d_X12_factor_134 : decode prog_14_method_46_code 134 = .ok (.sipush 313, 3) := by decide +kernel
theorem d_X12_factor_137 : decode prog_14_method_46_code 137 = .ok (.if_icmp .lt 47, 3) := by decide +kernel
theorem d_X12_factor_140 : decode prog_14_method_46_code 140 = .ok (.aload_n 0, 1) := by decide +kernel
theorem d_X12_factor_141 : decode prog_14_method_46_code 141 = .ok (.getfield 292, 3) := by decide +kernel
theorem d_X12_factor_144 : decode prog_14_method_46_code 144 = .ok (.sipush 316, 3) := by decide +kernel
theorem d_X12_factor_147 : decode prog_14_method_46_code 147 = .ok (.if_icmp .gt 37, 3) := by decide +kernel
theorem d_X12_factor_150 : decode prog_14_method_46_code 150 = .ok (.aload_n 0, 1) := by decide +kernel
theorem d_X12_factor_151 : decode prog_14_method_46_code 151 = .ok (.getfield 292, 3) := by decide +kernel
theorem d_X12_factor_154 : decode prog_14_method_46_code 154 = .ok (.istore_n 1, 1) := by decide +kernel
theorem d_X12_factor_155 : decode prog_14_method_46_code 155 = .ok (.aload_n 0, 1) := by decide +kernel
theorem d_X12_factor_156 : decode prog_14_method_46_code 156 = .ok (.iconst 0, 1) := by decide +kernel
theorem d_X12_factor_157 : decode prog_14_method_46_code 157 = .ok (.invokevirtual 330, 3) := by decide +kernel
theorem d_X12_factor_160 : decode prog_14_method_46_code 160 = .ok (.aload_n 0, 1) := by decide +kernel
theorem d_X12_factor_161 : decode prog_14_method_46_code 161 = .ok (.getfield 292, 3) := by decide +kernel
theorem d_X12_factor_164 : decode prog_14_method_46_code 164 = .ok (.bipush 40, 2) := by decide +kernel
theorem d_X12_factor_166 : decode prog_14_method_46_code 166 = .ok (.if_icmp .eq 10, 3) := by decide +kernel
theorem d_X12_factor_169 : decode prog_14_method_46_code 169 = .ok (.aload_n 0, 1) := by decide +kernel
theorem d_X12_factor_170 : decode prog_14_method_46_code 170 = .ok (.invokevirtual 327, 3) := by decide +kernel
theorem d_X12_factor_173 : decode prog_14_method_46_code 173 = .ok (.goto 8, 3) := by decide +kernel
theorem d_X12_factor_176 : decode prog_14_method_46_code 176 = .ok (.aload_n 0, 1) := by decide +kernel
theorem d_X12_factor_177 : decode prog_14_method_46_code 177 = .ok (.iload_n 1, 1) := by decide +kernel
theorem d_X12_factor_178 : decode prog_14_method_46_code 178 = .ok (.invokevirtual 436, 3) := by decide +kernel
theorem d_X12_factor_181 : decode prog_14_method_46_code 181 = .ok (.goto 51, 3) := by decide +kernel
theorem d_X12_factor_184 : decode prog_14_method_46_code 184 = .ok (.aload_n 0, 1) := by decide +kernel
theorem d_X12_factor_185 : decode prog_14_method_46_code 185 = .ok (.getfield 292, 3) := by decide +kernel
theorem d_X12_factor_188 : decode prog_14_method_46_code 188 = .ok (.bipush 91, 2) := by decide +kernel
theorem d_X12_factor_190 : decode prog_14_method_46_code 190 = .ok (.if_icmp .ne 38, 3) := by decide +kernel
theorem d_X12_factor_193 : decode prog_14_method_46_code 193 = .ok (.aload_n 0, 1) := by decide +kernel
theorem d_X12_factor_194 : decode prog_14_method_46_code 194 = .ok (.invokevirtual 399, 3) := by decide +kernel
theorem d_X12_factor_197 : decode prog_14_method_46_code 197 = .ok (.ifCond .eq 35, 3) := by decide +kernel
theorem d_X12_factor_200 : decode prog_14_method_46_code 200 = .ok (.aload_n 0, 1) := by decide +kernel
theorem d_X12_factor_201 : decode prog_14_method_46_code 201 = .ok (.iconst 0, 1) := by decide +kernel
theorem d_X12_factor_202 : decode prog_14_method_46_code 202 = .ok (.invokevirtual 330, 3) := by decide +kernel
theorem d_X12_factor_205 : decode prog_14_method_46_code 205 = .ok (.aload_n 0, 1) := by decide +kernel
theorem d_X12_factor_206 : decode prog_14_method_46_code 206 = .ok (.invokevirtual 390, 3) := by decide +kernel
theorem d_X12_factor_209 : decode prog_14_method_46_code 209 = .ok (.aload_n 0, 1) := by decide +kernel
theorem d_X12_factor_210 : decode prog_14_method_46_code 210 = .ok (.bipush 93, 2) := by decide +kernel
theorem d_X12_factor_212 : decode prog_14_method_46_code 212 = .ok (.invokevirtual 373, 3) := by decide +kernel
theorem d_X12_factor_215 : decode prog_14_method_46_code 215 = .ok (.aload_n 0, 1) := by decide +kernel
theorem d_X12_factor_216 : decode prog_14_method_46_code 216 = .ok (.dup, 1) := by decide +kernel
theorem d_X12_factor_217 : decode prog_14_method_46_code 217 = .ok (.getfield 334, 3) := by decide +kernel
theorem d_X12_factor_220 : decode prog_14_method_46_code 220 = .ok (.iconst 1, 1) := by decide +kernel
theorem d_X12_factor_221 : decode prog_14_method_46_code 221 = .ok (.isub, 1) := by decide +kernel
theorem d_X12_factor_222 : decode prog_14_method_46_code 222 = .ok (.putfield 334, 3) := by decide +kernel
theorem d_X12_factor_225 : decode prog_14_method_46_code 225 = .ok (.goto 7, 3) := by decide +kernel
theorem d_X12_factor_228 : decode prog_14_method_46_code 228 = .ok (.aload_n 0, 1) := by decide +kernel
theorem d_X12_factor_229 : decode prog_14_method_46_code 229 = .ok (.invokevirtual 327, 3) := by decide +kernel
theorem d_X12_factor_232 : decode prog_14_method_46_code 232 = .ok (.return_, 1) := by decide +kernel
theorem v_X12_factor_0 {E : EE} {d : Nat} {Q : Option AV → AH → Prop} {x0 : Nat} {G : AH} (h0 : 0 < d) (h : isO E G x0 12 ∧ (((gI G x0 45) = 0 → (¬ (gI G x0 41) = 2 → (¬ (gI G x0 41) = 1 → (¬ (gI G x0 41) = 45 → (¬ (gI G x0 41) = 40 → ((gI G x0 41) < 313 → wp E d M_X12_factor 184 [some (vr x0), none] [] G Q) ∧ (¬ ((gI G x0 41) < 313) → (316 < (gI G x0 41) → wp E d M_X12_factor 184 [some (vr x0), none] [] G Q) ∧ (¬ (316 < (gI G x0 41)) → wpV E (d - 1) M_X12_keep [vr x0, vi 0] G (fun G2 => isO E G2 x0 12 ∧ (((gI G2 x0 41) = 40 → wpV E (d - 1) M_X12_bracket [vr x0, vi (gI G x0 41)] G2 (fun G4 => wp E d M_X12_factor 181 [some (vr x0), some (vi (gI G x0 41))] [] G4 Q)) ∧ (¬ ((gI G2 x0 41) = 40) → wpV E (d - 1) M_X12_failHere [vr x0] G2 (fun G5 => wp E d M_X12_factor 181 [some (vr x0), some (vi (gI G x0 41))] [] G5 Q))))))) ∧ ((gI G x0 41) = 40 → wpV E (d - 1) M_X12_bracket [vr x0, vi 0] G (fun G6 => Q none G6))) ∧ ((gI G x0 41) = 45 → wpI E (d - 1) M_X12_opens [vr x0] G (fun r7 G8 => (r7 = 0 → Q none G8) ∧ (¬ (r7 = 0) → isO E G8 x0 12 ∧ (wpV E (d - 1) M_X12_keep [vr x0, vi 0] G8 (fun G9 => isO E G9 x0 12 ∧ (wpV E (d - 1) M_X12_factor [vr x0] G9 (fun G10 => isO E G10 x0 12 ∧ (Q none (sI G10 x0 48 ((gI G10 x0 48) - 1))))))))))) ∧ ((gI G x0 41) = 1 → wpI E (d - 1) M_X12_meaning [vr x0, vi (gI G x0 47)] G (fun r14 G15 => (r14 < 0 → wp E d M_X12_factor 55 [some (vr x0), some (vi r14)] [] G15 Q) ∧ (¬ (r14 < 0) → (r14 < 200 → isO E G15 x0 12 ∧ (wpV E (d - 1) M_X12_keep [vr x0, vi r14] G15 (fun G16 => wp E d M_X12_factor 72 [some (vr x0), some (vi r14)] [] G16 Q))) ∧ (¬ (r14 < 200) → wp E d M_X12_factor 55 [some (vr x0), some (vi r14)] [] G15 Q))))) ∧ ((gI G x0 41) = 2 → wpV E (d - 1) M_X12_keep [vr x0, vi (gI G x0 42)] G (fun G18 => Q none G18))) ∧ (¬ ((gI G x0 45) = 0) → Q none G))) : wp E d M_X12_factor 0 [some (vr x0), none] [] G Q := by
  refine wp_aload_n (pc := 0) d_X12_factor_0 rfl ?_
  obtain ⟨ho1, h⟩ := h
  refine wp_getI (pc := 1) d_X12_factor_1 fl_X12_311 (fun _ _ _ => rfl) ho1 ?_
  refine wp_if_eq (pc := 4) (tgt := 8) d_X12_factor_4 (by decide) (fun hc => ?_) (fun hc => ?_)
  · have h := h.1 hc
    refine wp_aload_n (pc := 8) d_X12_factor_8 rfl ?_
    refine wp_getI (pc := 9) d_X12_factor_9 fl_X12_292 (fun _ _ _ => rfl) ho1 ?_
    refine wp_iconst (pc := 12) (v := 2) d_X12_factor_12 rfl ?_
    refine wp_icmp_ne (pc := 13) (tgt := 27) d_X12_factor_13 (by decide) (fun hc => ?_) (fun hc => ?_)
    · have h := h.1 hc
      refine wp_aload_n (pc := 27) d_X12_factor_27 rfl ?_
      refine wp_getI (pc := 28) d_X12_factor_28 fl_X12_292 (fun _ _ _ => rfl) ho1 ?_
      refine wp_iconst (pc := 31) (v := 1) d_X12_factor_31 rfl ?_
      refine wp_icmp_ne (pc := 32) (tgt := 75) d_X12_factor_32 (by decide) (fun hc => ?_) (fun hc => ?_)
      · have h := h.1 hc
        refine wp_aload_n (pc := 75) d_X12_factor_75 rfl ?_
        refine wp_getI (pc := 76) d_X12_factor_76 fl_X12_292 (fun _ _ _ => rfl) ho1 ?_
        refine wp_bipush (pc := 79) (v := 45) d_X12_factor_79 rfl ?_
        refine wp_icmp_ne (pc := 81) (tgt := 113) d_X12_factor_81 (by decide) (fun hc => ?_) (fun hc => ?_)
        · have h := h.1 hc
          refine wp_aload_n (pc := 113) d_X12_factor_113 rfl ?_
          refine wp_getI (pc := 114) d_X12_factor_114 fl_X12_292 (fun _ _ _ => rfl) ho1 ?_
          refine wp_bipush (pc := 117) (v := 40) d_X12_factor_117 rfl ?_
          refine wp_icmp_ne (pc := 119) (tgt := 130) d_X12_factor_119 (by decide) (fun hc => ?_) (fun hc => ?_)
          · have h := h.1 hc
            refine wp_aload_n (pc := 130) d_X12_factor_130 rfl ?_
            refine wp_getI (pc := 131) d_X12_factor_131 fl_X12_292 (fun _ _ _ => rfl) ho1 ?_
            refine wp_sipush (pc := 134) (v := 313) d_X12_factor_134 rfl ?_
            refine wp_icmp_lt (pc := 137) (tgt := 184) d_X12_factor_137 (by decide) (fun hc => ?_) (fun hc => ?_)
            · have h := h.1 hc
              refine wp_sub ?_ h
              exact ⟨rfl, trivial⟩
            · have h := h.2 hc
              refine wp_aload_n (pc := 140) d_X12_factor_140 rfl ?_
              refine wp_getI (pc := 141) d_X12_factor_141 fl_X12_292 (fun _ _ _ => rfl) ho1 ?_
              refine wp_sipush (pc := 144) (v := 316) d_X12_factor_144 rfl ?_
              refine wp_icmp_gt (pc := 147) (tgt := 184) d_X12_factor_147 (by decide) (fun hc => ?_) (fun hc => ?_)
              · have h := h.1 hc
                refine wp_sub ?_ h
                exact ⟨rfl, trivial⟩
              · have h := h.2 hc
                refine wp_aload_n (pc := 150) d_X12_factor_150 rfl ?_
                refine wp_getI (pc := 151) d_X12_factor_151 fl_X12_292 (fun _ _ _ => rfl) ho1 ?_
                refine wp_istore_n (pc := 154) (lv' := [some (vr _), some (vi _)]) d_X12_factor_154 (by decide) rfl ?_
                refine wp_aload_n (pc := 155) d_X12_factor_155 rfl ?_
                refine wp_iconst (pc := 156) (v := 0) d_X12_factor_156 rfl ?_
                refine wp_invV (pc := 157) (N := M_X12_keep) (As := [vi _]) (rest := []) (r := (cn_12, ct_12, 95)) d_X12_factor_157 ml_X12_330 mk_X12_keep mv_X12_keep h0 ho1 rfl rfl (Nat.le_of_ble_eq_true rfl) ?_
                refine wpM.mono h (fun rr G2 hr => ?_)
                obtain ⟨rfl, h⟩ := hr
                show wp E d M_X12_factor 160 [some (vr _), some (vi _)] [] G2 Q
                refine wp_aload_n (pc := 160) d_X12_factor_160 rfl ?_
                obtain ⟨ho3, h⟩ := h
                refine wp_getI (pc := 161) d_X12_factor_161 fl_X12_292 (fun _ _ _ => rfl) ho3 ?_
                refine wp_bipush (pc := 164) (v := 40) d_X12_factor_164 rfl ?_
                refine wp_icmp_eq (pc := 166) (tgt := 176) d_X12_factor_166 (by decide) (fun hc => ?_) (fun hc => ?_)
                · have h := h.1 hc
                  refine wp_aload_n (pc := 176) d_X12_factor_176 rfl ?_
                  refine wp_iload_n (pc := 177) d_X12_factor_177 rfl ?_
                  refine wp_invV (pc := 178) (N := M_X12_bracket) (As := [vi _]) (rest := []) (r := (cn_12, ct_12, 95)) d_X12_factor_178 ml_X12_436 mk_X12_bracket mv_X12_bracket h0 ho3 rfl rfl (Nat.le_of_ble_eq_true rfl) ?_
                  refine wpM.mono h (fun rr G4 hr => ?_)
                  obtain ⟨rfl, h⟩ := hr
                  show wp E d M_X12_factor 181 [some (vr _), some (vi _)] [] G4 Q
                  refine wp_sub ?_ h
                  exact ⟨rfl, ⟨rfl, trivial⟩⟩
                · have h := h.2 hc
                  refine wp_aload_n (pc := 169) d_X12_factor_169 rfl ?_
                  refine wp_invV (pc := 170) (N := M_X12_failHere) (As := []) (rest := []) (r := (cn_12, ct_12, 95)) d_X12_factor_170 ml_X12_327 mk_X12_failHere mv_X12_failHere h0 ho3 rfl rfl (Nat.le_of_ble_eq_true rfl) ?_
                  refine wpM.mono h (fun rr G5 hr => ?_)
                  obtain ⟨rfl, h⟩ := hr
                  show wp E d M_X12_factor 173 [some (vr _), some (vi _)] [] G5 Q
                  refine wp_goto (pc := 173) (tgt := 181) d_X12_factor_173 (by decide) ?_
                  refine wp_sub ?_ h
                  exact ⟨rfl, ⟨rfl, trivial⟩⟩
          · have h := h.2 hc
            refine wp_aload_n (pc := 122) d_X12_factor_122 rfl ?_
            refine wp_iconst (pc := 123) (v := 0) d_X12_factor_123 rfl ?_
            refine wp_invV (pc := 124) (N := M_X12_bracket) (As := [vi _]) (rest := []) (r := (cn_12, ct_12, 95)) d_X12_factor_124 ml_X12_436 mk_X12_bracket mv_X12_bracket h0 ho1 rfl rfl (Nat.le_of_ble_eq_true rfl) ?_
            refine wpM.mono h (fun rr G6 hr => ?_)
            obtain ⟨rfl, h⟩ := hr
            show wp E d M_X12_factor 127 [some (vr _), none] [] G6 Q
            refine wp_goto (pc := 127) (tgt := 232) d_X12_factor_127 (by decide) ?_
            exact wp_vret (pc := 232) d_X12_factor_232 rfl h
        · have h := h.2 hc
          refine wp_aload_n (pc := 84) d_X12_factor_84 rfl ?_
          refine wp_invV (pc := 85) (N := M_X12_opens) (As := []) (rest := []) (r := (cn_12, ct_12, 95)) d_X12_factor_85 ml_X12_399 mk_X12_opens mv_X12_opens h0 ho1 rfl rfl (Nat.le_of_ble_eq_true rfl) ?_
          refine wpM.mono h (fun rr G8 hr => ?_)
          obtain ⟨r7, rfl, h⟩ := hr
          show wp E d M_X12_factor 88 [some (vr _), none] [vi _] G8 Q
          refine wp_if_eq (pc := 88) (tgt := 232) d_X12_factor_88 (by decide) (fun hc => ?_) (fun hc => ?_)
          · have h := h.1 hc
            exact wp_vret (pc := 232) d_X12_factor_232 rfl h
          · have h := h.2 hc
            refine wp_aload_n (pc := 91) d_X12_factor_91 rfl ?_
            refine wp_iconst (pc := 92) (v := 0) d_X12_factor_92 rfl ?_
            obtain ⟨ho13, h⟩ := h
            refine wp_invV (pc := 93) (N := M_X12_keep) (As := [vi _]) (rest := []) (r := (cn_12, ct_12, 95)) d_X12_factor_93 ml_X12_330 mk_X12_keep mv_X12_keep h0 ho13 rfl rfl (Nat.le_of_ble_eq_true rfl) ?_
            refine wpM.mono h (fun rr G9 hr => ?_)
            obtain ⟨rfl, h⟩ := hr
            show wp E d M_X12_factor 96 [some (vr _), none] [] G9 Q
            refine wp_aload_n (pc := 96) d_X12_factor_96 rfl ?_
            obtain ⟨ho12, h⟩ := h
            refine wp_invV (pc := 97) (N := M_X12_factor) (As := []) (rest := []) (r := (cn_12, ct_12, 95)) d_X12_factor_97 ml_X12_433 mk_X12_factor mv_X12_factor h0 ho12 rfl rfl (Nat.le_of_ble_eq_true rfl) ?_
            refine wpM.mono h (fun rr G10 hr => ?_)
            obtain ⟨rfl, h⟩ := hr
            show wp E d M_X12_factor 100 [some (vr _), none] [] G10 Q
            refine wp_aload_n (pc := 100) d_X12_factor_100 rfl ?_
            refine wp_dup (pc := 101) d_X12_factor_101 (c1_r _) ?_
            obtain ⟨ho11, h⟩ := h
            refine wp_getI (pc := 102) d_X12_factor_102 fl_X12_334 (fun _ _ _ => rfl) ho11 ?_
            refine wp_iconst (pc := 105) (v := 1) d_X12_factor_105 rfl ?_
            refine wp_isub (pc := 106) d_X12_factor_106 ?_
            refine wp_putI (pc := 107) d_X12_factor_107 fl_X12_334 (fun _ _ _ => rfl) (Or.inl rfl) ho11 (okI_int _) ?_
            refine wp_goto (pc := 110) (tgt := 232) d_X12_factor_110 (by decide) ?_
            exact wp_vret (pc := 232) d_X12_factor_232 rfl h
      · have h := h.2 hc
        refine wp_aload_n (pc := 35) d_X12_factor_35 rfl ?_
        refine wp_aload_n (pc := 36) d_X12_factor_36 rfl ?_
        refine wp_getI (pc := 37) d_X12_factor_37 fl_X12_321 (fun _ _ _ => rfl) ho1 ?_
        refine wp_invV (pc := 40) (N := M_X12_meaning) (As := [vi _]) (rest := []) (r := (cn_12, ct_12, 95)) d_X12_factor_40 ml_X12_341 mk_X12_meaning mv_X12_meaning h0 ho1 rfl rfl (Nat.le_of_ble_eq_true rfl) ?_
        refine wpM.mono h (fun rr G15 hr => ?_)
        obtain ⟨r14, rfl, h⟩ := hr
        show wp E d M_X12_factor 43 [some (vr _), none] [vi _] G15 Q
        refine wp_istore_n (pc := 43) (lv' := [some (vr _), some (vi _)]) d_X12_factor_43 (by decide) rfl ?_
        refine wp_iload_n (pc := 44) d_X12_factor_44 rfl ?_
        refine wp_if_lt (pc := 45) (tgt := 55) d_X12_factor_45 (by decide) (fun hc => ?_) (fun hc => ?_)
        · have h := h.1 hc
          refine wp_sub ?_ h
          exact ⟨rfl, ⟨rfl, trivial⟩⟩
        · have h := h.2 hc
          refine wp_iload_n (pc := 48) d_X12_factor_48 rfl ?_
          refine wp_sipush (pc := 49) (v := 200) d_X12_factor_49 rfl ?_
          refine wp_icmp_lt (pc := 52) (tgt := 67) d_X12_factor_52 (by decide) (fun hc => ?_) (fun hc => ?_)
          · have h := h.1 hc
            refine wp_aload_n (pc := 67) d_X12_factor_67 rfl ?_
            refine wp_iload_n (pc := 68) d_X12_factor_68 rfl ?_
            obtain ⟨ho17, h⟩ := h
            refine wp_invV (pc := 69) (N := M_X12_keep) (As := [vi _]) (rest := []) (r := (cn_12, ct_12, 95)) d_X12_factor_69 ml_X12_330 mk_X12_keep mv_X12_keep h0 ho17 rfl rfl (Nat.le_of_ble_eq_true rfl) ?_
            refine wpM.mono h (fun rr G16 hr => ?_)
            obtain ⟨rfl, h⟩ := hr
            show wp E d M_X12_factor 72 [some (vr _), some (vi _)] [] G16 Q
            refine wp_sub ?_ h
            exact ⟨rfl, ⟨rfl, trivial⟩⟩
          · have h := h.2 hc
            refine wp_sub ?_ h
            exact ⟨rfl, ⟨rfl, trivial⟩⟩
    · have h := h.2 hc
      refine wp_aload_n (pc := 16) d_X12_factor_16 rfl ?_
      refine wp_aload_n (pc := 17) d_X12_factor_17 rfl ?_
      refine wp_getI (pc := 18) d_X12_factor_18 fl_X12_305 (fun _ _ _ => rfl) ho1 ?_
      refine wp_invV (pc := 21) (N := M_X12_keep) (As := [vi _]) (rest := []) (r := (cn_12, ct_12, 95)) d_X12_factor_21 ml_X12_330 mk_X12_keep mv_X12_keep h0 ho1 rfl rfl (Nat.le_of_ble_eq_true rfl) ?_
      refine wpM.mono h (fun rr G18 hr => ?_)
      obtain ⟨rfl, h⟩ := hr
      show wp E d M_X12_factor 24 [some (vr _), none] [] G18 Q
      refine wp_goto (pc := 24) (tgt := 232) d_X12_factor_24 (by decide) ?_
      exact wp_vret (pc := 232) d_X12_factor_232 rfl h
  · have h := h.2 hc
    exact wp_vret (pc := 7) d_X12_factor_7 rfl h
theorem v_X12_factor_55 {E : EE} {d : Nat} {Q : Option AV → AH → Prop} {x0 : Nat} {x1 : Int32} {G : AH} (h0 : 0 < d) (h : isO E G x0 12 ∧ (wpV E (d - 1) M_X12_fail [vr x0, vi 4, vi (gI G x0 43)] G (fun G2 => wp E d M_X12_factor 72 [some (vr x0), some (vi x1)] [] G2 Q))) : wp E d M_X12_factor 55 [some (vr x0), some (vi x1)] [] G Q := by
  refine wp_aload_n (pc := 55) d_X12_factor_55 rfl ?_
  refine wp_iconst (pc := 56) (v := 4) d_X12_factor_56 rfl ?_
  refine wp_aload_n (pc := 57) d_X12_factor_57 rfl ?_
  obtain ⟨ho1, h⟩ := h
  refine wp_getI (pc := 58) d_X12_factor_58 fl_X12_241 (fun _ _ _ => rfl) ho1 ?_
  refine wp_invV (pc := 61) (N := M_X12_fail) (As := [vi _, vi _]) (rest := []) (r := (cn_12, ct_12, 95)) d_X12_factor_61 ml_X12_317 mk_X12_fail mv_X12_fail h0 ho1 rfl rfl (Nat.le_of_ble_eq_true rfl) ?_
  refine wpM.mono h (fun rr G2 hr => ?_)
  obtain ⟨rfl, h⟩ := hr
  show wp E d M_X12_factor 64 [some (vr _), some (vi _)] [] G2 Q
  refine wp_goto (pc := 64) (tgt := 72) d_X12_factor_64 (by decide) ?_
  refine wp_sub ?_ h
  exact ⟨rfl, ⟨rfl, trivial⟩⟩
theorem v_X12_factor_72 {E : EE} {d : Nat} {Q : Option AV → AH → Prop} {x0 : Nat} {x1 : Int32} {G : AH} (h : Q none G) : wp E d M_X12_factor 72 [some (vr x0), some (vi x1)] [] G Q := by
  refine wp_goto (pc := 72) (tgt := 232) d_X12_factor_72 (by decide) ?_
  exact wp_vret (pc := 232) d_X12_factor_232 rfl h
theorem v_X12_factor_181 {E : EE} {d : Nat} {Q : Option AV → AH → Prop} {x0 : Nat} {x1 : Int32} {G : AH} (h : Q none G) : wp E d M_X12_factor 181 [some (vr x0), some (vi x1)] [] G Q := by
  refine wp_goto (pc := 181) (tgt := 232) d_X12_factor_181 (by decide) ?_
  exact wp_vret (pc := 232) d_X12_factor_232 rfl h
theorem v_X12_factor_184 {E : EE} {d : Nat} {Q : Option AV → AH → Prop} {x0 : Nat} {G : AH} (h0 : 0 < d) (h : isO E G x0 12 ∧ ((¬ (gI G x0 41) = 91 → wpV E (d - 1) M_X12_failHere [vr x0] G (fun G2 => Q none G2)) ∧ ((gI G x0 41) = 91 → wpI E (d - 1) M_X12_opens [vr x0] G (fun r3 G4 => (r3 = 0 → Q none G4) ∧ (¬ (r3 = 0) → isO E G4 x0 12 ∧ (wpV E (d - 1) M_X12_keep [vr x0, vi 0] G4 (fun G5 => isO E G5 x0 12 ∧ (wpV E (d - 1) M_X12_test [vr x0] G5 (fun G6 => isO E G6 x0 12 ∧ (wpV E (d - 1) M_X12_need [vr x0, vi 93] G6 (fun G7 => isO E G7 x0 12 ∧ (Q none (sI G7 x0 48 ((gI G7 x0 48) - 1)))))))))))))) : wp E d M_X12_factor 184 [some (vr x0), none] [] G Q := by
  refine wp_aload_n (pc := 184) d_X12_factor_184 rfl ?_
  obtain ⟨ho1, h⟩ := h
  refine wp_getI (pc := 185) d_X12_factor_185 fl_X12_292 (fun _ _ _ => rfl) ho1 ?_
  refine wp_bipush (pc := 188) (v := 91) d_X12_factor_188 rfl ?_
  refine wp_icmp_ne (pc := 190) (tgt := 228) d_X12_factor_190 (by decide) (fun hc => ?_) (fun hc => ?_)
  · have h := h.1 hc
    refine wp_aload_n (pc := 228) d_X12_factor_228 rfl ?_
    refine wp_invV (pc := 229) (N := M_X12_failHere) (As := []) (rest := []) (r := (cn_12, ct_12, 95)) d_X12_factor_229 ml_X12_327 mk_X12_failHere mv_X12_failHere h0 ho1 rfl rfl (Nat.le_of_ble_eq_true rfl) ?_
    refine wpM.mono h (fun rr G2 hr => ?_)
    obtain ⟨rfl, h⟩ := hr
    show wp E d M_X12_factor 232 [some (vr _), none] [] G2 Q
    exact wp_vret (pc := 232) d_X12_factor_232 rfl h
  · have h := h.2 hc
    refine wp_aload_n (pc := 193) d_X12_factor_193 rfl ?_
    refine wp_invV (pc := 194) (N := M_X12_opens) (As := []) (rest := []) (r := (cn_12, ct_12, 95)) d_X12_factor_194 ml_X12_399 mk_X12_opens mv_X12_opens h0 ho1 rfl rfl (Nat.le_of_ble_eq_true rfl) ?_
    refine wpM.mono h (fun rr G4 hr => ?_)
    obtain ⟨r3, rfl, h⟩ := hr
    show wp E d M_X12_factor 197 [some (vr _), none] [vi _] G4 Q
    refine wp_if_eq (pc := 197) (tgt := 232) d_X12_factor_197 (by decide) (fun hc => ?_) (fun hc => ?_)
    · have h := h.1 hc
      exact wp_vret (pc := 232) d_X12_factor_232 rfl h
    · have h := h.2 hc
      refine wp_aload_n (pc := 200) d_X12_factor_200 rfl ?_
      refine wp_iconst (pc := 201) (v := 0) d_X12_factor_201 rfl ?_
      obtain ⟨ho11, h⟩ := h
      refine wp_invV (pc := 202) (N := M_X12_keep) (As := [vi _]) (rest := []) (r := (cn_12, ct_12, 95)) d_X12_factor_202 ml_X12_330 mk_X12_keep mv_X12_keep h0 ho11 rfl rfl (Nat.le_of_ble_eq_true rfl) ?_
      refine wpM.mono h (fun rr G5 hr => ?_)
      obtain ⟨rfl, h⟩ := hr
      show wp E d M_X12_factor 205 [some (vr _), none] [] G5 Q
      refine wp_aload_n (pc := 205) d_X12_factor_205 rfl ?_
      obtain ⟨ho10, h⟩ := h
      refine wp_invV (pc := 206) (N := M_X12_test) (As := []) (rest := []) (r := (cn_12, ct_12, 95)) d_X12_factor_206 ml_X12_390 mk_X12_test mv_X12_test h0 ho10 rfl rfl (Nat.le_of_ble_eq_true rfl) ?_
      refine wpM.mono h (fun rr G6 hr => ?_)
      obtain ⟨rfl, h⟩ := hr
      show wp E d M_X12_factor 209 [some (vr _), none] [] G6 Q
      refine wp_aload_n (pc := 209) d_X12_factor_209 rfl ?_
      refine wp_bipush (pc := 210) (v := 93) d_X12_factor_210 rfl ?_
      obtain ⟨ho9, h⟩ := h
      refine wp_invV (pc := 212) (N := M_X12_need) (As := [vi _]) (rest := []) (r := (cn_12, ct_12, 95)) d_X12_factor_212 ml_X12_373 mk_X12_need mv_X12_need h0 ho9 rfl rfl (Nat.le_of_ble_eq_true rfl) ?_
      refine wpM.mono h (fun rr G7 hr => ?_)
      obtain ⟨rfl, h⟩ := hr
      show wp E d M_X12_factor 215 [some (vr _), none] [] G7 Q
      refine wp_aload_n (pc := 215) d_X12_factor_215 rfl ?_
      refine wp_dup (pc := 216) d_X12_factor_216 (c1_r _) ?_
      obtain ⟨ho8, h⟩ := h
      refine wp_getI (pc := 217) d_X12_factor_217 fl_X12_334 (fun _ _ _ => rfl) ho8 ?_
      refine wp_iconst (pc := 220) (v := 1) d_X12_factor_220 rfl ?_
      refine wp_isub (pc := 221) d_X12_factor_221 ?_
      refine wp_putI (pc := 222) d_X12_factor_222 fl_X12_334 (fun _ _ _ => rfl) (Or.inl rfl) ho8 (okI_int _) ?_
      refine wp_goto (pc := 225) (tgt := 232) d_X12_factor_225 (by decide) ?_
      exact wp_vret (pc := 232) d_X12_factor_232 rfl h
theorem d_X12_opens_0 : decode prog_14_method_18_code 0 = .ok (.aload_n 0, 1) := by decide +kernel
theorem d_X12_opens_1 : decode prog_14_method_18_code 1 = .ok (.getfield 334, 3) := by decide +kernel
theorem d_X12_opens_4 : decode prog_14_method_18_code 4 = .ok (.bipush 12, 2) := by decide +kernel
theorem d_X12_opens_6 : decode prog_14_method_18_code 6 = .ok (.if_icmp .ne 15, 3) := by decide +kernel
theorem d_X12_opens_9 : decode prog_14_method_18_code 9 = .ok (.aload_n 0, 1) := by decide +kernel
theorem d_X12_opens_10 : decode prog_14_method_18_code 10 = .ok (.bipush 7, 2) := by decide +kernel
theorem d_X12_opens_12 : decode prog_14_method_18_code 12 = .ok (.aload_n 0, 1) := by decide +kernel
theorem d_X12_opens_13 : decode prog_14_method_18_code 13 = .ok (.getfield 241, 3) := by decide +kernel
theorem d_X12_opens_16 : decode prog_14_method_18_code 16 = .ok (.invokevirtual 317, 3) := by decide +kernel
theorem d_X12_opens_19 : decode prog_14_method_18_code 19 = .ok (.iconst 0, 1) := by decide +kernel
theorem d_X12_opens_20 : decode prog_14_method_18_code 20 = .ok (.ireturn, 1) := by decide +kernel
theorem d_X12_opens_21 : decode prog_14_method_18_code 21 = .ok (.aload_n 0, 1) := by decide +kernel
theorem d_X12_opens_22 : decode prog_14_method_18_code 22 = .ok (.dup, 1) := by decide +kernel
theorem d_X12_opens_23 : decode prog_14_method_18_code 23 = .ok (.getfield 334, 3) := by decide +kernel
theorem d_X12_opens_26 : decode prog_14_method_18_code 26 = .ok (.iconst 1, 1) := by decide +kernel
theorem d_X12_opens_27 : decode prog_14_method_18_code 27 = .ok (.iadd, 1) := by decide +kernel
theorem d_X12_opens_28 : decode prog_14_method_18_code 28 = .ok (.putfield 334, 3) := by decide +kernel
theorem d_X12_opens_31 : decode prog_14_method_18_code 31 = .ok (.iconst 1, 1) := by decide +kernel
theorem d_X12_opens_32 : decode prog_14_method_18_code 32 = .ok (.ireturn, 1) := by decide +kernel
theorem v_X12_opens_0 {E : EE} {d : Nat} {Q : Option AV → AH → Prop} {x0 : Nat} {G : AH} (h0 : 0 < d) (h : isO E G x0 12 ∧ ((¬ (gI G x0 48) = 12 → Q (some (vi 1)) (sI G x0 48 ((gI G x0 48) + 1))) ∧ ((gI G x0 48) = 12 → wpV E (d - 1) M_X12_fail [vr x0, vi 7, vi (gI G x0 43)] G (fun G2 => Q (some (vi 0)) G2)))) : wp E d M_X12_opens 0 [some (vr x0)] [] G Q := by
  refine wp_aload_n (pc := 0) d_X12_opens_0 rfl ?_
  obtain ⟨ho1, h⟩ := h
  refine wp_getI (pc := 1) d_X12_opens_1 fl_X12_334 (fun _ _ _ => rfl) ho1 ?_
  refine wp_bipush (pc := 4) (v := 12) d_X12_opens_4 rfl ?_
  refine wp_icmp_ne (pc := 6) (tgt := 21) d_X12_opens_6 (by decide) (fun hc => ?_) (fun hc => ?_)
  · have h := h.1 hc
    refine wp_aload_n (pc := 21) d_X12_opens_21 rfl ?_
    refine wp_dup (pc := 22) d_X12_opens_22 (c1_r _) ?_
    refine wp_getI (pc := 23) d_X12_opens_23 fl_X12_334 (fun _ _ _ => rfl) ho1 ?_
    refine wp_iconst (pc := 26) (v := 1) d_X12_opens_26 rfl ?_
    refine wp_iadd (pc := 27) d_X12_opens_27 ?_
    refine wp_putI (pc := 28) d_X12_opens_28 fl_X12_334 (fun _ _ _ => rfl) (Or.inl rfl) ho1 (okI_int _) ?_
    refine wp_iconst (pc := 31) (v := 1) d_X12_opens_31 rfl ?_
    exact wp_zret (pc := 32) d_X12_opens_32 rfl rfl h
  · have h := h.2 hc
    refine wp_aload_n (pc := 9) d_X12_opens_9 rfl ?_
    refine wp_bipush (pc := 10) (v := 7) d_X12_opens_10 rfl ?_
    refine wp_aload_n (pc := 12) d_X12_opens_12 rfl ?_
    refine wp_getI (pc := 13) d_X12_opens_13 fl_X12_241 (fun _ _ _ => rfl) ho1 ?_
    refine wp_invV (pc := 16) (N := M_X12_fail) (As := [vi _, vi _]) (rest := []) (r := (cn_12, ct_12, 95)) d_X12_opens_16 ml_X12_317 mk_X12_fail mv_X12_fail h0 ho1 rfl rfl (Nat.le_of_ble_eq_true rfl) ?_
    refine wpM.mono h (fun rr G2 hr => ?_)
    obtain ⟨rfl, h⟩ := hr
    show wp E d M_X12_opens 19 [some (vr _)] [] G2 Q
    refine wp_iconst (pc := 19) (v := 0) d_X12_opens_19 rfl ?_
    exact wp_zret (pc := 20) d_X12_opens_20 rfl rfl h
theorem d_X12_bracket_0 : decode prog_14_method_47_code 0 = .ok (.aload_n 0, 1) := by decide +kernel
theorem d_X12_bracket_1 : decode prog_14_method_47_code 1 = .ok (.invokevirtual 399, 3) := by decide +kernel
theorem d_X12_bracket_4 : decode prog_14_method_47_code 4 = .ok (.ifCond .ne 4, 3) := by decide +kernel
theorem d_X12_bracket_7 : decode prog_14_method_47_code 7 = .ok (.return_, 1) := by decide +kernel
theorem d_X12_bracket_8 : decode prog_14_method_47_code 8 = .ok (.aload_n 0, 1) := by decide +kernel
theorem d_X12_bracket_9 : decode prog_14_method_47_code 9 = .ok (.iconst 0, 1) := by decide +kernel
theorem d_X12_bracket_10 : decode prog_14_method_47_code 10 = .ok (.invokevirtual 330, 3) := by decide +kernel
theorem d_X12_bracket_13 : decode prog_14_method_47_code 13 = .ok (.aload_n 0, 1) := by decide +kernel
theorem d_X12_bracket_14 : decode prog_14_method_47_code 14 = .ok (.invokevirtual 393, 3) := by decide +kernel
theorem d_X12_bracket_17 : decode prog_14_method_47_code 17 = .ok (.iconst 1, 1) := by decide +kernel
theorem d_X12_bracket_18 : decode prog_14_method_47_code 18 = .ok (.istore_n 2, 1) := by decide +kernel
theorem d_X12_bracket_19 : decode prog_14_method_47_code 19 = .ok (.aload_n 0, 1) := by decide +kernel
theorem d_X12_bracket_20 : decode prog_14_method_47_code 20 = .ok (.getfield 311, 3) := by decide +kernel
theorem d_X12_bracket_23 : decode prog_14_method_47_code 23 = .ok (.ifCond .ne 47, 3) := by decide +kernel
theorem d_X12_bracket_26 : decode prog_14_method_47_code 26 = .ok (.iload_n 1, 1) := by decide +kernel
theorem d_X12_bracket_27 : decode prog_14_method_47_code 27 = .ok (.sipush 314, 3) := by decide +kernel
theorem d_X12_bracket_30 : decode prog_14_method_47_code 30 = .ok (.if_icmp .eq 10, 3) := by decide +kernel
theorem d_X12_bracket_33 : decode prog_14_method_47_code 33 = .ok (.iload_n 1, 1) := by decide +kernel
theorem d_X12_bracket_34 : decode prog_14_method_47_code 34 = .ok (.sipush 315, 3) := by decide +kernel
theorem d_X12_bracket_37 : decode prog_14_method_47_code 37 = .ok (.if_icmp .ne 33, 3) := by decide +kernel
theorem d_X12_bracket_40 : decode prog_14_method_47_code 40 = .ok (.aload_n 0, 1) := by decide +kernel
theorem d_X12_bracket_41 : decode prog_14_method_47_code 41 = .ok (.getfield 292, 3) := by decide +kernel
theorem d_X12_bracket_44 : decode prog_14_method_47_code 44 = .ok (.bipush 44, 2) := by decide +kernel
theorem d_X12_bracket_46 : decode prog_14_method_47_code 46 = .ok (.if_icmp .ne 24, 3) := by decide +kernel
theorem d_X12_bracket_49 : decode prog_14_method_47_code 49 = .ok (.iload_n 2, 1) := by decide +kernel
theorem d_X12_bracket_50 : decode prog_14_method_47_code 50 = .ok (.bipush 20, 2) := by decide +kernel
theorem d_X12_bracket_52 : decode prog_14_method_47_code 52 = .ok (.if_icmp .ge 18, 3) := by decide +kernel
theorem d_X12_bracket_55 : decode prog_14_method_47_code 55 = .ok (.aload_n 0, 1) := by decide +kernel
theorem d_X12_bracket_56 : decode prog_14_method_47_code 56 = .ok (.iconst 0, 1) := by decide +kernel
theorem d_X12_bracket_57 : decode prog_14_method_47_code 57 = .ok (.invokevirtual 330, 3) := by decide +kernel
theorem d_X12_bracket_60 : decode prog_14_method_47_code 60 = .ok (.aload_n 0, 1) := by decide +kernel
theorem d_X12_bracket_61 : decode prog_14_method_47_code 61 = .ok (.invokevirtual 393, 3) := by decide +kernel
theorem d_X12_bracket_64 : decode prog_14_method_47_code 64 = .ok (.iinc 2 1, 3) := by decide +kernel
theorem d_X12_bracket_67 : decode prog_14_method_47_code 67 = .ok (.goto (-48), 3) := by decide +kernel
theorem d_X12_bracket_70 : decode prog_14_method_47_code 70 = .ok (.iload_n 1, 1) := by decide +kernel
theorem d_X12_bracket_71 : decode prog_14_method_47_code 71 = .ok (.sipush 316, 3) := by decide +kernel
theorem d_X12_bracket_74 : decode prog_14_method_47_code 74 = .ok (.if_icmp .ne 58, 3) := by decide +kernel
theorem d_X12_bracket_77 : decode prog_14_method_47_code 77 = .ok (.aload_n 0, 1) := by decide +kernel
theorem d_X12_bracket_78 : decode prog_14_method_47_code 78 = .ok (.bipush 58, 2) := by decide +kernel
theorem d_X12_bracket_80 : decode prog_14_method_47_code 80 = .ok (.invokevirtual 373, 3) := by decide +kernel
theorem d_X12_bracket_83 : decode prog_14_method_47_code 83 = .ok (.aload_n 0, 1) := by decide +kernel
theorem d_X12_bracket_84 : decode prog_14_method_47_code 84 = .ok (.sipush 9999, 3) := by decide +kernel
theorem d_X12_bracket_87 : decode prog_14_method_47_code 87 = .ok (.invokevirtual 376, 3) := by decide +kernel
theorem d_X12_bracket_90 : decode prog_14_method_47_code 90 = .ok (.istore_n 3, 1) := by decide +kernel
theorem d_X12_bracket_91 : decode prog_14_method_47_code 91 = .ok (.aload_n 0, 1) := by decide +kernel
theorem d_X12_bracket_92 : decode prog_14_method_47_code 92 = .ok (.getfield 311, 3) := by decide +kernel
theorem d_X12_bracket_95 : decode prog_14_method_47_code 95 = .ok (.ifCond .ne 37, 3) := by decide +kernel
theorem d_X12_bracket_98 : decode prog_14_method_47_code 98 = .ok (.aload_n 0, 1) := by decide +kernel
theorem d_X12_bracket_99 : decode prog_14_method_47_code 99 = .ok (.getfield 292, 3) := by decide +kernel
theorem d_X12_bracket_102 : decode prog_14_method_47_code 102 = .ok (.bipush 44, 2) := by decide +kernel
theorem d_X12_bracket_104 : decode prog_14_method_47_code 104 = .ok (.if_icmp .ne 28, 3) := by decide +kernel
theorem d_X12_bracket_107 : decode prog_14_method_47_code 107 = .ok (.iload_n 2, 1) := by decide +kernel
theorem d_X12_bracket_108 : decode prog_14_method_47_code 108 = .ok (.bipush 20, 2) := by decide +kernel
theorem d_X12_bracket_110 : decode prog_14_method_47_code 110 = .ok (.if_icmp .ge 22, 3) := by decide +kernel
theorem d_X12_bracket_113 : decode prog_14_method_47_code 113 = .ok (.aload_n 0, 1) := by decide +kernel
theorem d_X12_bracket_114 : decode prog_14_method_47_code 114 = .ok (.iconst 0, 1) := by decide +kernel
theorem d_X12_bracket_115 : decode prog_14_method_47_code 115 = .ok (.invokevirtual 330, 3) := by decide +kernel
theorem d_X12_bracket_118 : decode prog_14_method_47_code 118 = .ok (.aload_n 0, 1) := by decide +kernel
theorem d_X12_bracket_119 : decode prog_14_method_47_code 119 = .ok (.sipush 9999, 3) := by decide +kernel
theorem d_X12_bracket_122 : decode prog_14_method_47_code 122 = .ok (.invokevirtual 376, 3) := by decide +kernel
theorem d_X12_bracket_125 : decode prog_14_method_47_code 125 = .ok (.istore_n 3, 1) := by decide +kernel
theorem d_X12_bracket_126 : decode prog_14_method_47_code 126 = .ok (.iinc 2 1, 3) := by decide +kernel
theorem d_X12_bracket_129 : decode prog_14_method_47_code 129 = .ok (.goto (-38), 3) := by decide +kernel
theorem d_X12_bracket_132 : decode prog_14_method_47_code 132 = .ok (.aload_n 0, 1) := by decide +kernel
theorem d_X12_bracket_133 : decode prog_14_method_47_code 133 = .ok (.bipush 41, 2) := by decide +kernel
theorem d_X12_bracket_135 : decode prog_14_method_47_code 135 = .ok (.invokevirtual 373, 3) := by decide +kernel
theorem d_X12_bracket_138 : decode prog_14_method_47_code 138 = .ok (.aload_n 0, 1) := by decide +kernel
theorem d_X12_bracket_139 : decode prog_14_method_47_code 139 = .ok (.dup, 1) := by decide +kernel
theorem d_X12_bracket_140 : decode prog_14_method_47_code 140 = .ok (.getfield 334, 3) := by decide +kernel
theorem d_X12_bracket_143 : decode prog_14_method_47_code 143 = .ok (.iconst 1, 1) := by decide +kernel
theorem d_X12_bracket_144 : decode prog_14_method_47_code 144 = .ok (.isub, 1) := by decide +kernel
theorem d_X12_bracket_145 : decode prog_14_method_47_code 145 = .ok (.putfield 334, 3) := by decide +kernel
theorem d_X12_bracket_148 : decode prog_14_method_47_code 148 = .ok (.return_, 1) := by decide +kernel
theorem v_X12_bracket_0 {E : EE} {d : Nat} {Q : Option AV → AH → Prop} {x0 : Nat} {x1 : Int32} {G : AH} (h0 : 0 < d) (h : isO E G x0 12 ∧ (wpI E (d - 1) M_X12_opens [vr x0] G (fun r1 G2 => (¬ r1 = 0 → isO E G2 x0 12 ∧ (wpV E (d - 1) M_X12_keep [vr x0, vi 0] G2 (fun G3 => isO E G3 x0 12 ∧ (wpV E (d - 1) M_X12_sum [vr x0] G3 (fun G4 => wp E d M_X12_bracket 19 [some (vr x0), some (vi x1), some (vi 1), none] [] G4 Q))))) ∧ (r1 = 0 → Q none G2)))) : wp E d M_X12_bracket 0 [some (vr x0), some (vi x1), none, none] [] G Q := by
  refine wp_aload_n (pc := 0) d_X12_bracket_0 rfl ?_
  obtain ⟨ho7, h⟩ := h
  refine wp_invV (pc := 1) (N := M_X12_opens) (As := []) (rest := []) (r := (cn_12, ct_12, 95)) d_X12_bracket_1 ml_X12_399 mk_X12_opens mv_X12_opens h0 ho7 rfl rfl (Nat.le_of_ble_eq_true rfl) ?_
  refine wpM.mono h (fun rr G2 hr => ?_)
  obtain ⟨r1, rfl, h⟩ := hr
  show wp E d M_X12_bracket 4 [some (vr _), some (vi _), none, none] [vi _] G2 Q
  refine wp_if_ne (pc := 4) (tgt := 8) d_X12_bracket_4 (by decide) (fun hc => ?_) (fun hc => ?_)
  · have h := h.1 hc
    refine wp_aload_n (pc := 8) d_X12_bracket_8 rfl ?_
    refine wp_iconst (pc := 9) (v := 0) d_X12_bracket_9 rfl ?_
    obtain ⟨ho6, h⟩ := h
    refine wp_invV (pc := 10) (N := M_X12_keep) (As := [vi _]) (rest := []) (r := (cn_12, ct_12, 95)) d_X12_bracket_10 ml_X12_330 mk_X12_keep mv_X12_keep h0 ho6 rfl rfl (Nat.le_of_ble_eq_true rfl) ?_
    refine wpM.mono h (fun rr G3 hr => ?_)
    obtain ⟨rfl, h⟩ := hr
    show wp E d M_X12_bracket 13 [some (vr _), some (vi _), none, none] [] G3 Q
    refine wp_aload_n (pc := 13) d_X12_bracket_13 rfl ?_
    obtain ⟨ho5, h⟩ := h
    refine wp_invV (pc := 14) (N := M_X12_sum) (As := []) (rest := []) (r := (cn_12, ct_12, 95)) d_X12_bracket_14 ml_X12_393 mk_X12_sum mv_X12_sum h0 ho5 rfl rfl (Nat.le_of_ble_eq_true rfl) ?_
    refine wpM.mono h (fun rr G4 hr => ?_)
    obtain ⟨rfl, h⟩ := hr
    show wp E d M_X12_bracket 17 [some (vr _), some (vi _), none, none] [] G4 Q
    refine wp_iconst (pc := 17) (v := 1) d_X12_bracket_17 rfl ?_
    refine wp_istore_n (pc := 18) (lv' := [some (vr _), some (vi _), some (vi _), none]) d_X12_bracket_18 (by decide) rfl ?_
    refine wp_sub ?_ h
    exact ⟨rfl, ⟨rfl, ⟨rfl, trivial⟩⟩⟩
  · have h := h.2 hc
    exact wp_vret (pc := 7) d_X12_bracket_7 rfl h
theorem v_X12_bracket_19 {E : EE} {d : Nat} {Q : Option AV → AH → Prop} {x0 : Nat} {x1 : Int32} {x2 : Int32} {G : AH} (h : isO E G x0 12 ∧ ((¬ (gI G x0 45) = 0 → wp E d M_X12_bracket 70 [some (vr x0), some (vi x1), some (vi x2), none] [] G Q) ∧ ((gI G x0 45) = 0 → (x1 = 314 → wp E d M_X12_bracket 40 [some (vr x0), some (vi x1), some (vi x2), none] [] G Q) ∧ (¬ (x1 = 314) → (¬ x1 = 315 → wp E d M_X12_bracket 70 [some (vr x0), some (vi x1), some (vi x2), none] [] G Q) ∧ (x1 = 315 → wp E d M_X12_bracket 40 [some (vr x0), some (vi x1), some (vi x2), none] [] G Q))))) : wp E d M_X12_bracket 19 [some (vr x0), some (vi x1), some (vi x2), none] [] G Q := by
  refine wp_aload_n (pc := 19) d_X12_bracket_19 rfl ?_
  obtain ⟨ho1, h⟩ := h
  refine wp_getI (pc := 20) d_X12_bracket_20 fl_X12_311 (fun _ _ _ => rfl) ho1 ?_
  refine wp_if_ne (pc := 23) (tgt := 70) d_X12_bracket_23 (by decide) (fun hc => ?_) (fun hc => ?_)
  · have h := h.1 hc
    refine wp_sub ?_ h
    exact ⟨rfl, ⟨rfl, ⟨rfl, trivial⟩⟩⟩
  · have h := h.2 hc
    refine wp_iload_n (pc := 26) d_X12_bracket_26 rfl ?_
    refine wp_sipush (pc := 27) (v := 314) d_X12_bracket_27 rfl ?_
    refine wp_icmp_eq (pc := 30) (tgt := 40) d_X12_bracket_30 (by decide) (fun hc => ?_) (fun hc => ?_)
    · have h := h.1 hc
      refine wp_sub ?_ h
      exact ⟨rfl, ⟨rfl, ⟨rfl, trivial⟩⟩⟩
    · have h := h.2 hc
      refine wp_iload_n (pc := 33) d_X12_bracket_33 rfl ?_
      refine wp_sipush (pc := 34) (v := 315) d_X12_bracket_34 rfl ?_
      refine wp_icmp_ne (pc := 37) (tgt := 70) d_X12_bracket_37 (by decide) (fun hc => ?_) (fun hc => ?_)
      · have h := h.1 hc
        refine wp_sub ?_ h
        exact ⟨rfl, ⟨rfl, ⟨rfl, trivial⟩⟩⟩
      · have h := h.2 hc
        refine wp_sub ?_ h
        exact ⟨rfl, ⟨rfl, ⟨rfl, trivial⟩⟩⟩
theorem v_X12_bracket_40 {E : EE} {d : Nat} {Q : Option AV → AH → Prop} {x0 : Nat} {x1 : Int32} {x2 : Int32} {G : AH} (h0 : 0 < d) (h : isO E G x0 12 ∧ ((¬ (gI G x0 41) = 44 → wp E d M_X12_bracket 70 [some (vr x0), some (vi x1), some (vi x2), none] [] G Q) ∧ ((gI G x0 41) = 44 → (20 ≤ x2 → wp E d M_X12_bracket 70 [some (vr x0), some (vi x1), some (vi x2), none] [] G Q) ∧ (¬ (20 ≤ x2) → wpV E (d - 1) M_X12_keep [vr x0, vi 0] G (fun G2 => isO E G2 x0 12 ∧ (wpV E (d - 1) M_X12_sum [vr x0] G2 (fun G3 => wp E d M_X12_bracket 19 [some (vr x0), some (vi x1), some (vi (x2 + 1)), none] [] G3 Q))))))) : wp E d M_X12_bracket 40 [some (vr x0), some (vi x1), some (vi x2), none] [] G Q := by
  refine wp_aload_n (pc := 40) d_X12_bracket_40 rfl ?_
  obtain ⟨ho1, h⟩ := h
  refine wp_getI (pc := 41) d_X12_bracket_41 fl_X12_292 (fun _ _ _ => rfl) ho1 ?_
  refine wp_bipush (pc := 44) (v := 44) d_X12_bracket_44 rfl ?_
  refine wp_icmp_ne (pc := 46) (tgt := 70) d_X12_bracket_46 (by decide) (fun hc => ?_) (fun hc => ?_)
  · have h := h.1 hc
    refine wp_sub ?_ h
    exact ⟨rfl, ⟨rfl, ⟨rfl, trivial⟩⟩⟩
  · have h := h.2 hc
    refine wp_iload_n (pc := 49) d_X12_bracket_49 rfl ?_
    refine wp_bipush (pc := 50) (v := 20) d_X12_bracket_50 rfl ?_
    refine wp_icmp_ge (pc := 52) (tgt := 70) d_X12_bracket_52 (by decide) (fun hc => ?_) (fun hc => ?_)
    · have h := h.1 hc
      refine wp_sub ?_ h
      exact ⟨rfl, ⟨rfl, ⟨rfl, trivial⟩⟩⟩
    · have h := h.2 hc
      refine wp_aload_n (pc := 55) d_X12_bracket_55 rfl ?_
      refine wp_iconst (pc := 56) (v := 0) d_X12_bracket_56 rfl ?_
      refine wp_invV (pc := 57) (N := M_X12_keep) (As := [vi _]) (rest := []) (r := (cn_12, ct_12, 95)) d_X12_bracket_57 ml_X12_330 mk_X12_keep mv_X12_keep h0 ho1 rfl rfl (Nat.le_of_ble_eq_true rfl) ?_
      refine wpM.mono h (fun rr G2 hr => ?_)
      obtain ⟨rfl, h⟩ := hr
      show wp E d M_X12_bracket 60 [some (vr _), some (vi _), some (vi _), none] [] G2 Q
      refine wp_aload_n (pc := 60) d_X12_bracket_60 rfl ?_
      obtain ⟨ho4, h⟩ := h
      refine wp_invV (pc := 61) (N := M_X12_sum) (As := []) (rest := []) (r := (cn_12, ct_12, 95)) d_X12_bracket_61 ml_X12_393 mk_X12_sum mv_X12_sum h0 ho4 rfl rfl (Nat.le_of_ble_eq_true rfl) ?_
      refine wpM.mono h (fun rr G3 hr => ?_)
      obtain ⟨rfl, h⟩ := hr
      show wp E d M_X12_bracket 64 [some (vr _), some (vi _), some (vi _), none] [] G3 Q
      refine wp_iinc (pc := 64) (v := 1) (lv' := [some (vr _), some (vi _), some (vi _), none]) d_X12_bracket_64 (by decide) rfl rfl rfl ?_
      refine wp_goto (pc := 67) (tgt := 19) d_X12_bracket_67 (by decide) ?_
      refine wp_sub ?_ h
      exact ⟨rfl, ⟨rfl, ⟨rfl, trivial⟩⟩⟩
theorem v_X12_bracket_70 {E : EE} {d : Nat} {Q : Option AV → AH → Prop} {x0 : Nat} {x1 : Int32} {x2 : Int32} {G : AH} (h0 : 0 < d) (h : (¬ x1 = 316 → wp E d M_X12_bracket 132 [some (vr x0), some (vi x1), some (vi x2), none] [] G Q) ∧ (x1 = 316 → isO E G x0 12 ∧ (wpV E (d - 1) M_X12_need [vr x0, vi 58] G (fun G1 => isO E G1 x0 12 ∧ (wpI E (d - 1) M_X12_anInt [vr x0, vi 9999] G1 (fun r2 G3 => wp E d M_X12_bracket 91 [some (vr x0), some (vi x1), some (vi x2), some (vi r2)] [] G3 Q)))))) : wp E d M_X12_bracket 70 [some (vr x0), some (vi x1), some (vi x2), none] [] G Q := by
  refine wp_iload_n (pc := 70) d_X12_bracket_70 rfl ?_
  refine wp_sipush (pc := 71) (v := 316) d_X12_bracket_71 rfl ?_
  refine wp_icmp_ne (pc := 74) (tgt := 132) d_X12_bracket_74 (by decide) (fun hc => ?_) (fun hc => ?_)
  · have h := h.1 hc
    refine wp_sub ?_ h
    exact ⟨rfl, ⟨rfl, ⟨rfl, trivial⟩⟩⟩
  · have h := h.2 hc
    refine wp_aload_n (pc := 77) d_X12_bracket_77 rfl ?_
    refine wp_bipush (pc := 78) (v := 58) d_X12_bracket_78 rfl ?_
    obtain ⟨ho5, h⟩ := h
    refine wp_invV (pc := 80) (N := M_X12_need) (As := [vi _]) (rest := []) (r := (cn_12, ct_12, 95)) d_X12_bracket_80 ml_X12_373 mk_X12_need mv_X12_need h0 ho5 rfl rfl (Nat.le_of_ble_eq_true rfl) ?_
    refine wpM.mono h (fun rr G1 hr => ?_)
    obtain ⟨rfl, h⟩ := hr
    show wp E d M_X12_bracket 83 [some (vr _), some (vi _), some (vi _), none] [] G1 Q
    refine wp_aload_n (pc := 83) d_X12_bracket_83 rfl ?_
    refine wp_sipush (pc := 84) (v := 9999) d_X12_bracket_84 rfl ?_
    obtain ⟨ho4, h⟩ := h
    refine wp_invV (pc := 87) (N := M_X12_anInt) (As := [vi _]) (rest := []) (r := (cn_12, ct_12, 95)) d_X12_bracket_87 ml_X12_376 mk_X12_anInt mv_X12_anInt h0 ho4 rfl rfl (Nat.le_of_ble_eq_true rfl) ?_
    refine wpM.mono h (fun rr G3 hr => ?_)
    obtain ⟨r2, rfl, h⟩ := hr
    show wp E d M_X12_bracket 90 [some (vr _), some (vi _), some (vi _), none] [vi _] G3 Q
    refine wp_istore_n (pc := 90) (lv' := [some (vr _), some (vi _), some (vi _), some (vi _)]) d_X12_bracket_90 (by decide) rfl ?_
    refine wp_sub ?_ h
    exact ⟨rfl, ⟨rfl, ⟨rfl, ⟨rfl, trivial⟩⟩⟩⟩
theorem v_X12_bracket_91 {E : EE} {d : Nat} {Q : Option AV → AH → Prop} {x0 : Nat} {x1 : Int32} {x2 : Int32} {x3 : Int32} {G : AH} (h0 : 0 < d) (h : isO E G x0 12 ∧ ((¬ (gI G x0 45) = 0 → wp E d M_X12_bracket 132 [some (vr x0), some (vi x1), some (vi x2), none] [] G Q) ∧ ((gI G x0 45) = 0 → (¬ (gI G x0 41) = 44 → wp E d M_X12_bracket 132 [some (vr x0), some (vi x1), some (vi x2), none] [] G Q) ∧ ((gI G x0 41) = 44 → (20 ≤ x2 → wp E d M_X12_bracket 132 [some (vr x0), some (vi x1), some (vi x2), none] [] G Q) ∧ (¬ (20 ≤ x2) → wpV E (d - 1) M_X12_keep [vr x0, vi 0] G (fun G2 => isO E G2 x0 12 ∧ (wpI E (d - 1) M_X12_anInt [vr x0, vi 9999] G2 (fun r3 G4 => wp E d M_X12_bracket 91 [some (vr x0), some (vi x1), some (vi (x2 + 1)), some (vi r3)] [] G4 Q)))))))) : wp E d M_X12_bracket 91 [some (vr x0), some (vi x1), some (vi x2), some (vi x3)] [] G Q := by
  refine wp_aload_n (pc := 91) d_X12_bracket_91 rfl ?_
  obtain ⟨ho1, h⟩ := h
  refine wp_getI (pc := 92) d_X12_bracket_92 fl_X12_311 (fun _ _ _ => rfl) ho1 ?_
  refine wp_if_ne (pc := 95) (tgt := 132) d_X12_bracket_95 (by decide) (fun hc => ?_) (fun hc => ?_)
  · have h := h.1 hc
    refine wp_sub ?_ h
    exact ⟨rfl, ⟨rfl, ⟨rfl, trivial⟩⟩⟩
  · have h := h.2 hc
    refine wp_aload_n (pc := 98) d_X12_bracket_98 rfl ?_
    refine wp_getI (pc := 99) d_X12_bracket_99 fl_X12_292 (fun _ _ _ => rfl) ho1 ?_
    refine wp_bipush (pc := 102) (v := 44) d_X12_bracket_102 rfl ?_
    refine wp_icmp_ne (pc := 104) (tgt := 132) d_X12_bracket_104 (by decide) (fun hc => ?_) (fun hc => ?_)
    · have h := h.1 hc
      refine wp_sub ?_ h
      exact ⟨rfl, ⟨rfl, ⟨rfl, trivial⟩⟩⟩
    · have h := h.2 hc
      refine wp_iload_n (pc := 107) d_X12_bracket_107 rfl ?_
      refine wp_bipush (pc := 108) (v := 20) d_X12_bracket_108 rfl ?_
      refine wp_icmp_ge (pc := 110) (tgt := 132) d_X12_bracket_110 (by decide) (fun hc => ?_) (fun hc => ?_)
      · have h := h.1 hc
        refine wp_sub ?_ h
        exact ⟨rfl, ⟨rfl, ⟨rfl, trivial⟩⟩⟩
      · have h := h.2 hc
        refine wp_aload_n (pc := 113) d_X12_bracket_113 rfl ?_
        refine wp_iconst (pc := 114) (v := 0) d_X12_bracket_114 rfl ?_
        refine wp_invV (pc := 115) (N := M_X12_keep) (As := [vi _]) (rest := []) (r := (cn_12, ct_12, 95)) d_X12_bracket_115 ml_X12_330 mk_X12_keep mv_X12_keep h0 ho1 rfl rfl (Nat.le_of_ble_eq_true rfl) ?_
        refine wpM.mono h (fun rr G2 hr => ?_)
        obtain ⟨rfl, h⟩ := hr
        show wp E d M_X12_bracket 118 [some (vr _), some (vi _), some (vi _), some (vi _)] [] G2 Q
        refine wp_aload_n (pc := 118) d_X12_bracket_118 rfl ?_
        refine wp_sipush (pc := 119) (v := 9999) d_X12_bracket_119 rfl ?_
        obtain ⟨ho5, h⟩ := h
        refine wp_invV (pc := 122) (N := M_X12_anInt) (As := [vi _]) (rest := []) (r := (cn_12, ct_12, 95)) d_X12_bracket_122 ml_X12_376 mk_X12_anInt mv_X12_anInt h0 ho5 rfl rfl (Nat.le_of_ble_eq_true rfl) ?_
        refine wpM.mono h (fun rr G4 hr => ?_)
        obtain ⟨r3, rfl, h⟩ := hr
        show wp E d M_X12_bracket 125 [some (vr _), some (vi _), some (vi _), some (vi _)] [vi _] G4 Q
        refine wp_istore_n (pc := 125) (lv' := [some (vr _), some (vi _), some (vi _), some (vi _)]) d_X12_bracket_125 (by decide) rfl ?_
        refine wp_iinc (pc := 126) (v := 1) (lv' := [some (vr _), some (vi _), some (vi _), some (vi _)]) d_X12_bracket_126 (by decide) rfl rfl rfl ?_
        refine wp_goto (pc := 129) (tgt := 91) d_X12_bracket_129 (by decide) ?_
        refine wp_sub ?_ h
        exact ⟨rfl, ⟨rfl, ⟨rfl, ⟨rfl, trivial⟩⟩⟩⟩
theorem v_X12_bracket_132 {E : EE} {d : Nat} {Q : Option AV → AH → Prop} {x0 : Nat} {x1 : Int32} {x2 : Int32} {G : AH} (h0 : 0 < d) (h : isO E G x0 12 ∧ (wpV E (d - 1) M_X12_need [vr x0, vi 41] G (fun G1 => isO E G1 x0 12 ∧ (Q none (sI G1 x0 48 ((gI G1 x0 48) - 1)))))) : wp E d M_X12_bracket 132 [some (vr x0), some (vi x1), some (vi x2), none] [] G Q := by
  refine wp_aload_n (pc := 132) d_X12_bracket_132 rfl ?_
  refine wp_bipush (pc := 133) (v := 41) d_X12_bracket_133 rfl ?_
  obtain ⟨ho3, h⟩ := h
  refine wp_invV (pc := 135) (N := M_X12_need) (As := [vi _]) (rest := []) (r := (cn_12, ct_12, 95)) d_X12_bracket_135 ml_X12_373 mk_X12_need mv_X12_need h0 ho3 rfl rfl (Nat.le_of_ble_eq_true rfl) ?_
  refine wpM.mono h (fun rr G1 hr => ?_)
  obtain ⟨rfl, h⟩ := hr
  show wp E d M_X12_bracket 138 [some (vr _), some (vi _), some (vi _), none] [] G1 Q
  refine wp_aload_n (pc := 138) d_X12_bracket_138 rfl ?_
  refine wp_dup (pc := 139) d_X12_bracket_139 (c1_r _) ?_
  obtain ⟨ho2, h⟩ := h
  refine wp_getI (pc := 140) d_X12_bracket_140 fl_X12_334 (fun _ _ _ => rfl) ho2 ?_
  refine wp_iconst (pc := 143) (v := 1) d_X12_bracket_143 rfl ?_
  refine wp_isub (pc := 144) d_X12_bracket_144 ?_
  refine wp_putI (pc := 145) d_X12_bracket_145 fl_X12_334 (fun _ _ _ => rfl) (Or.inl rfl) ho2 (okI_int _) ?_
  exact wp_vret (pc := 148) d_X12_bracket_148 rfl h
theorem d_X12_anInt_0 : decode prog_14_method_25_code 0 = .ok (.aload_n 0, 1) := by decide +kernel
theorem d_X12_anInt_1 : decode prog_14_method_25_code 1 = .ok (.invokevirtual 350, 3) := by decide +kernel
theorem d_X12_anInt_4 : decode prog_14_method_25_code 4 = .ok (.istore_n 2, 1) := by decide +kernel
theorem d_X12_anInt_5 : decode prog_14_method_25_code 5 = .ok (.aload_n 0, 1) := by decide +kernel
theorem d_X12_anInt_6 : decode prog_14_method_25_code 6 = .ok (.iconst 0, 1) := by decide +kernel
theorem d_X12_anInt_7 : decode prog_14_method_25_code 7 = .ok (.iload_n 1, 1) := by decide +kernel
theorem d_X12_anInt_8 : decode prog_14_method_25_code 8 = .ok (.invokevirtual 354, 3) := by decide +kernel
theorem d_X12_anInt_11 : decode prog_14_method_25_code 11 = .ok (.istore_n 3, 1) := by decide +kernel
theorem d_X12_anInt_12 : decode prog_14_method_25_code 12 = .ok (.iload_n 2, 1) := by decide +kernel
theorem d_X12_anInt_13 : decode prog_14_method_25_code 13 = .ok (.ifCond .eq 8, 3) := by decide +kernel
theorem d_X12_anInt_16 : decode prog_14_method_25_code 16 = .ok (.iload_n 3, 1) := by decide +kernel
theorem d_X12_anInt_17 : decode prog_14_method_25_code 17 = .ok (.ineg, 1) := by decide +kernel
theorem d_X12_anInt_18 : decode prog_14_method_25_code 18 = .ok (.goto 4, 3) := by decide +kernel
theorem d_X12_anInt_21 : decode prog_14_method_25_code 21 = .ok (.iload_n 3, 1) := by decide +kernel
theorem d_X12_anInt_22 : decode prog_14_method_25_code 22 = .ok (.ireturn, 1) := by decide +kernel
theorem v_X12_anInt_0 {E : EE} {d : Nat} {Q : Option AV → AH → Prop} {x0 : Nat} {x1 : Int32} {G : AH} (h0 : 0 < d) (h : isO E G x0 12 ∧ (wpI E (d - 1) M_X12_isMinus [vr x0] G (fun r1 G2 => isO E G2 x0 12 ∧ (wpI E (d - 1) M_X12_aNumber [vr x0, vi 0, vi x1] G2 (fun r3 G4 => (r1 = 0 → Q (some (vi r3)) G4) ∧ (¬ (r1 = 0) → Q (some (vi (-r3))) G4)))))) : wp E d M_X12_anInt 0 [some (vr x0), some (vi x1), none, none] [] G Q := by
  refine wp_aload_n (pc := 0) d_X12_anInt_0 rfl ?_
  obtain ⟨ho6, h⟩ := h
  refine wp_invV (pc := 1) (N := M_X12_isMinus) (As := []) (rest := []) (r := (cn_12, ct_12, 95)) d_X12_anInt_1 ml_X12_350 mk_X12_isMinus mv_X12_isMinus h0 ho6 rfl rfl (Nat.le_of_ble_eq_true rfl) ?_
  refine wpM.mono h (fun rr G2 hr => ?_)
  obtain ⟨r1, rfl, h⟩ := hr
  show wp E d M_X12_anInt 4 [some (vr _), some (vi _), none, none] [vi _] G2 Q
  refine wp_istore_n (pc := 4) (lv' := [some (vr _), some (vi _), some (vi _), none]) d_X12_anInt_4 (by decide) rfl ?_
  refine wp_aload_n (pc := 5) d_X12_anInt_5 rfl ?_
  refine wp_iconst (pc := 6) (v := 0) d_X12_anInt_6 rfl ?_
  refine wp_iload_n (pc := 7) d_X12_anInt_7 rfl ?_
  obtain ⟨ho5, h⟩ := h
  refine wp_invV (pc := 8) (N := M_X12_aNumber) (As := [vi _, vi _]) (rest := []) (r := (cn_12, ct_12, 95)) d_X12_anInt_8 ml_X12_354 mk_X12_aNumber mv_X12_aNumber h0 ho5 rfl rfl (Nat.le_of_ble_eq_true rfl) ?_
  refine wpM.mono h (fun rr G4 hr => ?_)
  obtain ⟨r3, rfl, h⟩ := hr
  show wp E d M_X12_anInt 11 [some (vr _), some (vi _), some (vi _), none] [vi _] G4 Q
  refine wp_istore_n (pc := 11) (lv' := [some (vr _), some (vi _), some (vi _), some (vi _)]) d_X12_anInt_11 (by decide) rfl ?_
  refine wp_iload_n (pc := 12) d_X12_anInt_12 rfl ?_
  refine wp_if_eq (pc := 13) (tgt := 21) d_X12_anInt_13 (by decide) (fun hc => ?_) (fun hc => ?_)
  · have h := h.1 hc
    refine wp_iload_n (pc := 21) d_X12_anInt_21 rfl ?_
    exact wp_iret (pc := 22) d_X12_anInt_22 rfl h
  · have h := h.2 hc
    refine wp_iload_n (pc := 16) d_X12_anInt_16 rfl ?_
    refine wp_ineg (pc := 17) d_X12_anInt_17 ?_
    refine wp_goto (pc := 18) (tgt := 22) d_X12_anInt_18 (by decide) ?_
    exact wp_iret (pc := 22) d_X12_anInt_22 rfl h
theorem d_X12_isMinus_0 : decode prog_14_method_24_code 0 = .ok (.aload_n 0, 1) := by decide +kernel
theorem d_X12_isMinus_1 : decode prog_14_method_24_code 1 = .ok (.getfield 311, 3) := by decide +kernel
theorem d_X12_isMinus_4 : decode prog_14_method_24_code 4 = .ok (.ifCond .ne 12, 3) := by decide +kernel
theorem d_X12_isMinus_7 : decode prog_14_method_24_code 7 = .ok (.aload_n 0, 1) := by decide +kernel
theorem d_X12_isMinus_8 : decode prog_14_method_24_code 8 = .ok (.getfield 292, 3) := by decide +kernel
theorem d_X12_isMinus_11 : decode prog_14_method_24_code 11 = .ok (.bipush 45, 2) := by decide +kernel
theorem d_X12_isMinus_13 : decode prog_14_method_24_code 13 = .ok (.if_icmp .eq 5, 3) := by decide +kernel
theorem d_X12_isMinus_16 : decode prog_14_method_24_code 16 = .ok (.iconst 0, 1) := by decide +kernel
theorem d_X12_isMinus_17 : decode prog_14_method_24_code 17 = .ok (.ireturn, 1) := by decide +kernel
theorem d_X12_isMinus_18 : decode prog_14_method_24_code 18 = .ok (.aload_n 0, 1) := by decide +kernel
theorem d_X12_isMinus_19 : decode prog_14_method_24_code 19 = .ok (.iconst 0, 1) := by decide +kernel
theorem d_X12_isMinus_20 : decode prog_14_method_24_code 20 = .ok (.invokevirtual 330, 3) := by decide +kernel
theorem d_X12_isMinus_23 : decode prog_14_method_24_code 23 = .ok (.iconst 1, 1) := by decide +kernel
theorem d_X12_isMinus_24 : decode prog_14_method_24_code 24 = .ok (.ireturn, 1) := by decide +kernel
theorem v_X12_isMinus_0 {E : EE} {d : Nat} {Q : Option AV → AH → Prop} {x0 : Nat} {G : AH} (h0 : 0 < d) (h : isO E G x0 12 ∧ ((¬ (gI G x0 45) = 0 → Q (some (vi 0)) G) ∧ ((gI G x0 45) = 0 → ((gI G x0 41) = 45 → wpV E (d - 1) M_X12_keep [vr x0, vi 0] G (fun G2 => Q (some (vi 1)) G2)) ∧ (¬ ((gI G x0 41) = 45) → Q (some (vi 0)) G)))) : wp E d M_X12_isMinus 0 [some (vr x0)] [] G Q := by
  refine wp_aload_n (pc := 0) d_X12_isMinus_0 rfl ?_
  obtain ⟨ho1, h⟩ := h
  refine wp_getI (pc := 1) d_X12_isMinus_1 fl_X12_311 (fun _ _ _ => rfl) ho1 ?_
  refine wp_if_ne (pc := 4) (tgt := 16) d_X12_isMinus_4 (by decide) (fun hc => ?_) (fun hc => ?_)
  · have h := h.1 hc
    refine wp_iconst (pc := 16) (v := 0) d_X12_isMinus_16 rfl ?_
    exact wp_zret (pc := 17) d_X12_isMinus_17 rfl rfl h
  · have h := h.2 hc
    refine wp_aload_n (pc := 7) d_X12_isMinus_7 rfl ?_
    refine wp_getI (pc := 8) d_X12_isMinus_8 fl_X12_292 (fun _ _ _ => rfl) ho1 ?_
    refine wp_bipush (pc := 11) (v := 45) d_X12_isMinus_11 rfl ?_
    refine wp_icmp_eq (pc := 13) (tgt := 18) d_X12_isMinus_13 (by decide) (fun hc => ?_) (fun hc => ?_)
    · have h := h.1 hc
      refine wp_aload_n (pc := 18) d_X12_isMinus_18 rfl ?_
      refine wp_iconst (pc := 19) (v := 0) d_X12_isMinus_19 rfl ?_
      refine wp_invV (pc := 20) (N := M_X12_keep) (As := [vi _]) (rest := []) (r := (cn_12, ct_12, 95)) d_X12_isMinus_20 ml_X12_330 mk_X12_keep mv_X12_keep h0 ho1 rfl rfl (Nat.le_of_ble_eq_true rfl) ?_
      refine wpM.mono h (fun rr G2 hr => ?_)
      obtain ⟨rfl, h⟩ := hr
      show wp E d M_X12_isMinus 23 [some (vr _)] [] G2 Q
      refine wp_iconst (pc := 23) (v := 1) d_X12_isMinus_23 rfl ?_
      exact wp_zret (pc := 24) d_X12_isMinus_24 rfl rfl h
    · have h := h.2 hc
      refine wp_iconst (pc := 16) (v := 0) d_X12_isMinus_16 rfl ?_
      exact wp_zret (pc := 17) d_X12_isMinus_17 rfl rfl h
theorem d_X12_test_0 : decode prog_14_method_33_code 0 = .ok (.aload_n 0, 1) := by decide +kernel
theorem d_X12_test_1 : decode prog_14_method_33_code 1 = .ok (.invokevirtual 396, 3) := by decide +kernel
theorem d_X12_test_4 : decode prog_14_method_33_code 4 = .ok (.aload_n 0, 1) := by decide +kernel
theorem d_X12_test_5 : decode prog_14_method_33_code 5 = .ok (.getfield 311, 3) := by decide +kernel
theorem d_X12_test_8 : decode prog_14_method_33_code 8 = .ok (.ifCond .ne 39, 3) := by decide +kernel
theorem d_X12_test_11 : decode prog_14_method_33_code 11 = .ok (.aload_n 0, 1) := by decide +kernel
theorem d_X12_test_12 : decode prog_14_method_33_code 12 = .ok (.getfield 292, 3) := by decide +kernel
theorem d_X12_test_15 : decode prog_14_method_33_code 15 = .ok (.sipush 203, 3) := by decide +kernel
theorem d_X12_test_18 : decode prog_14_method_33_code 18 = .ok (.if_icmp .ne 29, 3) := by decide +kernel
theorem d_X12_test_21 : decode prog_14_method_33_code 21 = .ok (.aload_n 0, 1) := by decide +kernel
theorem d_X12_test_22 : decode prog_14_method_33_code 22 = .ok (.invokevirtual 399, 3) := by decide +kernel
theorem d_X12_test_25 : decode prog_14_method_33_code 25 = .ok (.ifCond .eq 22, 3) := by decide +kernel
theorem d_X12_test_28 : decode prog_14_method_33_code 28 = .ok (.aload_n 0, 1) := by decide +kernel
theorem d_X12_test_29 : decode prog_14_method_33_code 29 = .ok (.iconst 0, 1) := by decide +kernel
theorem d_X12_test_30 : decode prog_14_method_33_code 30 = .ok (.invokevirtual 330, 3) := by decide +kernel
theorem d_X12_test_33 : decode prog_14_method_33_code 33 = .ok (.aload_n 0, 1) := by decide +kernel
theorem d_X12_test_34 : decode prog_14_method_33_code 34 = .ok (.invokevirtual 390, 3) := by decide +kernel
theorem d_X12_test_37 : decode prog_14_method_33_code 37 = .ok (.aload_n 0, 1) := by decide +kernel
theorem d_X12_test_38 : decode prog_14_method_33_code 38 = .ok (.dup, 1) := by decide +kernel
theorem d_X12_test_39 : decode prog_14_method_33_code 39 = .ok (.getfield 334, 3) := by decide +kernel
theorem d_X12_test_42 : decode prog_14_method_33_code 42 = .ok (.iconst 1, 1) := by decide +kernel
theorem d_X12_test_43 : decode prog_14_method_33_code 43 = .ok (.isub, 1) := by decide +kernel
theorem d_X12_test_44 : decode prog_14_method_33_code 44 = .ok (.putfield 334, 3) := by decide +kernel
theorem d_X12_test_47 : decode prog_14_method_33_code 47 = .ok (.return_, 1) := by decide +kernel
theorem v_X12_test_0 {E : EE} {d : Nat} {Q : Option AV → AH → Prop} {x0 : Nat} {G : AH} (h0 : 0 < d) (h : isO E G x0 12 ∧ (wpV E (d - 1) M_X12_or [vr x0] G (fun G1 => isO E G1 x0 12 ∧ ((¬ (gI G1 x0 45) = 0 → Q none G1) ∧ ((gI G1 x0 45) = 0 → (¬ (gI G1 x0 41) = 203 → Q none G1) ∧ ((gI G1 x0 41) = 203 → wpI E (d - 1) M_X12_opens [vr x0] G1 (fun r3 G4 => (r3 = 0 → Q none G4) ∧ (¬ (r3 = 0) → isO E G4 x0 12 ∧ (wpV E (d - 1) M_X12_keep [vr x0, vi 0] G4 (fun G5 => isO E G5 x0 12 ∧ (wpV E (d - 1) M_X12_test [vr x0] G5 (fun G6 => isO E G6 x0 12 ∧ (Q none (sI G6 x0 48 ((gI G6 x0 48) - 1))))))))))))))) : wp E d M_X12_test 0 [some (vr x0)] [] G Q := by
  refine wp_aload_n (pc := 0) d_X12_test_0 rfl ?_
  obtain ⟨ho10, h⟩ := h
  refine wp_invV (pc := 1) (N := M_X12_or) (As := []) (rest := []) (r := (cn_12, ct_12, 95)) d_X12_test_1 ml_X12_396 mk_X12_or mv_X12_or h0 ho10 rfl rfl (Nat.le_of_ble_eq_true rfl) ?_
  refine wpM.mono h (fun rr G1 hr => ?_)
  obtain ⟨rfl, h⟩ := hr
  show wp E d M_X12_test 4 [some (vr _)] [] G1 Q
  refine wp_aload_n (pc := 4) d_X12_test_4 rfl ?_
  obtain ⟨ho2, h⟩ := h
  refine wp_getI (pc := 5) d_X12_test_5 fl_X12_311 (fun _ _ _ => rfl) ho2 ?_
  refine wp_if_ne (pc := 8) (tgt := 47) d_X12_test_8 (by decide) (fun hc => ?_) (fun hc => ?_)
  · have h := h.1 hc
    exact wp_vret (pc := 47) d_X12_test_47 rfl h
  · have h := h.2 hc
    refine wp_aload_n (pc := 11) d_X12_test_11 rfl ?_
    refine wp_getI (pc := 12) d_X12_test_12 fl_X12_292 (fun _ _ _ => rfl) ho2 ?_
    refine wp_sipush (pc := 15) (v := 203) d_X12_test_15 rfl ?_
    refine wp_icmp_ne (pc := 18) (tgt := 47) d_X12_test_18 (by decide) (fun hc => ?_) (fun hc => ?_)
    · have h := h.1 hc
      exact wp_vret (pc := 47) d_X12_test_47 rfl h
    · have h := h.2 hc
      refine wp_aload_n (pc := 21) d_X12_test_21 rfl ?_
      refine wp_invV (pc := 22) (N := M_X12_opens) (As := []) (rest := []) (r := (cn_12, ct_12, 95)) d_X12_test_22 ml_X12_399 mk_X12_opens mv_X12_opens h0 ho2 rfl rfl (Nat.le_of_ble_eq_true rfl) ?_
      refine wpM.mono h (fun rr G4 hr => ?_)
      obtain ⟨r3, rfl, h⟩ := hr
      show wp E d M_X12_test 25 [some (vr _)] [vi _] G4 Q
      refine wp_if_eq (pc := 25) (tgt := 47) d_X12_test_25 (by decide) (fun hc => ?_) (fun hc => ?_)
      · have h := h.1 hc
        exact wp_vret (pc := 47) d_X12_test_47 rfl h
      · have h := h.2 hc
        refine wp_aload_n (pc := 28) d_X12_test_28 rfl ?_
        refine wp_iconst (pc := 29) (v := 0) d_X12_test_29 rfl ?_
        obtain ⟨ho9, h⟩ := h
        refine wp_invV (pc := 30) (N := M_X12_keep) (As := [vi _]) (rest := []) (r := (cn_12, ct_12, 95)) d_X12_test_30 ml_X12_330 mk_X12_keep mv_X12_keep h0 ho9 rfl rfl (Nat.le_of_ble_eq_true rfl) ?_
        refine wpM.mono h (fun rr G5 hr => ?_)
        obtain ⟨rfl, h⟩ := hr
        show wp E d M_X12_test 33 [some (vr _)] [] G5 Q
        refine wp_aload_n (pc := 33) d_X12_test_33 rfl ?_
        obtain ⟨ho8, h⟩ := h
        refine wp_invV (pc := 34) (N := M_X12_test) (As := []) (rest := []) (r := (cn_12, ct_12, 95)) d_X12_test_34 ml_X12_390 mk_X12_test mv_X12_test h0 ho8 rfl rfl (Nat.le_of_ble_eq_true rfl) ?_
        refine wpM.mono h (fun rr G6 hr => ?_)
        obtain ⟨rfl, h⟩ := hr
        show wp E d M_X12_test 37 [some (vr _)] [] G6 Q
        refine wp_aload_n (pc := 37) d_X12_test_37 rfl ?_
        refine wp_dup (pc := 38) d_X12_test_38 (c1_r _) ?_
        obtain ⟨ho7, h⟩ := h
        refine wp_getI (pc := 39) d_X12_test_39 fl_X12_334 (fun _ _ _ => rfl) ho7 ?_
        refine wp_iconst (pc := 42) (v := 1) d_X12_test_42 rfl ?_
        refine wp_isub (pc := 43) d_X12_test_43 ?_
        refine wp_putI (pc := 44) d_X12_test_44 fl_X12_334 (fun _ _ _ => rfl) (Or.inl rfl) ho7 (okI_int _) ?_
        exact wp_vret (pc := 47) d_X12_test_47 rfl h
theorem d_X12_or_0 : decode prog_14_method_34_code 0 = .ok (.aload_n 0, 1) := by decide +kernel
theorem d_X12_or_1 : decode prog_14_method_34_code 1 = .ok (.invokevirtual 402, 3) := by decide +kernel
theorem d_X12_or_4 : decode prog_14_method_34_code 4 = .ok (.aload_n 0, 1) := by decide +kernel
theorem d_X12_or_5 : decode prog_14_method_34_code 5 = .ok (.getfield 311, 3) := by decide +kernel
theorem d_X12_or_8 : decode prog_14_method_34_code 8 = .ok (.ifCond .ne 24, 3) := by decide +kernel
theorem d_X12_or_11 : decode prog_14_method_34_code 11 = .ok (.aload_n 0, 1) := by decide +kernel
theorem d_X12_or_12 : decode prog_14_method_34_code 12 = .ok (.getfield 292, 3) := by decide +kernel
theorem d_X12_or_15 : decode prog_14_method_34_code 15 = .ok (.bipush 124, 2) := by decide +kernel
theorem d_X12_or_17 : decode prog_14_method_34_code 17 = .ok (.if_icmp .ne 15, 3) := by decide +kernel
theorem d_X12_or_20 : decode prog_14_method_34_code 20 = .ok (.aload_n 0, 1) := by decide +kernel
theorem d_X12_or_21 : decode prog_14_method_34_code 21 = .ok (.iconst 0, 1) := by decide +kernel
theorem d_X12_or_22 : decode prog_14_method_34_code 22 = .ok (.invokevirtual 330, 3) := by decide +kernel
theorem d_X12_or_25 : decode prog_14_method_34_code 25 = .ok (.aload_n 0, 1) := by decide +kernel
theorem d_X12_or_26 : decode prog_14_method_34_code 26 = .ok (.invokevirtual 402, 3) := by decide +kernel
theorem d_X12_or_29 : decode prog_14_method_34_code 29 = .ok (.goto (-25), 3) := by decide +kernel
theorem d_X12_or_32 : decode prog_14_method_34_code 32 = .ok (.return_, 1) := by decide +kernel
theorem v_X12_or_0 {E : EE} {d : Nat} {Q : Option AV → AH → Prop} {x0 : Nat} {G : AH} (h0 : 0 < d) (h : isO E G x0 12 ∧ (wpV E (d - 1) M_X12_and [vr x0] G (fun G1 => wp E d M_X12_or 4 [some (vr x0)] [] G1 Q))) : wp E d M_X12_or 0 [some (vr x0)] [] G Q := by
  refine wp_aload_n (pc := 0) d_X12_or_0 rfl ?_
  obtain ⟨ho2, h⟩ := h
  refine wp_invV (pc := 1) (N := M_X12_and) (As := []) (rest := []) (r := (cn_12, ct_12, 95)) d_X12_or_1 ml_X12_402 mk_X12_and mv_X12_and h0 ho2 rfl rfl (Nat.le_of_ble_eq_true rfl) ?_
  refine wpM.mono h (fun rr G1 hr => ?_)
  obtain ⟨rfl, h⟩ := hr
  show wp E d M_X12_or 4 [some (vr _)] [] G1 Q
  refine wp_sub ?_ h
  exact ⟨rfl, trivial⟩
theorem v_X12_or_4 {E : EE} {d : Nat} {Q : Option AV → AH → Prop} {x0 : Nat} {G : AH} (h0 : 0 < d) (h : isO E G x0 12 ∧ ((¬ (gI G x0 45) = 0 → Q none G) ∧ ((gI G x0 45) = 0 → (¬ (gI G x0 41) = 124 → Q none G) ∧ ((gI G x0 41) = 124 → wpV E (d - 1) M_X12_keep [vr x0, vi 0] G (fun G2 => isO E G2 x0 12 ∧ (wpV E (d - 1) M_X12_and [vr x0] G2 (fun G3 => wp E d M_X12_or 4 [some (vr x0)] [] G3 Q))))))) : wp E d M_X12_or 4 [some (vr x0)] [] G Q := by
  refine wp_aload_n (pc := 4) d_X12_or_4 rfl ?_
  obtain ⟨ho1, h⟩ := h
  refine wp_getI (pc := 5) d_X12_or_5 fl_X12_311 (fun _ _ _ => rfl) ho1 ?_
  refine wp_if_ne (pc := 8) (tgt := 32) d_X12_or_8 (by decide) (fun hc => ?_) (fun hc => ?_)
  · have h := h.1 hc
    exact wp_vret (pc := 32) d_X12_or_32 rfl h
  · have h := h.2 hc
    refine wp_aload_n (pc := 11) d_X12_or_11 rfl ?_
    refine wp_getI (pc := 12) d_X12_or_12 fl_X12_292 (fun _ _ _ => rfl) ho1 ?_
    refine wp_bipush (pc := 15) (v := 124) d_X12_or_15 rfl ?_
    refine wp_icmp_ne (pc := 17) (tgt := 32) d_X12_or_17 (by decide) (fun hc => ?_) (fun hc => ?_)
    · have h := h.1 hc
      exact wp_vret (pc := 32) d_X12_or_32 rfl h
    · have h := h.2 hc
      refine wp_aload_n (pc := 20) d_X12_or_20 rfl ?_
      refine wp_iconst (pc := 21) (v := 0) d_X12_or_21 rfl ?_
      refine wp_invV (pc := 22) (N := M_X12_keep) (As := [vi _]) (rest := []) (r := (cn_12, ct_12, 95)) d_X12_or_22 ml_X12_330 mk_X12_keep mv_X12_keep h0 ho1 rfl rfl (Nat.le_of_ble_eq_true rfl) ?_
      refine wpM.mono h (fun rr G2 hr => ?_)
      obtain ⟨rfl, h⟩ := hr
      show wp E d M_X12_or 25 [some (vr _)] [] G2 Q
      refine wp_aload_n (pc := 25) d_X12_or_25 rfl ?_
      obtain ⟨ho4, h⟩ := h
      refine wp_invV (pc := 26) (N := M_X12_and) (As := []) (rest := []) (r := (cn_12, ct_12, 95)) d_X12_or_26 ml_X12_402 mk_X12_and mv_X12_and h0 ho4 rfl rfl (Nat.le_of_ble_eq_true rfl) ?_
      refine wpM.mono h (fun rr G3 hr => ?_)
      obtain ⟨rfl, h⟩ := hr
      show wp E d M_X12_or 29 [some (vr _)] [] G3 Q
      refine wp_goto (pc := 29) (tgt := 4) d_X12_or_29 (by decide) ?_
      refine wp_sub ?_ h
      exact ⟨rfl, trivial⟩
theorem d_X12_and_0 : decode prog_14_method_35_code 0 = .ok (.aload_n 0, 1) := by decide +kernel
theorem d_X12_and_1 : decode prog_14_method_35_code 1 = .ok (.invokevirtual 405, 3) := by decide +kernel
theorem d_X12_and_4 : decode prog_14_method_35_code 4 = .ok (.aload_n 0, 1) := by decide +kernel
theorem d_X12_and_5 : decode prog_14_method_35_code 5 = .ok (.getfield 311, 3) := by decide +kernel
theorem d_X12_and_8 : decode prog_14_method_35_code 8 = .ok (.ifCond .ne 24, 3) := by decide +kernel
theorem d_X12_and_11 : decode prog_14_method_35_code 11 = .ok (.aload_n 0, 1) := by decide +kernel
theorem d_X12_and_12 : decode prog_14_method_35_code 12 = .ok (.getfield 292, 3) := by decide +kernel
theorem d_X12_and_15 : decode prog_14_method_35_code 15 = .ok (.bipush 38, 2) := by decide +kernel
theorem d_X12_and_17 : decode prog_14_method_35_code 17 = .ok (.if_icmp .ne 15, 3) := by decide +kernel
theorem d_X12_and_20 : decode prog_14_method_35_code 20 = .ok (.aload_n 0, 1) := by decide +kernel
theorem d_X12_and_21 : decode prog_14_method_35_code 21 = .ok (.iconst 0, 1) := by decide +kernel
theorem d_X12_and_22 : decode prog_14_method_35_code 22 = .ok (.invokevirtual 330, 3) := by decide +kernel
theorem d_X12_and_25 : decode prog_14_method_35_code 25 = .ok (.aload_n 0, 1) := by decide +kernel
theorem d_X12_and_26 : decode prog_14_method_35_code 26 = .ok (.invokevirtual 405, 3) := by decide +kernel
theorem d_X12_and_29 : decode prog_14_method_35_code 29 = .ok (.goto (-25), 3) := by decide +kernel
theorem d_X12_and_32 : decode prog_14_method_35_code 32 = .ok (.return_, 1) := by decide +kernel
theorem v_X12_and_0 {E : EE} {d : Nat} {Q : Option AV → AH → Prop} {x0 : Nat} {G : AH} (h0 : 0 < d) (h : isO E G x0 12 ∧ (wpV E (d - 1) M_X12_unit [vr x0] G (fun G1 => wp E d M_X12_and 4 [some (vr x0)] [] G1 Q))) : wp E d M_X12_and 0 [some (vr x0)] [] G Q := by
  refine wp_aload_n (pc := 0) d_X12_and_0 rfl ?_
  obtain ⟨ho2, h⟩ := h
  refine wp_invV (pc := 1) (N := M_X12_unit) (As := []) (rest := []) (r := (cn_12, ct_12, 95)) d_X12_and_1 ml_X12_405 mk_X12_unit mv_X12_unit h0 ho2 rfl rfl (Nat.le_of_ble_eq_true rfl) ?_
  refine wpM.mono h (fun rr G1 hr => ?_)
  obtain ⟨rfl, h⟩ := hr
  show wp E d M_X12_and 4 [some (vr _)] [] G1 Q
  refine wp_sub ?_ h
  exact ⟨rfl, trivial⟩
theorem v_X12_and_4 {E : EE} {d : Nat} {Q : Option AV → AH → Prop} {x0 : Nat} {G : AH} (h0 : 0 < d) (h : isO E G x0 12 ∧ ((¬ (gI G x0 45) = 0 → Q none G) ∧ ((gI G x0 45) = 0 → (¬ (gI G x0 41) = 38 → Q none G) ∧ ((gI G x0 41) = 38 → wpV E (d - 1) M_X12_keep [vr x0, vi 0] G (fun G2 => isO E G2 x0 12 ∧ (wpV E (d - 1) M_X12_unit [vr x0] G2 (fun G3 => wp E d M_X12_and 4 [some (vr x0)] [] G3 Q))))))) : wp E d M_X12_and 4 [some (vr x0)] [] G Q := by
  refine wp_aload_n (pc := 4) d_X12_and_4 rfl ?_
  obtain ⟨ho1, h⟩ := h
  refine wp_getI (pc := 5) d_X12_and_5 fl_X12_311 (fun _ _ _ => rfl) ho1 ?_
  refine wp_if_ne (pc := 8) (tgt := 32) d_X12_and_8 (by decide) (fun hc => ?_) (fun hc => ?_)
  · have h := h.1 hc
    exact wp_vret (pc := 32) d_X12_and_32 rfl h
  · have h := h.2 hc
    refine wp_aload_n (pc := 11) d_X12_and_11 rfl ?_
    refine wp_getI (pc := 12) d_X12_and_12 fl_X12_292 (fun _ _ _ => rfl) ho1 ?_
    refine wp_bipush (pc := 15) (v := 38) d_X12_and_15 rfl ?_
    refine wp_icmp_ne (pc := 17) (tgt := 32) d_X12_and_17 (by decide) (fun hc => ?_) (fun hc => ?_)
    · have h := h.1 hc
      exact wp_vret (pc := 32) d_X12_and_32 rfl h
    · have h := h.2 hc
      refine wp_aload_n (pc := 20) d_X12_and_20 rfl ?_
      refine wp_iconst (pc := 21) (v := 0) d_X12_and_21 rfl ?_
      refine wp_invV (pc := 22) (N := M_X12_keep) (As := [vi _]) (rest := []) (r := (cn_12, ct_12, 95)) d_X12_and_22 ml_X12_330 mk_X12_keep mv_X12_keep h0 ho1 rfl rfl (Nat.le_of_ble_eq_true rfl) ?_
      refine wpM.mono h (fun rr G2 hr => ?_)
      obtain ⟨rfl, h⟩ := hr
      show wp E d M_X12_and 25 [some (vr _)] [] G2 Q
      refine wp_aload_n (pc := 25) d_X12_and_25 rfl ?_
      obtain ⟨ho4, h⟩ := h
      refine wp_invV (pc := 26) (N := M_X12_unit) (As := []) (rest := []) (r := (cn_12, ct_12, 95)) d_X12_and_26 ml_X12_405 mk_X12_unit mv_X12_unit h0 ho4 rfl rfl (Nat.le_of_ble_eq_true rfl) ?_
      refine wpM.mono h (fun rr G3 hr => ?_)
      obtain ⟨rfl, h⟩ := hr
      show wp E d M_X12_and 29 [some (vr _)] [] G3 Q
      refine wp_goto (pc := 29) (tgt := 4) d_X12_and_29 (by decide) ?_
      refine wp_sub ?_ h
      exact ⟨rfl, trivial⟩
theorem d_X12_unit_0 : decode prog_14_method_37_code 0 = .ok (.aload_n 0, 1) := by decide +kernel
theorem d_X12_unit_1 : decode prog_14_method_37_code 1 = .ok (.getfield 311, 3) := by decide +kernel
theorem d_X12_unit_4 : decode prog_14_method_37_code 4 = .ok (.ifCond .eq 4, 3) := by decide +kernel
theorem d_X12_unit_7 : decode prog_14_method_37_code 7 = .ok (.return_, 1) := by decide +kernel
theorem d_X12_unit_8 : decode prog_14_method_37_code 8 = .ok (.aload_n 0, 1) := by decide +kernel
theorem d_X12_unit_9 : decode prog_14_method_37_code 9 = .ok (.getfield 292, 3) := by decide +kernel
theorem d_X12_unit_12 : decode prog_14_method_37_code 12 = .ok (.bipush 126, 2) := by decide +kernel
theorem d_X12_unit_14 : decode prog_14_method_37_code 14 = .ok (.if_icmp .ne 32, 3) := by decide +kernel
theorem d_X12_unit_17 : decode prog_14_method_37_code 17 = .ok (.aload_n 0, 1) := by decide +kernel
theorem d_X12_unit_18 : decode prog_14_method_37_code 18 = .ok (.invokevirtual 399, 3) := by decide +kernel
theorem d_X12_unit_21 : decode prog_14_method_37_code 21 = .ok (.ifCond .eq 137, 3) := by decide +kernel
theorem d_X12_unit_24 : decode prog_14_method_37_code 24 = .ok (.aload_n 0, 1) := by decide +kernel
theorem d_X12_unit_25 : decode prog_14_method_37_code 25 = .ok (.iconst 0, 1) := by decide +kernel
theorem d_X12_unit_26 : decode prog_14_method_37_code 26 = .ok (.invokevirtual 330, 3) := by decide +kernel
theorem d_X12_unit_29 : decode prog_14_method_37_code 29 = .ok (.aload_n 0, 1) := by decide +kernel
theorem d_X12_unit_30 : decode prog_14_method_37_code 30 = .ok (.invokevirtual 405, 3) := by decide +kernel
theorem d_X12_unit_33 : decode prog_14_method_37_code 33 = .ok (.aload_n 0, 1) := by decide +kernel
theorem d_X12_unit_34 : decode prog_14_method_37_code 34 = .ok (.dup, 1) := by decide +kernel
theorem d_X12_unit_35 : decode prog_14_method_37_code 35 = .ok (.getfield 334, 3) := by decide +kernel
theorem d_X12_unit_38 : decode prog_14_method_37_code 38 = .ok (.iconst 1, 1) := by decide +kernel
theorem d_X12_unit_39 : decode prog_14_method_37_code 39 = .ok (.isub, 1) := by decide +kernel
theorem d_X12_unit_40 : decode prog_14_method_37_code 40 = .ok (.putfield 334, 3) := by decide +kernel
theorem d_X12_unit_43 : decode prog_14_method_37_code 43 = .ok (.goto 115, 3) := by decide +kernel
theorem d_X12_unit_46 : decode prog_14_method_37_code 46 = .ok (.aload_n 0, 1) := by decide +kernel
theorem d_X12_unit_47 : decode prog_14_method_37_code 47 = .ok (.getfield 292, 3) := by decide +kernel
theorem d_X12_unit_50 : decode prog_14_method_37_code 50 = .ok (.bipush 123, 2) := by decide +kernel
theorem d_X12_unit_52 : decode prog_14_method_37_code 52 = .ok (.if_icmp .ne 38, 3) := by decide +kernel
theorem d_X12_unit_55 : decode prog_14_method_37_code 55 = .ok (.aload_n 0, 1) := by decide +kernel
theorem d_X12_unit_56 : decode prog_14_method_37_code 56 = .ok (.invokevirtual 399, 3) := by decide +kernel
theorem d_X12_unit_59 : decode prog_14_method_37_code 59 = .ok (.ifCond .eq 99, 3) := by decide +kernel
theorem d_X12_unit_62 : decode prog_14_method_37_code 62 = .ok (.aload_n 0, 1) := by decide +kernel
theorem d_X12_unit_63 : decode prog_14_method_37_code 63 = .ok (.iconst 0, 1) := by decide +kernel
theorem d_X12_unit_64 : decode prog_14_method_37_code 64 = .ok (.invokevirtual 330, 3) := by decide +kernel
theorem d_X12_unit_67 : decode prog_14_method_37_code 67 = .ok (.aload_n 0, 1) := by decide +kernel
theorem d_X12_unit_68 : decode prog_14_method_37_code 68 = .ok (.invokevirtual 390, 3) := by decide +kernel
theorem d_X12_unit_71 : decode prog_14_method_37_code 71 = .ok (.aload_n 0, 1) := by decide +kernel
theorem d_X12_unit_72 : decode prog_14_method_37_code 72 = .ok (.bipush 125, 2) := by decide +kernel
theorem d_X12_unit_74 : decode prog_14_method_37_code 74 = .ok (.invokevirtual 373, 3) := by decide +kernel
theorem d_X12_unit_77 : decode prog_14_method_37_code 77 = .ok (.aload_n 0, 1) := by decide +kernel
theorem d_X12_unit_78 : decode prog_14_method_37_code 78 = .ok (.dup, 1) := by decide +kernel
theorem d_X12_unit_79 : decode prog_14_method_37_code 79 = .ok (.getfield 334, 3) := by decide +kernel
theorem d_X12_unit_82 : decode prog_14_method_37_code 82 = .ok (.iconst 1, 1) := by decide +kernel
theorem d_X12_unit_83 : decode prog_14_method_37_code 83 = .ok (.isub, 1) := by decide +kernel
theorem d_X12_unit_84 : decode prog_14_method_37_code 84 = .ok (.putfield 334, 3) := by decide +kernel
theorem d_X12_unit_87 : decode prog_14_method_37_code 87 = .ok (.goto 71, 3) := by decide +kernel
theorem d_X12_unit_90 : decode prog_14_method_37_code 90 = .ok (.aload_n 0, 1) := by decide +kernel
theorem d_X12_unit_91 : decode prog_14_method_37_code 91 = .ok (.getfield 292, 3) := by decide +kernel
theorem d_X12_unit_94 : decode prog_14_method_37_code 94 = .ok (.sipush 306, 3) := by decide +kernel
theorem d_X12_unit_97 : decode prog_14_method_37_code 97 = .ok (.if_icmp .lt 20, 3) := by decide +kernel
theorem d_X12_unit_100 : decode prog_14_method_37_code 100 = .ok (.aload_n 0, 1) := by decide +kernel
theorem d_X12_unit_101 : decode prog_14_method_37_code 101 = .ok (.getfield 292, 3) := by decide +kernel
theorem d_X12_unit_104 : decode prog_14_method_37_code 104 = .ok (.sipush 312, 3) := by decide +kernel
theorem d_X12_unit_107 : decode prog_14_method_37_code 107 = .ok (.if_icmp .gt 10, 3) := by decide +kernel
theorem d_X12_unit_110 : decode prog_14_method_37_code 110 = .ok (.aload_n 0, 1) := by decide +kernel
theorem d_X12_unit_111 : decode prog_14_method_37_code 111 = .ok (.invokevirtual 408, 3) := by decide +kernel
theorem d_X12_unit_114 : decode prog_14_method_37_code 114 = .ok (.goto 44, 3) := by decide +kernel
theorem d_X12_unit_117 : decode prog_14_method_37_code 117 = .ok (.aload_n 0, 1) := by decide +kernel
theorem d_X12_unit_118 : decode prog_14_method_37_code 118 = .ok (.invokevirtual 393, 3) := by decide +kernel
theorem d_X12_unit_121 : decode prog_14_method_37_code 121 = .ok (.aload_n 0, 1) := by decide +kernel
theorem d_X12_unit_122 : decode prog_14_method_37_code 122 = .ok (.getfield 311, 3) := by decide +kernel
theorem d_X12_unit_125 : decode prog_14_method_37_code 125 = .ok (.ifCond .ne 17, 3) := by decide +kernel
theorem d_X12_unit_128 : decode prog_14_method_37_code 128 = .ok (.aload_n 0, 1) := by decide +kernel
theorem d_X12_unit_129 : decode prog_14_method_37_code 129 = .ok (.getfield 292, 3) := by decide +kernel
theorem d_X12_unit_132 : decode prog_14_method_37_code 132 = .ok (.invokestatic 411, 3) := by decide +kernel
theorem d_X12_unit_135 : decode prog_14_method_37_code 135 = .ok (.ifCond .ne 7, 3) := by decide +kernel
theorem d_X12_unit_138 : decode prog_14_method_37_code 138 = .ok (.aload_n 0, 1) := by decide +kernel
theorem d_X12_unit_139 : decode prog_14_method_37_code 139 = .ok (.invokevirtual 327, 3) := by decide +kernel
theorem d_X12_unit_142 : decode prog_14_method_37_code 142 = .ok (.aload_n 0, 1) := by decide +kernel
theorem d_X12_unit_143 : decode prog_14_method_37_code 143 = .ok (.getfield 311, 3) := by decide +kernel
theorem d_X12_unit_146 : decode prog_14_method_37_code 146 = .ok (.ifCond .ne 12, 3) := by decide +kernel
theorem d_X12_unit_149 : decode prog_14_method_37_code 149 = .ok (.aload_n 0, 1) := by decide +kernel
theorem d_X12_unit_150 : decode prog_14_method_37_code 150 = .ok (.iconst 0, 1) := by decide +kernel
theorem d_X12_unit_151 : decode prog_14_method_37_code 151 = .ok (.invokevirtual 330, 3) := by decide +kernel
theorem d_X12_unit_154 : decode prog_14_method_37_code 154 = .ok (.aload_n 0, 1) := by decide +kernel
theorem d_X12_unit_155 : decode prog_14_method_37_code 155 = .ok (.invokevirtual 393, 3) := by decide +kernel
theorem d_X12_unit_158 : decode prog_14_method_37_code 158 = .ok (.return_, 1) := by decide +kernel
theorem v_X12_unit_0 {E : EE} {d : Nat} {Q : Option AV → AH → Prop} {x0 : Nat} {G : AH} (h0 : 0 < d) (h : isO E G x0 12 ∧ (((gI G x0 45) = 0 → (¬ (gI G x0 41) = 126 → (¬ (gI G x0 41) = 123 → ((gI G x0 41) < 306 → wp E d M_X12_unit 117 [some (vr x0)] [] G Q) ∧ (¬ ((gI G x0 41) < 306) → (312 < (gI G x0 41) → wp E d M_X12_unit 117 [some (vr x0)] [] G Q) ∧ (¬ (312 < (gI G x0 41)) → wpV E (d - 1) M_X12_special [vr x0] G (fun G2 => Q none G2)))) ∧ ((gI G x0 41) = 123 → wpI E (d - 1) M_X12_opens [vr x0] G (fun r3 G4 => (r3 = 0 → Q none G4) ∧ (¬ (r3 = 0) → isO E G4 x0 12 ∧ (wpV E (d - 1) M_X12_keep [vr x0, vi 0] G4 (fun G5 => isO E G5 x0 12 ∧ (wpV E (d - 1) M_X12_test [vr x0] G5 (fun G6 => isO E G6 x0 12 ∧ (wpV E (d - 1) M_X12_need [vr x0, vi 125] G6 (fun G7 => isO E G7 x0 12 ∧ (Q none (sI G7 x0 48 ((gI G7 x0 48) - 1))))))))))))) ∧ ((gI G x0 41) = 126 → wpI E (d - 1) M_X12_opens [vr x0] G (fun r12 G13 => (r12 = 0 → Q none G13) ∧ (¬ (r12 = 0) → isO E G13 x0 12 ∧ (wpV E (d - 1) M_X12_keep [vr x0, vi 0] G13 (fun G14 => isO E G14 x0 12 ∧ (wpV E (d - 1) M_X12_unit [vr x0] G14 (fun G15 => isO E G15 x0 12 ∧ (Q none (sI G15 x0 48 ((gI G15 x0 48) - 1))))))))))) ∧ (¬ ((gI G x0 45) = 0) → Q none G))) : wp E d M_X12_unit 0 [some (vr x0)] [] G Q := by
  refine wp_aload_n (pc := 0) d_X12_unit_0 rfl ?_
  obtain ⟨ho1, h⟩ := h
  refine wp_getI (pc := 1) d_X12_unit_1 fl_X12_311 (fun _ _ _ => rfl) ho1 ?_
  refine wp_if_eq (pc := 4) (tgt := 8) d_X12_unit_4 (by decide) (fun hc => ?_) (fun hc => ?_)
  · have h := h.1 hc
    refine wp_aload_n (pc := 8) d_X12_unit_8 rfl ?_
    refine wp_getI (pc := 9) d_X12_unit_9 fl_X12_292 (fun _ _ _ => rfl) ho1 ?_
    refine wp_bipush (pc := 12) (v := 126) d_X12_unit_12 rfl ?_
    refine wp_icmp_ne (pc := 14) (tgt := 46) d_X12_unit_14 (by decide) (fun hc => ?_) (fun hc => ?_)
    · have h := h.1 hc
      refine wp_aload_n (pc := 46) d_X12_unit_46 rfl ?_
      refine wp_getI (pc := 47) d_X12_unit_47 fl_X12_292 (fun _ _ _ => rfl) ho1 ?_
      refine wp_bipush (pc := 50) (v := 123) d_X12_unit_50 rfl ?_
      refine wp_icmp_ne (pc := 52) (tgt := 90) d_X12_unit_52 (by decide) (fun hc => ?_) (fun hc => ?_)
      · have h := h.1 hc
        refine wp_aload_n (pc := 90) d_X12_unit_90 rfl ?_
        refine wp_getI (pc := 91) d_X12_unit_91 fl_X12_292 (fun _ _ _ => rfl) ho1 ?_
        refine wp_sipush (pc := 94) (v := 306) d_X12_unit_94 rfl ?_
        refine wp_icmp_lt (pc := 97) (tgt := 117) d_X12_unit_97 (by decide) (fun hc => ?_) (fun hc => ?_)
        · have h := h.1 hc
          refine wp_sub ?_ h
          exact ⟨rfl, trivial⟩
        · have h := h.2 hc
          refine wp_aload_n (pc := 100) d_X12_unit_100 rfl ?_
          refine wp_getI (pc := 101) d_X12_unit_101 fl_X12_292 (fun _ _ _ => rfl) ho1 ?_
          refine wp_sipush (pc := 104) (v := 312) d_X12_unit_104 rfl ?_
          refine wp_icmp_gt (pc := 107) (tgt := 117) d_X12_unit_107 (by decide) (fun hc => ?_) (fun hc => ?_)
          · have h := h.1 hc
            refine wp_sub ?_ h
            exact ⟨rfl, trivial⟩
          · have h := h.2 hc
            refine wp_aload_n (pc := 110) d_X12_unit_110 rfl ?_
            refine wp_invV (pc := 111) (N := M_X12_special) (As := []) (rest := []) (r := (cn_12, ct_12, 95)) d_X12_unit_111 ml_X12_408 mk_X12_special mv_X12_special h0 ho1 rfl rfl (Nat.le_of_ble_eq_true rfl) ?_
            refine wpM.mono h (fun rr G2 hr => ?_)
            obtain ⟨rfl, h⟩ := hr
            show wp E d M_X12_unit 114 [some (vr _)] [] G2 Q
            refine wp_goto (pc := 114) (tgt := 158) d_X12_unit_114 (by decide) ?_
            exact wp_vret (pc := 158) d_X12_unit_158 rfl h
      · have h := h.2 hc
        refine wp_aload_n (pc := 55) d_X12_unit_55 rfl ?_
        refine wp_invV (pc := 56) (N := M_X12_opens) (As := []) (rest := []) (r := (cn_12, ct_12, 95)) d_X12_unit_56 ml_X12_399 mk_X12_opens mv_X12_opens h0 ho1 rfl rfl (Nat.le_of_ble_eq_true rfl) ?_
        refine wpM.mono h (fun rr G4 hr => ?_)
        obtain ⟨r3, rfl, h⟩ := hr
        show wp E d M_X12_unit 59 [some (vr _)] [vi _] G4 Q
        refine wp_if_eq (pc := 59) (tgt := 158) d_X12_unit_59 (by decide) (fun hc => ?_) (fun hc => ?_)
        · have h := h.1 hc
          exact wp_vret (pc := 158) d_X12_unit_158 rfl h
        · have h := h.2 hc
          refine wp_aload_n (pc := 62) d_X12_unit_62 rfl ?_
          refine wp_iconst (pc := 63) (v := 0) d_X12_unit_63 rfl ?_
          obtain ⟨ho11, h⟩ := h
          refine wp_invV (pc := 64) (N := M_X12_keep) (As := [vi _]) (rest := []) (r := (cn_12, ct_12, 95)) d_X12_unit_64 ml_X12_330 mk_X12_keep mv_X12_keep h0 ho11 rfl rfl (Nat.le_of_ble_eq_true rfl) ?_
          refine wpM.mono h (fun rr G5 hr => ?_)
          obtain ⟨rfl, h⟩ := hr
          show wp E d M_X12_unit 67 [some (vr _)] [] G5 Q
          refine wp_aload_n (pc := 67) d_X12_unit_67 rfl ?_
          obtain ⟨ho10, h⟩ := h
          refine wp_invV (pc := 68) (N := M_X12_test) (As := []) (rest := []) (r := (cn_12, ct_12, 95)) d_X12_unit_68 ml_X12_390 mk_X12_test mv_X12_test h0 ho10 rfl rfl (Nat.le_of_ble_eq_true rfl) ?_
          refine wpM.mono h (fun rr G6 hr => ?_)
          obtain ⟨rfl, h⟩ := hr
          show wp E d M_X12_unit 71 [some (vr _)] [] G6 Q
          refine wp_aload_n (pc := 71) d_X12_unit_71 rfl ?_
          refine wp_bipush (pc := 72) (v := 125) d_X12_unit_72 rfl ?_
          obtain ⟨ho9, h⟩ := h
          refine wp_invV (pc := 74) (N := M_X12_need) (As := [vi _]) (rest := []) (r := (cn_12, ct_12, 95)) d_X12_unit_74 ml_X12_373 mk_X12_need mv_X12_need h0 ho9 rfl rfl (Nat.le_of_ble_eq_true rfl) ?_
          refine wpM.mono h (fun rr G7 hr => ?_)
          obtain ⟨rfl, h⟩ := hr
          show wp E d M_X12_unit 77 [some (vr _)] [] G7 Q
          refine wp_aload_n (pc := 77) d_X12_unit_77 rfl ?_
          refine wp_dup (pc := 78) d_X12_unit_78 (c1_r _) ?_
          obtain ⟨ho8, h⟩ := h
          refine wp_getI (pc := 79) d_X12_unit_79 fl_X12_334 (fun _ _ _ => rfl) ho8 ?_
          refine wp_iconst (pc := 82) (v := 1) d_X12_unit_82 rfl ?_
          refine wp_isub (pc := 83) d_X12_unit_83 ?_
          refine wp_putI (pc := 84) d_X12_unit_84 fl_X12_334 (fun _ _ _ => rfl) (Or.inl rfl) ho8 (okI_int _) ?_
          refine wp_goto (pc := 87) (tgt := 158) d_X12_unit_87 (by decide) ?_
          exact wp_vret (pc := 158) d_X12_unit_158 rfl h
    · have h := h.2 hc
      refine wp_aload_n (pc := 17) d_X12_unit_17 rfl ?_
      refine wp_invV (pc := 18) (N := M_X12_opens) (As := []) (rest := []) (r := (cn_12, ct_12, 95)) d_X12_unit_18 ml_X12_399 mk_X12_opens mv_X12_opens h0 ho1 rfl rfl (Nat.le_of_ble_eq_true rfl) ?_
      refine wpM.mono h (fun rr G13 hr => ?_)
      obtain ⟨r12, rfl, h⟩ := hr
      show wp E d M_X12_unit 21 [some (vr _)] [vi _] G13 Q
      refine wp_if_eq (pc := 21) (tgt := 158) d_X12_unit_21 (by decide) (fun hc => ?_) (fun hc => ?_)
      · have h := h.1 hc
        exact wp_vret (pc := 158) d_X12_unit_158 rfl h
      · have h := h.2 hc
        refine wp_aload_n (pc := 24) d_X12_unit_24 rfl ?_
        refine wp_iconst (pc := 25) (v := 0) d_X12_unit_25 rfl ?_
        obtain ⟨ho18, h⟩ := h
        refine wp_invV (pc := 26) (N := M_X12_keep) (As := [vi _]) (rest := []) (r := (cn_12, ct_12, 95)) d_X12_unit_26 ml_X12_330 mk_X12_keep mv_X12_keep h0 ho18 rfl rfl (Nat.le_of_ble_eq_true rfl) ?_
        refine wpM.mono h (fun rr G14 hr => ?_)
        obtain ⟨rfl, h⟩ := hr
        show wp E d M_X12_unit 29 [some (vr _)] [] G14 Q
        refine wp_aload_n (pc := 29) d_X12_unit_29 rfl ?_
        obtain ⟨ho17, h⟩ := h
        refine wp_invV (pc := 30) (N := M_X12_unit) (As := []) (rest := []) (r := (cn_12, ct_12, 95)) d_X12_unit_30 ml_X12_405 mk_X12_unit mv_X12_unit h0 ho17 rfl rfl (Nat.le_of_ble_eq_true rfl) ?_
        refine wpM.mono h (fun rr G15 hr => ?_)
        obtain ⟨rfl, h⟩ := hr
        show wp E d M_X12_unit 33 [some (vr _)] [] G15 Q
        refine wp_aload_n (pc := 33) d_X12_unit_33 rfl ?_
        refine wp_dup (pc := 34) d_X12_unit_34 (c1_r _) ?_
        obtain ⟨ho16, h⟩ := h
        refine wp_getI (pc := 35) d_X12_unit_35 fl_X12_334 (fun _ _ _ => rfl) ho16 ?_
        refine wp_iconst (pc := 38) (v := 1) d_X12_unit_38 rfl ?_
        refine wp_isub (pc := 39) d_X12_unit_39 ?_
        refine wp_putI (pc := 40) d_X12_unit_40 fl_X12_334 (fun _ _ _ => rfl) (Or.inl rfl) ho16 (okI_int _) ?_
        refine wp_goto (pc := 43) (tgt := 158) d_X12_unit_43 (by decide) ?_
        exact wp_vret (pc := 158) d_X12_unit_158 rfl h
  · have h := h.2 hc
    exact wp_vret (pc := 7) d_X12_unit_7 rfl h
theorem v_X12_unit_117 {E : EE} {d : Nat} {Q : Option AV → AH → Prop} {x0 : Nat} {G : AH} (h0 : 0 < d) (h : isO E G x0 12 ∧ (wpV E (d - 1) M_X12_sum [vr x0] G (fun G1 => isO E G1 x0 12 ∧ ((¬ (gI G1 x0 45) = 0 → wp E d M_X12_unit 142 [some (vr x0)] [] G1 Q) ∧ ((gI G1 x0 45) = 0 → wpI E (d - 1) M_X12_isRelation [vi (gI G1 x0 41)] G1 (fun r3 G4 => (¬ r3 = 0 → wp E d M_X12_unit 142 [some (vr x0)] [] G4 Q) ∧ (r3 = 0 → isO E G4 x0 12 ∧ (wpV E (d - 1) M_X12_failHere [vr x0] G4 (fun G5 => wp E d M_X12_unit 142 [some (vr x0)] [] G5 Q))))))))) : wp E d M_X12_unit 117 [some (vr x0)] [] G Q := by
  refine wp_aload_n (pc := 117) d_X12_unit_117 rfl ?_
  obtain ⟨ho7, h⟩ := h
  refine wp_invV (pc := 118) (N := M_X12_sum) (As := []) (rest := []) (r := (cn_12, ct_12, 95)) d_X12_unit_118 ml_X12_393 mk_X12_sum mv_X12_sum h0 ho7 rfl rfl (Nat.le_of_ble_eq_true rfl) ?_
  refine wpM.mono h (fun rr G1 hr => ?_)
  obtain ⟨rfl, h⟩ := hr
  show wp E d M_X12_unit 121 [some (vr _)] [] G1 Q
  refine wp_aload_n (pc := 121) d_X12_unit_121 rfl ?_
  obtain ⟨ho2, h⟩ := h
  refine wp_getI (pc := 122) d_X12_unit_122 fl_X12_311 (fun _ _ _ => rfl) ho2 ?_
  refine wp_if_ne (pc := 125) (tgt := 142) d_X12_unit_125 (by decide) (fun hc => ?_) (fun hc => ?_)
  · have h := h.1 hc
    refine wp_sub ?_ h
    exact ⟨rfl, trivial⟩
  · have h := h.2 hc
    refine wp_aload_n (pc := 128) d_X12_unit_128 rfl ?_
    refine wp_getI (pc := 129) d_X12_unit_129 fl_X12_292 (fun _ _ _ => rfl) ho2 ?_
    refine wp_invS (pc := 132) (N := M_X12_isRelation) (As := [vi _]) (rest := []) d_X12_unit_132 ml_X12_411 mk_X12_isRelation ms_X12_isRelation h0 (Nat.le_of_ble_eq_true rfl) ?_
    refine wpM.mono h (fun rr G4 hr => ?_)
    obtain ⟨r3, rfl, h⟩ := hr
    show wp E d M_X12_unit 135 [some (vr _)] [vi _] G4 Q
    refine wp_if_ne (pc := 135) (tgt := 142) d_X12_unit_135 (by decide) (fun hc => ?_) (fun hc => ?_)
    · have h := h.1 hc
      refine wp_sub ?_ h
      exact ⟨rfl, trivial⟩
    · have h := h.2 hc
      refine wp_aload_n (pc := 138) d_X12_unit_138 rfl ?_
      obtain ⟨ho6, h⟩ := h
      refine wp_invV (pc := 139) (N := M_X12_failHere) (As := []) (rest := []) (r := (cn_12, ct_12, 95)) d_X12_unit_139 ml_X12_327 mk_X12_failHere mv_X12_failHere h0 ho6 rfl rfl (Nat.le_of_ble_eq_true rfl) ?_
      refine wpM.mono h (fun rr G5 hr => ?_)
      obtain ⟨rfl, h⟩ := hr
      show wp E d M_X12_unit 142 [some (vr _)] [] G5 Q
      refine wp_sub ?_ h
      exact ⟨rfl, trivial⟩
theorem v_X12_unit_142 {E : EE} {d : Nat} {Q : Option AV → AH → Prop} {x0 : Nat} {G : AH} (h0 : 0 < d) (h : isO E G x0 12 ∧ ((¬ (gI G x0 45) = 0 → Q none G) ∧ ((gI G x0 45) = 0 → wpV E (d - 1) M_X12_keep [vr x0, vi 0] G (fun G2 => isO E G2 x0 12 ∧ (wpV E (d - 1) M_X12_sum [vr x0] G2 (fun G3 => Q none G3)))))) : wp E d M_X12_unit 142 [some (vr x0)] [] G Q := by
  refine wp_aload_n (pc := 142) d_X12_unit_142 rfl ?_
  obtain ⟨ho1, h⟩ := h
  refine wp_getI (pc := 143) d_X12_unit_143 fl_X12_311 (fun _ _ _ => rfl) ho1 ?_
  refine wp_if_ne (pc := 146) (tgt := 158) d_X12_unit_146 (by decide) (fun hc => ?_) (fun hc => ?_)
  · have h := h.1 hc
    exact wp_vret (pc := 158) d_X12_unit_158 rfl h
  · have h := h.2 hc
    refine wp_aload_n (pc := 149) d_X12_unit_149 rfl ?_
    refine wp_iconst (pc := 150) (v := 0) d_X12_unit_150 rfl ?_
    refine wp_invV (pc := 151) (N := M_X12_keep) (As := [vi _]) (rest := []) (r := (cn_12, ct_12, 95)) d_X12_unit_151 ml_X12_330 mk_X12_keep mv_X12_keep h0 ho1 rfl rfl (Nat.le_of_ble_eq_true rfl) ?_
    refine wpM.mono h (fun rr G2 hr => ?_)
    obtain ⟨rfl, h⟩ := hr
    show wp E d M_X12_unit 154 [some (vr _)] [] G2 Q
    refine wp_aload_n (pc := 154) d_X12_unit_154 rfl ?_
    obtain ⟨ho4, h⟩ := h
    refine wp_invV (pc := 155) (N := M_X12_sum) (As := []) (rest := []) (r := (cn_12, ct_12, 95)) d_X12_unit_155 ml_X12_393 mk_X12_sum mv_X12_sum h0 ho4 rfl rfl (Nat.le_of_ble_eq_true rfl) ?_
    refine wpM.mono h (fun rr G3 hr => ?_)
    obtain ⟨rfl, h⟩ := hr
    show wp E d M_X12_unit 158 [some (vr _)] [] G3 Q
    exact wp_vret (pc := 158) d_X12_unit_158 rfl h
