/-! decode rows and regions (by program): X12_readProblem X12_next X12_passBlanks X12_look X12_isLetter X12_isFigure X12_wordOf X12_isSpelt X12_isSign X12_statement X12_keep X12_aimStatement X12_newName X12_failHere X12_fail X12_meaning X12_isName X12_need X12_aNumber X12_sum X12_term X12_factor X12_opens X12_bracket X12_anInt X12_isMinus X12_test X12_or X12_and X12_unit -/
theorem d_X12_readProblem_0 : decode prog_14_method_48_code 0 = .ok (.aload_n 0, 1) := by decide +kernel
theorem d_X12_readProblem_1 : decode prog_14_method_48_code 1 = .ok (.iload_n 1, 1) := by decide +kernel
theorem d_X12_readProblem_2 : decode prog_14_method_48_code 2 = .ok (.putfield 321, 3) := by decide +kernel
theorem d_X12_readProblem_5 : decode prog_14_method_48_code 5 = .ok (.aload_n 0, 1) := by decide +kernel
theorem d_X12_readProblem_6 : decode prog_14_method_48_code 6 = .ok (.iconst 0, 1) := by decide +kernel
theorem d_X12_readProblem_7 : decode prog_14_method_48_code 7 = .ok (.putfield 224, 3) := by decide +kernel
theorem d_X12_readProblem_10 : decode prog_14_method_48_code 10 = .ok (.aload_n 0, 1) := by decide +kernel
theorem d_X12_readProblem_11 : decode prog_14_method_48_code 11 = .ok (.sipush 20000, 3) := by decide +kernel
theorem d_X12_readProblem_14 : decode prog_14_method_48_code 14 = .ok (.iload_n 1, 1) := by decide +kernel
theorem d_X12_readProblem_15 : decode prog_14_method_48_code 15 = .ok (.imul, 1) := by decide +kernel
theorem d_X12_readProblem_16 : decode prog_14_method_48_code 16 = .ok (.putfield 228, 3) := by decide +kernel
theorem d_X12_readProblem_19 : decode prog_14_method_48_code 19 = .ok (.aload_n 0, 1) := by decide +kernel
theorem d_X12_readProblem_20 : decode prog_14_method_48_code 20 = .ok (.aload_n 0, 1) := by decide +kernel
theorem d_X12_readProblem_21 : decode prog_14_method_48_code 21 = .ok (.getfield 27, 3) := by decide +kernel
theorem d_X12_readProblem_24 : decode prog_14_method_48_code 24 = .ok (.iload_n 1, 1) := by decide +kernel
theorem d_X12_readProblem_25 : decode prog_14_method_48_code 25 = .ok (.iaload, 1) := by decide +kernel
theorem d_X12_readProblem_26 : decode prog_14_method_48_code 26 = .ok (.putfield 221, 3) := by decide +kernel
theorem d_X12_readProblem_29 : decode prog_14_method_48_code 29 = .ok (.aload_n 0, 1) := by decide +kernel
theorem d_X12_readProblem_30 : decode prog_14_method_48_code 30 = .ok (.iconst 0, 1) := by decide +kernel
theorem d_X12_readProblem_31 : decode prog_14_method_48_code 31 = .ok (.putfield 231, 3) := by decide +kernel
theorem d_X12_readProblem_34 : decode prog_14_method_48_code 34 = .ok (.aload_n 0, 1) := by decide +kernel
theorem d_X12_readProblem_35 : decode prog_14_method_48_code 35 = .ok (.iconst 0, 1) := by decide +kernel
theorem d_X12_readProblem_36 : decode prog_14_method_48_code 36 = .ok (.putfield 311, 3) := by decide +kernel
theorem d_X12_readProblem_39 : decode prog_14_method_48_code 39 = .ok (.aload_n 0, 1) := by decide +kernel
theorem d_X12_readProblem_40 : decode prog_14_method_48_code 40 = .ok (.getfield 43, 3) := by decide +kernel
theorem d_X12_readProblem_43 : decode prog_14_method_48_code 43 = .ok (.iload_n 1, 1) := by decide +kernel
theorem d_X12_readProblem_44 : decode prog_14_method_48_code 44 = .ok (.iconst 0, 1) := by decide +kernel
theorem d_X12_readProblem_45 : decode prog_14_method_48_code 45 = .ok (.iastore, 1) := by decide +kernel
theorem d_X12_readProblem_46 : decode prog_14_method_48_code 46 = .ok (.aload_n 0, 1) := by decide +kernel
theorem d_X12_readProblem_47 : decode prog_14_method_48_code 47 = .ok (.getfield 49, 3) := by decide +kernel
theorem d_X12_readProblem_50 : decode prog_14_method_48_code 50 = .ok (.iload_n 1, 1) := by decide +kernel
theorem d_X12_readProblem_51 : decode prog_14_method_48_code 51 = .ok (.iconst 0, 1) := by decide +kernel
theorem d_X12_readProblem_52 : decode prog_14_method_48_code 52 = .ok (.iastore, 1) := by decide +kernel
theorem d_X12_readProblem_53 : decode prog_14_method_48_code 53 = .ok (.iconst 0, 1) := by decide +kernel
theorem d_X12_readProblem_54 : decode prog_14_method_48_code 54 = .ok (.istore_n 2, 1) := by decide +kernel
theorem d_X12_readProblem_55 : decode prog_14_method_48_code 55 = .ok (.iload_n 2, 1) := by decide +kernel
theorem d_X12_readProblem_56 : decode prog_14_method_48_code 56 = .ok (.iconst 4, 1) := by decide +kernel
theorem d_X12_readProblem_57 : decode prog_14_method_48_code 57 = .ok (.if_icmp .ge 20, 3) := by decide +kernel
theorem d_X12_readProblem_60 : decode prog_14_method_48_code 60 = .ok (.aload_n 0, 1) := by decide +kernel
theorem d_X12_readProblem_61 : decode prog_14_method_48_code 61 = .ok (.getfield 58, 3) := by decide +kernel
theorem d_X12_readProblem_64 : decode prog_14_method_48_code 64 = .ok (.iconst 4, 1) := by decide +kernel
theorem d_X12_readProblem_65 : decode prog_14_method_48_code 65 = .ok (.iload_n 1, 1) := by decide +kernel
theorem d_X12_readProblem_66 : decode prog_14_method_48_code 66 = .ok (.imul, 1) := by decide +kernel
theorem d_X12_readProblem_67 : decode prog_14_method_48_code 67 = .ok (.iload_n 2, 1) := by decide +kernel
theorem d_X12_readProblem_68 : decode prog_14_method_48_code 68 = .ok (.iadd, 1) := by decide +kernel
theorem d_X12_readProblem_69 : decode prog_14_method_48_code 69 = .ok (.iconst 0, 1) := by decide +kernel
theorem d_X12_readProblem_70 : decode prog_14_method_48_code 70 = .ok (.iastore, 1) := by decide +kernel
theorem d_X12_readProblem_71 : decode prog_14_method_48_code 71 = .ok (.iinc 2 1, 3) := by decide +kernel
theorem d_X12_readProblem_74 : decode prog_14_method_48_code 74 = .ok (.goto (-19), 3) := by decide +kernel
theorem d_X12_readProblem_77 : decode prog_14_method_48_code 77 = .ok (.aload_n 0, 1) := by decide +kernel
theorem d_X12_readProblem_78 : decode prog_14_method_48_code 78 = .ok (.getfield 82, 3) := by decide +kernel
theorem d_X12_readProblem_81 : decode prog_14_method_48_code 81 = .ok (.iload_n 1, 1) := by decide +kernel
theorem d_X12_readProblem_82 : decode prog_14_method_48_code 82 = .ok (.iconst 1, 1) := by decide +kernel
theorem d_X12_readProblem_83 : decode prog_14_method_48_code 83 = .ok (.iastore, 1) := by decide +kernel
theorem d_X12_readProblem_84 : decode prog_14_method_48_code 84 = .ok (.aload_n 0, 1) := by decide +kernel
theorem d_X12_readProblem_85 : decode prog_14_method_48_code 85 = .ok (.getfield 85, 3) := by decide +kernel
theorem d_X12_readProblem_88 : decode prog_14_method_48_code 88 = .ok (.iload_n 1, 1) := by decide +kernel
theorem d_X12_readProblem_89 : decode prog_14_method_48_code 89 = .ok (.iconst 0, 1) := by decide +kernel
theorem d_X12_readProblem_90 : decode prog_14_method_48_code 90 = .ok (.iastore, 1) := by decide +kernel
theorem d_X12_readProblem_91 : decode prog_14_method_48_code 91 = .ok (.aload_n 0, 1) := by decide +kernel
theorem d_X12_readProblem_92 : decode prog_14_method_48_code 92 = .ok (.getfield 103, 3) := by decide +kernel
theorem d_X12_readProblem_95 : decode prog_14_method_48_code 95 = .ok (.iload_n 1, 1) := by decide +kernel
theorem d_X12_readProblem_96 : decode prog_14_method_48_code 96 = .ok (.iconst 0, 1) := by decide +kernel
theorem d_X12_readProblem_97 : decode prog_14_method_48_code 97 = .ok (.iastore, 1) := by decide +kernel
theorem d_X12_readProblem_98 : decode prog_14_method_48_code 98 = .ok (.aload_n 0, 1) := by decide +kernel
theorem d_X12_readProblem_99 : decode prog_14_method_48_code 99 = .ok (.invokevirtual 324, 3) := by decide +kernel
theorem d_X12_readProblem_102 : decode prog_14_method_48_code 102 = .ok (.aload_n 0, 1) := by decide +kernel
theorem d_X12_readProblem_103 : decode prog_14_method_48_code 103 = .ok (.invokevirtual 439, 3) := by decide +kernel
theorem d_X12_readProblem_106 : decode prog_14_method_48_code 106 = .ok (.aload_n 0, 1) := by decide +kernel
theorem d_X12_readProblem_107 : decode prog_14_method_48_code 107 = .ok (.getfield 311, 3) := by decide +kernel
theorem d_X12_readProblem_110 : decode prog_14_method_48_code 110 = .ok (.ifCond .ne 17, 3) := by decide +kernel
theorem d_X12_readProblem_113 : decode prog_14_method_48_code 113 = .ok (.aload_n 0, 1) := by decide +kernel
theorem d_X12_readProblem_114 : decode prog_14_method_48_code 114 = .ok (.getfield 292, 3) := by decide +kernel
theorem d_X12_readProblem_117 : decode prog_14_method_48_code 117 = .ok (.ifCond .eq 10, 3) := by decide +kernel
theorem d_X12_readProblem_120 : decode prog_14_method_48_code 120 = .ok (.aload_n 0, 1) := by decide +kernel
theorem d_X12_readProblem_121 : decode prog_14_method_48_code 121 = .ok (.invokevirtual 439, 3) := by decide +kernel
theorem d_X12_readProblem_124 : decode prog_14_method_48_code 124 = .ok (.goto (-18), 3) := by decide +kernel
theorem d_X12_readProblem_127 : decode prog_14_method_48_code 127 = .ok (.aload_n 0, 1) := by decide +kernel
theorem d_X12_readProblem_128 : decode prog_14_method_48_code 128 = .ok (.getfield 311, 3) := by decide +kernel
theorem d_X12_readProblem_131 : decode prog_14_method_48_code 131 = .ok (.ifCond .ne 48, 3) := by decide +kernel
theorem d_X12_readProblem_134 : decode prog_14_method_48_code 134 = .ok (.aload_n 0, 1) := by decide +kernel
theorem d_X12_readProblem_135 : decode prog_14_method_48_code 135 = .ok (.getfield 58, 3) := by decide +kernel
theorem d_X12_readProblem_138 : decode prog_14_method_48_code 138 = .ok (.iconst 4, 1) := by decide +kernel
theorem d_X12_readProblem_139 : decode prog_14_method_48_code 139 = .ok (.iload_n 1, 1) := by decide +kernel
theorem d_X12_readProblem_140 : decode prog_14_method_48_code 140 = .ok (.imul, 1) := by decide +kernel
theorem d_X12_readProblem_141 : decode prog_14_method_48_code 141 = .ok (.iconst 1, 1) := by decide +kernel
theorem d_X12_readProblem_142 : decode prog_14_method_48_code 142 = .ok (.iadd, 1) := by decide +kernel
theorem d_X12_readProblem_143 : decode prog_14_method_48_code 143 = .ok (.iaload, 1) := by decide +kernel
theorem d_X12_readProblem_144 : decode prog_14_method_48_code 144 = .ok (.ifCond .eq 25, 3) := by decide +kernel
theorem d_X12_readProblem_147 : decode prog_14_method_48_code 147 = .ok (.aload_n 0, 1) := by decide +kernel
theorem d_X12_readProblem_148 : decode prog_14_method_48_code 148 = .ok (.getfield 82, 3) := by decide +kernel
theorem d_X12_readProblem_151 : decode prog_14_method_48_code 151 = .ok (.iload_n 1, 1) := by decide +kernel
theorem d_X12_readProblem_152 : decode prog_14_method_48_code 152 = .ok (.iaload, 1) := by decide +kernel
theorem d_X12_readProblem_153 : decode prog_14_method_48_code 153 = .ok (.i2l, 1) := by decide +kernel
theorem d_X12_readProblem_154 : decode prog_14_method_48_code 154 = .ok (.aload_n 0, 1) := by decide +kernel
theorem d_X12_readProblem_155 : decode prog_14_method_48_code 155 = .ok (.getfield 43, 3) := by decide +kernel
theorem d_X12_readProblem_158 : decode prog_14_method_48_code 158 = .ok (.iload_n 1, 1) := by decide +kernel
theorem d_X12_readProblem_159 : decode prog_14_method_48_code 159 = .ok (.iaload, 1) := by decide +kernel
theorem d_X12_readProblem_160 : decode prog_14_method_48_code 160 = .ok (.i2l, 1) := by decide +kernel
theorem d_X12_readProblem_161 : decode prog_14_method_48_code 161 = .ok (.lmul, 1) := by decide +kernel
theorem d_X12_readProblem_162 : decode prog_14_method_48_code 162 = .ok (.ldc2_w 442, 3) := by decide +kernel
theorem d_X12_readProblem_165 : decode prog_14_method_48_code 165 = .ok (.lcmp, 1) := by decide +kernel
theorem d_X12_readProblem_166 : decode prog_14_method_48_code 166 = .ok (.ifCond .le 13, 3) := by decide +kernel
theorem d_X12_readProblem_179 : decode prog_14_method_48_code 179 = .ok (.iconst 1, 1) := by decide +kernel
theorem d_X12_readProblem_180 : decode prog_14_method_48_code 180 = .ok (.istore_n 2, 1) := by decide +kernel
theorem d_X12_readProblem_181 : decode prog_14_method_48_code 181 = .ok (.aload_n 0, 1) := by decide +kernel
theorem d_X12_readProblem_182 : decode prog_14_method_48_code 182 = .ok (.getfield 58, 3) := by decide +kernel
theorem d_X12_readProblem_185 : decode prog_14_method_48_code 185 = .ok (.iconst 4, 1) := by decide +kernel
theorem d_X12_readProblem_186 : decode prog_14_method_48_code 186 = .ok (.iload_n 1, 1) := by decide +kernel
theorem d_X12_readProblem_187 : decode prog_14_method_48_code 187 = .ok (.imul, 1) := by decide +kernel
theorem d_X12_readProblem_188 : decode prog_14_method_48_code 188 = .ok (.iconst 1, 1) := by decide +kernel
theorem d_X12_readProblem_189 : decode prog_14_method_48_code 189 = .ok (.iadd, 1) := by decide +kernel
theorem d_X12_readProblem_190 : decode prog_14_method_48_code 190 = .ok (.iaload, 1) := by decide +kernel
theorem d_X12_readProblem_191 : decode prog_14_method_48_code 191 = .ok (.iconst 1, 1) := by decide +kernel
theorem d_X12_readProblem_192 : decode prog_14_method_48_code 192 = .ok (.isub, 1) := by decide +kernel
theorem d_X12_readProblem_193 : decode prog_14_method_48_code 193 = .ok (.istore_n 3, 1) := by decide +kernel
theorem d_X12_readProblem_194 : decode prog_14_method_48_code 194 = .ok (.iload_n 3, 1) := by decide +kernel
theorem d_X12_readProblem_195 : decode prog_14_method_48_code 195 = .ok (.ifCond .lt 35, 3) := by decide +kernel
theorem d_X12_readProblem_198 : decode prog_14_method_48_code 198 = .ok (.aload_n 0, 1) := by decide +kernel
theorem d_X12_readProblem_199 : decode prog_14_method_48_code 199 = .ok (.getfield 67, 3) := by decide +kernel
theorem d_X12_readProblem_202 : decode prog_14_method_48_code 202 = .ok (.bipush 12, 2) := by decide +kernel
theorem d_X12_readProblem_204 : decode prog_14_method_48_code 204 = .ok (.iload_n 1, 1) := by decide +kernel
theorem d_X12_readProblem_205 : decode prog_14_method_48_code 205 = .ok (.imul, 1) := by decide +kernel
theorem d_X12_readProblem_206 : decode prog_14_method_48_code 206 = .ok (.iload_n 3, 1) := by decide +kernel
theorem d_X12_readProblem_207 : decode prog_14_method_48_code 207 = .ok (.iadd, 1) := by decide +kernel
theorem d_X12_readProblem_208 : decode prog_14_method_48_code 208 = .ok (.iload_n 2, 1) := by decide +kernel
theorem d_X12_readProblem_209 : decode prog_14_method_48_code 209 = .ok (.iastore, 1) := by decide +kernel
theorem d_X12_readProblem_210 : decode prog_14_method_48_code 210 = .ok (.iload_n 2, 1) := by decide +kernel
theorem d_X12_readProblem_211 : decode prog_14_method_48_code 211 = .ok (.aload_n 0, 1) := by decide +kernel
theorem d_X12_readProblem_212 : decode prog_14_method_48_code 212 = .ok (.getfield 64, 3) := by decide +kernel
theorem d_X12_readProblem_215 : decode prog_14_method_48_code 215 = .ok (.bipush 12, 2) := by decide +kernel
theorem d_X12_readProblem_217 : decode prog_14_method_48_code 217 = .ok (.iload_n 1, 1) := by decide +kernel
theorem d_X12_readProblem_218 : decode prog_14_method_48_code 218 = .ok (.imul, 1) := by decide +kernel
theorem d_X12_readProblem_219 : decode prog_14_method_48_code 219 = .ok (.iload_n 3, 1) := by decide +kernel
theorem d_X12_readProblem_220 : decode prog_14_method_48_code 220 = .ok (.iadd, 1) := by decide +kernel
theorem d_X12_readProblem_221 : decode prog_14_method_48_code 221 = .ok (.iaload, 1) := by decide +kernel
theorem d_X12_readProblem_222 : decode prog_14_method_48_code 222 = .ok (.imul, 1) := by decide +kernel
theorem d_X12_readProblem_223 : decode prog_14_method_48_code 223 = .ok (.istore_n 2, 1) := by decide +kernel
theorem d_X12_readProblem_224 : decode prog_14_method_48_code 224 = .ok (.iinc 3 (-1), 3) := by decide +kernel
theorem d_X12_readProblem_227 : decode prog_14_method_48_code 227 = .ok (.goto (-33), 3) := by decide +kernel
theorem d_X12_readProblem_230 : decode prog_14_method_48_code 230 = .ok (.aload_n 0, 1) := by decide +kernel
theorem d_X12_readProblem_231 : decode prog_14_method_48_code 231 = .ok (.getfield 115, 3) := by decide +kernel
theorem d_X12_readProblem_234 : decode prog_14_method_48_code 234 = .ok (.iload_n 1, 1) := by decide +kernel
theorem d_X12_readProblem_235 : decode prog_14_method_48_code 235 = .ok (.dup2, 1) := by decide +kernel
theorem d_X12_readProblem_236 : decode prog_14_method_48_code 236 = .ok (.iaload, 1) := by decide +kernel
theorem d_X12_readProblem_237 : decode prog_14_method_48_code 237 = .ok (.iconst 1, 1) := by decide +kernel
theorem d_X12_readProblem_238 : decode prog_14_method_48_code 238 = .ok (.iadd, 1) := by decide +kernel
theorem d_X12_readProblem_239 : decode prog_14_method_48_code 239 = .ok (.iastore, 1) := by decide +kernel
theorem d_X12_readProblem_240 : decode prog_14_method_48_code 240 = .ok (.aload_n 0, 1) := by decide +kernel
theorem d_X12_readProblem_241 : decode prog_14_method_48_code 241 = .ok (.getfield 311, 3) := by decide +kernel
theorem d_X12_readProblem_244 : decode prog_14_method_48_code 244 = .ok (.ifCond .ne 7, 3) := by decide +kernel
theorem d_X12_readProblem_247 : decode prog_14_method_48_code 247 = .ok (.iconst 1, 1) := by decide +kernel
theorem d_X12_readProblem_248 : decode prog_14_method_48_code 248 = .ok (.goto 4, 3) := by decide +kernel
theorem d_X12_readProblem_251 : decode prog_14_method_48_code 251 = .ok (.iconst 0, 1) := by decide +kernel
theorem d_X12_readProblem_252 : decode prog_14_method_48_code 252 = .ok (.ireturn, 1) := by decide +kernel
theorem v_X12_readProblem_0 {E : EE} {d : Nat} {Q : Option AV → AH → Prop} {x0 : Nat} {x1 : Int32} {G : AH} (h : isO E G x0 12 ∧ (∀ G2 : AH, G2 = sI G x0 47 x1 → ∀ G4 : AH, G4 = sI G2 x0 37 0 → ∀ G6 : AH, G6 = sI G4 x0 38 (20000 * x1) → isO E G6 (gR G6 x0 7) 14 ∧ (vp_in x1 (gN G6 (gR G6 x0 7)) ∧ (∀ G10 : AH, G10 = sI G6 x0 39 (gI G6 (gR G6 x0 7) (Int32.toNatClampNeg x1)) → ∀ G12 : AH, G12 = sI G10 x0 40 0 → ∀ G14 : AH, G14 = sI G12 x0 45 0 → isO E G14 (gR G14 x0 12) 14 ∧ (vp_in x1 (gN G14 (gR G14 x0 12)) ∧ (∀ G18 : AH, G18 = sI G14 (gR G14 x0 12) (Int32.toNatClampNeg x1) 0 → isO E G18 (gR G18 x0 14) 14 ∧ (vp_in x1 (gN G18 (gR G18 x0 14)) ∧ (∀ G22 : AH, G22 = sI G18 (gR G18 x0 14) (Int32.toNatClampNeg x1) 0 → wp E d M_X12_readProblem 55 [some (vr x0), some (vi x1), some (vi 0), none] [] G22 Q)))))))) : wp E d M_X12_readProblem 0 [some (vr x0), some (vi x1), none, none] [] G Q := by
  refine wp_aload_n (pc := 0) d_X12_readProblem_0 rfl ?_
  refine wp_iload_n (pc := 1) d_X12_readProblem_1 rfl ?_
  obtain ⟨ho1, h⟩ := h
  refine wp_putI (pc := 2) d_X12_readProblem_2 fl_X12_321 (fun _ _ _ => rfl) (Or.inl rfl) ho1 (okI_int _) ?_
  refine wp_nm (fun G2 eG2 => ?_)
  have h := h G2 eG2
  have ho3 := isO_sI eG2 ho1
  refine wp_aload_n (pc := 5) d_X12_readProblem_5 rfl ?_
  refine wp_iconst (pc := 6) (v := 0) d_X12_readProblem_6 rfl ?_
  refine wp_putI (pc := 7) d_X12_readProblem_7 fl_X12_224 (fun _ _ _ => rfl) (Or.inl rfl) ho3 okI_z0 ?_
  refine wp_nm (fun G4 eG4 => ?_)
  have h := h G4 eG4
  have ho5 := isO_sI eG4 ho3
  refine wp_aload_n (pc := 10) d_X12_readProblem_10 rfl ?_
  refine wp_sipush (pc := 11) (v := 20000) d_X12_readProblem_11 rfl ?_
  refine wp_iload_n (pc := 14) d_X12_readProblem_14 rfl ?_
  refine wp_imul (pc := 15) d_X12_readProblem_15 ?_
  refine wp_putI (pc := 16) d_X12_readProblem_16 fl_X12_228 (fun _ _ _ => rfl) (Or.inl rfl) ho5 (okI_int _) ?_
  refine wp_nm (fun G6 eG6 => ?_)
  have h := h G6 eG6
  have ho7 := isO_sI eG6 ho5
  refine wp_aload_n (pc := 19) d_X12_readProblem_19 rfl ?_
  refine wp_aload_n (pc := 20) d_X12_readProblem_20 rfl ?_
  refine wp_getR (pc := 21) d_X12_readProblem_21 fl_X12_27 (fun _ _ _ => rfl) ho7 ?_
  refine wp_iload_n (pc := 24) d_X12_readProblem_24 rfl ?_
  obtain ⟨ho8, h⟩ := h
  obtain ⟨hi9, h⟩ := h
  refine wp_iald (pc := 25) d_X12_readProblem_25 ho8 hi9 ?_
  refine wp_putI (pc := 26) d_X12_readProblem_26 fl_X12_221 (fun _ _ _ => rfl) (Or.inl rfl) ho7 (okI_int _) ?_
  refine wp_nm (fun G10 eG10 => ?_)
  have h := h G10 eG10
  have ho11 := isO_sI eG10 ho7
  refine wp_aload_n (pc := 29) d_X12_readProblem_29 rfl ?_
  refine wp_iconst (pc := 30) (v := 0) d_X12_readProblem_30 rfl ?_
  refine wp_putI (pc := 31) d_X12_readProblem_31 fl_X12_231 (fun _ _ _ => rfl) (Or.inl rfl) ho11 (okI_int _) ?_
  refine wp_nm (fun G12 eG12 => ?_)
  have h := h G12 eG12
  have ho13 := isO_sI eG12 ho11
  refine wp_aload_n (pc := 34) d_X12_readProblem_34 rfl ?_
  refine wp_iconst (pc := 35) (v := 0) d_X12_readProblem_35 rfl ?_
  refine wp_putI (pc := 36) d_X12_readProblem_36 fl_X12_311 (fun _ _ _ => rfl) (Or.inl rfl) ho13 (okI_int _) ?_
  refine wp_nm (fun G14 eG14 => ?_)
  have h := h G14 eG14
  have ho15 := isO_sI eG14 ho13
  refine wp_aload_n (pc := 39) d_X12_readProblem_39 rfl ?_
  refine wp_getR (pc := 40) d_X12_readProblem_40 fl_X12_43 (fun _ _ _ => rfl) ho15 ?_
  refine wp_iload_n (pc := 43) d_X12_readProblem_43 rfl ?_
  refine wp_iconst (pc := 44) (v := 0) d_X12_readProblem_44 rfl ?_
  obtain ⟨ho16, h⟩ := h
  obtain ⟨hi17, h⟩ := h
  refine wp_iast (pc := 45) d_X12_readProblem_45 ho16 hi17 ?_
  refine wp_nm (fun G18 eG18 => ?_)
  have h := h G18 eG18
  have ho19 := isO_sI eG18 ho15
  refine wp_aload_n (pc := 46) d_X12_readProblem_46 rfl ?_
  refine wp_getR (pc := 47) d_X12_readProblem_47 fl_X12_49 (fun _ _ _ => rfl) ho19 ?_
  refine wp_iload_n (pc := 50) d_X12_readProblem_50 rfl ?_
  refine wp_iconst (pc := 51) (v := 0) d_X12_readProblem_51 rfl ?_
  obtain ⟨ho20, h⟩ := h
  obtain ⟨hi21, h⟩ := h
  refine wp_iast (pc := 52) d_X12_readProblem_52 ho20 hi21 ?_
  refine wp_nm (fun G22 eG22 => ?_)
  have h := h G22 eG22
  have ho23 := isO_sI eG22 ho19
  refine wp_iconst (pc := 53) (v := 0) d_X12_readProblem_53 rfl ?_
  refine wp_istore_n (pc := 54) (lv' := [some (vr _), some (vi _), some (vi _), none]) d_X12_readProblem_54 (by decide) rfl ?_
  refine wp_sub ?_ h
  exact ⟨rfl, ⟨rfl, ⟨rfl, trivial⟩⟩⟩
theorem v_X12_readProblem_55 {E : EE} {d : Nat} {Q : Option AV → AH → Prop} {x0 : Nat} {x1 : Int32} {x2 : Int32} {G : AH} (h0 : 0 < d) (h : (4 ≤ x2 → isO E G x0 12 ∧ (isO E G (gR G x0 25) 14 ∧ (vp_in x1 (gN G (gR G x0 25)) ∧ (∀ G4 : AH, G4 = sI G (gR G x0 25) (Int32.toNatClampNeg x1) 1 → isO E G4 (gR G4 x0 26) 14 ∧ (vp_in x1 (gN G4 (gR G4 x0 26)) ∧ (∀ G8 : AH, G8 = sI G4 (gR G4 x0 26) (Int32.toNatClampNeg x1) 0 → isO E G8 (gR G8 x0 32) 14 ∧ (vp_in x1 (gN G8 (gR G8 x0 32)) ∧ (∀ G12 : AH, G12 = sI G8 (gR G8 x0 32) (Int32.toNatClampNeg x1) 0 → wpV E (d - 1) M_X12_next [vr x0] G12 (fun G14 => isO E G14 x0 12 ∧ (wpV E (d - 1) M_X12_statement [vr x0] G14 (fun G15 => wp E d M_X12_readProblem 106 [some (vr x0), some (vi x1), some (vi x2), none] [] G15 Q))))))))))) ∧ (¬ (4 ≤ x2) → isO E G x0 12 ∧ (isO E G (gR G x0 17) 14 ∧ (vp_in ((4 * x1) + x2) (gN G (gR G x0 17)) ∧ (∀ G20 : AH, G20 = sI G (gR G x0 17) (Int32.toNatClampNeg ((4 * x1) + x2)) 0 → wp E d M_X12_readProblem 55 [some (vr x0), some (vi x1), some (vi (x2 + 1)), none] [] G20 Q))))) : wp E d M_X12_readProblem 55 [some (vr x0), some (vi x1), some (vi x2), none] [] G Q := by
  refine wp_iload_n (pc := 55) d_X12_readProblem_55 rfl ?_
  refine wp_iconst (pc := 56) (v := 4) d_X12_readProblem_56 rfl ?_
  refine wp_icmp_ge (pc := 57) (tgt := 77) d_X12_readProblem_57 (by decide) (fun hc => ?_) (fun hc => ?_)
  · have h := h.1 hc
    refine wp_aload_n (pc := 77) d_X12_readProblem_77 rfl ?_
    obtain ⟨ho1, h⟩ := h
    refine wp_getR (pc := 78) d_X12_readProblem_78 fl_X12_82 (fun _ _ _ => rfl) ho1 ?_
    refine wp_iload_n (pc := 81) d_X12_readProblem_81 rfl ?_
    refine wp_iconst (pc := 82) (v := 1) d_X12_readProblem_82 rfl ?_
    obtain ⟨ho2, h⟩ := h
    obtain ⟨hi3, h⟩ := h
    refine wp_iast (pc := 83) d_X12_readProblem_83 ho2 hi3 ?_
    refine wp_nm (fun G4 eG4 => ?_)
    have h := h G4 eG4
    have ho5 := isO_sI eG4 ho1
    refine wp_aload_n (pc := 84) d_X12_readProblem_84 rfl ?_
    refine wp_getR (pc := 85) d_X12_readProblem_85 fl_X12_85 (fun _ _ _ => rfl) ho5 ?_
    refine wp_iload_n (pc := 88) d_X12_readProblem_88 rfl ?_
    refine wp_iconst (pc := 89) (v := 0) d_X12_readProblem_89 rfl ?_
    obtain ⟨ho6, h⟩ := h
    obtain ⟨hi7, h⟩ := h
    refine wp_iast (pc := 90) d_X12_readProblem_90 ho6 hi7 ?_
    refine wp_nm (fun G8 eG8 => ?_)
    have h := h G8 eG8
    have ho9 := isO_sI eG8 ho5
    refine wp_aload_n (pc := 91) d_X12_readProblem_91 rfl ?_
    refine wp_getR (pc := 92) d_X12_readProblem_92 fl_X12_103 (fun _ _ _ => rfl) ho9 ?_
    refine wp_iload_n (pc := 95) d_X12_readProblem_95 rfl ?_
    refine wp_iconst (pc := 96) (v := 0) d_X12_readProblem_96 rfl ?_
    obtain ⟨ho10, h⟩ := h
    obtain ⟨hi11, h⟩ := h
    refine wp_iast (pc := 97) d_X12_readProblem_97 ho10 hi11 ?_
    refine wp_nm (fun G12 eG12 => ?_)
    have h := h G12 eG12
    have ho13 := isO_sI eG12 ho9
    refine wp_aload_n (pc := 98) d_X12_readProblem_98 rfl ?_
    refine wp_invV (pc := 99) (N := M_X12_next) (As := []) (rest := []) (r := (cn_12, ct_12, 95)) d_X12_readProblem_99 ml_X12_324 mk_X12_next mv_X12_next h0 ho13 rfl rfl (Nat.le_of_ble_eq_true rfl) ?_
    refine wpM.mono h (fun rr G14 hr => ?_)
    obtain ⟨rfl, h⟩ := hr
    show wp E d M_X12_readProblem 102 [some (vr _), some (vi _), some (vi _), none] [] G14 Q
    refine wp_aload_n (pc := 102) d_X12_readProblem_102 rfl ?_
    obtain ⟨ho16, h⟩ := h
    refine wp_invV (pc := 103) (N := M_X12_statement) (As := []) (rest := []) (r := (cn_12, ct_12, 95)) d_X12_readProblem_103 ml_X12_439 mk_X12_statement mv_X12_statement h0 ho16 rfl rfl (Nat.le_of_ble_eq_true rfl) ?_
    refine wpM.mono h (fun rr G15 hr => ?_)
    obtain ⟨rfl, h⟩ := hr
    show wp E d M_X12_readProblem 106 [some (vr _), some (vi _), some (vi _), none] [] G15 Q
    refine wp_sub ?_ h
    exact ⟨rfl, ⟨rfl, ⟨rfl, trivial⟩⟩⟩
  · have h := h.2 hc
    refine wp_aload_n (pc := 60) d_X12_readProblem_60 rfl ?_
    obtain ⟨ho17, h⟩ := h
    refine wp_getR (pc := 61) d_X12_readProblem_61 fl_X12_58 (fun _ _ _ => rfl) ho17 ?_
    refine wp_iconst (pc := 64) (v := 4) d_X12_readProblem_64 rfl ?_
    refine wp_iload_n (pc := 65) d_X12_readProblem_65 rfl ?_
    refine wp_imul (pc := 66) d_X12_readProblem_66 ?_
    refine wp_iload_n (pc := 67) d_X12_readProblem_67 rfl ?_
    refine wp_iadd (pc := 68) d_X12_readProblem_68 ?_
    refine wp_iconst (pc := 69) (v := 0) d_X12_readProblem_69 rfl ?_
    obtain ⟨ho18, h⟩ := h
    obtain ⟨hi19, h⟩ := h
    refine wp_iast (pc := 70) d_X12_readProblem_70 ho18 hi19 ?_
    refine wp_nm (fun G20 eG20 => ?_)
    have h := h G20 eG20
    have ho21 := isO_sI eG20 ho17
    refine wp_iinc (pc := 71) (v := 1) (lv' := [some (vr _), some (vi _), some (vi _), none]) d_X12_readProblem_71 (by decide) rfl rfl rfl ?_
    refine wp_goto (pc := 74) (tgt := 55) d_X12_readProblem_74 (by decide) ?_
    refine wp_sub ?_ h
    exact ⟨rfl, ⟨rfl, ⟨rfl, trivial⟩⟩⟩
theorem v_X12_readProblem_106 {E : EE} {d : Nat} {Q : Option AV → AH → Prop} {x0 : Nat} {x1 : Int32} {x2 : Int32} {G : AH} (h0 : 0 < d) (h : isO E G x0 12 ∧ ((¬ (gI G x0 45) = 0 → wp E d M_X12_readProblem 127 [some (vr x0), some (vi x1), some (vi x2), none] [] G Q) ∧ ((gI G x0 45) = 0 → ((gI G x0 41) = 0 → wp E d M_X12_readProblem 127 [some (vr x0), some (vi x1), some (vi x2), none] [] G Q) ∧ (¬ ((gI G x0 41) = 0) → wpV E (d - 1) M_X12_statement [vr x0] G (fun G2 => wp E d M_X12_readProblem 106 [some (vr x0), some (vi x1), some (vi x2), none] [] G2 Q))))) : wp E d M_X12_readProblem 106 [some (vr x0), some (vi x1), some (vi x2), none] [] G Q := by
  refine wp_aload_n (pc := 106) d_X12_readProblem_106 rfl ?_
  obtain ⟨ho1, h⟩ := h
  refine wp_getI (pc := 107) d_X12_readProblem_107 fl_X12_311 (fun _ _ _ => rfl) ho1 ?_
  refine wp_if_ne (pc := 110) (tgt := 127) d_X12_readProblem_110 (by decide) (fun hc => ?_) (fun hc => ?_)
  · have h := h.1 hc
    refine wp_sub ?_ h
    exact ⟨rfl, ⟨rfl, ⟨rfl, trivial⟩⟩⟩
  · have h := h.2 hc
    refine wp_aload_n (pc := 113) d_X12_readProblem_113 rfl ?_
    refine wp_getI (pc := 114) d_X12_readProblem_114 fl_X12_292 (fun _ _ _ => rfl) ho1 ?_
    refine wp_if_eq (pc := 117) (tgt := 127) d_X12_readProblem_117 (by decide) (fun hc => ?_) (fun hc => ?_)
    · have h := h.1 hc
      refine wp_sub ?_ h
      exact ⟨rfl, ⟨rfl, ⟨rfl, trivial⟩⟩⟩
    · have h := h.2 hc
      refine wp_aload_n (pc := 120) d_X12_readProblem_120 rfl ?_
      refine wp_invV (pc := 121) (N := M_X12_statement) (As := []) (rest := []) (r := (cn_12, ct_12, 95)) d_X12_readProblem_121 ml_X12_439 mk_X12_statement mv_X12_statement h0 ho1 rfl rfl (Nat.le_of_ble_eq_true rfl) ?_
      refine wpM.mono h (fun rr G2 hr => ?_)
      obtain ⟨rfl, h⟩ := hr
      show wp E d M_X12_readProblem 124 [some (vr _), some (vi _), some (vi _), none] [] G2 Q
      refine wp_goto (pc := 124) (tgt := 106) d_X12_readProblem_124 (by decide) ?_
      refine wp_sub ?_ h
      exact ⟨rfl, ⟨rfl, ⟨rfl, trivial⟩⟩⟩
theorem v_X12_readProblem_127 {E : EE} {d : Nat} {Q : Option AV → AH → Prop} {x0 : Nat} {x1 : Int32} {x2 : Int32} {G : AH} (h : isO E G x0 12 ∧ ((¬ (gI G x0 45) = 0 → wp E d M_X12_readProblem 179 [some (vr x0), some (vi x1), some (vi x2), none] [] G Q) ∧ ((gI G x0 45) = 0 → isO E G (gR G x0 17) 14 ∧ (vp_in ((4 * x1) + 1) (gN G (gR G x0 17)) ∧ (((gI G (gR G x0 17) (Int32.toNatClampNeg ((4 * x1) + 1))) = 0 → wp E d M_X12_readProblem 169 [some (vr x0), some (vi x1), some (vi x2), none] [] G Q) ∧ (¬ ((gI G (gR G x0 17) (Int32.toNatClampNeg ((4 * x1) + 1))) = 0) → isO E G (gR G x0 25) 14 ∧ (vp_in x1 (gN G (gR G x0 25)) ∧ (isO E G (gR G x0 12) 14 ∧ (vp_in x1 (gN G (gR G x0 12)) ∧ ((((Int32.toInt64 (gI G (gR G x0 25) (Int32.toNatClampNeg x1))) * (Int32.toInt64 (gI G (gR G x0 12) (Int32.toNatClampNeg x1)))) ≤ 20000000 → wp E d M_X12_readProblem 179 [some (vr x0), some (vi x1), some (vi x2), none] [] G Q) ∧ (¬ (((Int32.toInt64 (gI G (gR G x0 25) (Int32.toNatClampNeg x1))) * (Int32.toInt64 (gI G (gR G x0 12) (Int32.toNatClampNeg x1)))) ≤ 20000000) → wp E d M_X12_readProblem 169 [some (vr x0), some (vi x1), some (vi x2), none] [] G Q))))))))))) : wp E d M_X12_readProblem 127 [some (vr x0), some (vi x1), some (vi x2), none] [] G Q := by
  refine wp_aload_n (pc := 127) d_X12_readProblem_127 rfl ?_
  obtain ⟨ho1, h⟩ := h
  refine wp_getI (pc := 128) d_X12_readProblem_128 fl_X12_311 (fun _ _ _ => rfl) ho1 ?_
  refine wp_if_ne (pc := 131) (tgt := 179) d_X12_readProblem_131 (by decide) (fun hc => ?_) (fun hc => ?_)
  · have h := h.1 hc
    refine wp_sub ?_ h
    exact ⟨rfl, ⟨rfl, ⟨rfl, trivial⟩⟩⟩
  · have h := h.2 hc
    refine wp_aload_n (pc := 134) d_X12_readProblem_134 rfl ?_
    refine wp_getR (pc := 135) d_X12_readProblem_135 fl_X12_58 (fun _ _ _ => rfl) ho1 ?_
    refine wp_iconst (pc := 138) (v := 4) d_X12_readProblem_138 rfl ?_
    refine wp_iload_n (pc := 139) d_X12_readProblem_139 rfl ?_
    refine wp_imul (pc := 140) d_X12_readProblem_140 ?_
    refine wp_iconst (pc := 141) (v := 1) d_X12_readProblem_141 rfl ?_
    refine wp_iadd (pc := 142) d_X12_readProblem_142 ?_
    obtain ⟨ho2, h⟩ := h
    obtain ⟨hi3, h⟩ := h
    refine wp_iald (pc := 143) d_X12_readProblem_143 ho2 hi3 ?_
    refine wp_if_eq (pc := 144) (tgt := 169) d_X12_readProblem_144 (by decide) (fun hc => ?_) (fun hc => ?_)
    · have h := h.1 hc
      refine wp_sub ?_ h
      exact ⟨rfl, ⟨rfl, ⟨rfl, trivial⟩⟩⟩
    · have h := h.2 hc
      refine wp_aload_n (pc := 147) d_X12_readProblem_147 rfl ?_
      refine wp_getR (pc := 148) d_X12_readProblem_148 fl_X12_82 (fun _ _ _ => rfl) ho1 ?_
      refine wp_iload_n (pc := 151) d_X12_readProblem_151 rfl ?_
      obtain ⟨ho4, h⟩ := h
      obtain ⟨hi5, h⟩ := h
      refine wp_iald (pc := 152) d_X12_readProblem_152 ho4 hi5 ?_
      refine wp_i2l (pc := 153) d_X12_readProblem_153 ?_
      refine wp_aload_n (pc := 154) d_X12_readProblem_154 rfl ?_
      refine wp_getR (pc := 155) d_X12_readProblem_155 fl_X12_43 (fun _ _ _ => rfl) ho1 ?_
      refine wp_iload_n (pc := 158) d_X12_readProblem_158 rfl ?_
      obtain ⟨ho6, h⟩ := h
      obtain ⟨hi7, h⟩ := h
      refine wp_iald (pc := 159) d_X12_readProblem_159 ho6 hi7 ?_
      refine wp_i2l (pc := 160) d_X12_readProblem_160 ?_
      refine wp_lmul (pc := 161) d_X12_readProblem_161 ?_
      refine wp_ldc2 (pc := 162) (v := 20000000) d_X12_readProblem_162 cj_X12_442 ?_
      refine wp_lcmp_le (pc := 165) (tgt := 179) d_X12_readProblem_165 d_X12_readProblem_166 (by decide) (fun hc => ?_) (fun hc => ?_)
      · have h := h.1 hc
        refine wp_sub ?_ h
        exact ⟨rfl, ⟨rfl, ⟨rfl, trivial⟩⟩⟩
      · have h := h.2 hc
        refine wp_sub ?_ h
        exact ⟨rfl, ⟨rfl, ⟨rfl, trivial⟩⟩⟩
theorem v_X12_readProblem_179 {E : EE} {d : Nat} {Q : Option AV → AH → Prop} {x0 : Nat} {x1 : Int32} {x2 : Int32} {G : AH} (h : isO E G x0 12 ∧ (isO E G (gR G x0 17) 14 ∧ (vp_in ((4 * x1) + 1) (gN G (gR G x0 17)) ∧ (wp E d M_X12_readProblem 194 [some (vr x0), some (vi x1), some (vi 1), some (vi ((gI G (gR G x0 17) (Int32.toNatClampNeg ((4 * x1) + 1))) - 1))] [] G Q)))) : wp E d M_X12_readProblem 179 [some (vr x0), some (vi x1), some (vi x2), none] [] G Q := by
  refine wp_iconst (pc := 179) (v := 1) d_X12_readProblem_179 rfl ?_
  refine wp_istore_n (pc := 180) (lv' := [some (vr _), some (vi _), some (vi _), none]) d_X12_readProblem_180 (by decide) rfl ?_
  refine wp_aload_n (pc := 181) d_X12_readProblem_181 rfl ?_
  obtain ⟨ho1, h⟩ := h
  refine wp_getR (pc := 182) d_X12_readProblem_182 fl_X12_58 (fun _ _ _ => rfl) ho1 ?_
  refine wp_iconst (pc := 185) (v := 4) d_X12_readProblem_185 rfl ?_
  refine wp_iload_n (pc := 186) d_X12_readProblem_186 rfl ?_
  refine wp_imul (pc := 187) d_X12_readProblem_187 ?_
  refine wp_iconst (pc := 188) (v := 1) d_X12_readProblem_188 rfl ?_
  refine wp_iadd (pc := 189) d_X12_readProblem_189 ?_
  obtain ⟨ho2, h⟩ := h
  obtain ⟨hi3, h⟩ := h
  refine wp_iald (pc := 190) d_X12_readProblem_190 ho2 hi3 ?_
  refine wp_iconst (pc := 191) (v := 1) d_X12_readProblem_191 rfl ?_
  refine wp_isub (pc := 192) d_X12_readProblem_192 ?_
  refine wp_istore_n (pc := 193) (lv' := [some (vr _), some (vi _), some (vi _), some (vi _)]) d_X12_readProblem_193 (by decide) rfl ?_
  refine wp_sub ?_ h
  exact ⟨rfl, ⟨rfl, ⟨rfl, ⟨rfl, trivial⟩⟩⟩⟩
theorem v_X12_readProblem_194 {E : EE} {d : Nat} {Q : Option AV → AH → Prop} {x0 : Nat} {x1 : Int32} {x2 : Int32} {x3 : Int32} {G : AH} (h : (x3 < 0 → isO E G x0 12 ∧ (isO E G (gR G x0 36) 14 ∧ (vp_in x1 (gN G (gR G x0 36)) ∧ (vp_in x1 (gN G (gR G x0 36)) ∧ ((¬ (gI (sI G (gR G x0 36) (Int32.toNatClampNeg x1) ((gI G (gR G x0 36) (Int32.toNatClampNeg x1)) + 1)) x0 45) = 0 → Q (some (vi 0)) (sI G (gR G x0 36) (Int32.toNatClampNeg x1) ((gI G (gR G x0 36) (Int32.toNatClampNeg x1)) + 1))) ∧ ((gI (sI G (gR G x0 36) (Int32.toNatClampNeg x1) ((gI G (gR G x0 36) (Int32.toNatClampNeg x1)) + 1)) x0 45) = 0 → Q (some (vi 1)) (sI G (gR G x0 36) (Int32.toNatClampNeg x1) ((gI G (gR G x0 36) (Int32.toNatClampNeg x1)) + 1)))))))) ∧ (¬ (x3 < 0) → isO E G x0 12 ∧ (isO E G (gR G x0 20) 14 ∧ (vp_in ((12 * x1) + x3) (gN G (gR G x0 20)) ∧ (isO E G (gR G x0 19) 14 ∧ (vp_in ((12 * x1) + x3) (gN G (gR G x0 19)) ∧ (wp E d M_X12_readProblem 194 [some (vr x0), some (vi x1), some (vi (x2 * (gI (sI G (gR G x0 20) (Int32.toNatClampNeg ((12 * x1) + x3)) x2) (gR G x0 19) (Int32.toNatClampNeg ((12 * x1) + x3))))), some (vi (x3 + (-1)))] [] (sI G (gR G x0 20) (Int32.toNatClampNeg ((12 * x1) + x3)) x2) Q))))))) : wp E d M_X12_readProblem 194 [some (vr x0), some (vi x1), some (vi x2), some (vi x3)] [] G Q := by
  refine wp_iload_n (pc := 194) d_X12_readProblem_194 rfl ?_
  refine wp_if_lt (pc := 195) (tgt := 230) d_X12_readProblem_195 (by decide) (fun hc => ?_) (fun hc => ?_)
  · have h := h.1 hc
    refine wp_aload_n (pc := 230) d_X12_readProblem_230 rfl ?_
    obtain ⟨ho1, h⟩ := h
    refine wp_getR (pc := 231) d_X12_readProblem_231 fl_X12_115 (fun _ _ _ => rfl) ho1 ?_
    refine wp_iload_n (pc := 234) d_X12_readProblem_234 rfl ?_
    refine wp_dup2 (pc := 235) d_X12_readProblem_235 (c1_i _) (c1_r _) ?_
    obtain ⟨ho2, h⟩ := h
    obtain ⟨hi3, h⟩ := h
    refine wp_iald (pc := 236) d_X12_readProblem_236 ho2 hi3 ?_
    refine wp_iconst (pc := 237) (v := 1) d_X12_readProblem_237 rfl ?_
    refine wp_iadd (pc := 238) d_X12_readProblem_238 ?_
    obtain ⟨hi4, h⟩ := h
    refine wp_iast (pc := 239) d_X12_readProblem_239 ho2 hi4 ?_
    refine wp_aload_n (pc := 240) d_X12_readProblem_240 rfl ?_
    refine wp_getI (pc := 241) d_X12_readProblem_241 fl_X12_311 (fun _ _ _ => rfl) ho1 ?_
    refine wp_if_ne (pc := 244) (tgt := 251) d_X12_readProblem_244 (by decide) (fun hc => ?_) (fun hc => ?_)
    · have h := h.1 hc
      refine wp_iconst (pc := 251) (v := 0) d_X12_readProblem_251 rfl ?_
      exact wp_zret (pc := 252) d_X12_readProblem_252 rfl rfl h
    · have h := h.2 hc
      refine wp_iconst (pc := 247) (v := 1) d_X12_readProblem_247 rfl ?_
      refine wp_goto (pc := 248) (tgt := 252) d_X12_readProblem_248 (by decide) ?_
      exact wp_zret (pc := 252) d_X12_readProblem_252 rfl rfl h
  · have h := h.2 hc
    refine wp_aload_n (pc := 198) d_X12_readProblem_198 rfl ?_
    obtain ⟨ho5, h⟩ := h
    refine wp_getR (pc := 199) d_X12_readProblem_199 fl_X12_67 (fun _ _ _ => rfl) ho5 ?_
    refine wp_bipush (pc := 202) (v := 12) d_X12_readProblem_202 rfl ?_
    refine wp_iload_n (pc := 204) d_X12_readProblem_204 rfl ?_
    refine wp_imul (pc := 205) d_X12_readProblem_205 ?_
    refine wp_iload_n (pc := 206) d_X12_readProblem_206 rfl ?_
    refine wp_iadd (pc := 207) d_X12_readProblem_207 ?_
    refine wp_iload_n (pc := 208) d_X12_readProblem_208 rfl ?_
    obtain ⟨ho6, h⟩ := h
    obtain ⟨hi7, h⟩ := h
    refine wp_iast (pc := 209) d_X12_readProblem_209 ho6 hi7 ?_
    refine wp_iload_n (pc := 210) d_X12_readProblem_210 rfl ?_
    refine wp_aload_n (pc := 211) d_X12_readProblem_211 rfl ?_
    refine wp_getR (pc := 212) d_X12_readProblem_212 fl_X12_64 (fun _ _ _ => rfl) ho5 ?_
    show wp E d M_X12_readProblem 215 [some (vr x0), some (vi x1), some (vi x2), some (vi x3)] [vr (gR G x0 19), vi x2] (sI G (gR G x0 20) (Int32.toNatClampNeg ((12 * x1) + x3)) x2) Q
    refine wp_bipush (pc := 215) (v := 12) d_X12_readProblem_215 rfl ?_
    refine wp_iload_n (pc := 217) d_X12_readProblem_217 rfl ?_
    refine wp_imul (pc := 218) d_X12_readProblem_218 ?_
    refine wp_iload_n (pc := 219) d_X12_readProblem_219 rfl ?_
    refine wp_iadd (pc := 220) d_X12_readProblem_220 ?_
    obtain ⟨ho8, h⟩ := h
    obtain ⟨hi9, h⟩ := h
    refine wp_iald (pc := 221) d_X12_readProblem_221 ho8 hi9 ?_
    refine wp_imul (pc := 222) d_X12_readProblem_222 ?_
    refine wp_istore_n (pc := 223) (lv' := [some (vr _), some (vi _), some (vi _), some (vi _)]) d_X12_readProblem_223 (by decide) rfl ?_
    refine wp_iinc (pc := 224) (v := (-1)) (lv' := [some (vr _), some (vi _), some (vi _), some (vi _)]) d_X12_readProblem_224 (by decide) rfl rfl rfl ?_
    refine wp_goto (pc := 227) (tgt := 194) d_X12_readProblem_227 (by decide) ?_
    refine wp_sub ?_ h
    exact ⟨rfl, ⟨rfl, ⟨rfl, ⟨rfl, trivial⟩⟩⟩⟩
theorem d_X12_next_0 : decode prog_14_method_13_code 0 = .ok (.aload_n 0, 1) := by decide +kernel
theorem d_X12_next_1 : decode prog_14_method_13_code 1 = .ok (.invokevirtual 289, 3) := by decide +kernel
theorem d_X12_next_4 : decode prog_14_method_13_code 4 = .ok (.aload_n 0, 1) := by decide +kernel
theorem d_X12_next_5 : decode prog_14_method_13_code 5 = .ok (.aload_n 0, 1) := by decide +kernel
theorem d_X12_next_6 : decode prog_14_method_13_code 6 = .ok (.getfield 231, 3) := by decide +kernel
theorem d_X12_next_9 : decode prog_14_method_13_code 9 = .ok (.putfield 241, 3) := by decide +kernel
theorem d_X12_next_12 : decode prog_14_method_13_code 12 = .ok (.aload_n 0, 1) := by decide +kernel
theorem d_X12_next_13 : decode prog_14_method_13_code 13 = .ok (.aload_n 0, 1) := by decide +kernel
theorem d_X12_next_14 : decode prog_14_method_13_code 14 = .ok (.getfield 231, 3) := by decide +kernel
theorem d_X12_next_17 : decode prog_14_method_13_code 17 = .ok (.putfield 238, 3) := by decide +kernel
theorem d_X12_next_20 : decode prog_14_method_13_code 20 = .ok (.aload_n 0, 1) := by decide +kernel
theorem d_X12_next_21 : decode prog_14_method_13_code 21 = .ok (.getfield 231, 3) := by decide +kernel
theorem d_X12_next_24 : decode prog_14_method_13_code 24 = .ok (.aload_n 0, 1) := by decide +kernel
theorem d_X12_next_25 : decode prog_14_method_13_code 25 = .ok (.getfield 221, 3) := by decide +kernel
theorem d_X12_next_28 : decode prog_14_method_13_code 28 = .ok (.if_icmp .lt 9, 3) := by decide +kernel
theorem d_X12_next_31 : decode prog_14_method_13_code 31 = .ok (.aload_n 0, 1) := by decide +kernel
theorem d_X12_next_32 : decode prog_14_method_13_code 32 = .ok (.iconst 0, 1) := by decide +kernel
theorem d_X12_next_33 : decode prog_14_method_13_code 33 = .ok (.putfield 292, 3) := by decide +kernel
theorem d_X12_next_36 : decode prog_14_method_13_code 36 = .ok (.return_, 1) := by decide +kernel
theorem d_X12_next_37 : decode prog_14_method_13_code 37 = .ok (.aload_n 0, 1) := by decide +kernel
theorem d_X12_next_38 : decode prog_14_method_13_code 38 = .ok (.aload_n 0, 1) := by decide +kernel
theorem d_X12_next_39 : decode prog_14_method_13_code 39 = .ok (.getfield 231, 3) := by decide +kernel
theorem d_X12_next_42 : decode prog_14_method_13_code 42 = .ok (.invokevirtual 234, 3) := by decide +kernel
theorem d_X12_next_45 : decode prog_14_method_13_code 45 = .ok (.istore_n 1, 1) := by decide +kernel
theorem d_X12_next_46 : decode prog_14_method_13_code 46 = .ok (.iload_n 1, 1) := by decide +kernel
theorem d_X12_next_47 : decode prog_14_method_13_code 47 = .ok (.invokestatic 295, 3) := by decide +kernel
theorem d_X12_next_50 : decode prog_14_method_13_code 50 = .ok (.ifCond .eq 84, 3) := by decide +kernel
theorem d_X12_next_134 : decode prog_14_method_13_code 134 = .ok (.iload_n 1, 1) := by decide +kernel
theorem d_X12_next_135 : decode prog_14_method_13_code 135 = .ok (.invokestatic 299, 3) := by decide +kernel
theorem d_X12_next_138 : decode prog_14_method_13_code 138 = .ok (.ifCond .eq 114, 3) := by decide +kernel
theorem d_X12_next_141 : decode prog_14_method_13_code 141 = .ok (.aload_n 0, 1) := by decide +kernel
theorem d_X12_next_142 : decode prog_14_method_13_code 142 = .ok (.iconst 0, 1) := by decide +kernel
theorem d_X12_next_143 : decode prog_14_method_13_code 143 = .ok (.putfield 305, 3) := by decide +kernel
theorem d_X12_next_252 : decode prog_14_method_13_code 252 = .ok (.aload_n 0, 1) := by decide +kernel
theorem d_X12_next_253 : decode prog_14_method_13_code 253 = .ok (.getfield 238, 3) := by decide +kernel
theorem d_X12_next_256 : decode prog_14_method_13_code 256 = .ok (.iconst 1, 1) := by decide +kernel
theorem d_X12_next_257 : decode prog_14_method_13_code 257 = .ok (.iadd, 1) := by decide +kernel
theorem d_X12_next_258 : decode prog_14_method_13_code 258 = .ok (.aload_n 0, 1) := by decide +kernel
theorem d_X12_next_259 : decode prog_14_method_13_code 259 = .ok (.getfield 221, 3) := by decide +kernel
theorem d_X12_next_262 : decode prog_14_method_13_code 262 = .ok (.if_icmp .ge 16, 3) := by decide +kernel
theorem d_X12_next_265 : decode prog_14_method_13_code 265 = .ok (.aload_n 0, 1) := by decide +kernel
theorem d_X12_next_266 : decode prog_14_method_13_code 266 = .ok (.aload_n 0, 1) := by decide +kernel
theorem d_X12_next_267 : decode prog_14_method_13_code 267 = .ok (.getfield 238, 3) := by decide +kernel
theorem d_X12_next_270 : decode prog_14_method_13_code 270 = .ok (.iconst 1, 1) := by decide +kernel
theorem d_X12_next_271 : decode prog_14_method_13_code 271 = .ok (.iadd, 1) := by decide +kernel
theorem d_X12_next_272 : decode prog_14_method_13_code 272 = .ok (.invokevirtual 234, 3) := by decide +kernel
theorem d_X12_next_275 : decode prog_14_method_13_code 275 = .ok (.goto 4, 3) := by decide +kernel
theorem d_X12_next_278 : decode prog_14_method_13_code 278 = .ok (.iconst 0, 1) := by decide +kernel
theorem v_X12_next_0 {E : EE} {d : Nat} {Q : Option AV → AH → Prop} {x0 : Nat} {G : AH} (h0 : 0 < d) (h : isO E G x0 12 ∧ (wpV E (d - 1) M_X12_passBlanks [vr x0] G (fun G1 => isO E G1 x0 12 ∧ (∀ G3 : AH, G3 = sI G1 x0 43 (gI G1 x0 40) → ∀ G5 : AH, G5 = sI G3 x0 44 (gI G3 x0 40) → ((gI G5 x0 40) < (gI G5 x0 39) → wpI E (d - 1) M_X12_look [vr x0, vi (gI G5 x0 40)] G5 (fun r7 G8 => wpI E (d - 1) M_X12_isLetter [vi r7] G8 (fun r9 G10 => (r9 = 0 → wpI E (d - 1) M_X12_isFigure [vi r7] G10 (fun r11 G12 => (r11 = 0 → isO E G12 x0 12 ∧ (((gI G12 x0 39) ≤ ((gI G12 x0 44) + 1) → wp E d M_X12_next 279 [some (vr x0), some (vi r7), none] [vi 0] G12 Q) ∧ (¬ ((gI G12 x0 39) ≤ ((gI G12 x0 44) + 1)) → wpI E (d - 1) M_X12_look [vr x0, vi ((gI G12 x0 44) + 1)] G12 (fun r14 G15 => wp E d M_X12_next 279 [some (vr x0), some (vi r7), none] [vi r14] G15 Q)))) ∧ (¬ (r11 = 0) → isO E G12 x0 12 ∧ (∀ G17 : AH, G17 = sI G12 x0 42 0 → wp E d M_X12_next 146 [some (vr x0), some (vi r7), none] [] G17 Q)))) ∧ (¬ (r9 = 0) → wp E d M_X12_next 53 [some (vr x0), some (vi r7), none] [] G10 Q)))) ∧ (¬ ((gI G5 x0 40) < (gI G5 x0 39)) → ∀ G19 : AH, G19 = sI G5 x0 41 0 → Q none G19))))) : wp E d M_X12_next 0 [some (vr x0), none, none] [] G Q := by
  refine wp_aload_n (pc := 0) d_X12_next_0 rfl ?_
  obtain ⟨ho21, h⟩ := h
  refine wp_invV (pc := 1) (N := M_X12_passBlanks) (As := []) (rest := []) (r := (cn_12, ct_12, 95)) d_X12_next_1 ml_X12_289 mk_X12_passBlanks mv_X12_passBlanks h0 ho21 rfl rfl (Nat.le_of_ble_eq_true rfl) ?_
  refine wpM.mono h (fun rr G1 hr => ?_)
  obtain ⟨rfl, h⟩ := hr
  show wp E d M_X12_next 4 [some (vr _), none, none] [] G1 Q
  refine wp_aload_n (pc := 4) d_X12_next_4 rfl ?_
  refine wp_aload_n (pc := 5) d_X12_next_5 rfl ?_
  obtain ⟨ho2, h⟩ := h
  refine wp_getI (pc := 6) d_X12_next_6 fl_X12_231 (fun _ _ _ => rfl) ho2 ?_
  refine wp_putI (pc := 9) d_X12_next_9 fl_X12_241 (fun _ _ _ => rfl) (Or.inl rfl) ho2 (okI_int _) ?_
  refine wp_nm (fun G3 eG3 => ?_)
  have h := h G3 eG3
  have ho4 := isO_sI eG3 ho2
  refine wp_aload_n (pc := 12) d_X12_next_12 rfl ?_
  refine wp_aload_n (pc := 13) d_X12_next_13 rfl ?_
  refine wp_getI (pc := 14) d_X12_next_14 fl_X12_231 (fun _ _ _ => rfl) ho4 ?_
  refine wp_putI (pc := 17) d_X12_next_17 fl_X12_238 (fun _ _ _ => rfl) (Or.inl rfl) ho4 (okI_int _) ?_
  refine wp_nm (fun G5 eG5 => ?_)
  have h := h G5 eG5
  have ho6 := isO_sI eG5 ho4
  refine wp_aload_n (pc := 20) d_X12_next_20 rfl ?_
  refine wp_getI (pc := 21) d_X12_next_21 fl_X12_231 (fun _ _ _ => rfl) ho6 ?_
  refine wp_aload_n (pc := 24) d_X12_next_24 rfl ?_
  refine wp_getI (pc := 25) d_X12_next_25 fl_X12_221 (fun _ _ _ => rfl) ho6 ?_
  refine wp_icmp_lt (pc := 28) (tgt := 37) d_X12_next_28 (by decide) (fun hc => ?_) (fun hc => ?_)
  · have h := h.1 hc
    refine wp_aload_n (pc := 37) d_X12_next_37 rfl ?_
    refine wp_aload_n (pc := 38) d_X12_next_38 rfl ?_
    refine wp_getI (pc := 39) d_X12_next_39 fl_X12_231 (fun _ _ _ => rfl) ho6 ?_
    refine wp_invV (pc := 42) (N := M_X12_look) (As := [vi _]) (rest := []) (r := (cn_12, ct_12, 95)) d_X12_next_42 ml_X12_234 mk_X12_look mv_X12_look h0 ho6 rfl rfl (Nat.le_of_ble_eq_true rfl) ?_
    refine wpM.mono h (fun rr G8 hr => ?_)
    obtain ⟨r7, rfl, h⟩ := hr
    show wp E d M_X12_next 45 [some (vr _), none, none] [vi _] G8 Q
    refine wp_istore_n (pc := 45) (lv' := [some (vr _), some (vi _), none]) d_X12_next_45 (by decide) rfl ?_
    refine wp_iload_n (pc := 46) d_X12_next_46 rfl ?_
    refine wp_invS (pc := 47) (N := M_X12_isLetter) (As := [vi _]) (rest := []) d_X12_next_47 ml_X12_295 mk_X12_isLetter ms_X12_isLetter h0 (Nat.le_of_ble_eq_true rfl) ?_
    refine wpM.mono h (fun rr G10 hr => ?_)
    obtain ⟨r9, rfl, h⟩ := hr
    show wp E d M_X12_next 50 [some (vr _), some (vi _), none] [vi _] G10 Q
    refine wp_if_eq (pc := 50) (tgt := 134) d_X12_next_50 (by decide) (fun hc => ?_) (fun hc => ?_)
    · have h := h.1 hc
      refine wp_iload_n (pc := 134) d_X12_next_134 rfl ?_
      refine wp_invS (pc := 135) (N := M_X12_isFigure) (As := [vi _]) (rest := []) d_X12_next_135 ml_X12_299 mk_X12_isFigure ms_X12_isFigure h0 (Nat.le_of_ble_eq_true rfl) ?_
      refine wpM.mono h (fun rr G12 hr => ?_)
      obtain ⟨r11, rfl, h⟩ := hr
      show wp E d M_X12_next 138 [some (vr _), some (vi _), none] [vi _] G12 Q
      refine wp_if_eq (pc := 138) (tgt := 252) d_X12_next_138 (by decide) (fun hc => ?_) (fun hc => ?_)
      · have h := h.1 hc
        refine wp_aload_n (pc := 252) d_X12_next_252 rfl ?_
        obtain ⟨ho13, h⟩ := h
        refine wp_getI (pc := 253) d_X12_next_253 fl_X12_238 (fun _ _ _ => rfl) ho13 ?_
        refine wp_iconst (pc := 256) (v := 1) d_X12_next_256 rfl ?_
        refine wp_iadd (pc := 257) d_X12_next_257 ?_
        refine wp_aload_n (pc := 258) d_X12_next_258 rfl ?_
        refine wp_getI (pc := 259) d_X12_next_259 fl_X12_221 (fun _ _ _ => rfl) ho13 ?_
        refine wp_icmp_ge (pc := 262) (tgt := 278) d_X12_next_262 (by decide) (fun hc => ?_) (fun hc => ?_)
        · have h := h.1 hc
          refine wp_iconst (pc := 278) (v := 0) d_X12_next_278 rfl ?_
          refine wp_sub ?_ h
          exact ⟨rfl, ⟨rfl, trivial⟩⟩
        · have h := h.2 hc
          refine wp_aload_n (pc := 265) d_X12_next_265 rfl ?_
          refine wp_aload_n (pc := 266) d_X12_next_266 rfl ?_
          refine wp_getI (pc := 267) d_X12_next_267 fl_X12_238 (fun _ _ _ => rfl) ho13 ?_
          refine wp_iconst (pc := 270) (v := 1) d_X12_next_270 rfl ?_
          refine wp_iadd (pc := 271) d_X12_next_271 ?_
          refine wp_invV (pc := 272) (N := M_X12_look) (As := [vi _]) (rest := []) (r := (cn_12, ct_12, 95)) d_X12_next_272 ml_X12_234 mk_X12_look mv_X12_look h0 ho13 rfl rfl (Nat.le_of_ble_eq_true rfl) ?_
          refine wpM.mono h (fun rr G15 hr => ?_)
          obtain ⟨r14, rfl, h⟩ := hr
          show wp E d M_X12_next 275 [some (vr _), some (vi _), none] [vi _] G15 Q
          refine wp_goto (pc := 275) (tgt := 279) d_X12_next_275 (by decide) ?_
          refine wp_sub ?_ h
          exact ⟨rfl, ⟨rfl, trivial⟩⟩
      · have h := h.2 hc
        refine wp_aload_n (pc := 141) d_X12_next_141 rfl ?_
        refine wp_iconst (pc := 142) (v := 0) d_X12_next_142 rfl ?_
        obtain ⟨ho16, h⟩ := h
        refine wp_putI (pc := 143) d_X12_next_143 fl_X12_305 (fun _ _ _ => rfl) (Or.inl rfl) ho16 (okI_int _) ?_
        refine wp_nm (fun G17 eG17 => ?_)
        have h := h G17 eG17
        have ho18 := isO_sI eG17 ho16
        refine wp_sub ?_ h
        exact ⟨rfl, ⟨rfl, trivial⟩⟩
    · have h := h.2 hc
      refine wp_sub ?_ h
      exact ⟨rfl, ⟨rfl, trivial⟩⟩
  · have h := h.2 hc
    refine wp_aload_n (pc := 31) d_X12_next_31 rfl ?_
    refine wp_iconst (pc := 32) (v := 0) d_X12_next_32 rfl ?_
    refine wp_putI (pc := 33) d_X12_next_33 fl_X12_292 (fun _ _ _ => rfl) (Or.inl rfl) ho6 (okI_int _) ?_
    refine wp_nm (fun G19 eG19 => ?_)
    have h := h G19 eG19
    have ho20 := isO_sI eG19 ho6
    exact wp_vret (pc := 36) d_X12_next_36 rfl h
theorem d_X12_passBlanks_0 : decode prog_14_method_9_code 0 = .ok (.iconst 1, 1) := by decide +kernel
theorem d_X12_passBlanks_1 : decode prog_14_method_9_code 1 = .ok (.istore_n 1, 1) := by decide +kernel
theorem d_X12_passBlanks_2 : decode prog_14_method_9_code 2 = .ok (.iload_n 1, 1) := by decide +kernel
theorem d_X12_passBlanks_3 : decode prog_14_method_9_code 3 = .ok (.ifCond .eq 108, 3) := by decide +kernel
theorem d_X12_passBlanks_6 : decode prog_14_method_9_code 6 = .ok (.aload_n 0, 1) := by decide +kernel
theorem d_X12_passBlanks_7 : decode prog_14_method_9_code 7 = .ok (.getfield 231, 3) := by decide +kernel
theorem d_X12_passBlanks_10 : decode prog_14_method_9_code 10 = .ok (.aload_n 0, 1) := by decide +kernel
theorem d_X12_passBlanks_11 : decode prog_14_method_9_code 11 = .ok (.getfield 221, 3) := by decide +kernel
theorem d_X12_passBlanks_14 : decode prog_14_method_9_code 14 = .ok (.if_icmp .ge 97, 3) := by decide +kernel
theorem d_X12_passBlanks_17 : decode prog_14_method_9_code 17 = .ok (.aload_n 0, 1) := by decide +kernel
theorem d_X12_passBlanks_18 : decode prog_14_method_9_code 18 = .ok (.aload_n 0, 1) := by decide +kernel
theorem d_X12_passBlanks_19 : decode prog_14_method_9_code 19 = .ok (.getfield 231, 3) := by decide +kernel
theorem d_X12_passBlanks_22 : decode prog_14_method_9_code 22 = .ok (.invokevirtual 234, 3) := by decide +kernel
theorem d_X12_passBlanks_25 : decode prog_14_method_9_code 25 = .ok (.istore_n 2, 1) := by decide +kernel
theorem d_X12_passBlanks_26 : decode prog_14_method_9_code 26 = .ok (.iload_n 2, 1) := by decide +kernel
theorem d_X12_passBlanks_27 : decode prog_14_method_9_code 27 = .ok (.bipush 9, 2) := by decide +kernel
theorem d_X12_passBlanks_29 : decode prog_14_method_9_code 29 = .ok (.if_icmp .eq 21, 3) := by decide +kernel
theorem d_X12_passBlanks_32 : decode prog_14_method_9_code 32 = .ok (.iload_n 2, 1) := by decide +kernel
theorem d_X12_passBlanks_33 : decode prog_14_method_9_code 33 = .ok (.bipush 10, 2) := by decide +kernel
theorem d_X12_passBlanks_35 : decode prog_14_method_9_code 35 = .ok (.if_icmp .eq 15, 3) := by decide +kernel
theorem d_X12_passBlanks_38 : decode prog_14_method_9_code 38 = .ok (.iload_n 2, 1) := by decide +kernel
theorem d_X12_passBlanks_39 : decode prog_14_method_9_code 39 = .ok (.bipush 13, 2) := by decide +kernel
theorem d_X12_passBlanks_41 : decode prog_14_method_9_code 41 = .ok (.if_icmp .eq 9, 3) := by decide +kernel
theorem d_X12_passBlanks_44 : decode prog_14_method_9_code 44 = .ok (.iload_n 2, 1) := by decide +kernel
theorem d_X12_passBlanks_45 : decode prog_14_method_9_code 45 = .ok (.bipush 32, 2) := by decide +kernel
theorem d_X12_passBlanks_47 : decode prog_14_method_9_code 47 = .ok (.if_icmp .ne 16, 3) := by decide +kernel
theorem d_X12_passBlanks_63 : decode prog_14_method_9_code 63 = .ok (.iload_n 2, 1) := by decide +kernel
theorem d_X12_passBlanks_64 : decode prog_14_method_9_code 64 = .ok (.bipush 37, 2) := by decide +kernel
theorem d_X12_passBlanks_66 : decode prog_14_method_9_code 66 = .ok (.if_icmp .ne 40, 3) := by decide +kernel
theorem d_X12_passBlanks_106 : decode prog_14_method_9_code 106 = .ok (.iconst 0, 1) := by decide +kernel
theorem d_X12_passBlanks_107 : decode prog_14_method_9_code 107 = .ok (.istore_n 1, 1) := by decide +kernel
theorem d_X12_passBlanks_111 : decode prog_14_method_9_code 111 = .ok (.return_, 1) := by decide +kernel
theorem v_X12_passBlanks_0 {E : EE} {d : Nat} {Q : Option AV → AH → Prop} {x0 : Nat} {G : AH} (h : wp E d M_X12_passBlanks 2 [some (vr x0), some (vi 1), none] [] G Q) : wp E d M_X12_passBlanks 0 [some (vr x0), none, none] [] G Q := by
  refine wp_iconst (pc := 0) (v := 1) d_X12_passBlanks_0 rfl ?_
  refine wp_istore_n (pc := 1) (lv' := [some (vr _), some (vi _), none]) d_X12_passBlanks_1 (by decide) rfl ?_
  refine wp_sub ?_ h
  exact ⟨rfl, ⟨rfl, trivial⟩⟩
theorem v_X12_passBlanks_2 {E : EE} {d : Nat} {Q : Option AV → AH → Prop} {x0 : Nat} {x1 : Int32} {G : AH} (h0 : 0 < d) (h : (x1 = 0 → Q none G) ∧ (¬ (x1 = 0) → isO E G x0 12 ∧ (((gI G x0 39) ≤ (gI G x0 40) → Q none G) ∧ (¬ ((gI G x0 39) ≤ (gI G x0 40)) → wpI E (d - 1) M_X12_look [vr x0, vi (gI G x0 40)] G (fun r2 G3 => (r2 = 9 → wp E d M_X12_passBlanks 50 [some (vr x0), some (vi x1), some (vi r2)] [] G3 Q) ∧ (¬ (r2 = 9) → (r2 = 10 → wp E d M_X12_passBlanks 50 [some (vr x0), some (vi x1), some (vi r2)] [] G3 Q) ∧ (¬ (r2 = 10) → (r2 = 13 → wp E d M_X12_passBlanks 50 [some (vr x0), some (vi x1), some (vi r2)] [] G3 Q) ∧ (¬ (r2 = 13) → (¬ r2 = 32 → (¬ r2 = 37 → wp E d M_X12_passBlanks 108 [some (vr x0), some (vi 0), some (vi r2)] [] G3 Q) ∧ (r2 = 37 → wp E d M_X12_passBlanks 69 [some (vr x0), some (vi x1), some (vi r2)] [] G3 Q)) ∧ (r2 = 32 → wp E d M_X12_passBlanks 50 [some (vr x0), some (vi x1), some (vi r2)] [] G3 Q))))))))) : wp E d M_X12_passBlanks 2 [some (vr x0), some (vi x1), none] [] G Q := by
  refine wp_iload_n (pc := 2) d_X12_passBlanks_2 rfl ?_
  refine wp_if_eq (pc := 3) (tgt := 111) d_X12_passBlanks_3 (by decide) (fun hc => ?_) (fun hc => ?_)
  · have h := h.1 hc
    exact wp_vret (pc := 111) d_X12_passBlanks_111 rfl h
  · have h := h.2 hc
    refine wp_aload_n (pc := 6) d_X12_passBlanks_6 rfl ?_
    obtain ⟨ho1, h⟩ := h
    refine wp_getI (pc := 7) d_X12_passBlanks_7 fl_X12_231 (fun _ _ _ => rfl) ho1 ?_
    refine wp_aload_n (pc := 10) d_X12_passBlanks_10 rfl ?_
    refine wp_getI (pc := 11) d_X12_passBlanks_11 fl_X12_221 (fun _ _ _ => rfl) ho1 ?_
    refine wp_icmp_ge (pc := 14) (tgt := 111) d_X12_passBlanks_14 (by decide) (fun hc => ?_) (fun hc => ?_)
    · have h := h.1 hc
      exact wp_vret (pc := 111) d_X12_passBlanks_111 rfl h
    · have h := h.2 hc
      refine wp_aload_n (pc := 17) d_X12_passBlanks_17 rfl ?_
      refine wp_aload_n (pc := 18) d_X12_passBlanks_18 rfl ?_
      refine wp_getI (pc := 19) d_X12_passBlanks_19 fl_X12_231 (fun _ _ _ => rfl) ho1 ?_
      refine wp_invV (pc := 22) (N := M_X12_look) (As := [vi _]) (rest := []) (r := (cn_12, ct_12, 95)) d_X12_passBlanks_22 ml_X12_234 mk_X12_look mv_X12_look h0 ho1 rfl rfl (Nat.le_of_ble_eq_true rfl) ?_
      refine wpM.mono h (fun rr G3 hr => ?_)
      obtain ⟨r2, rfl, h⟩ := hr
      show wp E d M_X12_passBlanks 25 [some (vr _), some (vi _), none] [vi _] G3 Q
      refine wp_istore_n (pc := 25) (lv' := [some (vr _), some (vi _), some (vi _)]) d_X12_passBlanks_25 (by decide) rfl ?_
      refine wp_iload_n (pc := 26) d_X12_passBlanks_26 rfl ?_
      refine wp_bipush (pc := 27) (v := 9) d_X12_passBlanks_27 rfl ?_
      refine wp_icmp_eq (pc := 29) (tgt := 50) d_X12_passBlanks_29 (by decide) (fun hc => ?_) (fun hc => ?_)
      · have h := h.1 hc
        refine wp_sub ?_ h
        exact ⟨rfl, ⟨rfl, ⟨rfl, trivial⟩⟩⟩
      · have h := h.2 hc
        refine wp_iload_n (pc := 32) d_X12_passBlanks_32 rfl ?_
        refine wp_bipush (pc := 33) (v := 10) d_X12_passBlanks_33 rfl ?_
        refine wp_icmp_eq (pc := 35) (tgt := 50) d_X12_passBlanks_35 (by decide) (fun hc => ?_) (fun hc => ?_)
        · have h := h.1 hc
          refine wp_sub ?_ h
          exact ⟨rfl, ⟨rfl, ⟨rfl, trivial⟩⟩⟩
        · have h := h.2 hc
          refine wp_iload_n (pc := 38) d_X12_passBlanks_38 rfl ?_
          refine wp_bipush (pc := 39) (v := 13) d_X12_passBlanks_39 rfl ?_
          refine wp_icmp_eq (pc := 41) (tgt := 50) d_X12_passBlanks_41 (by decide) (fun hc => ?_) (fun hc => ?_)
          · have h := h.1 hc
            refine wp_sub ?_ h
            exact ⟨rfl, ⟨rfl, ⟨rfl, trivial⟩⟩⟩
          · have h := h.2 hc
            refine wp_iload_n (pc := 44) d_X12_passBlanks_44 rfl ?_
            refine wp_bipush (pc := 45) (v := 32) d_X12_passBlanks_45 rfl ?_
            refine wp_icmp_ne (pc := 47) (tgt := 63) d_X12_passBlanks_47 (by decide) (fun hc => ?_) (fun hc => ?_)
            · have h := h.1 hc
              refine wp_iload_n (pc := 63) d_X12_passBlanks_63 rfl ?_
              refine wp_bipush (pc := 64) (v := 37) d_X12_passBlanks_64 rfl ?_
              refine wp_icmp_ne (pc := 66) (tgt := 106) d_X12_passBlanks_66 (by decide) (fun hc => ?_) (fun hc => ?_)
              · have h := h.1 hc
                refine wp_iconst (pc := 106) (v := 0) d_X12_passBlanks_106 rfl ?_
                refine wp_istore_n (pc := 107) (lv' := [some (vr _), some (vi _), some (vi _)]) d_X12_passBlanks_107 (by decide) rfl ?_
                refine wp_sub ?_ h
                exact ⟨rfl, ⟨rfl, ⟨rfl, trivial⟩⟩⟩
              · have h := h.2 hc
                refine wp_sub ?_ h
                exact ⟨rfl, ⟨rfl, ⟨rfl, trivial⟩⟩⟩
            · have h := h.2 hc
              refine wp_sub ?_ h
              exact ⟨rfl, ⟨rfl, ⟨rfl, trivial⟩⟩⟩
theorem d_X12_statement_0 : decode prog_14_method_26_code 0 = .ok (.aload_n 0, 1) := by decide +kernel
theorem d_X12_statement_1 : decode prog_14_method_26_code 1 = .ok (.iconst 0, 1) := by decide +kernel
theorem d_X12_statement_2 : decode prog_14_method_26_code 2 = .ok (.putfield 334, 3) := by decide +kernel
theorem d_X12_statement_5 : decode prog_14_method_26_code 5 = .ok (.aload_n 0, 1) := by decide +kernel
theorem d_X12_statement_6 : decode prog_14_method_26_code 6 = .ok (.getfield 46, 3) := by decide +kernel
theorem d_X12_statement_9 : decode prog_14_method_26_code 9 = .ok (.bipush 64, 2) := by decide +kernel
theorem d_X12_statement_11 : decode prog_14_method_26_code 11 = .ok (.aload_n 0, 1) := by decide +kernel
theorem d_X12_statement_12 : decode prog_14_method_26_code 12 = .ok (.getfield 321, 3) := by decide +kernel
theorem d_X12_statement_15 : decode prog_14_method_26_code 15 = .ok (.imul, 1) := by decide +kernel
theorem d_X12_statement_16 : decode prog_14_method_26_code 16 = .ok (.aload_n 0, 1) := by decide +kernel
theorem d_X12_statement_17 : decode prog_14_method_26_code 17 = .ok (.getfield 49, 3) := by decide +kernel
theorem d_X12_statement_20 : decode prog_14_method_26_code 20 = .ok (.aload_n 0, 1) := by decide +kernel
theorem d_X12_statement_21 : decode prog_14_method_26_code 21 = .ok (.getfield 321, 3) := by decide +kernel
theorem d_X12_statement_24 : decode prog_14_method_26_code 24 = .ok (.iaload, 1) := by decide +kernel
theorem d_X12_statement_25 : decode prog_14_method_26_code 25 = .ok (.iadd, 1) := by decide +kernel
theorem d_X12_statement_26 : decode prog_14_method_26_code 26 = .ok (.aload_n 0, 1) := by decide +kernel
theorem d_X12_statement_27 : decode prog_14_method_26_code 27 = .ok (.getfield 43, 3) := by decide +kernel
theorem d_X12_statement_30 : decode prog_14_method_26_code 30 = .ok (.aload_n 0, 1) := by decide +kernel
theorem d_X12_statement_31 : decode prog_14_method_26_code 31 = .ok (.getfield 321, 3) := by decide +kernel
theorem d_X12_statement_34 : decode prog_14_method_26_code 34 = .ok (.iaload, 1) := by decide +kernel
theorem d_X12_statement_35 : decode prog_14_method_26_code 35 = .ok (.iastore, 1) := by decide +kernel
theorem d_X12_statement_36 : decode prog_14_method_26_code 36 = .ok (.aload_n 0, 1) := by decide +kernel
theorem d_X12_statement_37 : decode prog_14_method_26_code 37 = .ok (.getfield 292, 3) := by decide +kernel
theorem d_X12_statement_40 : decode prog_14_method_26_code 40 = .ok (.tableswitch 88 300 305 #[40, 52, 88, 64, 88, 76], 40) := by decide +kernel
theorem d_X12_statement_80 : decode prog_14_method_26_code 80 = .ok (.aload_n 0, 1) := by decide +kernel
theorem d_X12_statement_81 : decode prog_14_method_26_code 81 = .ok (.iconst 0, 1) := by decide +kernel
theorem d_X12_statement_82 : decode prog_14_method_26_code 82 = .ok (.invokevirtual 330, 3) := by decide +kernel
theorem d_X12_statement_85 : decode prog_14_method_26_code 85 = .ok (.aload_n 0, 1) := by decide +kernel
theorem d_X12_statement_86 : decode prog_14_method_26_code 86 = .ok (.invokevirtual 358, 3) := by decide +kernel
theorem d_X12_statement_89 : decode prog_14_method_26_code 89 = .ok (.goto 43, 3) := by decide +kernel
theorem d_X12_statement_92 : decode prog_14_method_26_code 92 = .ok (.aload_n 0, 1) := by decide +kernel
theorem d_X12_statement_93 : decode prog_14_method_26_code 93 = .ok (.iconst 0, 1) := by decide +kernel
theorem d_X12_statement_94 : decode prog_14_method_26_code 94 = .ok (.invokevirtual 330, 3) := by decide +kernel
theorem d_X12_statement_97 : decode prog_14_method_26_code 97 = .ok (.aload_n 0, 1) := by decide +kernel
theorem d_X12_statement_98 : decode prog_14_method_26_code 98 = .ok (.invokevirtual 361, 3) := by decide +kernel
theorem d_X12_statement_101 : decode prog_14_method_26_code 101 = .ok (.goto 31, 3) := by decide +kernel
theorem d_X12_statement_104 : decode prog_14_method_26_code 104 = .ok (.aload_n 0, 1) := by decide +kernel
theorem d_X12_statement_105 : decode prog_14_method_26_code 105 = .ok (.iconst 0, 1) := by decide +kernel
theorem d_X12_statement_106 : decode prog_14_method_26_code 106 = .ok (.invokevirtual 330, 3) := by decide +kernel
theorem d_X12_statement_109 : decode prog_14_method_26_code 109 = .ok (.aload_n 0, 1) := by decide +kernel
theorem d_X12_statement_110 : decode prog_14_method_26_code 110 = .ok (.invokevirtual 364, 3) := by decide +kernel
theorem d_X12_statement_113 : decode prog_14_method_26_code 113 = .ok (.goto 19, 3) := by decide +kernel
theorem d_X12_statement_116 : decode prog_14_method_26_code 116 = .ok (.aload_n 0, 1) := by decide +kernel
theorem d_X12_statement_117 : decode prog_14_method_26_code 117 = .ok (.iconst 0, 1) := by decide +kernel
theorem d_X12_statement_118 : decode prog_14_method_26_code 118 = .ok (.invokevirtual 330, 3) := by decide +kernel
theorem d_X12_statement_121 : decode prog_14_method_26_code 121 = .ok (.aload_n 0, 1) := by decide +kernel
theorem d_X12_statement_122 : decode prog_14_method_26_code 122 = .ok (.invokevirtual 367, 3) := by decide +kernel
theorem d_X12_statement_125 : decode prog_14_method_26_code 125 = .ok (.goto 7, 3) := by decide +kernel
theorem d_X12_statement_128 : decode prog_14_method_26_code 128 = .ok (.aload_n 0, 1) := by decide +kernel
theorem d_X12_statement_129 : decode prog_14_method_26_code 129 = .ok (.invokevirtual 327, 3) := by decide +kernel
theorem d_X12_statement_132 : decode prog_14_method_26_code 132 = .ok (.aload_n 0, 1) := by decide +kernel
theorem d_X12_statement_133 : decode prog_14_method_26_code 133 = .ok (.getfield 49, 3) := by decide +kernel
theorem d_X12_statement_136 : decode prog_14_method_26_code 136 = .ok (.aload_n 0, 1) := by decide +kernel
theorem d_X12_statement_137 : decode prog_14_method_26_code 137 = .ok (.getfield 321, 3) := by decide +kernel
theorem d_X12_statement_140 : decode prog_14_method_26_code 140 = .ok (.dup2, 1) := by decide +kernel
theorem d_X12_statement_141 : decode prog_14_method_26_code 141 = .ok (.iaload, 1) := by decide +kernel
theorem d_X12_statement_142 : decode prog_14_method_26_code 142 = .ok (.iconst 1, 1) := by decide +kernel
theorem d_X12_statement_143 : decode prog_14_method_26_code 143 = .ok (.iadd, 1) := by decide +kernel
theorem d_X12_statement_144 : decode prog_14_method_26_code 144 = .ok (.iastore, 1) := by decide +kernel
theorem d_X12_statement_145 : decode prog_14_method_26_code 145 = .ok (.return_, 1) := by decide +kernel
theorem v_X12_statement_0 {E : EE} {d : Nat} {Q : Option AV → AH → Prop} {x0 : Nat} {G : AH} (h0 : 0 < d) (h : isO E G x0 12 ∧ (∀ G2 : AH, G2 = sI G x0 48 0 → isO E G2 (gR G2 x0 14) 14 ∧ (vp_in (gI G2 x0 47) (gN G2 (gR G2 x0 14)) ∧ (isO E G2 (gR G2 x0 12) 14 ∧ (vp_in (gI G2 x0 47) (gN G2 (gR G2 x0 12)) ∧ (isO E G2 (gR G2 x0 13) 14 ∧ (vp_in ((64 * (gI G2 x0 47)) + (gI G2 (gR G2 x0 14) (Int32.toNatClampNeg (gI G2 x0 47)))) (gN G2 (gR G2 x0 13)) ∧ (∀ G10 : AH, G10 = sI G2 (gR G2 x0 13) (Int32.toNatClampNeg ((64 * (gI G2 x0 47)) + (gI G2 (gR G2 x0 14) (Int32.toNatClampNeg (gI G2 x0 47))))) (gI G2 (gR G2 x0 12) (Int32.toNatClampNeg (gI G2 x0 47))) → ((gI G10 x0 41) = 300 → wpV E (d - 1) M_X12_keep [vr x0, vi 0] G10 (fun G13 => isO E G13 x0 12 ∧ (wpV E (d - 1) M_X12_factStatement [vr x0] G13 (fun G14 => wp E d M_X12_statement 132 [some (vr x0)] [] G14 Q)))) ∧ (((gI G10 x0 41) = 301 → wpV E (d - 1) M_X12_keep [vr x0, vi 0] G10 (fun G17 => isO E G17 x0 12 ∧ (wpV E (d - 1) M_X12_varStatement [vr x0] G17 (fun G18 => wp E d M_X12_statement 132 [some (vr x0)] [] G18 Q)))) ∧ (((gI G10 x0 41) = 302 → wpV E (d - 1) M_X12_failHere [vr x0] G10 (fun G21 => wp E d M_X12_statement 132 [some (vr x0)] [] G21 Q)) ∧ (((gI G10 x0 41) = 303 → wpV E (d - 1) M_X12_keep [vr x0, vi 0] G10 (fun G23 => isO E G23 x0 12 ∧ (wpV E (d - 1) M_X12_ruleStatement [vr x0] G23 (fun G24 => wp E d M_X12_statement 132 [some (vr x0)] [] G24 Q)))) ∧ (((gI G10 x0 41) = 304 → wpV E (d - 1) M_X12_failHere [vr x0] G10 (fun G27 => wp E d M_X12_statement 132 [some (vr x0)] [] G27 Q)) ∧ (((gI G10 x0 41) = 305 → wpV E (d - 1) M_X12_keep [vr x0, vi 0] G10 (fun G29 => isO E G29 x0 12 ∧ (wpV E (d - 1) M_X12_aimStatement [vr x0] G29 (fun G30 => wp E d M_X12_statement 132 [some (vr x0)] [] G30 Q)))) ∧ ((¬ (gI G10 x0 41) = 300 → ¬ (gI G10 x0 41) = 301 → ¬ (gI G10 x0 41) = 302 → ¬ (gI G10 x0 41) = 303 → ¬ (gI G10 x0 41) = 304 → ¬ (gI G10 x0 41) = 305 → wpV E (d - 1) M_X12_failHere [vr x0] G10 (fun G32 => wp E d M_X12_statement 132 [some (vr x0)] [] G32 Q)))))))))))))))) : wp E d M_X12_statement 0 [some (vr x0)] [] G Q := by
  refine wp_aload_n (pc := 0) d_X12_statement_0 rfl ?_
  refine wp_iconst (pc := 1) (v := 0) d_X12_statement_1 rfl ?_
  obtain ⟨ho1, h⟩ := h
  refine wp_putI (pc := 2) d_X12_statement_2 fl_X12_334 (fun _ _ _ => rfl) (Or.inl rfl) ho1 (okI_int _) ?_
  refine wp_nm (fun G2 eG2 => ?_)
  have h := h G2 eG2
  have ho3 := isO_sI eG2 ho1
  refine wp_aload_n (pc := 5) d_X12_statement_5 rfl ?_
  refine wp_getR (pc := 6) d_X12_statement_6 fl_X12_46 (fun _ _ _ => rfl) ho3 ?_
  refine wp_bipush (pc := 9) (v := 64) d_X12_statement_9 rfl ?_
  refine wp_aload_n (pc := 11) d_X12_statement_11 rfl ?_
  refine wp_getI (pc := 12) d_X12_statement_12 fl_X12_321 (fun _ _ _ => rfl) ho3 ?_
  refine wp_imul (pc := 15) d_X12_statement_15 ?_
  refine wp_aload_n (pc := 16) d_X12_statement_16 rfl ?_
  refine wp_getR (pc := 17) d_X12_statement_17 fl_X12_49 (fun _ _ _ => rfl) ho3 ?_
  refine wp_aload_n (pc := 20) d_X12_statement_20 rfl ?_
  refine wp_getI (pc := 21) d_X12_statement_21 fl_X12_321 (fun _ _ _ => rfl) ho3 ?_
  obtain ⟨ho4, h⟩ := h
  obtain ⟨hi5, h⟩ := h
  refine wp_iald (pc := 24) d_X12_statement_24 ho4 hi5 ?_
  refine wp_iadd (pc := 25) d_X12_statement_25 ?_
  refine wp_aload_n (pc := 26) d_X12_statement_26 rfl ?_
  refine wp_getR (pc := 27) d_X12_statement_27 fl_X12_43 (fun _ _ _ => rfl) ho3 ?_
  refine wp_aload_n (pc := 30) d_X12_statement_30 rfl ?_
  refine wp_getI (pc := 31) d_X12_statement_31 fl_X12_321 (fun _ _ _ => rfl) ho3 ?_
  obtain ⟨ho6, h⟩ := h
  obtain ⟨hi7, h⟩ := h
  refine wp_iald (pc := 34) d_X12_statement_34 ho6 hi7 ?_
  obtain ⟨ho8, h⟩ := h
  obtain ⟨hi9, h⟩ := h
  refine wp_iast (pc := 35) d_X12_statement_35 ho8 hi9 ?_
  refine wp_nm (fun G10 eG10 => ?_)
  have h := h G10 eG10
  have ho11 := isO_sI eG10 ho3
  refine wp_aload_n (pc := 36) d_X12_statement_36 rfl ?_
  refine wp_getI (pc := 37) d_X12_statement_37 fl_X12_292 (fun _ _ _ => rfl) ho11 ?_
  obtain ⟨hk, h⟩ := h
  by_cases hn12 : (gI G10 x0 41) = 300
  · have h := hk hn12
    refine wp_tblI (pc := 40) (tgt := 80) d_X12_statement_40 (by rw [hn12]; decide) (by rw [hn12]; decide) (by rw [hn12]; first | done | rfl) (by decide) ?_
    refine wp_aload_n (pc := 80) d_X12_statement_80 rfl ?_
    refine wp_iconst (pc := 81) (v := 0) d_X12_statement_81 rfl ?_
    refine wp_invV (pc := 82) (N := M_X12_keep) (As := [vi _]) (rest := []) (r := (cn_12, ct_12, 95)) d_X12_statement_82 ml_X12_330 mk_X12_keep mv_X12_keep h0 ho11 rfl rfl (Nat.le_of_ble_eq_true rfl) ?_
    refine wpM.mono h (fun rr G13 hr => ?_)
    obtain ⟨rfl, h⟩ := hr
    show wp E d M_X12_statement 85 [some (vr _)] [] G13 Q
    refine wp_aload_n (pc := 85) d_X12_statement_85 rfl ?_
    obtain ⟨ho15, h⟩ := h
    refine wp_invV (pc := 86) (N := M_X12_factStatement) (As := []) (rest := []) (r := (cn_12, ct_12, 95)) d_X12_statement_86 ml_X12_358 mk_X12_factStatement mv_X12_factStatement h0 ho15 rfl rfl (Nat.le_of_ble_eq_true rfl) ?_
    refine wpM.mono h (fun rr G14 hr => ?_)
    obtain ⟨rfl, h⟩ := hr
    show wp E d M_X12_statement 89 [some (vr _)] [] G14 Q
    refine wp_goto (pc := 89) (tgt := 132) d_X12_statement_89 (by decide) ?_
    refine wp_sub ?_ h
    exact ⟨rfl, trivial⟩
  obtain ⟨hk, h⟩ := h
  by_cases hn16 : (gI G10 x0 41) = 301
  · have h := hk hn16
    refine wp_tblI (pc := 40) (tgt := 92) d_X12_statement_40 (by rw [hn16]; decide) (by rw [hn16]; decide) (by rw [hn16]; first | done | rfl) (by decide) ?_
    refine wp_aload_n (pc := 92) d_X12_statement_92 rfl ?_
    refine wp_iconst (pc := 93) (v := 0) d_X12_statement_93 rfl ?_
    refine wp_invV (pc := 94) (N := M_X12_keep) (As := [vi _]) (rest := []) (r := (cn_12, ct_12, 95)) d_X12_statement_94 ml_X12_330 mk_X12_keep mv_X12_keep h0 ho11 rfl rfl (Nat.le_of_ble_eq_true rfl) ?_
    refine wpM.mono h (fun rr G17 hr => ?_)
    obtain ⟨rfl, h⟩ := hr
    show wp E d M_X12_statement 97 [some (vr _)] [] G17 Q
    refine wp_aload_n (pc := 97) d_X12_statement_97 rfl ?_
    obtain ⟨ho19, h⟩ := h
    refine wp_invV (pc := 98) (N := M_X12_varStatement) (As := []) (rest := []) (r := (cn_12, ct_12, 95)) d_X12_statement_98 ml_X12_361 mk_X12_varStatement mv_X12_varStatement h0 ho19 rfl rfl (Nat.le_of_ble_eq_true rfl) ?_
    refine wpM.mono h (fun rr G18 hr => ?_)
    obtain ⟨rfl, h⟩ := hr
    show wp E d M_X12_statement 101 [some (vr _)] [] G18 Q
    refine wp_goto (pc := 101) (tgt := 132) d_X12_statement_101 (by decide) ?_
    refine wp_sub ?_ h
    exact ⟨rfl, trivial⟩
  obtain ⟨hk, h⟩ := h
  by_cases hn20 : (gI G10 x0 41) = 302
  · have h := hk hn20
    refine wp_tblI (pc := 40) (tgt := 128) d_X12_statement_40 (by rw [hn20]; decide) (by rw [hn20]; decide) (by rw [hn20]; first | done | rfl) (by decide) ?_
    refine wp_aload_n (pc := 128) d_X12_statement_128 rfl ?_
    refine wp_invV (pc := 129) (N := M_X12_failHere) (As := []) (rest := []) (r := (cn_12, ct_12, 95)) d_X12_statement_129 ml_X12_327 mk_X12_failHere mv_X12_failHere h0 ho11 rfl rfl (Nat.le_of_ble_eq_true rfl) ?_
    refine wpM.mono h (fun rr G21 hr => ?_)
    obtain ⟨rfl, h⟩ := hr
    show wp E d M_X12_statement 132 [some (vr _)] [] G21 Q
    refine wp_sub ?_ h
    exact ⟨rfl, trivial⟩
  obtain ⟨hk, h⟩ := h
  by_cases hn22 : (gI G10 x0 41) = 303
  · have h := hk hn22
    refine wp_tblI (pc := 40) (tgt := 104) d_X12_statement_40 (by rw [hn22]; decide) (by rw [hn22]; decide) (by rw [hn22]; first | done | rfl) (by decide) ?_
    refine wp_aload_n (pc := 104) d_X12_statement_104 rfl ?_
    refine wp_iconst (pc := 105) (v := 0) d_X12_statement_105 rfl ?_
    refine wp_invV (pc := 106) (N := M_X12_keep) (As := [vi _]) (rest := []) (r := (cn_12, ct_12, 95)) d_X12_statement_106 ml_X12_330 mk_X12_keep mv_X12_keep h0 ho11 rfl rfl (Nat.le_of_ble_eq_true rfl) ?_
    refine wpM.mono h (fun rr G23 hr => ?_)
    obtain ⟨rfl, h⟩ := hr
    show wp E d M_X12_statement 109 [some (vr _)] [] G23 Q
    refine wp_aload_n (pc := 109) d_X12_statement_109 rfl ?_
    obtain ⟨ho25, h⟩ := h
    refine wp_invV (pc := 110) (N := M_X12_ruleStatement) (As := []) (rest := []) (r := (cn_12, ct_12, 95)) d_X12_statement_110 ml_X12_364 mk_X12_ruleStatement mv_X12_ruleStatement h0 ho25 rfl rfl (Nat.le_of_ble_eq_true rfl) ?_
    refine wpM.mono h (fun rr G24 hr => ?_)
    obtain ⟨rfl, h⟩ := hr
    show wp E d M_X12_statement 113 [some (vr _)] [] G24 Q
    refine wp_goto (pc := 113) (tgt := 132) d_X12_statement_113 (by decide) ?_
    refine wp_sub ?_ h
    exact ⟨rfl, trivial⟩
  obtain ⟨hk, h⟩ := h
  by_cases hn26 : (gI G10 x0 41) = 304
  · have h := hk hn26
    refine wp_tblI (pc := 40) (tgt := 128) d_X12_statement_40 (by rw [hn26]; decide) (by rw [hn26]; decide) (by rw [hn26]; first | done | rfl) (by decide) ?_
    refine wp_aload_n (pc := 128) d_X12_statement_128 rfl ?_
    refine wp_invV (pc := 129) (N := M_X12_failHere) (As := []) (rest := []) (r := (cn_12, ct_12, 95)) d_X12_statement_129 ml_X12_327 mk_X12_failHere mv_X12_failHere h0 ho11 rfl rfl (Nat.le_of_ble_eq_true rfl) ?_
    refine wpM.mono h (fun rr G27 hr => ?_)
    obtain ⟨rfl, h⟩ := hr
    show wp E d M_X12_statement 132 [some (vr _)] [] G27 Q
    refine wp_sub ?_ h
    exact ⟨rfl, trivial⟩
  obtain ⟨hk, h⟩ := h
  by_cases hn28 : (gI G10 x0 41) = 305
  · have h := hk hn28
    refine wp_tblI (pc := 40) (tgt := 116) d_X12_statement_40 (by rw [hn28]; decide) (by rw [hn28]; decide) (by rw [hn28]; first | done | rfl) (by decide) ?_
    refine wp_aload_n (pc := 116) d_X12_statement_116 rfl ?_
    refine wp_iconst (pc := 117) (v := 0) d_X12_statement_117 rfl ?_
    refine wp_invV (pc := 118) (N := M_X12_keep) (As := [vi _]) (rest := []) (r := (cn_12, ct_12, 95)) d_X12_statement_118 ml_X12_330 mk_X12_keep mv_X12_keep h0 ho11 rfl rfl (Nat.le_of_ble_eq_true rfl) ?_
    refine wpM.mono h (fun rr G29 hr => ?_)
    obtain ⟨rfl, h⟩ := hr
    show wp E d M_X12_statement 121 [some (vr _)] [] G29 Q
    refine wp_aload_n (pc := 121) d_X12_statement_121 rfl ?_
    obtain ⟨ho31, h⟩ := h
    refine wp_invV (pc := 122) (N := M_X12_aimStatement) (As := []) (rest := []) (r := (cn_12, ct_12, 95)) d_X12_statement_122 ml_X12_367 mk_X12_aimStatement mv_X12_aimStatement h0 ho31 rfl rfl (Nat.le_of_ble_eq_true rfl) ?_
    refine wpM.mono h (fun rr G30 hr => ?_)
    obtain ⟨rfl, h⟩ := hr
    show wp E d M_X12_statement 125 [some (vr _)] [] G30 Q
    refine wp_goto (pc := 125) (tgt := 132) d_X12_statement_125 (by decide) ?_
    refine wp_sub ?_ h
    exact ⟨rfl, trivial⟩
  have h := h hn12 hn16 hn20 hn22 hn26 hn28
  have qhn12 := lv_neT (a := 300) hn12 (by decide)
  have qhn16 := lv_neT (a := 301) hn16 (by decide)
  have qhn20 := lv_neT (a := 302) hn20 (by decide)
  have qhn22 := lv_neT (a := 303) hn22 (by decide)
  have qhn26 := lv_neT (a := 304) hn26 (by decide)
  have qhn28 := lv_neT (a := 305) hn28 (by decide)
  refine wp_tblO (pc := 40) (tgt := 128) d_X12_statement_40 (by omega) (by decide) ?_
  refine wp_aload_n (pc := 128) d_X12_statement_128 rfl ?_
  refine wp_invV (pc := 129) (N := M_X12_failHere) (As := []) (rest := []) (r := (cn_12, ct_12, 95)) d_X12_statement_129 ml_X12_327 mk_X12_failHere mv_X12_failHere h0 ho11 rfl rfl (Nat.le_of_ble_eq_true rfl) ?_
  refine wpM.mono h (fun rr G32 hr => ?_)
  obtain ⟨rfl, h⟩ := hr
  show wp E d M_X12_statement 132 [some (vr _)] [] G32 Q
  refine wp_sub ?_ h
  exact ⟨rfl, trivial⟩
theorem v_X12_statement_132 {E : EE} {d : Nat} {Q : Option AV → AH → Prop} {x0 : Nat} {G : AH} (h : isO E G x0 12 ∧ (isO E G (gR G x0 14) 14 ∧ (vp_in (gI G x0 47) (gN G (gR G x0 14)) ∧ (vp_in (gI G x0 47) (gN G (gR G x0 14)) ∧ (Q none (sI G (gR G x0 14) (Int32.toNatClampNeg (gI G x0 47)) ((gI G (gR G x0 14) (Int32.toNatClampNeg (gI G x0 47))) + 1))))))) : wp E d M_X12_statement 132 [some (vr x0)] [] G Q := by
  refine wp_aload_n (pc := 132) d_X12_statement_132 rfl ?_
  obtain ⟨ho1, h⟩ := h
  refine wp_getR (pc := 133) d_X12_statement_133 fl_X12_49 (fun _ _ _ => rfl) ho1 ?_
  refine wp_aload_n (pc := 136) d_X12_statement_136 rfl ?_
  refine wp_getI (pc := 137) d_X12_statement_137 fl_X12_321 (fun _ _ _ => rfl) ho1 ?_
  refine wp_dup2 (pc := 140) d_X12_statement_140 (c1_i _) (c1_r _) ?_
  obtain ⟨ho2, h⟩ := h
  obtain ⟨hi3, h⟩ := h
  refine wp_iald (pc := 141) d_X12_statement_141 ho2 hi3 ?_
  refine wp_iconst (pc := 142) (v := 1) d_X12_statement_142 rfl ?_
  refine wp_iadd (pc := 143) d_X12_statement_143 ?_
  obtain ⟨hi4, h⟩ := h
  refine wp_iast (pc := 144) d_X12_statement_144 ho2 hi4 ?_
  exact wp_vret (pc := 145) d_X12_statement_145 rfl h
theorem d_X12_failHere_0 : decode prog_14_method_15_code 0 = .ok (.aload_n 0, 1) := by decide +kernel
theorem d_X12_failHere_1 : decode prog_14_method_15_code 1 = .ok (.aload_n 0, 1) := by decide +kernel
theorem d_X12_failHere_2 : decode prog_14_method_15_code 2 = .ok (.getfield 292, 3) := by decide +kernel
theorem d_X12_failHere_5 : decode prog_14_method_15_code 5 = .ok (.iconst 3, 1) := by decide +kernel
theorem d_X12_failHere_6 : decode prog_14_method_15_code 6 = .ok (.if_icmp .ne 7, 3) := by decide +kernel
theorem d_X12_failHere_9 : decode prog_14_method_15_code 9 = .ok (.iconst 1, 1) := by decide +kernel
theorem d_X12_failHere_10 : decode prog_14_method_15_code 10 = .ok (.goto 4, 3) := by decide +kernel
theorem d_X12_failHere_13 : decode prog_14_method_15_code 13 = .ok (.iconst 2, 1) := by decide +kernel
theorem d_X12_failHere_14 : decode prog_14_method_15_code 14 = .ok (.aload_n 0, 1) := by decide +kernel
theorem d_X12_failHere_15 : decode prog_14_method_15_code 15 = .ok (.getfield 241, 3) := by decide +kernel
theorem d_X12_failHere_18 : decode prog_14_method_15_code 18 = .ok (.invokevirtual 317, 3) := by decide +kernel
theorem d_X12_failHere_21 : decode prog_14_method_15_code 21 = .ok (.return_, 1) := by decide +kernel
theorem v_X12_failHere_0 {E : EE} {d : Nat} {Q : Option AV → AH → Prop} {x0 : Nat} {G : AH} (h : isO E G x0 12 ∧ ((¬ (gI G x0 41) = 3 → wp E d M_X12_failHere 14 [some (vr x0)] [vi 2, vr x0] G Q) ∧ ((gI G x0 41) = 3 → wp E d M_X12_failHere 14 [some (vr x0)] [vi 1, vr x0] G Q))) : wp E d M_X12_failHere 0 [some (vr x0)] [] G Q := by
  refine wp_aload_n (pc := 0) d_X12_failHere_0 rfl ?_
  refine wp_aload_n (pc := 1) d_X12_failHere_1 rfl ?_
  obtain ⟨ho1, h⟩ := h
  refine wp_getI (pc := 2) d_X12_failHere_2 fl_X12_292 (fun _ _ _ => rfl) ho1 ?_
  refine wp_iconst (pc := 5) (v := 3) d_X12_failHere_5 rfl ?_
  refine wp_icmp_ne (pc := 6) (tgt := 13) d_X12_failHere_6 (by decide) (fun hc => ?_) (fun hc => ?_)
  · have h := h.1 hc
    refine wp_iconst (pc := 13) (v := 2) d_X12_failHere_13 rfl ?_
    refine wp_sub ?_ h
    exact ⟨rfl, trivial⟩
  · have h := h.2 hc
    refine wp_iconst (pc := 9) (v := 1) d_X12_failHere_9 rfl ?_
    refine wp_goto (pc := 10) (tgt := 14) d_X12_failHere_10 (by decide) ?_
    refine wp_sub ?_ h
    exact ⟨rfl, trivial⟩
theorem v_X12_failHere_14 {E : EE} {d : Nat} {Q : Option AV → AH → Prop} {x0 : Nat} {t0 : Nat} {t1 : Int32} {G : AH} (h0 : 0 < d) (h : isO E G x0 12 ∧ (isO E G t0 12 ∧ (wpV E (d - 1) M_X12_fail [vr t0, vi t1, vi (gI G x0 43)] G (fun G2 => Q none G2)))) : wp E d M_X12_failHere 14 [some (vr x0)] [vi t1, vr t0] G Q := by
  refine wp_aload_n (pc := 14) d_X12_failHere_14 rfl ?_
  obtain ⟨ho1, h⟩ := h
  refine wp_getI (pc := 15) d_X12_failHere_15 fl_X12_241 (fun _ _ _ => rfl) ho1 ?_
  obtain ⟨ho3, h⟩ := h
  refine wp_invV (pc := 18) (N := M_X12_fail) (As := [vi _, vi _]) (rest := []) (r := (cn_12, ct_12, 95)) d_X12_failHere_18 ml_X12_317 mk_X12_fail mv_X12_fail h0 ho3 rfl rfl (Nat.le_of_ble_eq_true rfl) ?_
  refine wpM.mono h (fun rr G2 hr => ?_)
  obtain ⟨rfl, h⟩ := hr
  show wp E d M_X12_failHere 21 [some (vr _)] [] G2 Q
  exact wp_vret (pc := 21) d_X12_failHere_21 rfl h
theorem d_X12_fail_0 : decode prog_14_method_14_code 0 = .ok (.aload_n 0, 1) := by decide +kernel
theorem d_X12_fail_1 : decode prog_14_method_14_code 1 = .ok (.getfield 311, 3) := by decide +kernel
theorem d_X12_fail_4 : decode prog_14_method_14_code 4 = .ok (.ifCond .ne 13, 3) := by decide +kernel
theorem d_X12_fail_7 : decode prog_14_method_14_code 7 = .ok (.aload_n 0, 1) := by decide +kernel
theorem d_X12_fail_8 : decode prog_14_method_14_code 8 = .ok (.iload_n 1, 1) := by decide +kernel
theorem d_X12_fail_9 : decode prog_14_method_14_code 9 = .ok (.putfield 311, 3) := by decide +kernel
theorem d_X12_fail_12 : decode prog_14_method_14_code 12 = .ok (.aload_n 0, 1) := by decide +kernel
theorem d_X12_fail_13 : decode prog_14_method_14_code 13 = .ok (.iload_n 2, 1) := by decide +kernel
theorem d_X12_fail_14 : decode prog_14_method_14_code 14 = .ok (.putfield 314, 3) := by decide +kernel
theorem d_X12_fail_17 : decode prog_14_method_14_code 17 = .ok (.return_, 1) := by decide +kernel
theorem v_X12_fail_0 {E : EE} {d : Nat} {Q : Option AV → AH → Prop} {x0 : Nat} {x1 : Int32} {x2 : Int32} {G : AH} (h : isO E G x0 12 ∧ ((¬ (gI G x0 45) = 0 → Q none G) ∧ ((gI G x0 45) = 0 → ∀ G2 : AH, G2 = sI G x0 45 x1 → ∀ G4 : AH, G4 = sI G2 x0 46 x2 → Q none G4))) : wp E d M_X12_fail 0 [some (vr x0), some (vi x1), some (vi x2)] [] G Q := by
  refine wp_aload_n (pc := 0) d_X12_fail_0 rfl ?_
  obtain ⟨ho1, h⟩ := h
  refine wp_getI (pc := 1) d_X12_fail_1 fl_X12_311 (fun _ _ _ => rfl) ho1 ?_
  refine wp_if_ne (pc := 4) (tgt := 17) d_X12_fail_4 (by decide) (fun hc => ?_) (fun hc => ?_)
  · have h := h.1 hc
    exact wp_vret (pc := 17) d_X12_fail_17 rfl h
  · have h := h.2 hc
    refine wp_aload_n (pc := 7) d_X12_fail_7 rfl ?_
    refine wp_iload_n (pc := 8) d_X12_fail_8 rfl ?_
    refine wp_putI (pc := 9) d_X12_fail_9 fl_X12_311 (fun _ _ _ => rfl) (Or.inl rfl) ho1 (okI_int _) ?_
    refine wp_nm (fun G2 eG2 => ?_)
    have h := h G2 eG2
    have ho3 := isO_sI eG2 ho1
    refine wp_aload_n (pc := 12) d_X12_fail_12 rfl ?_
    refine wp_iload_n (pc := 13) d_X12_fail_13 rfl ?_
    refine wp_putI (pc := 14) d_X12_fail_14 fl_X12_314 (fun _ _ _ => rfl) (Or.inl rfl) ho3 (okI_int _) ?_
    refine wp_nm (fun G4 eG4 => ?_)
    have h := h G4 eG4
    have ho5 := isO_sI eG4 ho3
    exact wp_vret (pc := 17) d_X12_fail_17 rfl h
