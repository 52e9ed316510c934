/-! decode rows and regions (by program): X12_weighPlan X12_place X12_rulesOf X12_testValue X12_orValue X12_andValue X12_unitValue X12_allValue X12_rowOfNames X12_nameValue X12_different X12_rowValue X12_intValue X12_lexValue X12_ringValue X12_autoValue X12_busyValue X12_apartValue X12_sumValue X12_termValue -/
theorem d_X12_weighPlan_0 : decode prog_14_method_88_code 0 = .ok (.iconst 0, 1) := by decide +kernel
theorem d_X12_weighPlan_1 : decode prog_14_method_88_code 1 = .ok (.istore_n 3, 1) := by decide +kernel
theorem d_X12_weighPlan_2 : decode prog_14_method_88_code 2 = .ok (.iload_n 3, 1) := by decide +kernel
theorem d_X12_weighPlan_3 : decode prog_14_method_88_code 3 = .ok (.aload_n 0, 1) := by decide +kernel
theorem d_X12_weighPlan_4 : decode prog_14_method_88_code 4 = .ok (.iload_n 1, 1) := by decide +kernel
theorem d_X12_weighPlan_5 : decode prog_14_method_88_code 5 = .ok (.invokevirtual 456, 3) := by decide +kernel
theorem d_X12_weighPlan_8 : decode prog_14_method_88_code 8 = .ok (.if_icmp .ge 37, 3) := by decide +kernel
theorem d_X12_weighPlan_11 : decode prog_14_method_88_code 11 = .ok (.aload_n 0, 1) := by decide +kernel
theorem d_X12_weighPlan_12 : decode prog_14_method_88_code 12 = .ok (.getfield 121, 3) := by decide +kernel
theorem d_X12_weighPlan_15 : decode prog_14_method_88_code 15 = .ok (.iload_n 3, 1) := by decide +kernel
theorem d_X12_weighPlan_16 : decode prog_14_method_88_code 16 = .ok (.aload_n 0, 1) := by decide +kernel
theorem d_X12_weighPlan_17 : decode prog_14_method_88_code 17 = .ok (.getfield 70, 3) := by decide +kernel
theorem d_X12_weighPlan_20 : decode prog_14_method_88_code 20 = .ok (.bipush 20, 2) := by decide +kernel
theorem d_X12_weighPlan_22 : decode prog_14_method_88_code 22 = .ok (.bipush 12, 2) := by decide +kernel
theorem d_X12_weighPlan_24 : decode prog_14_method_88_code 24 = .ok (.iload_n 1, 1) := by decide +kernel
theorem d_X12_weighPlan_25 : decode prog_14_method_88_code 25 = .ok (.imul, 1) := by decide +kernel
theorem d_X12_weighPlan_26 : decode prog_14_method_88_code 26 = .ok (.iload_n 3, 1) := by decide +kernel
theorem d_X12_weighPlan_27 : decode prog_14_method_88_code 27 = .ok (.iadd, 1) := by decide +kernel
theorem d_X12_weighPlan_28 : decode prog_14_method_88_code 28 = .ok (.imul, 1) := by decide +kernel
theorem d_X12_weighPlan_29 : decode prog_14_method_88_code 29 = .ok (.aload_n 0, 1) := by decide +kernel
theorem d_X12_weighPlan_30 : decode prog_14_method_88_code 30 = .ok (.iload_n 1, 1) := by decide +kernel
theorem d_X12_weighPlan_31 : decode prog_14_method_88_code 31 = .ok (.iload_n 2, 1) := by decide +kernel
theorem d_X12_weighPlan_32 : decode prog_14_method_88_code 32 = .ok (.iload_n 3, 1) := by decide +kernel
theorem d_X12_weighPlan_33 : decode prog_14_method_88_code 33 = .ok (.invokevirtual 537, 3) := by decide +kernel
theorem d_X12_weighPlan_36 : decode prog_14_method_88_code 36 = .ok (.iadd, 1) := by decide +kernel
theorem d_X12_weighPlan_37 : decode prog_14_method_88_code 37 = .ok (.iaload, 1) := by decide +kernel
theorem d_X12_weighPlan_38 : decode prog_14_method_88_code 38 = .ok (.iastore, 1) := by decide +kernel
theorem d_X12_weighPlan_39 : decode prog_14_method_88_code 39 = .ok (.iinc 3 1, 3) := by decide +kernel
theorem d_X12_weighPlan_42 : decode prog_14_method_88_code 42 = .ok (.goto (-40), 3) := by decide +kernel
theorem d_X12_weighPlan_45 : decode prog_14_method_88_code 45 = .ok (.iconst 0, 1) := by decide +kernel
theorem d_X12_weighPlan_46 : decode prog_14_method_88_code 46 = .ok (.istore_n 3, 1) := by decide +kernel
theorem d_X12_weighPlan_47 : decode prog_14_method_88_code 47 = .ok (.iload_n 3, 1) := by decide +kernel
theorem d_X12_weighPlan_48 : decode prog_14_method_88_code 48 = .ok (.iconst 3, 1) := by decide +kernel
theorem d_X12_weighPlan_49 : decode prog_14_method_88_code 49 = .ok (.if_icmp .ge 22, 3) := by decide +kernel
theorem d_X12_weighPlan_52 : decode prog_14_method_88_code 52 = .ok (.aload_n 0, 1) := by decide +kernel
theorem d_X12_weighPlan_53 : decode prog_14_method_88_code 53 = .ok (.getfield 159, 3) := by decide +kernel
theorem d_X12_weighPlan_56 : decode prog_14_method_88_code 56 = .ok (.sipush 20000, 3) := by decide +kernel
theorem d_X12_weighPlan_59 : decode prog_14_method_88_code 59 = .ok (.iload_n 3, 1) := by decide +kernel
theorem d_X12_weighPlan_60 : decode prog_14_method_88_code 60 = .ok (.imul, 1) := by decide +kernel
theorem d_X12_weighPlan_61 : decode prog_14_method_88_code 61 = .ok (.iload_n 2, 1) := by decide +kernel
theorem d_X12_weighPlan_62 : decode prog_14_method_88_code 62 = .ok (.iadd, 1) := by decide +kernel
theorem d_X12_weighPlan_63 : decode prog_14_method_88_code 63 = .ok (.lconst 0, 1) := by decide +kernel
theorem d_X12_weighPlan_64 : decode prog_14_method_88_code 64 = .ok (.lastore, 1) := by decide +kernel
theorem d_X12_weighPlan_65 : decode prog_14_method_88_code 65 = .ok (.iinc 3 1, 3) := by decide +kernel
theorem d_X12_weighPlan_68 : decode prog_14_method_88_code 68 = .ok (.goto (-21), 3) := by decide +kernel
theorem d_X12_weighPlan_71 : decode prog_14_method_88_code 71 = .ok (.iconst 0, 1) := by decide +kernel
theorem d_X12_weighPlan_72 : decode prog_14_method_88_code 72 = .ok (.istore_n 3, 1) := by decide +kernel
theorem d_X12_weighPlan_73 : decode prog_14_method_88_code 73 = .ok (.iload_n 3, 1) := by decide +kernel
theorem d_X12_weighPlan_74 : decode prog_14_method_88_code 74 = .ok (.aload_n 0, 1) := by decide +kernel
theorem d_X12_weighPlan_75 : decode prog_14_method_88_code 75 = .ok (.iload_n 1, 1) := by decide +kernel
theorem d_X12_weighPlan_76 : decode prog_14_method_88_code 76 = .ok (.invokevirtual 459, 3) := by decide +kernel
theorem d_X12_weighPlan_79 : decode prog_14_method_88_code 79 = .ok (.if_icmp .ge 92, 3) := by decide +kernel
theorem d_X12_weighPlan_82 : decode prog_14_method_88_code 82 = .ok (.aload_n 0, 1) := by decide +kernel
theorem d_X12_weighPlan_83 : decode prog_14_method_88_code 83 = .ok (.aload_n 0, 1) := by decide +kernel
theorem d_X12_weighPlan_84 : decode prog_14_method_88_code 84 = .ok (.getfield 94, 3) := by decide +kernel
theorem d_X12_weighPlan_87 : decode prog_14_method_88_code 87 = .ok (.bipush 24, 2) := by decide +kernel
theorem d_X12_weighPlan_89 : decode prog_14_method_88_code 89 = .ok (.iload_n 1, 1) := by decide +kernel
theorem d_X12_weighPlan_90 : decode prog_14_method_88_code 90 = .ok (.imul, 1) := by decide +kernel
theorem d_X12_weighPlan_91 : decode prog_14_method_88_code 91 = .ok (.iload_n 3, 1) := by decide +kernel
theorem d_X12_weighPlan_92 : decode prog_14_method_88_code 92 = .ok (.iadd, 1) := by decide +kernel
theorem d_X12_weighPlan_93 : decode prog_14_method_88_code 93 = .ok (.iaload, 1) := by decide +kernel
theorem d_X12_weighPlan_94 : decode prog_14_method_88_code 94 = .ok (.putfield 472, 3) := by decide +kernel
theorem d_X12_weighPlan_97 : decode prog_14_method_88_code 97 = .ok (.aload_n 0, 1) := by decide +kernel
theorem d_X12_weighPlan_98 : decode prog_14_method_88_code 98 = .ok (.getfield 151, 3) := by decide +kernel
theorem d_X12_weighPlan_101 : decode prog_14_method_88_code 101 = .ok (.sipush 20000, 3) := by decide +kernel
theorem d_X12_weighPlan_104 : decode prog_14_method_88_code 104 = .ok (.iload_n 3, 1) := by decide +kernel
theorem d_X12_weighPlan_105 : decode prog_14_method_88_code 105 = .ok (.imul, 1) := by decide +kernel
theorem d_X12_weighPlan_106 : decode prog_14_method_88_code 106 = .ok (.iload_n 2, 1) := by decide +kernel
theorem d_X12_weighPlan_107 : decode prog_14_method_88_code 107 = .ok (.iadd, 1) := by decide +kernel
theorem d_X12_weighPlan_108 : decode prog_14_method_88_code 108 = .ok (.aload_n 0, 1) := by decide +kernel
theorem d_X12_weighPlan_109 : decode prog_14_method_88_code 109 = .ok (.invokevirtual 489, 3) := by decide +kernel
theorem d_X12_weighPlan_112 : decode prog_14_method_88_code 112 = .ok (.l2i, 1) := by decide +kernel
theorem d_X12_weighPlan_113 : decode prog_14_method_88_code 113 = .ok (.iastore, 1) := by decide +kernel
theorem d_X12_weighPlan_114 : decode prog_14_method_88_code 114 = .ok (.aload_n 0, 1) := by decide +kernel
theorem d_X12_weighPlan_115 : decode prog_14_method_88_code 115 = .ok (.getfield 159, 3) := by decide +kernel
theorem d_X12_weighPlan_118 : decode prog_14_method_88_code 118 = .ok (.sipush 20000, 3) := by decide +kernel
theorem d_X12_weighPlan_121 : decode prog_14_method_88_code 121 = .ok (.aload_n 0, 1) := by decide +kernel
theorem d_X12_weighPlan_122 : decode prog_14_method_88_code 122 = .ok (.getfield 88, 3) := by decide +kernel
theorem d_X12_weighPlan_125 : decode prog_14_method_88_code 125 = .ok (.bipush 24, 2) := by decide +kernel
theorem d_X12_weighPlan_127 : decode prog_14_method_88_code 127 = .ok (.iload_n 1, 1) := by decide +kernel
theorem d_X12_weighPlan_128 : decode prog_14_method_88_code 128 = .ok (.imul, 1) := by decide +kernel
theorem d_X12_weighPlan_129 : decode prog_14_method_88_code 129 = .ok (.iload_n 3, 1) := by decide +kernel
theorem d_X12_weighPlan_130 : decode prog_14_method_88_code 130 = .ok (.iadd, 1) := by decide +kernel
theorem d_X12_weighPlan_131 : decode prog_14_method_88_code 131 = .ok (.iaload, 1) := by decide +kernel
theorem d_X12_weighPlan_132 : decode prog_14_method_88_code 132 = .ok (.imul, 1) := by decide +kernel
theorem d_X12_weighPlan_133 : decode prog_14_method_88_code 133 = .ok (.iload_n 2, 1) := by decide +kernel
theorem d_X12_weighPlan_134 : decode prog_14_method_88_code 134 = .ok (.iadd, 1) := by decide +kernel
theorem d_X12_weighPlan_135 : decode prog_14_method_88_code 135 = .ok (.dup2, 1) := by decide +kernel
theorem d_X12_weighPlan_136 : decode prog_14_method_88_code 136 = .ok (.laload, 1) := by decide +kernel
theorem d_X12_weighPlan_137 : decode prog_14_method_88_code 137 = .ok (.aload_n 0, 1) := by decide +kernel
theorem d_X12_weighPlan_138 : decode prog_14_method_88_code 138 = .ok (.getfield 91, 3) := by decide +kernel
theorem d_X12_weighPlan_141 : decode prog_14_method_88_code 141 = .ok (.bipush 24, 2) := by decide +kernel
theorem d_X12_weighPlan_143 : decode prog_14_method_88_code 143 = .ok (.iload_n 1, 1) := by decide +kernel
theorem d_X12_weighPlan_144 : decode prog_14_method_88_code 144 = .ok (.imul, 1) := by decide +kernel
theorem d_X12_weighPlan_145 : decode prog_14_method_88_code 145 = .ok (.iload_n 3, 1) := by decide +kernel
theorem d_X12_weighPlan_146 : decode prog_14_method_88_code 146 = .ok (.iadd, 1) := by decide +kernel
theorem d_X12_weighPlan_147 : decode prog_14_method_88_code 147 = .ok (.iaload, 1) := by decide +kernel
theorem d_X12_weighPlan_148 : decode prog_14_method_88_code 148 = .ok (.i2l, 1) := by decide +kernel
theorem d_X12_weighPlan_149 : decode prog_14_method_88_code 149 = .ok (.aload_n 0, 1) := by decide +kernel
theorem d_X12_weighPlan_150 : decode prog_14_method_88_code 150 = .ok (.getfield 151, 3) := by decide +kernel
theorem d_X12_weighPlan_153 : decode prog_14_method_88_code 153 = .ok (.sipush 20000, 3) := by decide +kernel
theorem d_X12_weighPlan_156 : decode prog_14_method_88_code 156 = .ok (.iload_n 3, 1) := by decide +kernel
theorem d_X12_weighPlan_157 : decode prog_14_method_88_code 157 = .ok (.imul, 1) := by decide +kernel
theorem d_X12_weighPlan_158 : decode prog_14_method_88_code 158 = .ok (.iload_n 2, 1) := by decide +kernel
theorem d_X12_weighPlan_159 : decode prog_14_method_88_code 159 = .ok (.iadd, 1) := by decide +kernel
theorem d_X12_weighPlan_160 : decode prog_14_method_88_code 160 = .ok (.iaload, 1) := by decide +kernel
theorem d_X12_weighPlan_161 : decode prog_14_method_88_code 161 = .ok (.i2l, 1) := by decide +kernel
theorem d_X12_weighPlan_162 : decode prog_14_method_88_code 162 = .ok (.lmul, 1) := by decide +kernel
theorem d_X12_weighPlan_163 : decode prog_14_method_88_code 163 = .ok (.ladd, 1) := by decide +kernel
theorem d_X12_weighPlan_164 : decode prog_14_method_88_code 164 = .ok (.lastore, 1) := by decide +kernel
theorem d_X12_weighPlan_165 : decode prog_14_method_88_code 165 = .ok (.iinc 3 1, 3) := by decide +kernel
theorem d_X12_weighPlan_168 : decode prog_14_method_88_code 168 = .ok (.goto (-95), 3) := by decide +kernel
theorem d_X12_weighPlan_171 : decode prog_14_method_88_code 171 = .ok (.iconst 0, 1) := by decide +kernel
theorem d_X12_weighPlan_172 : decode prog_14_method_88_code 172 = .ok (.istore_n 3, 1) := by decide +kernel
theorem d_X12_weighPlan_173 : decode prog_14_method_88_code 173 = .ok (.iload_n 3, 1) := by decide +kernel
theorem d_X12_weighPlan_174 : decode prog_14_method_88_code 174 = .ok (.aload_n 0, 1) := by decide +kernel
theorem d_X12_weighPlan_175 : decode prog_14_method_88_code 175 = .ok (.iload_n 1, 1) := by decide +kernel
theorem d_X12_weighPlan_176 : decode prog_14_method_88_code 176 = .ok (.invokevirtual 541, 3) := by decide +kernel
theorem d_X12_weighPlan_179 : decode prog_14_method_88_code 179 = .ok (.if_icmp .ge 79, 3) := by decide +kernel
theorem d_X12_weighPlan_182 : decode prog_14_method_88_code 182 = .ok (.aload_n 0, 1) := by decide +kernel
theorem d_X12_weighPlan_183 : decode prog_14_method_88_code 183 = .ok (.aload_n 0, 1) := by decide +kernel
theorem d_X12_weighPlan_184 : decode prog_14_method_88_code 184 = .ok (.getfield 100, 3) := by decide +kernel
theorem d_X12_weighPlan_187 : decode prog_14_method_88_code 187 = .ok (.bipush 6, 2) := by decide +kernel
theorem d_X12_weighPlan_189 : decode prog_14_method_88_code 189 = .ok (.iload_n 1, 1) := by decide +kernel
theorem d_X12_weighPlan_190 : decode prog_14_method_88_code 190 = .ok (.imul, 1) := by decide +kernel
theorem d_X12_weighPlan_191 : decode prog_14_method_88_code 191 = .ok (.iload_n 3, 1) := by decide +kernel
theorem d_X12_weighPlan_192 : decode prog_14_method_88_code 192 = .ok (.iadd, 1) := by decide +kernel
theorem d_X12_weighPlan_193 : decode prog_14_method_88_code 193 = .ok (.iaload, 1) := by decide +kernel
theorem d_X12_weighPlan_194 : decode prog_14_method_88_code 194 = .ok (.putfield 472, 3) := by decide +kernel
theorem d_X12_weighPlan_197 : decode prog_14_method_88_code 197 = .ok (.aload_n 0, 1) := by decide +kernel
theorem d_X12_weighPlan_198 : decode prog_14_method_88_code 198 = .ok (.getfield 155, 3) := by decide +kernel
theorem d_X12_weighPlan_201 : decode prog_14_method_88_code 201 = .ok (.sipush 20000, 3) := by decide +kernel
theorem d_X12_weighPlan_204 : decode prog_14_method_88_code 204 = .ok (.iload_n 3, 1) := by decide +kernel
theorem d_X12_weighPlan_205 : decode prog_14_method_88_code 205 = .ok (.imul, 1) := by decide +kernel
theorem d_X12_weighPlan_206 : decode prog_14_method_88_code 206 = .ok (.iload_n 2, 1) := by decide +kernel
theorem d_X12_weighPlan_207 : decode prog_14_method_88_code 207 = .ok (.iadd, 1) := by decide +kernel
theorem d_X12_weighPlan_208 : decode prog_14_method_88_code 208 = .ok (.aload_n 0, 1) := by decide +kernel
theorem d_X12_weighPlan_209 : decode prog_14_method_88_code 209 = .ok (.invokevirtual 492, 3) := by decide +kernel
theorem d_X12_weighPlan_212 : decode prog_14_method_88_code 212 = .ok (.l2i, 1) := by decide +kernel
theorem d_X12_weighPlan_213 : decode prog_14_method_88_code 213 = .ok (.iastore, 1) := by decide +kernel
theorem d_X12_weighPlan_214 : decode prog_14_method_88_code 214 = .ok (.aload_n 0, 1) := by decide +kernel
theorem d_X12_weighPlan_215 : decode prog_14_method_88_code 215 = .ok (.getfield 159, 3) := by decide +kernel
theorem d_X12_weighPlan_218 : decode prog_14_method_88_code 218 = .ok (.sipush 20000, 3) := by decide +kernel
theorem d_X12_weighPlan_221 : decode prog_14_method_88_code 221 = .ok (.aload_n 0, 1) := by decide +kernel
theorem d_X12_weighPlan_222 : decode prog_14_method_88_code 222 = .ok (.getfield 97, 3) := by decide +kernel
theorem d_X12_weighPlan_225 : decode prog_14_method_88_code 225 = .ok (.bipush 6, 2) := by decide +kernel
theorem d_X12_weighPlan_227 : decode prog_14_method_88_code 227 = .ok (.iload_n 1, 1) := by decide +kernel
theorem d_X12_weighPlan_228 : decode prog_14_method_88_code 228 = .ok (.imul, 1) := by decide +kernel
theorem d_X12_weighPlan_229 : decode prog_14_method_88_code 229 = .ok (.iload_n 3, 1) := by decide +kernel
theorem d_X12_weighPlan_230 : decode prog_14_method_88_code 230 = .ok (.iadd, 1) := by decide +kernel
theorem d_X12_weighPlan_231 : decode prog_14_method_88_code 231 = .ok (.iaload, 1) := by decide +kernel
theorem d_X12_weighPlan_232 : decode prog_14_method_88_code 232 = .ok (.imul, 1) := by decide +kernel
theorem d_X12_weighPlan_233 : decode prog_14_method_88_code 233 = .ok (.iload_n 2, 1) := by decide +kernel
theorem d_X12_weighPlan_234 : decode prog_14_method_88_code 234 = .ok (.iadd, 1) := by decide +kernel
theorem d_X12_weighPlan_235 : decode prog_14_method_88_code 235 = .ok (.dup2, 1) := by decide +kernel
theorem d_X12_weighPlan_236 : decode prog_14_method_88_code 236 = .ok (.laload, 1) := by decide +kernel
theorem d_X12_weighPlan_237 : decode prog_14_method_88_code 237 = .ok (.aload_n 0, 1) := by decide +kernel
theorem d_X12_weighPlan_238 : decode prog_14_method_88_code 238 = .ok (.getfield 155, 3) := by decide +kernel
theorem d_X12_weighPlan_241 : decode prog_14_method_88_code 241 = .ok (.sipush 20000, 3) := by decide +kernel
theorem d_X12_weighPlan_244 : decode prog_14_method_88_code 244 = .ok (.iload_n 3, 1) := by decide +kernel
theorem d_X12_weighPlan_245 : decode prog_14_method_88_code 245 = .ok (.imul, 1) := by decide +kernel
theorem d_X12_weighPlan_246 : decode prog_14_method_88_code 246 = .ok (.iload_n 2, 1) := by decide +kernel
theorem d_X12_weighPlan_247 : decode prog_14_method_88_code 247 = .ok (.iadd, 1) := by decide +kernel
theorem d_X12_weighPlan_248 : decode prog_14_method_88_code 248 = .ok (.iaload, 1) := by decide +kernel
theorem d_X12_weighPlan_249 : decode prog_14_method_88_code 249 = .ok (.i2l, 1) := by decide +kernel
theorem d_X12_weighPlan_250 : decode prog_14_method_88_code 250 = .ok (.ladd, 1) := by decide +kernel
theorem d_X12_weighPlan_251 : decode prog_14_method_88_code 251 = .ok (.lastore, 1) := by decide +kernel
theorem d_X12_weighPlan_252 : decode prog_14_method_88_code 252 = .ok (.iinc 3 1, 3) := by decide +kernel
theorem d_X12_weighPlan_255 : decode prog_14_method_88_code 255 = .ok (.goto (-82), 3) := by decide +kernel
theorem d_X12_weighPlan_258 : decode prog_14_method_88_code 258 = .ok (.return_, 1) := by decide +kernel
theorem v_X12_weighPlan_0 {E : EE} {d : Nat} {Q : Option AV → AH → Prop} {x0 : Nat} {x1 : Int32} {x2 : Int32} {G : AH} (h : wp E d M_X12_weighPlan 2 [some (vr x0), some (vi x1), some (vi x2), some (vi 0)] [] G Q) : wp E d M_X12_weighPlan 0 [some (vr x0), some (vi x1), some (vi x2), none] [] G Q := by
  refine wp_iconst (pc := 0) (v := 0) d_X12_weighPlan_0 rfl ?_
  refine wp_istore_n (pc := 1) (lv' := [some (vr _), some (vi _), some (vi _), some (vi _)]) d_X12_weighPlan_1 (by decide) rfl ?_
  refine wp_sub ?_ h
  exact ⟨rfl, ⟨rfl, ⟨rfl, ⟨rfl, trivial⟩⟩⟩⟩
theorem v_X12_weighPlan_2 {E : EE} {d : Nat} {Q : Option AV → AH → Prop} {x0 : Nat} {x1 : Int32} {x2 : Int32} {x3 : Int32} {G : AH} (h0 : 0 < d) (h : isO E G x0 12 ∧ (wpI E (d - 1) M_X12_vars [vr x0, vi x1] G (fun r1 G2 => (r1 ≤ x3 → wp E d M_X12_weighPlan 47 [some (vr x0), some (vi x1), some (vi x2), some (vi 0)] [] G2 Q) ∧ (¬ (r1 ≤ x3) → isO E G2 x0 12 ∧ (wpI E (d - 1) M_X12_place [vr x0, vi x1, vi x2, vi x3] G2 (fun r4 G5 => isO E G5 (gR G2 x0 21) 14 ∧ (vp_in ((20 * ((12 * x1) + x3)) + r4) (gN G5 (gR G2 x0 21)) ∧ (isO E G5 (gR G2 x0 52) 14 ∧ (vp_in x3 (gN G5 (gR G2 x0 52)) ∧ (wp E d M_X12_weighPlan 2 [some (vr x0), some (vi x1), some (vi x2), some (vi (x3 + 1))] [] (sI G5 (gR G2 x0 52) (Int32.toNatClampNeg x3) (gI G5 (gR G2 x0 21) (Int32.toNatClampNeg ((20 * ((12 * x1) + x3)) + r4)))) Q)))))))))) : wp E d M_X12_weighPlan 2 [some (vr x0), some (vi x1), some (vi x2), some (vi x3)] [] G Q := by
  refine wp_iload_n (pc := 2) d_X12_weighPlan_2 rfl ?_
  refine wp_aload_n (pc := 3) d_X12_weighPlan_3 rfl ?_
  refine wp_iload_n (pc := 4) d_X12_weighPlan_4 rfl ?_
  obtain ⟨ho10, h⟩ := h
  refine wp_invV (pc := 5) (N := M_X12_vars) (As := [vi _]) (rest := [vi _]) (r := (cn_12, ct_12, 95)) d_X12_weighPlan_5 ml_X12_456 mk_X12_vars mv_X12_vars h0 ho10 rfl rfl (Nat.le_of_ble_eq_true rfl) ?_
  refine wpM.mono h (fun rr G2 hr => ?_)
  obtain ⟨r1, rfl, h⟩ := hr
  show wp E d M_X12_weighPlan 8 [some (vr _), some (vi _), some (vi _), some (vi _)] [vi _, vi _] G2 Q
  refine wp_icmp_ge (pc := 8) (tgt := 45) d_X12_weighPlan_8 (by decide) (fun hc => ?_) (fun hc => ?_)
  · have h := h.1 hc
    refine wp_iconst (pc := 45) (v := 0) d_X12_weighPlan_45 rfl ?_
    refine wp_istore_n (pc := 46) (lv' := [some (vr _), some (vi _), some (vi _), some (vi _)]) d_X12_weighPlan_46 (by decide) rfl ?_
    refine wp_sub ?_ h
    exact ⟨rfl, ⟨rfl, ⟨rfl, ⟨rfl, trivial⟩⟩⟩⟩
  · have h := h.2 hc
    refine wp_aload_n (pc := 11) d_X12_weighPlan_11 rfl ?_
    obtain ⟨ho3, h⟩ := h
    refine wp_getR (pc := 12) d_X12_weighPlan_12 fl_X12_121 (fun _ _ _ => rfl) ho3 ?_
    refine wp_iload_n (pc := 15) d_X12_weighPlan_15 rfl ?_
    refine wp_aload_n (pc := 16) d_X12_weighPlan_16 rfl ?_
    refine wp_getR (pc := 17) d_X12_weighPlan_17 fl_X12_70 (fun _ _ _ => rfl) ho3 ?_
    refine wp_bipush (pc := 20) (v := 20) d_X12_weighPlan_20 rfl ?_
    refine wp_bipush (pc := 22) (v := 12) d_X12_weighPlan_22 rfl ?_
    refine wp_iload_n (pc := 24) d_X12_weighPlan_24 rfl ?_
    refine wp_imul (pc := 25) d_X12_weighPlan_25 ?_
    refine wp_iload_n (pc := 26) d_X12_weighPlan_26 rfl ?_
    refine wp_iadd (pc := 27) d_X12_weighPlan_27 ?_
    refine wp_imul (pc := 28) d_X12_weighPlan_28 ?_
    refine wp_aload_n (pc := 29) d_X12_weighPlan_29 rfl ?_
    refine wp_iload_n (pc := 30) d_X12_weighPlan_30 rfl ?_
    refine wp_iload_n (pc := 31) d_X12_weighPlan_31 rfl ?_
    refine wp_iload_n (pc := 32) d_X12_weighPlan_32 rfl ?_
    refine wp_invV (pc := 33) (N := M_X12_place) (As := [vi _, vi _, vi _]) (rest := [vi _, vr _, vi _, vr _]) (r := (cn_12, ct_12, 95)) d_X12_weighPlan_33 ml_X12_537 mk_X12_place mv_X12_place h0 ho3 rfl rfl (Nat.le_of_ble_eq_true rfl) ?_
    refine wpM.mono h (fun rr G5 hr => ?_)
    obtain ⟨r4, rfl, h⟩ := hr
    show wp E d M_X12_weighPlan 36 [some (vr _), some (vi _), some (vi _), some (vi _)] [vi _, vi _, vr _, vi _, vr _] G5 Q
    refine wp_iadd (pc := 36) d_X12_weighPlan_36 ?_
    obtain ⟨ho6, h⟩ := h
    obtain ⟨hi7, h⟩ := h
    refine wp_iald (pc := 37) d_X12_weighPlan_37 ho6 hi7 ?_
    obtain ⟨ho8, h⟩ := h
    obtain ⟨hi9, h⟩ := h
    refine wp_iast (pc := 38) d_X12_weighPlan_38 ho8 hi9 ?_
    refine wp_iinc (pc := 39) (v := 1) (lv' := [some (vr _), some (vi _), some (vi _), some (vi _)]) d_X12_weighPlan_39 (by decide) rfl rfl rfl ?_
    refine wp_goto (pc := 42) (tgt := 2) d_X12_weighPlan_42 (by decide) ?_
    refine wp_sub ?_ h
    exact ⟨rfl, ⟨rfl, ⟨rfl, ⟨rfl, trivial⟩⟩⟩⟩
theorem v_X12_weighPlan_47 {E : EE} {d : Nat} {Q : Option AV → AH → Prop} {x0 : Nat} {x1 : Int32} {x2 : Int32} {x3 : Int32} {G : AH} (h : (3 ≤ x3 → wp E d M_X12_weighPlan 73 [some (vr x0), some (vi x1), some (vi x2), some (vi 0)] [] G Q) ∧ (¬ (3 ≤ x3) → isO E G x0 12 ∧ (isO E G (gR G x0 66) 15 ∧ (vp_in ((20000 * x3) + x2) (gN G (gR G x0 66)) ∧ (wp E d M_X12_weighPlan 47 [some (vr x0), some (vi x1), some (vi x2), some (vi (x3 + 1))] [] (sJ G (gR G x0 66) (Int32.toNatClampNeg ((20000 * x3) + x2)) 0) Q))))) : wp E d M_X12_weighPlan 47 [some (vr x0), some (vi x1), some (vi x2), some (vi x3)] [] G Q := by
  refine wp_iload_n (pc := 47) d_X12_weighPlan_47 rfl ?_
  refine wp_iconst (pc := 48) (v := 3) d_X12_weighPlan_48 rfl ?_
  refine wp_icmp_ge (pc := 49) (tgt := 71) d_X12_weighPlan_49 (by decide) (fun hc => ?_) (fun hc => ?_)
  · have h := h.1 hc
    refine wp_iconst (pc := 71) (v := 0) d_X12_weighPlan_71 rfl ?_
    refine wp_istore_n (pc := 72) (lv' := [some (vr _), some (vi _), some (vi _), some (vi _)]) d_X12_weighPlan_72 (by decide) rfl ?_
    refine wp_sub ?_ h
    exact ⟨rfl, ⟨rfl, ⟨rfl, ⟨rfl, trivial⟩⟩⟩⟩
  · have h := h.2 hc
    refine wp_aload_n (pc := 52) d_X12_weighPlan_52 rfl ?_
    obtain ⟨ho1, h⟩ := h
    refine wp_getR (pc := 53) d_X12_weighPlan_53 fl_X12_159 (fun _ _ _ => rfl) ho1 ?_
    refine wp_sipush (pc := 56) (v := 20000) d_X12_weighPlan_56 rfl ?_
    refine wp_iload_n (pc := 59) d_X12_weighPlan_59 rfl ?_
    refine wp_imul (pc := 60) d_X12_weighPlan_60 ?_
    refine wp_iload_n (pc := 61) d_X12_weighPlan_61 rfl ?_
    refine wp_iadd (pc := 62) d_X12_weighPlan_62 ?_
    refine wp_lconst (pc := 63) (v := 0) d_X12_weighPlan_63 rfl ?_
    obtain ⟨ho2, h⟩ := h
    obtain ⟨hi3, h⟩ := h
    refine wp_last (pc := 64) d_X12_weighPlan_64 ho2 hi3 ?_
    refine wp_iinc (pc := 65) (v := 1) (lv' := [some (vr _), some (vi _), some (vi _), some (vi _)]) d_X12_weighPlan_65 (by decide) rfl rfl rfl ?_
    refine wp_goto (pc := 68) (tgt := 47) d_X12_weighPlan_68 (by decide) ?_
    refine wp_sub ?_ h
    exact ⟨rfl, ⟨rfl, ⟨rfl, ⟨rfl, trivial⟩⟩⟩⟩
theorem v_X12_weighPlan_73 {E : EE} {d : Nat} {Q : Option AV → AH → Prop} {x0 : Nat} {x1 : Int32} {x2 : Int32} {x3 : Int32} {G : AH} (h0 : 0 < d) (h : isO E G x0 12 ∧ (wpI E (d - 1) M_X12_rulesOf [vr x0, vi x1] G (fun r1 G2 => (r1 ≤ x3 → wp E d M_X12_weighPlan 173 [some (vr x0), some (vi x1), some (vi x2), some (vi 0)] [] G2 Q) ∧ (¬ (r1 ≤ x3) → isO E G2 x0 12 ∧ (isO E G2 (gR G2 x0 29) 14 ∧ (vp_in ((24 * x1) + x3) (gN G2 (gR G2 x0 29)) ∧ (∀ G6 : AH, G6 = sI G2 x0 54 (gI G2 (gR G2 x0 29) (Int32.toNatClampNeg ((24 * x1) + x3))) → wpJ E (d - 1) M_X12_testValue [vr x0] G6 (fun r8 G9 => isO E G9 (gR G6 x0 64) 14 ∧ (vp_in ((20000 * x3) + x2) (gN G9 (gR G6 x0 64)) ∧ (∀ G12 : AH, G12 = sI G9 (gR G6 x0 64) (Int32.toNatClampNeg ((20000 * x3) + x2)) (Int64.toInt32 r8) → isO E G12 x0 12 ∧ (isO E G12 (gR G12 x0 27) 14 ∧ (vp_in ((24 * x1) + x3) (gN G12 (gR G12 x0 27)) ∧ (isO E G12 (gR G12 x0 66) 15 ∧ (vp_in ((20000 * (gI G12 (gR G12 x0 27) (Int32.toNatClampNeg ((24 * x1) + x3)))) + x2) (gN G12 (gR G12 x0 66)) ∧ (isO E G12 (gR G12 x0 28) 14 ∧ (vp_in ((24 * x1) + x3) (gN G12 (gR G12 x0 28)) ∧ (isO E G12 (gR G12 x0 64) 14 ∧ (vp_in ((20000 * x3) + x2) (gN G12 (gR G12 x0 64)) ∧ (vp_in ((20000 * (gI G12 (gR G12 x0 27) (Int32.toNatClampNeg ((24 * x1) + x3)))) + x2) (gN G12 (gR G12 x0 66)) ∧ (∀ G23 : AH, G23 = sJ G12 (gR G12 x0 66) (Int32.toNatClampNeg ((20000 * (gI G12 (gR G12 x0 27) (Int32.toNatClampNeg ((24 * x1) + x3)))) + x2)) ((gJ G12 (gR G12 x0 66) (Int32.toNatClampNeg ((20000 * (gI G12 (gR G12 x0 27) (Int32.toNatClampNeg ((24 * x1) + x3)))) + x2))) + ((Int32.toInt64 (gI G12 (gR G12 x0 28) (Int32.toNatClampNeg ((24 * x1) + x3)))) * (Int32.toInt64 (gI G12 (gR G12 x0 64) (Int32.toNatClampNeg ((20000 * x3) + x2)))))) → wp E d M_X12_weighPlan 73 [some (vr x0), some (vi x1), some (vi x2), some (vi (x3 + 1))] [] G23 Q)))))))))))))))))))) : wp E d M_X12_weighPlan 73 [some (vr x0), some (vi x1), some (vi x2), some (vi x3)] [] G Q := by
  refine wp_iload_n (pc := 73) d_X12_weighPlan_73 rfl ?_
  refine wp_aload_n (pc := 74) d_X12_weighPlan_74 rfl ?_
  refine wp_iload_n (pc := 75) d_X12_weighPlan_75 rfl ?_
  obtain ⟨ho25, h⟩ := h
  refine wp_invV (pc := 76) (N := M_X12_rulesOf) (As := [vi _]) (rest := [vi _]) (r := (cn_12, ct_12, 95)) d_X12_weighPlan_76 ml_X12_459 mk_X12_rulesOf mv_X12_rulesOf h0 ho25 rfl rfl (Nat.le_of_ble_eq_true rfl) ?_
  refine wpM.mono h (fun rr G2 hr => ?_)
  obtain ⟨r1, rfl, h⟩ := hr
  show wp E d M_X12_weighPlan 79 [some (vr _), some (vi _), some (vi _), some (vi _)] [vi _, vi _] G2 Q
  refine wp_icmp_ge (pc := 79) (tgt := 171) d_X12_weighPlan_79 (by decide) (fun hc => ?_) (fun hc => ?_)
  · have h := h.1 hc
    refine wp_iconst (pc := 171) (v := 0) d_X12_weighPlan_171 rfl ?_
    refine wp_istore_n (pc := 172) (lv' := [some (vr _), some (vi _), some (vi _), some (vi _)]) d_X12_weighPlan_172 (by decide) rfl ?_
    refine wp_sub ?_ h
    exact ⟨rfl, ⟨rfl, ⟨rfl, ⟨rfl, trivial⟩⟩⟩⟩
  · have h := h.2 hc
    refine wp_aload_n (pc := 82) d_X12_weighPlan_82 rfl ?_
    refine wp_aload_n (pc := 83) d_X12_weighPlan_83 rfl ?_
    obtain ⟨ho3, h⟩ := h
    refine wp_getR (pc := 84) d_X12_weighPlan_84 fl_X12_94 (fun _ _ _ => rfl) ho3 ?_
    refine wp_bipush (pc := 87) (v := 24) d_X12_weighPlan_87 rfl ?_
    refine wp_iload_n (pc := 89) d_X12_weighPlan_89 rfl ?_
    refine wp_imul (pc := 90) d_X12_weighPlan_90 ?_
    refine wp_iload_n (pc := 91) d_X12_weighPlan_91 rfl ?_
    refine wp_iadd (pc := 92) d_X12_weighPlan_92 ?_
    obtain ⟨ho4, h⟩ := h
    obtain ⟨hi5, h⟩ := h
    refine wp_iald (pc := 93) d_X12_weighPlan_93 ho4 hi5 ?_
    refine wp_putI (pc := 94) d_X12_weighPlan_94 fl_X12_472 (fun _ _ _ => rfl) (Or.inl rfl) ho3 (okI_int _) ?_
    refine wp_nm (fun G6 eG6 => ?_)
    have h := h G6 eG6
    have ho7 := isO_sI eG6 ho3
    refine wp_aload_n (pc := 97) d_X12_weighPlan_97 rfl ?_
    refine wp_getR (pc := 98) d_X12_weighPlan_98 fl_X12_151 (fun _ _ _ => rfl) ho7 ?_
    refine wp_sipush (pc := 101) (v := 20000) d_X12_weighPlan_101 rfl ?_
    refine wp_iload_n (pc := 104) d_X12_weighPlan_104 rfl ?_
    refine wp_imul (pc := 105) d_X12_weighPlan_105 ?_
    refine wp_iload_n (pc := 106) d_X12_weighPlan_106 rfl ?_
    refine wp_iadd (pc := 107) d_X12_weighPlan_107 ?_
    refine wp_aload_n (pc := 108) d_X12_weighPlan_108 rfl ?_
    refine wp_invV (pc := 109) (N := M_X12_testValue) (As := []) (rest := [vi _, vr _]) (r := (cn_12, ct_12, 95)) d_X12_weighPlan_109 ml_X12_489 mk_X12_testValue mv_X12_testValue h0 ho7 rfl rfl (Nat.le_of_ble_eq_true rfl) ?_
    refine wpM.mono h (fun rr G9 hr => ?_)
    obtain ⟨r8, rfl, h⟩ := hr
    show wp E d M_X12_weighPlan 112 [some (vr _), some (vi _), some (vi _), some (vi _)] [vj _, vi _, vr _] G9 Q
    refine wp_l2i (pc := 112) d_X12_weighPlan_112 ?_
    obtain ⟨ho10, h⟩ := h
    obtain ⟨hi11, h⟩ := h
    refine wp_iast (pc := 113) d_X12_weighPlan_113 ho10 hi11 ?_
    refine wp_nm (fun G12 eG12 => ?_)
    have h := h G12 eG12
    refine wp_aload_n (pc := 114) d_X12_weighPlan_114 rfl ?_
    obtain ⟨ho13, h⟩ := h
    refine wp_getR (pc := 115) d_X12_weighPlan_115 fl_X12_159 (fun _ _ _ => rfl) ho13 ?_
    refine wp_sipush (pc := 118) (v := 20000) d_X12_weighPlan_118 rfl ?_
    refine wp_aload_n (pc := 121) d_X12_weighPlan_121 rfl ?_
    refine wp_getR (pc := 122) d_X12_weighPlan_122 fl_X12_88 (fun _ _ _ => rfl) ho13 ?_
    refine wp_bipush (pc := 125) (v := 24) d_X12_weighPlan_125 rfl ?_
    refine wp_iload_n (pc := 127) d_X12_weighPlan_127 rfl ?_
    refine wp_imul (pc := 128) d_X12_weighPlan_128 ?_
    refine wp_iload_n (pc := 129) d_X12_weighPlan_129 rfl ?_
    refine wp_iadd (pc := 130) d_X12_weighPlan_130 ?_
    obtain ⟨ho14, h⟩ := h
    obtain ⟨hi15, h⟩ := h
    refine wp_iald (pc := 131) d_X12_weighPlan_131 ho14 hi15 ?_
    refine wp_imul (pc := 132) d_X12_weighPlan_132 ?_
    refine wp_iload_n (pc := 133) d_X12_weighPlan_133 rfl ?_
    refine wp_iadd (pc := 134) d_X12_weighPlan_134 ?_
    refine wp_dup2 (pc := 135) d_X12_weighPlan_135 (c1_i _) (c1_r _) ?_
    obtain ⟨ho16, h⟩ := h
    obtain ⟨hi17, h⟩ := h
    refine wp_lald (pc := 136) d_X12_weighPlan_136 ho16 hi17 ?_
    refine wp_aload_n (pc := 137) d_X12_weighPlan_137 rfl ?_
    refine wp_getR (pc := 138) d_X12_weighPlan_138 fl_X12_91 (fun _ _ _ => rfl) ho13 ?_
    refine wp_bipush (pc := 141) (v := 24) d_X12_weighPlan_141 rfl ?_
    refine wp_iload_n (pc := 143) d_X12_weighPlan_143 rfl ?_
    refine wp_imul (pc := 144) d_X12_weighPlan_144 ?_
    refine wp_iload_n (pc := 145) d_X12_weighPlan_145 rfl ?_
    refine wp_iadd (pc := 146) d_X12_weighPlan_146 ?_
    obtain ⟨ho18, h⟩ := h
    obtain ⟨hi19, h⟩ := h
    refine wp_iald (pc := 147) d_X12_weighPlan_147 ho18 hi19 ?_
    refine wp_i2l (pc := 148) d_X12_weighPlan_148 ?_
    refine wp_aload_n (pc := 149) d_X12_weighPlan_149 rfl ?_
    refine wp_getR (pc := 150) d_X12_weighPlan_150 fl_X12_151 (fun _ _ _ => rfl) ho13 ?_
    refine wp_sipush (pc := 153) (v := 20000) d_X12_weighPlan_153 rfl ?_
    refine wp_iload_n (pc := 156) d_X12_weighPlan_156 rfl ?_
    refine wp_imul (pc := 157) d_X12_weighPlan_157 ?_
    refine wp_iload_n (pc := 158) d_X12_weighPlan_158 rfl ?_
    refine wp_iadd (pc := 159) d_X12_weighPlan_159 ?_
    obtain ⟨ho20, h⟩ := h
    obtain ⟨hi21, h⟩ := h
    refine wp_iald (pc := 160) d_X12_weighPlan_160 ho20 hi21 ?_
    refine wp_i2l (pc := 161) d_X12_weighPlan_161 ?_
    refine wp_lmul (pc := 162) d_X12_weighPlan_162 ?_
    refine wp_ladd (pc := 163) d_X12_weighPlan_163 ?_
    obtain ⟨hi22, h⟩ := h
    refine wp_last (pc := 164) d_X12_weighPlan_164 ho16 hi22 ?_
    refine wp_nm (fun G23 eG23 => ?_)
    have h := h G23 eG23
    have ho24 := isO_sJ eG23 ho13
    refine wp_iinc (pc := 165) (v := 1) (lv' := [some (vr _), some (vi _), some (vi _), some (vi _)]) d_X12_weighPlan_165 (by decide) rfl rfl rfl ?_
    refine wp_goto (pc := 168) (tgt := 73) d_X12_weighPlan_168 (by decide) ?_
    refine wp_sub ?_ h
    exact ⟨rfl, ⟨rfl, ⟨rfl, ⟨rfl, trivial⟩⟩⟩⟩
theorem v_X12_weighPlan_173 {E : EE} {d : Nat} {Q : Option AV → AH → Prop} {x0 : Nat} {x1 : Int32} {x2 : Int32} {x3 : Int32} {G : AH} (h0 : 0 < d) (h : isO E G x0 12 ∧ (wpI E (d - 1) M_X12_aimsOf [vr x0, vi x1] G (fun r1 G2 => (r1 ≤ x3 → Q none G2) ∧ (¬ (r1 ≤ x3) → isO E G2 x0 12 ∧ (isO E G2 (gR G2 x0 31) 14 ∧ (vp_in ((6 * x1) + x3) (gN G2 (gR G2 x0 31)) ∧ (∀ G6 : AH, G6 = sI G2 x0 54 (gI G2 (gR G2 x0 31) (Int32.toNatClampNeg ((6 * x1) + x3))) → wpJ E (d - 1) M_X12_sumValue [vr x0] G6 (fun r8 G9 => isO E G9 (gR G6 x0 65) 14 ∧ (vp_in ((20000 * x3) + x2) (gN G9 (gR G6 x0 65)) ∧ (∀ G12 : AH, G12 = sI G9 (gR G6 x0 65) (Int32.toNatClampNeg ((20000 * x3) + x2)) (Int64.toInt32 r8) → isO E G12 x0 12 ∧ (isO E G12 (gR G12 x0 30) 14 ∧ (vp_in ((6 * x1) + x3) (gN G12 (gR G12 x0 30)) ∧ (isO E G12 (gR G12 x0 66) 15 ∧ (vp_in ((20000 * (gI G12 (gR G12 x0 30) (Int32.toNatClampNeg ((6 * x1) + x3)))) + x2) (gN G12 (gR G12 x0 66)) ∧ (isO E G12 (gR G12 x0 65) 14 ∧ (vp_in ((20000 * x3) + x2) (gN G12 (gR G12 x0 65)) ∧ (vp_in ((20000 * (gI G12 (gR G12 x0 30) (Int32.toNatClampNeg ((6 * x1) + x3)))) + x2) (gN G12 (gR G12 x0 66)) ∧ (∀ G21 : AH, G21 = sJ G12 (gR G12 x0 66) (Int32.toNatClampNeg ((20000 * (gI G12 (gR G12 x0 30) (Int32.toNatClampNeg ((6 * x1) + x3)))) + x2)) ((gJ G12 (gR G12 x0 66) (Int32.toNatClampNeg ((20000 * (gI G12 (gR G12 x0 30) (Int32.toNatClampNeg ((6 * x1) + x3)))) + x2))) + (Int32.toInt64 (gI G12 (gR G12 x0 65) (Int32.toNatClampNeg ((20000 * x3) + x2))))) → wp E d M_X12_weighPlan 173 [some (vr x0), some (vi x1), some (vi x2), some (vi (x3 + 1))] [] G21 Q)))))))))))))))))) : wp E d M_X12_weighPlan 173 [some (vr x0), some (vi x1), some (vi x2), some (vi x3)] [] G Q := by
  refine wp_iload_n (pc := 173) d_X12_weighPlan_173 rfl ?_
  refine wp_aload_n (pc := 174) d_X12_weighPlan_174 rfl ?_
  refine wp_iload_n (pc := 175) d_X12_weighPlan_175 rfl ?_
  obtain ⟨ho23, h⟩ := h
  refine wp_invV (pc := 176) (N := M_X12_aimsOf) (As := [vi _]) (rest := [vi _]) (r := (cn_12, ct_12, 95)) d_X12_weighPlan_176 ml_X12_541 mk_X12_aimsOf mv_X12_aimsOf h0 ho23 rfl rfl (Nat.le_of_ble_eq_true rfl) ?_
  refine wpM.mono h (fun rr G2 hr => ?_)
  obtain ⟨r1, rfl, h⟩ := hr
  show wp E d M_X12_weighPlan 179 [some (vr _), some (vi _), some (vi _), some (vi _)] [vi _, vi _] G2 Q
  refine wp_icmp_ge (pc := 179) (tgt := 258) d_X12_weighPlan_179 (by decide) (fun hc => ?_) (fun hc => ?_)
  · have h := h.1 hc
    exact wp_vret (pc := 258) d_X12_weighPlan_258 rfl h
  · have h := h.2 hc
    refine wp_aload_n (pc := 182) d_X12_weighPlan_182 rfl ?_
    refine wp_aload_n (pc := 183) d_X12_weighPlan_183 rfl ?_
    obtain ⟨ho3, h⟩ := h
    refine wp_getR (pc := 184) d_X12_weighPlan_184 fl_X12_100 (fun _ _ _ => rfl) ho3 ?_
    refine wp_bipush (pc := 187) (v := 6) d_X12_weighPlan_187 rfl ?_
    refine wp_iload_n (pc := 189) d_X12_weighPlan_189 rfl ?_
    refine wp_imul (pc := 190) d_X12_weighPlan_190 ?_
    refine wp_iload_n (pc := 191) d_X12_weighPlan_191 rfl ?_
    refine wp_iadd (pc := 192) d_X12_weighPlan_192 ?_
    obtain ⟨ho4, h⟩ := h
    obtain ⟨hi5, h⟩ := h
    refine wp_iald (pc := 193) d_X12_weighPlan_193 ho4 hi5 ?_
    refine wp_putI (pc := 194) d_X12_weighPlan_194 fl_X12_472 (fun _ _ _ => rfl) (Or.inl rfl) ho3 (okI_int _) ?_
    refine wp_nm (fun G6 eG6 => ?_)
    have h := h G6 eG6
    have ho7 := isO_sI eG6 ho3
    refine wp_aload_n (pc := 197) d_X12_weighPlan_197 rfl ?_
    refine wp_getR (pc := 198) d_X12_weighPlan_198 fl_X12_155 (fun _ _ _ => rfl) ho7 ?_
    refine wp_sipush (pc := 201) (v := 20000) d_X12_weighPlan_201 rfl ?_
    refine wp_iload_n (pc := 204) d_X12_weighPlan_204 rfl ?_
    refine wp_imul (pc := 205) d_X12_weighPlan_205 ?_
    refine wp_iload_n (pc := 206) d_X12_weighPlan_206 rfl ?_
    refine wp_iadd (pc := 207) d_X12_weighPlan_207 ?_
    refine wp_aload_n (pc := 208) d_X12_weighPlan_208 rfl ?_
    refine wp_invV (pc := 209) (N := M_X12_sumValue) (As := []) (rest := [vi _, vr _]) (r := (cn_12, ct_12, 95)) d_X12_weighPlan_209 ml_X12_492 mk_X12_sumValue mv_X12_sumValue h0 ho7 rfl rfl (Nat.le_of_ble_eq_true rfl) ?_
    refine wpM.mono h (fun rr G9 hr => ?_)
    obtain ⟨r8, rfl, h⟩ := hr
    show wp E d M_X12_weighPlan 212 [some (vr _), some (vi _), some (vi _), some (vi _)] [vj _, vi _, vr _] G9 Q
    refine wp_l2i (pc := 212) d_X12_weighPlan_212 ?_
    obtain ⟨ho10, h⟩ := h
    obtain ⟨hi11, h⟩ := h
    refine wp_iast (pc := 213) d_X12_weighPlan_213 ho10 hi11 ?_
    refine wp_nm (fun G12 eG12 => ?_)
    have h := h G12 eG12
    refine wp_aload_n (pc := 214) d_X12_weighPlan_214 rfl ?_
    obtain ⟨ho13, h⟩ := h
    refine wp_getR (pc := 215) d_X12_weighPlan_215 fl_X12_159 (fun _ _ _ => rfl) ho13 ?_
    refine wp_sipush (pc := 218) (v := 20000) d_X12_weighPlan_218 rfl ?_
    refine wp_aload_n (pc := 221) d_X12_weighPlan_221 rfl ?_
    refine wp_getR (pc := 222) d_X12_weighPlan_222 fl_X12_97 (fun _ _ _ => rfl) ho13 ?_
    refine wp_bipush (pc := 225) (v := 6) d_X12_weighPlan_225 rfl ?_
    refine wp_iload_n (pc := 227) d_X12_weighPlan_227 rfl ?_
    refine wp_imul (pc := 228) d_X12_weighPlan_228 ?_
    refine wp_iload_n (pc := 229) d_X12_weighPlan_229 rfl ?_
    refine wp_iadd (pc := 230) d_X12_weighPlan_230 ?_
    obtain ⟨ho14, h⟩ := h
    obtain ⟨hi15, h⟩ := h
    refine wp_iald (pc := 231) d_X12_weighPlan_231 ho14 hi15 ?_
    refine wp_imul (pc := 232) d_X12_weighPlan_232 ?_
    refine wp_iload_n (pc := 233) d_X12_weighPlan_233 rfl ?_
    refine wp_iadd (pc := 234) d_X12_weighPlan_234 ?_
    refine wp_dup2 (pc := 235) d_X12_weighPlan_235 (c1_i _) (c1_r _) ?_
    obtain ⟨ho16, h⟩ := h
    obtain ⟨hi17, h⟩ := h
    refine wp_lald (pc := 236) d_X12_weighPlan_236 ho16 hi17 ?_
    refine wp_aload_n (pc := 237) d_X12_weighPlan_237 rfl ?_
    refine wp_getR (pc := 238) d_X12_weighPlan_238 fl_X12_155 (fun _ _ _ => rfl) ho13 ?_
    refine wp_sipush (pc := 241) (v := 20000) d_X12_weighPlan_241 rfl ?_
    refine wp_iload_n (pc := 244) d_X12_weighPlan_244 rfl ?_
    refine wp_imul (pc := 245) d_X12_weighPlan_245 ?_
    refine wp_iload_n (pc := 246) d_X12_weighPlan_246 rfl ?_
    refine wp_iadd (pc := 247) d_X12_weighPlan_247 ?_
    obtain ⟨ho18, h⟩ := h
    obtain ⟨hi19, h⟩ := h
    refine wp_iald (pc := 248) d_X12_weighPlan_248 ho18 hi19 ?_
    refine wp_i2l (pc := 249) d_X12_weighPlan_249 ?_
    refine wp_ladd (pc := 250) d_X12_weighPlan_250 ?_
    obtain ⟨hi20, h⟩ := h
    refine wp_last (pc := 251) d_X12_weighPlan_251 ho16 hi20 ?_
    refine wp_nm (fun G21 eG21 => ?_)
    have h := h G21 eG21
    have ho22 := isO_sJ eG21 ho13
    refine wp_iinc (pc := 252) (v := 1) (lv' := [some (vr _), some (vi _), some (vi _), some (vi _)]) d_X12_weighPlan_252 (by decide) rfl rfl rfl ?_
    refine wp_goto (pc := 255) (tgt := 173) d_X12_weighPlan_255 (by decide) ?_
    refine wp_sub ?_ h
    exact ⟨rfl, ⟨rfl, ⟨rfl, ⟨rfl, trivial⟩⟩⟩⟩
theorem d_X12_place_0 : decode prog_14_method_84_code 0 = .ok (.iload_n 2, 1) := by decide +kernel
theorem d_X12_place_1 : decode prog_14_method_84_code 1 = .ok (.aload_n 0, 1) := by decide +kernel
theorem d_X12_place_2 : decode prog_14_method_84_code 2 = .ok (.getfield 67, 3) := by decide +kernel
theorem d_X12_place_5 : decode prog_14_method_84_code 5 = .ok (.bipush 12, 2) := by decide +kernel
theorem d_X12_place_7 : decode prog_14_method_84_code 7 = .ok (.iload_n 1, 1) := by decide +kernel
theorem d_X12_place_8 : decode prog_14_method_84_code 8 = .ok (.imul, 1) := by decide +kernel
theorem d_X12_place_9 : decode prog_14_method_84_code 9 = .ok (.iload_n 3, 1) := by decide +kernel
theorem d_X12_place_10 : decode prog_14_method_84_code 10 = .ok (.iadd, 1) := by decide +kernel
theorem d_X12_place_11 : decode prog_14_method_84_code 11 = .ok (.iaload, 1) := by decide +kernel
theorem d_X12_place_12 : decode prog_14_method_84_code 12 = .ok (.idiv, 1) := by decide +kernel
theorem d_X12_place_13 : decode prog_14_method_84_code 13 = .ok (.aload_n 0, 1) := by decide +kernel
theorem d_X12_place_14 : decode prog_14_method_84_code 14 = .ok (.getfield 64, 3) := by decide +kernel
theorem d_X12_place_17 : decode prog_14_method_84_code 17 = .ok (.bipush 12, 2) := by decide +kernel
theorem d_X12_place_19 : decode prog_14_method_84_code 19 = .ok (.iload_n 1, 1) := by decide +kernel
theorem d_X12_place_20 : decode prog_14_method_84_code 20 = .ok (.imul, 1) := by decide +kernel
theorem d_X12_place_21 : decode prog_14_method_84_code 21 = .ok (.iload_n 3, 1) := by decide +kernel
theorem d_X12_place_22 : decode prog_14_method_84_code 22 = .ok (.iadd, 1) := by decide +kernel
theorem d_X12_place_23 : decode prog_14_method_84_code 23 = .ok (.iaload, 1) := by decide +kernel
theorem d_X12_place_24 : decode prog_14_method_84_code 24 = .ok (.irem, 1) := by decide +kernel
theorem d_X12_place_25 : decode prog_14_method_84_code 25 = .ok (.ireturn, 1) := by decide +kernel
theorem v_X12_place_0 {E : EE} {d : Nat} {Q : Option AV → AH → Prop} {x0 : Nat} {x1 : Int32} {x2 : Int32} {x3 : Int32} {G : AH} (h : isO E G x0 12 ∧ (isO E G (gR G x0 20) 14 ∧ (vp_in ((12 * x1) + x3) (gN G (gR G x0 20)) ∧ (¬ (gI G (gR G x0 20) (Int32.toNatClampNeg ((12 * x1) + x3))) = 0 ∧ (isO E G (gR G x0 19) 14 ∧ (vp_in ((12 * x1) + x3) (gN G (gR G x0 19)) ∧ (¬ (gI G (gR G x0 19) (Int32.toNatClampNeg ((12 * x1) + x3))) = 0 ∧ (Q (some (vi ((x2 / (gI G (gR G x0 20) (Int32.toNatClampNeg ((12 * x1) + x3)))) - (x2 / (gI G (gR G x0 20) (Int32.toNatClampNeg ((12 * x1) + x3)))) / (gI G (gR G x0 19) (Int32.toNatClampNeg ((12 * x1) + x3))) * (gI G (gR G x0 19) (Int32.toNatClampNeg ((12 * x1) + x3)))))) G)))))))) : wp E d M_X12_place 0 [some (vr x0), some (vi x1), some (vi x2), some (vi x3)] [] G Q := by
  refine wp_iload_n (pc := 0) d_X12_place_0 rfl ?_
  refine wp_aload_n (pc := 1) d_X12_place_1 rfl ?_
  obtain ⟨ho1, h⟩ := h
  refine wp_getR (pc := 2) d_X12_place_2 fl_X12_67 (fun _ _ _ => rfl) ho1 ?_
  refine wp_bipush (pc := 5) (v := 12) d_X12_place_5 rfl ?_
  refine wp_iload_n (pc := 7) d_X12_place_7 rfl ?_
  refine wp_imul (pc := 8) d_X12_place_8 ?_
  refine wp_iload_n (pc := 9) d_X12_place_9 rfl ?_
  refine wp_iadd (pc := 10) d_X12_place_10 ?_
  obtain ⟨ho2, h⟩ := h
  obtain ⟨hi3, h⟩ := h
  refine wp_iald (pc := 11) d_X12_place_11 ho2 hi3 ?_
  obtain ⟨hz4, h⟩ := h
  refine wp_idiv (pc := 12) d_X12_place_12 hz4 ?_
  refine wp_aload_n (pc := 13) d_X12_place_13 rfl ?_
  refine wp_getR (pc := 14) d_X12_place_14 fl_X12_64 (fun _ _ _ => rfl) ho1 ?_
  refine wp_bipush (pc := 17) (v := 12) d_X12_place_17 rfl ?_
  refine wp_iload_n (pc := 19) d_X12_place_19 rfl ?_
  refine wp_imul (pc := 20) d_X12_place_20 ?_
  refine wp_iload_n (pc := 21) d_X12_place_21 rfl ?_
  refine wp_iadd (pc := 22) d_X12_place_22 ?_
  obtain ⟨ho5, h⟩ := h
  obtain ⟨hi6, h⟩ := h
  refine wp_iald (pc := 23) d_X12_place_23 ho5 hi6 ?_
  obtain ⟨hz7, h⟩ := h
  refine wp_irem (pc := 24) d_X12_place_24 hz7 ?_
  exact wp_iret (pc := 25) d_X12_place_25 rfl h
theorem d_X12_rulesOf_0 : decode prog_14_method_55_code 0 = .ok (.aload_n 0, 1) := by decide +kernel
theorem d_X12_rulesOf_1 : decode prog_14_method_55_code 1 = .ok (.getfield 58, 3) := by decide +kernel
theorem d_X12_rulesOf_4 : decode prog_14_method_55_code 4 = .ok (.iconst 4, 1) := by decide +kernel
theorem d_X12_rulesOf_5 : decode prog_14_method_55_code 5 = .ok (.iload_n 1, 1) := by decide +kernel
theorem d_X12_rulesOf_6 : decode prog_14_method_55_code 6 = .ok (.imul, 1) := by decide +kernel
theorem d_X12_rulesOf_7 : decode prog_14_method_55_code 7 = .ok (.iconst 2, 1) := by decide +kernel
theorem d_X12_rulesOf_8 : decode prog_14_method_55_code 8 = .ok (.iadd, 1) := by decide +kernel
theorem d_X12_rulesOf_9 : decode prog_14_method_55_code 9 = .ok (.iaload, 1) := by decide +kernel
theorem d_X12_rulesOf_10 : decode prog_14_method_55_code 10 = .ok (.ireturn, 1) := by decide +kernel
theorem v_X12_rulesOf_0 {E : EE} {d : Nat} {Q : Option AV → AH → Prop} {x0 : Nat} {x1 : Int32} {G : AH} (h : isO E G x0 12 ∧ (isO E G (gR G x0 17) 14 ∧ (vp_in ((4 * x1) + 2) (gN G (gR G x0 17)) ∧ (Q (some (vi (gI G (gR G x0 17) (Int32.toNatClampNeg ((4 * x1) + 2))))) G)))) : wp E d M_X12_rulesOf 0 [some (vr x0), some (vi x1)] [] G Q := by
  refine wp_aload_n (pc := 0) d_X12_rulesOf_0 rfl ?_
  obtain ⟨ho1, h⟩ := h
  refine wp_getR (pc := 1) d_X12_rulesOf_1 fl_X12_58 (fun _ _ _ => rfl) ho1 ?_
  refine wp_iconst (pc := 4) (v := 4) d_X12_rulesOf_4 rfl ?_
  refine wp_iload_n (pc := 5) d_X12_rulesOf_5 rfl ?_
  refine wp_imul (pc := 6) d_X12_rulesOf_6 ?_
  refine wp_iconst (pc := 7) (v := 2) d_X12_rulesOf_7 rfl ?_
  refine wp_iadd (pc := 8) d_X12_rulesOf_8 ?_
  obtain ⟨ho2, h⟩ := h
  obtain ⟨hi3, h⟩ := h
  refine wp_iald (pc := 9) d_X12_rulesOf_9 ho2 hi3 ?_
  exact wp_iret (pc := 10) d_X12_rulesOf_10 rfl h
theorem d_X12_testValue_0 : decode prog_14_method_71_code 0 = .ok (.aload_n 0, 1) := by decide +kernel
theorem d_X12_testValue_1 : decode prog_14_method_71_code 1 = .ok (.invokevirtual 498, 3) := by decide +kernel
theorem d_X12_testValue_4 : decode prog_14_method_71_code 4 = .ok (.lstore_n 1, 1) := by decide +kernel
theorem d_X12_testValue_5 : decode prog_14_method_71_code 5 = .ok (.aload_n 0, 1) := by decide +kernel
theorem d_X12_testValue_6 : decode prog_14_method_71_code 6 = .ok (.getfield 31, 3) := by decide +kernel
theorem d_X12_testValue_9 : decode prog_14_method_71_code 9 = .ok (.aload_n 0, 1) := by decide +kernel
theorem d_X12_testValue_10 : decode prog_14_method_71_code 10 = .ok (.getfield 472, 3) := by decide +kernel
theorem d_X12_testValue_13 : decode prog_14_method_71_code 13 = .ok (.iaload, 1) := by decide +kernel
theorem d_X12_testValue_14 : decode prog_14_method_71_code 14 = .ok (.sipush 203, 3) := by decide +kernel
theorem d_X12_testValue_17 : decode prog_14_method_71_code 17 = .ok (.if_icmp .ne 30, 3) := by decide +kernel
theorem d_X12_testValue_20 : decode prog_14_method_71_code 20 = .ok (.aload_n 0, 1) := by decide +kernel
theorem d_X12_testValue_21 : decode prog_14_method_71_code 21 = .ok (.dup, 1) := by decide +kernel
theorem d_X12_testValue_22 : decode prog_14_method_71_code 22 = .ok (.getfield 472, 3) := by decide +kernel
theorem d_X12_testValue_25 : decode prog_14_method_71_code 25 = .ok (.iconst 1, 1) := by decide +kernel
theorem d_X12_testValue_26 : decode prog_14_method_71_code 26 = .ok (.iadd, 1) := by decide +kernel
theorem d_X12_testValue_27 : decode prog_14_method_71_code 27 = .ok (.putfield 472, 3) := by decide +kernel
theorem d_X12_testValue_30 : decode prog_14_method_71_code 30 = .ok (.aload_n 0, 1) := by decide +kernel
theorem d_X12_testValue_31 : decode prog_14_method_71_code 31 = .ok (.invokevirtual 489, 3) := by decide +kernel
theorem d_X12_testValue_34 : decode prog_14_method_71_code 34 = .ok (.lstore_n 3, 1) := by decide +kernel
theorem d_X12_testValue_35 : decode prog_14_method_71_code 35 = .ok (.lload_n 1, 1) := by decide +kernel
theorem d_X12_testValue_36 : decode prog_14_method_71_code 36 = .ok (.lconst 0, 1) := by decide +kernel
theorem d_X12_testValue_37 : decode prog_14_method_71_code 37 = .ok (.lcmp, 1) := by decide +kernel
theorem d_X12_testValue_38 : decode prog_14_method_71_code 38 = .ok (.ifCond .ne 7, 3) := by decide +kernel
theorem d_X12_testValue_41 : decode prog_14_method_71_code 41 = .ok (.lload_n 3, 1) := by decide +kernel
theorem d_X12_testValue_42 : decode prog_14_method_71_code 42 = .ok (.goto 4, 3) := by decide +kernel
theorem d_X12_testValue_45 : decode prog_14_method_71_code 45 = .ok (.lconst 0, 1) := by decide +kernel
theorem d_X12_testValue_46 : decode prog_14_method_71_code 46 = .ok (.lstore_n 1, 1) := by decide +kernel
theorem d_X12_testValue_47 : decode prog_14_method_71_code 47 = .ok (.lload_n 1, 1) := by decide +kernel
theorem d_X12_testValue_48 : decode prog_14_method_71_code 48 = .ok (.lreturn, 1) := by decide +kernel
theorem v_X12_testValue_0 {E : EE} {d : Nat} {Q : Option AV → AH → Prop} {x0 : Nat} {G : AH} (h0 : 0 < d) (h : isO E G x0 12 ∧ (wpJ E (d - 1) M_X12_orValue [vr x0] G (fun r1 G2 => isO E G2 x0 12 ∧ (isO E G2 (gR G2 x0 8) 14 ∧ (vp_in (gI G2 x0 54) (gN G2 (gR G2 x0 8)) ∧ ((¬ (gI G2 (gR G2 x0 8) (Int32.toNatClampNeg (gI G2 x0 54))) = 203 → Q (some (vj r1)) G2) ∧ ((gI G2 (gR G2 x0 8) (Int32.toNatClampNeg (gI G2 x0 54))) = 203 → wpJ E (d - 1) M_X12_testValue [vr x0] (sI G2 x0 54 ((gI G2 x0 54) + 1)) (fun r6 G7 => (¬ r1 = 0 → wp E d M_X12_testValue 46 [some (vr x0), some (vj r1), none, some (vj r6), none] [vj 0] G7 Q) ∧ (r1 = 0 → wp E d M_X12_testValue 46 [some (vr x0), some (vj r1), none, some (vj r6), none] [vj r6] G7 Q))))))))) : wp E d M_X12_testValue 0 [some (vr x0), none, none, none, none] [] G Q := by
  refine wp_aload_n (pc := 0) d_X12_testValue_0 rfl ?_
  obtain ⟨ho8, h⟩ := h
  refine wp_invV (pc := 1) (N := M_X12_orValue) (As := []) (rest := []) (r := (cn_12, ct_12, 95)) d_X12_testValue_1 ml_X12_498 mk_X12_orValue mv_X12_orValue h0 ho8 rfl rfl (Nat.le_of_ble_eq_true rfl) ?_
  refine wpM.mono h (fun rr G2 hr => ?_)
  obtain ⟨r1, rfl, h⟩ := hr
  show wp E d M_X12_testValue 4 [some (vr _), none, none, none, none] [vj _] G2 Q
  refine wp_lstore_n (pc := 4) (lv' := [some (vr _), some (vj _), none, none, none]) d_X12_testValue_4 (by decide) rfl ?_
  refine wp_aload_n (pc := 5) d_X12_testValue_5 rfl ?_
  obtain ⟨ho3, h⟩ := h
  refine wp_getR (pc := 6) d_X12_testValue_6 fl_X12_31 (fun _ _ _ => rfl) ho3 ?_
  refine wp_aload_n (pc := 9) d_X12_testValue_9 rfl ?_
  refine wp_getI (pc := 10) d_X12_testValue_10 fl_X12_472 (fun _ _ _ => rfl) ho3 ?_
  obtain ⟨ho4, h⟩ := h
  obtain ⟨hi5, h⟩ := h
  refine wp_iald (pc := 13) d_X12_testValue_13 ho4 hi5 ?_
  refine wp_sipush (pc := 14) (v := 203) d_X12_testValue_14 rfl ?_
  refine wp_icmp_ne (pc := 17) (tgt := 47) d_X12_testValue_17 (by decide) (fun hc => ?_) (fun hc => ?_)
  · have h := h.1 hc
    refine wp_lload_n (pc := 47) d_X12_testValue_47 rfl ?_
    exact wp_lret (pc := 48) d_X12_testValue_48 rfl h
  · have h := h.2 hc
    refine wp_aload_n (pc := 20) d_X12_testValue_20 rfl ?_
    refine wp_dup (pc := 21) d_X12_testValue_21 (c1_r _) ?_
    refine wp_getI (pc := 22) d_X12_testValue_22 fl_X12_472 (fun _ _ _ => rfl) ho3 ?_
    refine wp_iconst (pc := 25) (v := 1) d_X12_testValue_25 rfl ?_
    refine wp_iadd (pc := 26) d_X12_testValue_26 ?_
    refine wp_putI (pc := 27) d_X12_testValue_27 fl_X12_472 (fun _ _ _ => rfl) (Or.inl rfl) ho3 (okI_int _) ?_
    refine wp_aload_n (pc := 30) d_X12_testValue_30 rfl ?_
    refine wp_invV (pc := 31) (N := M_X12_testValue) (As := []) (rest := []) (r := (cn_12, ct_12, 95)) d_X12_testValue_31 ml_X12_489 mk_X12_testValue mv_X12_testValue h0 ho3 rfl rfl (Nat.le_of_ble_eq_true rfl) ?_
    refine wpM.mono h (fun rr G7 hr => ?_)
    obtain ⟨r6, rfl, h⟩ := hr
    show wp E d M_X12_testValue 34 [some (vr _), some (vj _), none, none, none] [vj _] G7 Q
    refine wp_lstore_n (pc := 34) (lv' := [some (vr _), some (vj _), none, some (vj _), none]) d_X12_testValue_34 (by decide) rfl ?_
    refine wp_lload_n (pc := 35) d_X12_testValue_35 rfl ?_
    refine wp_lconst (pc := 36) (v := 0) d_X12_testValue_36 rfl ?_
    refine wp_lcmp_ne (pc := 37) (tgt := 45) d_X12_testValue_37 d_X12_testValue_38 (by decide) (fun hc => ?_) (fun hc => ?_)
    · have h := h.1 hc
      refine wp_lconst (pc := 45) (v := 0) d_X12_testValue_45 rfl ?_
      refine wp_sub ?_ h
      exact ⟨rfl, ⟨rfl, ⟨rfl, trivial⟩⟩⟩
    · have h := h.2 hc
      refine wp_lload_n (pc := 41) d_X12_testValue_41 rfl ?_
      refine wp_goto (pc := 42) (tgt := 46) d_X12_testValue_42 (by decide) ?_
      refine wp_sub ?_ h
      exact ⟨rfl, ⟨rfl, ⟨rfl, trivial⟩⟩⟩
theorem v_X12_testValue_46 {E : EE} {d : Nat} {Q : Option AV → AH → Prop} {x0 : Nat} {x1 : Int64} {x3 : Int64} {t0 : Int64} {G : AH} (h : Q (some (vj t0)) G) : wp E d M_X12_testValue 46 [some (vr x0), some (vj x1), none, some (vj x3), none] [vj t0] G Q := by
  refine wp_lstore_n (pc := 46) (lv' := [some (vr _), some (vj _), none, some (vj _), none]) d_X12_testValue_46 (by decide) rfl ?_
  refine wp_lload_n (pc := 47) d_X12_testValue_47 rfl ?_
  exact wp_lret (pc := 48) d_X12_testValue_48 rfl h
theorem d_X12_orValue_0 : decode prog_14_method_72_code 0 = .ok (.aload_n 0, 1) := by decide +kernel
theorem d_X12_orValue_1 : decode prog_14_method_72_code 1 = .ok (.invokevirtual 501, 3) := by decide +kernel
theorem d_X12_orValue_4 : decode prog_14_method_72_code 4 = .ok (.lstore_n 1, 1) := by decide +kernel
theorem d_X12_orValue_5 : decode prog_14_method_72_code 5 = .ok (.aload_n 0, 1) := by decide +kernel
theorem d_X12_orValue_6 : decode prog_14_method_72_code 6 = .ok (.getfield 31, 3) := by decide +kernel
theorem d_X12_orValue_9 : decode prog_14_method_72_code 9 = .ok (.aload_n 0, 1) := by decide +kernel
theorem d_X12_orValue_10 : decode prog_14_method_72_code 10 = .ok (.getfield 472, 3) := by decide +kernel
theorem d_X12_orValue_13 : decode prog_14_method_72_code 13 = .ok (.iaload, 1) := by decide +kernel
theorem d_X12_orValue_14 : decode prog_14_method_72_code 14 = .ok (.bipush 124, 2) := by decide +kernel
theorem d_X12_orValue_16 : decode prog_14_method_72_code 16 = .ok (.if_icmp .ne 33, 3) := by decide +kernel
theorem d_X12_orValue_19 : decode prog_14_method_72_code 19 = .ok (.aload_n 0, 1) := by decide +kernel
theorem d_X12_orValue_20 : decode prog_14_method_72_code 20 = .ok (.dup, 1) := by decide +kernel
theorem d_X12_orValue_21 : decode prog_14_method_72_code 21 = .ok (.getfield 472, 3) := by decide +kernel
theorem d_X12_orValue_24 : decode prog_14_method_72_code 24 = .ok (.iconst 1, 1) := by decide +kernel
theorem d_X12_orValue_25 : decode prog_14_method_72_code 25 = .ok (.iadd, 1) := by decide +kernel
theorem d_X12_orValue_26 : decode prog_14_method_72_code 26 = .ok (.putfield 472, 3) := by decide +kernel
theorem d_X12_orValue_29 : decode prog_14_method_72_code 29 = .ok (.aload_n 0, 1) := by decide +kernel
theorem d_X12_orValue_30 : decode prog_14_method_72_code 30 = .ok (.invokevirtual 501, 3) := by decide +kernel
theorem d_X12_orValue_33 : decode prog_14_method_72_code 33 = .ok (.lstore_n 3, 1) := by decide +kernel
theorem d_X12_orValue_34 : decode prog_14_method_72_code 34 = .ok (.lload_n 3, 1) := by decide +kernel
theorem d_X12_orValue_35 : decode prog_14_method_72_code 35 = .ok (.lload_n 1, 1) := by decide +kernel
theorem d_X12_orValue_36 : decode prog_14_method_72_code 36 = .ok (.lcmp, 1) := by decide +kernel
theorem d_X12_orValue_37 : decode prog_14_method_72_code 37 = .ok (.ifCond .ge 7, 3) := by decide +kernel
theorem d_X12_orValue_40 : decode prog_14_method_72_code 40 = .ok (.lload_n 3, 1) := by decide +kernel
theorem d_X12_orValue_41 : decode prog_14_method_72_code 41 = .ok (.goto 4, 3) := by decide +kernel
theorem d_X12_orValue_44 : decode prog_14_method_72_code 44 = .ok (.lload_n 1, 1) := by decide +kernel
theorem d_X12_orValue_45 : decode prog_14_method_72_code 45 = .ok (.lstore_n 1, 1) := by decide +kernel
theorem d_X12_orValue_46 : decode prog_14_method_72_code 46 = .ok (.goto (-41), 3) := by decide +kernel
theorem d_X12_orValue_49 : decode prog_14_method_72_code 49 = .ok (.lload_n 1, 1) := by decide +kernel
theorem d_X12_orValue_50 : decode prog_14_method_72_code 50 = .ok (.lreturn, 1) := by decide +kernel
theorem v_X12_orValue_0 {E : EE} {d : Nat} {Q : Option AV → AH → Prop} {x0 : Nat} {G : AH} (h0 : 0 < d) (h : isO E G x0 12 ∧ (wpJ E (d - 1) M_X12_andValue [vr x0] G (fun r1 G2 => wp E d M_X12_orValue 5 [some (vr x0), some (vj r1), none, none, none] [] G2 Q))) : wp E d M_X12_orValue 0 [some (vr x0), none, none, none, none] [] G Q := by
  refine wp_aload_n (pc := 0) d_X12_orValue_0 rfl ?_
  obtain ⟨ho3, h⟩ := h
  refine wp_invV (pc := 1) (N := M_X12_andValue) (As := []) (rest := []) (r := (cn_12, ct_12, 95)) d_X12_orValue_1 ml_X12_501 mk_X12_andValue mv_X12_andValue h0 ho3 rfl rfl (Nat.le_of_ble_eq_true rfl) ?_
  refine wpM.mono h (fun rr G2 hr => ?_)
  obtain ⟨r1, rfl, h⟩ := hr
  show wp E d M_X12_orValue 4 [some (vr _), none, none, none, none] [vj _] G2 Q
  refine wp_lstore_n (pc := 4) (lv' := [some (vr _), some (vj _), none, none, none]) d_X12_orValue_4 (by decide) rfl ?_
  refine wp_sub ?_ h
  exact ⟨rfl, ⟨rfl, trivial⟩⟩
theorem v_X12_orValue_5 {E : EE} {d : Nat} {Q : Option AV → AH → Prop} {x0 : Nat} {x1 : Int64} {G : AH} (h0 : 0 < d) (h : isO E G x0 12 ∧ (isO E G (gR G x0 8) 14 ∧ (vp_in (gI G x0 54) (gN G (gR G x0 8)) ∧ ((¬ (gI G (gR G x0 8) (Int32.toNatClampNeg (gI G x0 54))) = 124 → Q (some (vj x1)) G) ∧ ((gI G (gR G x0 8) (Int32.toNatClampNeg (gI G x0 54))) = 124 → wpJ E (d - 1) M_X12_andValue [vr x0] (sI G x0 54 ((gI G x0 54) + 1)) (fun r4 G5 => (x1 ≤ r4 → wp E d M_X12_orValue 45 [some (vr x0), some (vj x1), none, some (vj r4), none] [vj x1] G5 Q) ∧ (¬ (x1 ≤ r4) → wp E d M_X12_orValue 45 [some (vr x0), some (vj x1), none, some (vj r4), none] [vj r4] G5 Q))))))) : wp E d M_X12_orValue 5 [some (vr x0), some (vj x1), none, none, none] [] G Q := by
  refine wp_aload_n (pc := 5) d_X12_orValue_5 rfl ?_
  obtain ⟨ho1, h⟩ := h
  refine wp_getR (pc := 6) d_X12_orValue_6 fl_X12_31 (fun _ _ _ => rfl) ho1 ?_
  refine wp_aload_n (pc := 9) d_X12_orValue_9 rfl ?_
  refine wp_getI (pc := 10) d_X12_orValue_10 fl_X12_472 (fun _ _ _ => rfl) ho1 ?_
  obtain ⟨ho2, h⟩ := h
  obtain ⟨hi3, h⟩ := h
  refine wp_iald (pc := 13) d_X12_orValue_13 ho2 hi3 ?_
  refine wp_bipush (pc := 14) (v := 124) d_X12_orValue_14 rfl ?_
  refine wp_icmp_ne (pc := 16) (tgt := 49) d_X12_orValue_16 (by decide) (fun hc => ?_) (fun hc => ?_)
  · have h := h.1 hc
    refine wp_lload_n (pc := 49) d_X12_orValue_49 rfl ?_
    exact wp_lret (pc := 50) d_X12_orValue_50 rfl h
  · have h := h.2 hc
    refine wp_aload_n (pc := 19) d_X12_orValue_19 rfl ?_
    refine wp_dup (pc := 20) d_X12_orValue_20 (c1_r _) ?_
    refine wp_getI (pc := 21) d_X12_orValue_21 fl_X12_472 (fun _ _ _ => rfl) ho1 ?_
    refine wp_iconst (pc := 24) (v := 1) d_X12_orValue_24 rfl ?_
    refine wp_iadd (pc := 25) d_X12_orValue_25 ?_
    refine wp_putI (pc := 26) d_X12_orValue_26 fl_X12_472 (fun _ _ _ => rfl) (Or.inl rfl) ho1 (okI_int _) ?_
    refine wp_aload_n (pc := 29) d_X12_orValue_29 rfl ?_
    refine wp_invV (pc := 30) (N := M_X12_andValue) (As := []) (rest := []) (r := (cn_12, ct_12, 95)) d_X12_orValue_30 ml_X12_501 mk_X12_andValue mv_X12_andValue h0 ho1 rfl rfl (Nat.le_of_ble_eq_true rfl) ?_
    refine wpM.mono h (fun rr G5 hr => ?_)
    obtain ⟨r4, rfl, h⟩ := hr
    show wp E d M_X12_orValue 33 [some (vr _), some (vj _), none, none, none] [vj _] G5 Q
    refine wp_lstore_n (pc := 33) (lv' := [some (vr _), some (vj _), none, some (vj _), none]) d_X12_orValue_33 (by decide) rfl ?_
    refine wp_lload_n (pc := 34) d_X12_orValue_34 rfl ?_
    refine wp_lload_n (pc := 35) d_X12_orValue_35 rfl ?_
    refine wp_lcmp_ge (pc := 36) (tgt := 44) d_X12_orValue_36 d_X12_orValue_37 (by decide) (fun hc => ?_) (fun hc => ?_)
    · have h := h.1 hc
      refine wp_lload_n (pc := 44) d_X12_orValue_44 rfl ?_
      refine wp_sub ?_ h
      exact ⟨rfl, ⟨rfl, ⟨rfl, trivial⟩⟩⟩
    · have h := h.2 hc
      refine wp_lload_n (pc := 40) d_X12_orValue_40 rfl ?_
      refine wp_goto (pc := 41) (tgt := 45) d_X12_orValue_41 (by decide) ?_
      refine wp_sub ?_ h
      exact ⟨rfl, ⟨rfl, ⟨rfl, trivial⟩⟩⟩
theorem v_X12_orValue_45 {E : EE} {d : Nat} {Q : Option AV → AH → Prop} {x0 : Nat} {x1 : Int64} {x3 : Int64} {t0 : Int64} {G : AH} (h : wp E d M_X12_orValue 5 [some (vr x0), some (vj t0), none, none, none] [] G Q) : wp E d M_X12_orValue 45 [some (vr x0), some (vj x1), none, some (vj x3), none] [vj t0] G Q := by
  refine wp_lstore_n (pc := 45) (lv' := [some (vr _), some (vj _), none, some (vj _), none]) d_X12_orValue_45 (by decide) rfl ?_
  refine wp_goto (pc := 46) (tgt := 5) d_X12_orValue_46 (by decide) ?_
  refine wp_sub ?_ h
  exact ⟨rfl, ⟨rfl, trivial⟩⟩
theorem d_X12_andValue_0 : decode prog_14_method_73_code 0 = .ok (.aload_n 0, 1) := by decide +kernel
theorem d_X12_andValue_1 : decode prog_14_method_73_code 1 = .ok (.invokevirtual 504, 3) := by decide +kernel
theorem d_X12_andValue_4 : decode prog_14_method_73_code 4 = .ok (.lstore_n 1, 1) := by decide +kernel
theorem d_X12_andValue_5 : decode prog_14_method_73_code 5 = .ok (.aload_n 0, 1) := by decide +kernel
theorem d_X12_andValue_6 : decode prog_14_method_73_code 6 = .ok (.getfield 31, 3) := by decide +kernel
theorem d_X12_andValue_9 : decode prog_14_method_73_code 9 = .ok (.aload_n 0, 1) := by decide +kernel
theorem d_X12_andValue_10 : decode prog_14_method_73_code 10 = .ok (.getfield 472, 3) := by decide +kernel
theorem d_X12_andValue_13 : decode prog_14_method_73_code 13 = .ok (.iaload, 1) := by decide +kernel
theorem d_X12_andValue_14 : decode prog_14_method_73_code 14 = .ok (.bipush 38, 2) := by decide +kernel
theorem d_X12_andValue_16 : decode prog_14_method_73_code 16 = .ok (.if_icmp .ne 41, 3) := by decide +kernel
theorem d_X12_andValue_19 : decode prog_14_method_73_code 19 = .ok (.aload_n 0, 1) := by decide +kernel
theorem d_X12_andValue_20 : decode prog_14_method_73_code 20 = .ok (.dup, 1) := by decide +kernel
theorem d_X12_andValue_21 : decode prog_14_method_73_code 21 = .ok (.getfield 472, 3) := by decide +kernel
theorem d_X12_andValue_24 : decode prog_14_method_73_code 24 = .ok (.iconst 1, 1) := by decide +kernel
theorem d_X12_andValue_25 : decode prog_14_method_73_code 25 = .ok (.iadd, 1) := by decide +kernel
theorem d_X12_andValue_26 : decode prog_14_method_73_code 26 = .ok (.putfield 472, 3) := by decide +kernel
theorem d_X12_andValue_29 : decode prog_14_method_73_code 29 = .ok (.aload_n 0, 1) := by decide +kernel
theorem d_X12_andValue_30 : decode prog_14_method_73_code 30 = .ok (.invokevirtual 504, 3) := by decide +kernel
theorem d_X12_andValue_33 : decode prog_14_method_73_code 33 = .ok (.lstore_n 3, 1) := by decide +kernel
theorem d_X12_andValue_34 : decode prog_14_method_73_code 34 = .ok (.lload_n 1, 1) := by decide +kernel
theorem d_X12_andValue_35 : decode prog_14_method_73_code 35 = .ok (.lload_n 3, 1) := by decide +kernel
theorem d_X12_andValue_36 : decode prog_14_method_73_code 36 = .ok (.ladd, 1) := by decide +kernel
theorem d_X12_andValue_37 : decode prog_14_method_73_code 37 = .ok (.ldc2_w 470, 3) := by decide +kernel
theorem d_X12_andValue_40 : decode prog_14_method_73_code 40 = .ok (.lcmp, 1) := by decide +kernel
theorem d_X12_andValue_41 : decode prog_14_method_73_code 41 = .ok (.ifCond .le 9, 3) := by decide +kernel
theorem d_X12_andValue_44 : decode prog_14_method_73_code 44 = .ok (.ldc2_w 470, 3) := by decide +kernel
theorem d_X12_andValue_47 : decode prog_14_method_73_code 47 = .ok (.goto 6, 3) := by decide +kernel
theorem d_X12_andValue_50 : decode prog_14_method_73_code 50 = .ok (.lload_n 1, 1) := by decide +kernel
theorem d_X12_andValue_51 : decode prog_14_method_73_code 51 = .ok (.lload_n 3, 1) := by decide +kernel
theorem d_X12_andValue_52 : decode prog_14_method_73_code 52 = .ok (.ladd, 1) := by decide +kernel
theorem d_X12_andValue_53 : decode prog_14_method_73_code 53 = .ok (.lstore_n 1, 1) := by decide +kernel
theorem d_X12_andValue_54 : decode prog_14_method_73_code 54 = .ok (.goto (-49), 3) := by decide +kernel
theorem d_X12_andValue_57 : decode prog_14_method_73_code 57 = .ok (.lload_n 1, 1) := by decide +kernel
theorem d_X12_andValue_58 : decode prog_14_method_73_code 58 = .ok (.lreturn, 1) := by decide +kernel
theorem v_X12_andValue_0 {E : EE} {d : Nat} {Q : Option AV → AH → Prop} {x0 : Nat} {G : AH} (h0 : 0 < d) (h : isO E G x0 12 ∧ (wpJ E (d - 1) M_X12_unitValue [vr x0] G (fun r1 G2 => wp E d M_X12_andValue 5 [some (vr x0), some (vj r1), none, none, none] [] G2 Q))) : wp E d M_X12_andValue 0 [some (vr x0), none, none, none, none] [] G Q := by
  refine wp_aload_n (pc := 0) d_X12_andValue_0 rfl ?_
  obtain ⟨ho3, h⟩ := h
  refine wp_invV (pc := 1) (N := M_X12_unitValue) (As := []) (rest := []) (r := (cn_12, ct_12, 95)) d_X12_andValue_1 ml_X12_504 mk_X12_unitValue mv_X12_unitValue h0 ho3 rfl rfl (Nat.le_of_ble_eq_true rfl) ?_
  refine wpM.mono h (fun rr G2 hr => ?_)
  obtain ⟨r1, rfl, h⟩ := hr
  show wp E d M_X12_andValue 4 [some (vr _), none, none, none, none] [vj _] G2 Q
  refine wp_lstore_n (pc := 4) (lv' := [some (vr _), some (vj _), none, none, none]) d_X12_andValue_4 (by decide) rfl ?_
  refine wp_sub ?_ h
  exact ⟨rfl, ⟨rfl, trivial⟩⟩
theorem v_X12_andValue_5 {E : EE} {d : Nat} {Q : Option AV → AH → Prop} {x0 : Nat} {x1 : Int64} {G : AH} (h0 : 0 < d) (h : isO E G x0 12 ∧ (isO E G (gR G x0 8) 14 ∧ (vp_in (gI G x0 54) (gN G (gR G x0 8)) ∧ ((¬ (gI G (gR G x0 8) (Int32.toNatClampNeg (gI G x0 54))) = 38 → Q (some (vj x1)) G) ∧ ((gI G (gR G x0 8) (Int32.toNatClampNeg (gI G x0 54))) = 38 → wpJ E (d - 1) M_X12_unitValue [vr x0] (sI G x0 54 ((gI G x0 54) + 1)) (fun r4 G5 => ((x1 + r4) ≤ 1000000 → wp E d M_X12_andValue 53 [some (vr x0), some (vj x1), none, some (vj r4), none] [vj (x1 + r4)] G5 Q) ∧ (¬ ((x1 + r4) ≤ 1000000) → wp E d M_X12_andValue 53 [some (vr x0), some (vj x1), none, some (vj r4), none] [vj 1000000] G5 Q))))))) : wp E d M_X12_andValue 5 [some (vr x0), some (vj x1), none, none, none] [] G Q := by
  refine wp_aload_n (pc := 5) d_X12_andValue_5 rfl ?_
  obtain ⟨ho1, h⟩ := h
  refine wp_getR (pc := 6) d_X12_andValue_6 fl_X12_31 (fun _ _ _ => rfl) ho1 ?_
  refine wp_aload_n (pc := 9) d_X12_andValue_9 rfl ?_
  refine wp_getI (pc := 10) d_X12_andValue_10 fl_X12_472 (fun _ _ _ => rfl) ho1 ?_
  obtain ⟨ho2, h⟩ := h
  obtain ⟨hi3, h⟩ := h
  refine wp_iald (pc := 13) d_X12_andValue_13 ho2 hi3 ?_
  refine wp_bipush (pc := 14) (v := 38) d_X12_andValue_14 rfl ?_
  refine wp_icmp_ne (pc := 16) (tgt := 57) d_X12_andValue_16 (by decide) (fun hc => ?_) (fun hc => ?_)
  · have h := h.1 hc
    refine wp_lload_n (pc := 57) d_X12_andValue_57 rfl ?_
    exact wp_lret (pc := 58) d_X12_andValue_58 rfl h
  · have h := h.2 hc
    refine wp_aload_n (pc := 19) d_X12_andValue_19 rfl ?_
    refine wp_dup (pc := 20) d_X12_andValue_20 (c1_r _) ?_
    refine wp_getI (pc := 21) d_X12_andValue_21 fl_X12_472 (fun _ _ _ => rfl) ho1 ?_
    refine wp_iconst (pc := 24) (v := 1) d_X12_andValue_24 rfl ?_
    refine wp_iadd (pc := 25) d_X12_andValue_25 ?_
    refine wp_putI (pc := 26) d_X12_andValue_26 fl_X12_472 (fun _ _ _ => rfl) (Or.inl rfl) ho1 (okI_int _) ?_
    refine wp_aload_n (pc := 29) d_X12_andValue_29 rfl ?_
    refine wp_invV (pc := 30) (N := M_X12_unitValue) (As := []) (rest := []) (r := (cn_12, ct_12, 95)) d_X12_andValue_30 ml_X12_504 mk_X12_unitValue mv_X12_unitValue h0 ho1 rfl rfl (Nat.le_of_ble_eq_true rfl) ?_
    refine wpM.mono h (fun rr G5 hr => ?_)
    obtain ⟨r4, rfl, h⟩ := hr
    show wp E d M_X12_andValue 33 [some (vr _), some (vj _), none, none, none] [vj _] G5 Q
    refine wp_lstore_n (pc := 33) (lv' := [some (vr _), some (vj _), none, some (vj _), none]) d_X12_andValue_33 (by decide) rfl ?_
    refine wp_lload_n (pc := 34) d_X12_andValue_34 rfl ?_
    refine wp_lload_n (pc := 35) d_X12_andValue_35 rfl ?_
    refine wp_ladd (pc := 36) d_X12_andValue_36 ?_
    refine wp_ldc2 (pc := 37) (v := 1000000) d_X12_andValue_37 cj_X12_470 ?_
    refine wp_lcmp_le (pc := 40) (tgt := 50) d_X12_andValue_40 d_X12_andValue_41 (by decide) (fun hc => ?_) (fun hc => ?_)
    · have h := h.1 hc
      refine wp_lload_n (pc := 50) d_X12_andValue_50 rfl ?_
      refine wp_lload_n (pc := 51) d_X12_andValue_51 rfl ?_
      refine wp_ladd (pc := 52) d_X12_andValue_52 ?_
      refine wp_sub ?_ h
      exact ⟨rfl, ⟨rfl, ⟨rfl, trivial⟩⟩⟩
    · have h := h.2 hc
      refine wp_ldc2 (pc := 44) (v := 1000000) d_X12_andValue_44 cj_X12_470 ?_
      refine wp_goto (pc := 47) (tgt := 53) d_X12_andValue_47 (by decide) ?_
      refine wp_sub ?_ h
      exact ⟨rfl, ⟨rfl, ⟨rfl, trivial⟩⟩⟩
theorem v_X12_andValue_53 {E : EE} {d : Nat} {Q : Option AV → AH → Prop} {x0 : Nat} {x1 : Int64} {x3 : Int64} {t0 : Int64} {G : AH} (h : wp E d M_X12_andValue 5 [some (vr x0), some (vj t0), none, none, none] [] G Q) : wp E d M_X12_andValue 53 [some (vr x0), some (vj x1), none, some (vj x3), none] [vj t0] G Q := by
  refine wp_lstore_n (pc := 53) (lv' := [some (vr _), some (vj _), none, some (vj _), none]) d_X12_andValue_53 (by decide) rfl ?_
  refine wp_goto (pc := 54) (tgt := 5) d_X12_andValue_54 (by decide) ?_
  refine wp_sub ?_ h
  exact ⟨rfl, ⟨rfl, trivial⟩⟩
theorem d_X12_unitValue_0 : decode prog_14_method_74_code 0 = .ok (.aload_n 0, 1) := by decide +kernel
theorem d_X12_unitValue_1 : decode prog_14_method_74_code 1 = .ok (.getfield 31, 3) := by decide +kernel
theorem d_X12_unitValue_4 : decode prog_14_method_74_code 4 = .ok (.aload_n 0, 1) := by decide +kernel
theorem d_X12_unitValue_5 : decode prog_14_method_74_code 5 = .ok (.getfield 472, 3) := by decide +kernel
theorem d_X12_unitValue_8 : decode prog_14_method_74_code 8 = .ok (.iaload, 1) := by decide +kernel
theorem d_X12_unitValue_9 : decode prog_14_method_74_code 9 = .ok (.istore_n 1, 1) := by decide +kernel
theorem d_X12_unitValue_10 : decode prog_14_method_74_code 10 = .ok (.iload_n 1, 1) := by decide +kernel
theorem d_X12_unitValue_11 : decode prog_14_method_74_code 11 = .ok (.bipush 126, 2) := by decide +kernel
theorem d_X12_unitValue_13 : decode prog_14_method_74_code 13 = .ok (.if_icmp .ne 28, 3) := by decide +kernel
theorem d_X12_unitValue_16 : decode prog_14_method_74_code 16 = .ok (.aload_n 0, 1) := by decide +kernel
theorem d_X12_unitValue_17 : decode prog_14_method_74_code 17 = .ok (.dup, 1) := by decide +kernel
theorem d_X12_unitValue_18 : decode prog_14_method_74_code 18 = .ok (.getfield 472, 3) := by decide +kernel
theorem d_X12_unitValue_21 : decode prog_14_method_74_code 21 = .ok (.iconst 1, 1) := by decide +kernel
theorem d_X12_unitValue_22 : decode prog_14_method_74_code 22 = .ok (.iadd, 1) := by decide +kernel
theorem d_X12_unitValue_23 : decode prog_14_method_74_code 23 = .ok (.putfield 472, 3) := by decide +kernel
theorem d_X12_unitValue_26 : decode prog_14_method_74_code 26 = .ok (.aload_n 0, 1) := by decide +kernel
theorem d_X12_unitValue_27 : decode prog_14_method_74_code 27 = .ok (.invokevirtual 504, 3) := by decide +kernel
theorem d_X12_unitValue_30 : decode prog_14_method_74_code 30 = .ok (.lconst 0, 1) := by decide +kernel
theorem d_X12_unitValue_31 : decode prog_14_method_74_code 31 = .ok (.lcmp, 1) := by decide +kernel
theorem d_X12_unitValue_32 : decode prog_14_method_74_code 32 = .ok (.ifCond .ne 7, 3) := by decide +kernel
theorem d_X12_unitValue_35 : decode prog_14_method_74_code 35 = .ok (.lconst 1, 1) := by decide +kernel
theorem d_X12_unitValue_36 : decode prog_14_method_74_code 36 = .ok (.goto 4, 3) := by decide +kernel
theorem d_X12_unitValue_39 : decode prog_14_method_74_code 39 = .ok (.lconst 0, 1) := by decide +kernel
theorem d_X12_unitValue_40 : decode prog_14_method_74_code 40 = .ok (.lreturn, 1) := by decide +kernel
theorem d_X12_unitValue_41 : decode prog_14_method_74_code 41 = .ok (.iload_n 1, 1) := by decide +kernel
theorem d_X12_unitValue_42 : decode prog_14_method_74_code 42 = .ok (.bipush 123, 2) := by decide +kernel
theorem d_X12_unitValue_44 : decode prog_14_method_74_code 44 = .ok (.if_icmp .ne 30, 3) := by decide +kernel
theorem d_X12_unitValue_47 : decode prog_14_method_74_code 47 = .ok (.aload_n 0, 1) := by decide +kernel
theorem d_X12_unitValue_48 : decode prog_14_method_74_code 48 = .ok (.dup, 1) := by decide +kernel
theorem d_X12_unitValue_49 : decode prog_14_method_74_code 49 = .ok (.getfield 472, 3) := by decide +kernel
theorem d_X12_unitValue_52 : decode prog_14_method_74_code 52 = .ok (.iconst 1, 1) := by decide +kernel
theorem d_X12_unitValue_53 : decode prog_14_method_74_code 53 = .ok (.iadd, 1) := by decide +kernel
theorem d_X12_unitValue_54 : decode prog_14_method_74_code 54 = .ok (.putfield 472, 3) := by decide +kernel
theorem d_X12_unitValue_57 : decode prog_14_method_74_code 57 = .ok (.aload_n 0, 1) := by decide +kernel
theorem d_X12_unitValue_58 : decode prog_14_method_74_code 58 = .ok (.invokevirtual 489, 3) := by decide +kernel
theorem d_X12_unitValue_61 : decode prog_14_method_74_code 61 = .ok (.lstore_n 2, 1) := by decide +kernel
theorem d_X12_unitValue_62 : decode prog_14_method_74_code 62 = .ok (.aload_n 0, 1) := by decide +kernel
theorem d_X12_unitValue_63 : decode prog_14_method_74_code 63 = .ok (.dup, 1) := by decide +kernel
theorem d_X12_unitValue_64 : decode prog_14_method_74_code 64 = .ok (.getfield 472, 3) := by decide +kernel
theorem d_X12_unitValue_67 : decode prog_14_method_74_code 67 = .ok (.iconst 1, 1) := by decide +kernel
theorem d_X12_unitValue_68 : decode prog_14_method_74_code 68 = .ok (.iadd, 1) := by decide +kernel
theorem d_X12_unitValue_69 : decode prog_14_method_74_code 69 = .ok (.putfield 472, 3) := by decide +kernel
theorem d_X12_unitValue_72 : decode prog_14_method_74_code 72 = .ok (.lload_n 2, 1) := by decide +kernel
theorem d_X12_unitValue_73 : decode prog_14_method_74_code 73 = .ok (.lreturn, 1) := by decide +kernel
theorem d_X12_unitValue_74 : decode prog_14_method_74_code 74 = .ok (.iload_n 1, 1) := by decide +kernel
theorem d_X12_unitValue_75 : decode prog_14_method_74_code 75 = .ok (.sipush 306, 3) := by decide +kernel
theorem d_X12_unitValue_78 : decode prog_14_method_74_code 78 = .ok (.if_icmp .lt 121, 3) := by decide +kernel
theorem d_X12_unitValue_81 : decode prog_14_method_74_code 81 = .ok (.iload_n 1, 1) := by decide +kernel
theorem d_X12_unitValue_82 : decode prog_14_method_74_code 82 = .ok (.sipush 312, 3) := by decide +kernel
theorem d_X12_unitValue_85 : decode prog_14_method_74_code 85 = .ok (.if_icmp .gt 114, 3) := by decide +kernel
theorem d_X12_unitValue_88 : decode prog_14_method_74_code 88 = .ok (.aload_n 0, 1) := by decide +kernel
theorem d_X12_unitValue_89 : decode prog_14_method_74_code 89 = .ok (.dup, 1) := by decide +kernel
theorem d_X12_unitValue_90 : decode prog_14_method_74_code 90 = .ok (.getfield 472, 3) := by decide +kernel
theorem d_X12_unitValue_93 : decode prog_14_method_74_code 93 = .ok (.iconst 2, 1) := by decide +kernel
theorem d_X12_unitValue_94 : decode prog_14_method_74_code 94 = .ok (.iadd, 1) := by decide +kernel
theorem d_X12_unitValue_95 : decode prog_14_method_74_code 95 = .ok (.putfield 472, 3) := by decide +kernel
theorem d_X12_unitValue_98 : decode prog_14_method_74_code 98 = .ok (.iload_n 1, 1) := by decide +kernel
theorem d_X12_unitValue_99 : decode prog_14_method_74_code 99 = .ok (.sipush 306, 3) := by decide +kernel
theorem d_X12_unitValue_102 : decode prog_14_method_74_code 102 = .ok (.if_icmp .ne 10, 3) := by decide +kernel
theorem d_X12_unitValue_105 : decode prog_14_method_74_code 105 = .ok (.aload_n 0, 1) := by decide +kernel
theorem d_X12_unitValue_106 : decode prog_14_method_74_code 106 = .ok (.invokevirtual 507, 3) := by decide +kernel
theorem d_X12_unitValue_109 : decode prog_14_method_74_code 109 = .ok (.goto 77, 3) := by decide +kernel
theorem d_X12_unitValue_112 : decode prog_14_method_74_code 112 = .ok (.iload_n 1, 1) := by decide +kernel
theorem d_X12_unitValue_113 : decode prog_14_method_74_code 113 = .ok (.sipush 307, 3) := by decide +kernel
theorem d_X12_unitValue_116 : decode prog_14_method_74_code 116 = .ok (.if_icmp .ne 10, 3) := by decide +kernel
theorem d_X12_unitValue_119 : decode prog_14_method_74_code 119 = .ok (.aload_n 0, 1) := by decide +kernel
theorem d_X12_unitValue_120 : decode prog_14_method_74_code 120 = .ok (.invokevirtual 510, 3) := by decide +kernel
theorem d_X12_unitValue_123 : decode prog_14_method_74_code 123 = .ok (.goto 63, 3) := by decide +kernel
theorem d_X12_unitValue_126 : decode prog_14_method_74_code 126 = .ok (.iload_n 1, 1) := by decide +kernel
theorem d_X12_unitValue_127 : decode prog_14_method_74_code 127 = .ok (.sipush 308, 3) := by decide +kernel
theorem d_X12_unitValue_130 : decode prog_14_method_74_code 130 = .ok (.if_icmp .ne 10, 3) := by decide +kernel
theorem d_X12_unitValue_133 : decode prog_14_method_74_code 133 = .ok (.aload_n 0, 1) := by decide +kernel
theorem d_X12_unitValue_134 : decode prog_14_method_74_code 134 = .ok (.invokevirtual 513, 3) := by decide +kernel
theorem d_X12_unitValue_137 : decode prog_14_method_74_code 137 = .ok (.goto 49, 3) := by decide +kernel
theorem d_X12_unitValue_140 : decode prog_14_method_74_code 140 = .ok (.iload_n 1, 1) := by decide +kernel
theorem d_X12_unitValue_141 : decode prog_14_method_74_code 141 = .ok (.sipush 309, 3) := by decide +kernel
theorem d_X12_unitValue_144 : decode prog_14_method_74_code 144 = .ok (.if_icmp .ne 10, 3) := by decide +kernel
theorem d_X12_unitValue_147 : decode prog_14_method_74_code 147 = .ok (.aload_n 0, 1) := by decide +kernel
theorem d_X12_unitValue_148 : decode prog_14_method_74_code 148 = .ok (.invokevirtual 516, 3) := by decide +kernel
theorem d_X12_unitValue_151 : decode prog_14_method_74_code 151 = .ok (.goto 35, 3) := by decide +kernel
theorem d_X12_unitValue_154 : decode prog_14_method_74_code 154 = .ok (.iload_n 1, 1) := by decide +kernel
theorem d_X12_unitValue_155 : decode prog_14_method_74_code 155 = .ok (.sipush 310, 3) := by decide +kernel
theorem d_X12_unitValue_158 : decode prog_14_method_74_code 158 = .ok (.if_icmp .ne 10, 3) := by decide +kernel
theorem d_X12_unitValue_161 : decode prog_14_method_74_code 161 = .ok (.aload_n 0, 1) := by decide +kernel
theorem d_X12_unitValue_162 : decode prog_14_method_74_code 162 = .ok (.invokevirtual 519, 3) := by decide +kernel
theorem d_X12_unitValue_165 : decode prog_14_method_74_code 165 = .ok (.goto 21, 3) := by decide +kernel
theorem d_X12_unitValue_168 : decode prog_14_method_74_code 168 = .ok (.iload_n 1, 1) := by decide +kernel
theorem d_X12_unitValue_169 : decode prog_14_method_74_code 169 = .ok (.sipush 311, 3) := by decide +kernel
theorem d_X12_unitValue_172 : decode prog_14_method_74_code 172 = .ok (.if_icmp .ne 10, 3) := by decide +kernel
theorem d_X12_unitValue_175 : decode prog_14_method_74_code 175 = .ok (.aload_n 0, 1) := by decide +kernel
theorem d_X12_unitValue_176 : decode prog_14_method_74_code 176 = .ok (.invokevirtual 522, 3) := by decide +kernel
theorem d_X12_unitValue_179 : decode prog_14_method_74_code 179 = .ok (.goto 7, 3) := by decide +kernel
theorem d_X12_unitValue_182 : decode prog_14_method_74_code 182 = .ok (.aload_n 0, 1) := by decide +kernel
theorem d_X12_unitValue_183 : decode prog_14_method_74_code 183 = .ok (.invokevirtual 525, 3) := by decide +kernel
theorem d_X12_unitValue_186 : decode prog_14_method_74_code 186 = .ok (.lstore_n 2, 1) := by decide +kernel
theorem d_X12_unitValue_187 : decode prog_14_method_74_code 187 = .ok (.aload_n 0, 1) := by decide +kernel
theorem d_X12_unitValue_188 : decode prog_14_method_74_code 188 = .ok (.dup, 1) := by decide +kernel
theorem d_X12_unitValue_189 : decode prog_14_method_74_code 189 = .ok (.getfield 472, 3) := by decide +kernel
theorem d_X12_unitValue_192 : decode prog_14_method_74_code 192 = .ok (.iconst 1, 1) := by decide +kernel
theorem d_X12_unitValue_193 : decode prog_14_method_74_code 193 = .ok (.iadd, 1) := by decide +kernel
theorem d_X12_unitValue_194 : decode prog_14_method_74_code 194 = .ok (.putfield 472, 3) := by decide +kernel
theorem d_X12_unitValue_197 : decode prog_14_method_74_code 197 = .ok (.lload_n 2, 1) := by decide +kernel
theorem d_X12_unitValue_198 : decode prog_14_method_74_code 198 = .ok (.lreturn, 1) := by decide +kernel
theorem d_X12_unitValue_199 : decode prog_14_method_74_code 199 = .ok (.aload_n 0, 1) := by decide +kernel
theorem d_X12_unitValue_200 : decode prog_14_method_74_code 200 = .ok (.invokevirtual 492, 3) := by decide +kernel
theorem d_X12_unitValue_203 : decode prog_14_method_74_code 203 = .ok (.lstore_n 2, 1) := by decide +kernel
theorem d_X12_unitValue_204 : decode prog_14_method_74_code 204 = .ok (.aload_n 0, 1) := by decide +kernel
theorem d_X12_unitValue_205 : decode prog_14_method_74_code 205 = .ok (.getfield 31, 3) := by decide +kernel
theorem d_X12_unitValue_208 : decode prog_14_method_74_code 208 = .ok (.aload_n 0, 1) := by decide +kernel
theorem d_X12_unitValue_209 : decode prog_14_method_74_code 209 = .ok (.getfield 472, 3) := by decide +kernel
theorem d_X12_unitValue_212 : decode prog_14_method_74_code 212 = .ok (.iaload, 1) := by decide +kernel
theorem d_X12_unitValue_213 : decode prog_14_method_74_code 213 = .ok (.istore 4, 2) := by decide +kernel
theorem d_X12_unitValue_215 : decode prog_14_method_74_code 215 = .ok (.aload_n 0, 1) := by decide +kernel
theorem d_X12_unitValue_216 : decode prog_14_method_74_code 216 = .ok (.dup, 1) := by decide +kernel
theorem d_X12_unitValue_217 : decode prog_14_method_74_code 217 = .ok (.getfield 472, 3) := by decide +kernel
theorem d_X12_unitValue_220 : decode prog_14_method_74_code 220 = .ok (.iconst 1, 1) := by decide +kernel
theorem d_X12_unitValue_221 : decode prog_14_method_74_code 221 = .ok (.iadd, 1) := by decide +kernel
theorem d_X12_unitValue_222 : decode prog_14_method_74_code 222 = .ok (.putfield 472, 3) := by decide +kernel
theorem d_X12_unitValue_225 : decode prog_14_method_74_code 225 = .ok (.aload_n 0, 1) := by decide +kernel
theorem d_X12_unitValue_226 : decode prog_14_method_74_code 226 = .ok (.invokevirtual 492, 3) := by decide +kernel
theorem d_X12_unitValue_229 : decode prog_14_method_74_code 229 = .ok (.lstore 5, 2) := by decide +kernel
theorem d_X12_unitValue_231 : decode prog_14_method_74_code 231 = .ok (.iload 4, 2) := by decide +kernel
theorem d_X12_unitValue_233 : decode prog_14_method_74_code 233 = .ok (.lookupswitch 133 #[(35, 70), (60, 99), (61, 51), (200, 83), (201, 117)], 51) := by decide +kernel
theorem d_X12_unitValue_284 : decode prog_14_method_74_code 284 = .ok (.lload_n 2, 1) := by decide +kernel
theorem d_X12_unitValue_285 : decode prog_14_method_74_code 285 = .ok (.lload 5, 2) := by decide +kernel
theorem d_X12_unitValue_287 : decode prog_14_method_74_code 287 = .ok (.lcmp, 1) := by decide +kernel
theorem d_X12_unitValue_288 : decode prog_14_method_74_code 288 = .ok (.ifCond .ge 10, 3) := by decide +kernel
theorem d_X12_unitValue_291 : decode prog_14_method_74_code 291 = .ok (.lload 5, 2) := by decide +kernel
theorem d_X12_unitValue_293 : decode prog_14_method_74_code 293 = .ok (.lload_n 2, 1) := by decide +kernel
theorem d_X12_unitValue_294 : decode prog_14_method_74_code 294 = .ok (.lsub, 1) := by decide +kernel
theorem d_X12_unitValue_295 : decode prog_14_method_74_code 295 = .ok (.goto 7, 3) := by decide +kernel
theorem d_X12_unitValue_298 : decode prog_14_method_74_code 298 = .ok (.lload_n 2, 1) := by decide +kernel
theorem d_X12_unitValue_299 : decode prog_14_method_74_code 299 = .ok (.lload 5, 2) := by decide +kernel
theorem d_X12_unitValue_301 : decode prog_14_method_74_code 301 = .ok (.lsub, 1) := by decide +kernel
theorem d_X12_unitValue_302 : decode prog_14_method_74_code 302 = .ok (.lreturn, 1) := by decide +kernel
theorem d_X12_unitValue_303 : decode prog_14_method_74_code 303 = .ok (.lload_n 2, 1) := by decide +kernel
theorem d_X12_unitValue_304 : decode prog_14_method_74_code 304 = .ok (.lload 5, 2) := by decide +kernel
theorem d_X12_unitValue_306 : decode prog_14_method_74_code 306 = .ok (.lcmp, 1) := by decide +kernel
theorem d_X12_unitValue_307 : decode prog_14_method_74_code 307 = .ok (.ifCond .ne 7, 3) := by decide +kernel
theorem d_X12_unitValue_310 : decode prog_14_method_74_code 310 = .ok (.lconst 1, 1) := by decide +kernel
theorem d_X12_unitValue_311 : decode prog_14_method_74_code 311 = .ok (.goto 4, 3) := by decide +kernel
theorem d_X12_unitValue_314 : decode prog_14_method_74_code 314 = .ok (.lconst 0, 1) := by decide +kernel
theorem d_X12_unitValue_315 : decode prog_14_method_74_code 315 = .ok (.lreturn, 1) := by decide +kernel
theorem d_X12_unitValue_316 : decode prog_14_method_74_code 316 = .ok (.lload_n 2, 1) := by decide +kernel
theorem d_X12_unitValue_317 : decode prog_14_method_74_code 317 = .ok (.lload 5, 2) := by decide +kernel
theorem d_X12_unitValue_319 : decode prog_14_method_74_code 319 = .ok (.lcmp, 1) := by decide +kernel
theorem d_X12_unitValue_320 : decode prog_14_method_74_code 320 = .ok (.ifCond .le 10, 3) := by decide +kernel
theorem d_X12_unitValue_323 : decode prog_14_method_74_code 323 = .ok (.lload_n 2, 1) := by decide +kernel
theorem d_X12_unitValue_324 : decode prog_14_method_74_code 324 = .ok (.lload 5, 2) := by decide +kernel
theorem d_X12_unitValue_326 : decode prog_14_method_74_code 326 = .ok (.lsub, 1) := by decide +kernel
theorem d_X12_unitValue_327 : decode prog_14_method_74_code 327 = .ok (.goto 4, 3) := by decide +kernel
theorem d_X12_unitValue_330 : decode prog_14_method_74_code 330 = .ok (.lconst 0, 1) := by decide +kernel
theorem d_X12_unitValue_331 : decode prog_14_method_74_code 331 = .ok (.lreturn, 1) := by decide +kernel
theorem d_X12_unitValue_332 : decode prog_14_method_74_code 332 = .ok (.lload_n 2, 1) := by decide +kernel
theorem d_X12_unitValue_333 : decode prog_14_method_74_code 333 = .ok (.lload 5, 2) := by decide +kernel
theorem d_X12_unitValue_335 : decode prog_14_method_74_code 335 = .ok (.lcmp, 1) := by decide +kernel
theorem d_X12_unitValue_336 : decode prog_14_method_74_code 336 = .ok (.ifCond .lt 12, 3) := by decide +kernel
theorem d_X12_unitValue_339 : decode prog_14_method_74_code 339 = .ok (.lload_n 2, 1) := by decide +kernel
theorem d_X12_unitValue_340 : decode prog_14_method_74_code 340 = .ok (.lload 5, 2) := by decide +kernel
theorem d_X12_unitValue_342 : decode prog_14_method_74_code 342 = .ok (.lsub, 1) := by decide +kernel
theorem d_X12_unitValue_343 : decode prog_14_method_74_code 343 = .ok (.lconst 1, 1) := by decide +kernel
theorem d_X12_unitValue_344 : decode prog_14_method_74_code 344 = .ok (.ladd, 1) := by decide +kernel
theorem d_X12_unitValue_345 : decode prog_14_method_74_code 345 = .ok (.goto 4, 3) := by decide +kernel
theorem d_X12_unitValue_348 : decode prog_14_method_74_code 348 = .ok (.lconst 0, 1) := by decide +kernel
theorem d_X12_unitValue_349 : decode prog_14_method_74_code 349 = .ok (.lreturn, 1) := by decide +kernel
theorem d_X12_unitValue_350 : decode prog_14_method_74_code 350 = .ok (.lload 5, 2) := by decide +kernel
theorem d_X12_unitValue_352 : decode prog_14_method_74_code 352 = .ok (.lload_n 2, 1) := by decide +kernel
theorem d_X12_unitValue_353 : decode prog_14_method_74_code 353 = .ok (.lcmp, 1) := by decide +kernel
theorem d_X12_unitValue_354 : decode prog_14_method_74_code 354 = .ok (.ifCond .le 10, 3) := by decide +kernel
theorem d_X12_unitValue_357 : decode prog_14_method_74_code 357 = .ok (.lload 5, 2) := by decide +kernel
theorem d_X12_unitValue_359 : decode prog_14_method_74_code 359 = .ok (.lload_n 2, 1) := by decide +kernel
theorem d_X12_unitValue_360 : decode prog_14_method_74_code 360 = .ok (.lsub, 1) := by decide +kernel
theorem d_X12_unitValue_361 : decode prog_14_method_74_code 361 = .ok (.goto 4, 3) := by decide +kernel
theorem d_X12_unitValue_364 : decode prog_14_method_74_code 364 = .ok (.lconst 0, 1) := by decide +kernel
theorem d_X12_unitValue_365 : decode prog_14_method_74_code 365 = .ok (.lreturn, 1) := by decide +kernel
theorem d_X12_unitValue_366 : decode prog_14_method_74_code 366 = .ok (.lload 5, 2) := by decide +kernel
theorem d_X12_unitValue_368 : decode prog_14_method_74_code 368 = .ok (.lload_n 2, 1) := by decide +kernel
theorem d_X12_unitValue_369 : decode prog_14_method_74_code 369 = .ok (.lcmp, 1) := by decide +kernel
theorem d_X12_unitValue_370 : decode prog_14_method_74_code 370 = .ok (.ifCond .lt 12, 3) := by decide +kernel
theorem d_X12_unitValue_373 : decode prog_14_method_74_code 373 = .ok (.lload 5, 2) := by decide +kernel
theorem d_X12_unitValue_375 : decode prog_14_method_74_code 375 = .ok (.lload_n 2, 1) := by decide +kernel
theorem d_X12_unitValue_376 : decode prog_14_method_74_code 376 = .ok (.lsub, 1) := by decide +kernel
theorem d_X12_unitValue_377 : decode prog_14_method_74_code 377 = .ok (.lconst 1, 1) := by decide +kernel
theorem d_X12_unitValue_378 : decode prog_14_method_74_code 378 = .ok (.ladd, 1) := by decide +kernel
theorem d_X12_unitValue_379 : decode prog_14_method_74_code 379 = .ok (.goto 4, 3) := by decide +kernel
theorem d_X12_unitValue_382 : decode prog_14_method_74_code 382 = .ok (.lconst 0, 1) := by decide +kernel
theorem d_X12_unitValue_383 : decode prog_14_method_74_code 383 = .ok (.lreturn, 1) := by decide +kernel
theorem v_X12_unitValue_0 {E : EE} {d : Nat} {Q : Option AV → AH → Prop} {x0 : Nat} {G : AH} (h0 : 0 < d) (h : isO E G x0 12 ∧ (isO E G (gR G x0 8) 14 ∧ (vp_in (gI G x0 54) (gN G (gR G x0 8)) ∧ ((¬ (gI G (gR G x0 8) (Int32.toNatClampNeg (gI G x0 54))) = 126 → (¬ (gI G (gR G x0 8) (Int32.toNatClampNeg (gI G x0 54))) = 123 → ((gI G (gR G x0 8) (Int32.toNatClampNeg (gI G x0 54))) < 306 → wp E d M_X12_unitValue 199 [some (vr x0), some (vi (gI G (gR G x0 8) (Int32.toNatClampNeg (gI G x0 54)))), none, none, none, none, none] [] G Q) ∧ (¬ ((gI G (gR G x0 8) (Int32.toNatClampNeg (gI G x0 54))) < 306) → (312 < (gI G (gR G x0 8) (Int32.toNatClampNeg (gI G x0 54))) → wp E d M_X12_unitValue 199 [some (vr x0), some (vi (gI G (gR G x0 8) (Int32.toNatClampNeg (gI G x0 54)))), none, none, none, none, none] [] G Q) ∧ (¬ (312 < (gI G (gR G x0 8) (Int32.toNatClampNeg (gI G x0 54)))) → ∀ G4 : AH, G4 = sI G x0 54 ((gI G x0 54) + 2) → (¬ (gI G (gR G x0 8) (Int32.toNatClampNeg (gI G x0 54))) = 306 → (¬ (gI G (gR G x0 8) (Int32.toNatClampNeg (gI G x0 54))) = 307 → (¬ (gI G (gR G x0 8) (Int32.toNatClampNeg (gI G x0 54))) = 308 → (¬ (gI G (gR G x0 8) (Int32.toNatClampNeg (gI G x0 54))) = 309 → (¬ (gI G (gR G x0 8) (Int32.toNatClampNeg (gI G x0 54))) = 310 → (¬ (gI G (gR G x0 8) (Int32.toNatClampNeg (gI G x0 54))) = 311 → wpJ E (d - 1) M_X12_apartValue [vr x0] G4 (fun r6 G7 => wp E d M_X12_unitValue 186 [some (vr x0), some (vi (gI G (gR G x0 8) (Int32.toNatClampNeg (gI G x0 54)))), none, none, none, none, none] [vj r6] G7 Q)) ∧ ((gI G (gR G x0 8) (Int32.toNatClampNeg (gI G x0 54))) = 311 → wpJ E (d - 1) M_X12_busyValue [vr x0] G4 (fun r8 G9 => wp E d M_X12_unitValue 186 [some (vr x0), some (vi (gI G (gR G x0 8) (Int32.toNatClampNeg (gI G x0 54)))), none, none, none, none, none] [vj r8] G9 Q))) ∧ ((gI G (gR G x0 8) (Int32.toNatClampNeg (gI G x0 54))) = 310 → wpJ E (d - 1) M_X12_autoValue [vr x0] G4 (fun r10 G11 => wp E d M_X12_unitValue 186 [some (vr x0), some (vi (gI G (gR G x0 8) (Int32.toNatClampNeg (gI G x0 54)))), none, none, none, none, none] [vj r10] G11 Q))) ∧ ((gI G (gR G x0 8) (Int32.toNatClampNeg (gI G x0 54))) = 309 → wpJ E (d - 1) M_X12_ringValue [vr x0] G4 (fun r12 G13 => wp E d M_X12_unitValue 186 [some (vr x0), some (vi (gI G (gR G x0 8) (Int32.toNatClampNeg (gI G x0 54)))), none, none, none, none, none] [vj r12] G13 Q))) ∧ ((gI G (gR G x0 8) (Int32.toNatClampNeg (gI G x0 54))) = 308 → wpJ E (d - 1) M_X12_lexValue [vr x0] G4 (fun r14 G15 => wp E d M_X12_unitValue 186 [some (vr x0), some (vi (gI G (gR G x0 8) (Int32.toNatClampNeg (gI G x0 54)))), none, none, none, none, none] [vj r14] G15 Q))) ∧ ((gI G (gR G x0 8) (Int32.toNatClampNeg (gI G x0 54))) = 307 → wpJ E (d - 1) M_X12_rowValue [vr x0] G4 (fun r16 G17 => wp E d M_X12_unitValue 186 [some (vr x0), some (vi (gI G (gR G x0 8) (Int32.toNatClampNeg (gI G x0 54)))), none, none, none, none, none] [vj r16] G17 Q))) ∧ ((gI G (gR G x0 8) (Int32.toNatClampNeg (gI G x0 54))) = 306 → wpJ E (d - 1) M_X12_allValue [vr x0] G4 (fun r18 G19 => wp E d M_X12_unitValue 186 [some (vr x0), some (vi (gI G (gR G x0 8) (Int32.toNatClampNeg (gI G x0 54)))), none, none, none, none, none] [vj r18] G19 Q))))) ∧ ((gI G (gR G x0 8) (Int32.toNatClampNeg (gI G x0 54))) = 123 → ∀ G20 : AH, G20 = sI G x0 54 ((gI G x0 54) + 1) → wpJ E (d - 1) M_X12_testValue [vr x0] G20 (fun r22 G23 => isO E G23 x0 12 ∧ (∀ G25 : AH, G25 = sI G23 x0 54 ((gI G23 x0 54) + 1) → Q (some (vj r22)) G25)))) ∧ ((gI G (gR G x0 8) (Int32.toNatClampNeg (gI G x0 54))) = 126 → ∀ G27 : AH, G27 = sI G x0 54 ((gI G x0 54) + 1) → wpJ E (d - 1) M_X12_unitValue [vr x0] G27 (fun r29 G30 => (¬ r29 = 0 → Q (some (vj 0)) G30) ∧ (r29 = 0 → Q (some (vj 1)) G30))))))) : wp E d M_X12_unitValue 0 [some (vr x0), none, none, none, none, none, none] [] G Q := by
  refine wp_aload_n (pc := 0) d_X12_unitValue_0 rfl ?_
  obtain ⟨ho1, h⟩ := h
  refine wp_getR (pc := 1) d_X12_unitValue_1 fl_X12_31 (fun _ _ _ => rfl) ho1 ?_
  refine wp_aload_n (pc := 4) d_X12_unitValue_4 rfl ?_
  refine wp_getI (pc := 5) d_X12_unitValue_5 fl_X12_472 (fun _ _ _ => rfl) ho1 ?_
  obtain ⟨ho2, h⟩ := h
  obtain ⟨hi3, h⟩ := h
  refine wp_iald (pc := 8) d_X12_unitValue_8 ho2 hi3 ?_
  refine wp_istore_n (pc := 9) (lv' := [some (vr _), some (vi _), none, none, none, none, none]) d_X12_unitValue_9 (by decide) rfl ?_
  refine wp_iload_n (pc := 10) d_X12_unitValue_10 rfl ?_
  refine wp_bipush (pc := 11) (v := 126) d_X12_unitValue_11 rfl ?_
  refine wp_icmp_ne (pc := 13) (tgt := 41) d_X12_unitValue_13 (by decide) (fun hc => ?_) (fun hc => ?_)
  · have h := h.1 hc
    refine wp_iload_n (pc := 41) d_X12_unitValue_41 rfl ?_
    refine wp_bipush (pc := 42) (v := 123) d_X12_unitValue_42 rfl ?_
    refine wp_icmp_ne (pc := 44) (tgt := 74) d_X12_unitValue_44 (by decide) (fun hc => ?_) (fun hc => ?_)
    · have h := h.1 hc
      refine wp_iload_n (pc := 74) d_X12_unitValue_74 rfl ?_
      refine wp_sipush (pc := 75) (v := 306) d_X12_unitValue_75 rfl ?_
      refine wp_icmp_lt (pc := 78) (tgt := 199) d_X12_unitValue_78 (by decide) (fun hc => ?_) (fun hc => ?_)
      · have h := h.1 hc
        refine wp_sub ?_ h
        exact ⟨rfl, ⟨rfl, trivial⟩⟩
      · have h := h.2 hc
        refine wp_iload_n (pc := 81) d_X12_unitValue_81 rfl ?_
        refine wp_sipush (pc := 82) (v := 312) d_X12_unitValue_82 rfl ?_
        refine wp_icmp_gt (pc := 85) (tgt := 199) d_X12_unitValue_85 (by decide) (fun hc => ?_) (fun hc => ?_)
        · have h := h.1 hc
          refine wp_sub ?_ h
          exact ⟨rfl, ⟨rfl, trivial⟩⟩
        · have h := h.2 hc
          refine wp_aload_n (pc := 88) d_X12_unitValue_88 rfl ?_
          refine wp_dup (pc := 89) d_X12_unitValue_89 (c1_r _) ?_
          refine wp_getI (pc := 90) d_X12_unitValue_90 fl_X12_472 (fun _ _ _ => rfl) ho1 ?_
          refine wp_iconst (pc := 93) (v := 2) d_X12_unitValue_93 rfl ?_
          refine wp_iadd (pc := 94) d_X12_unitValue_94 ?_
          refine wp_putI (pc := 95) d_X12_unitValue_95 fl_X12_472 (fun _ _ _ => rfl) (Or.inl rfl) ho1 (okI_int _) ?_
          refine wp_nm (fun G4 eG4 => ?_)
          have h := h G4 eG4
          have ho5 := isO_sI eG4 ho1
          refine wp_iload_n (pc := 98) d_X12_unitValue_98 rfl ?_
          refine wp_sipush (pc := 99) (v := 306) d_X12_unitValue_99 rfl ?_
          refine wp_icmp_ne (pc := 102) (tgt := 112) d_X12_unitValue_102 (by decide) (fun hc => ?_) (fun hc => ?_)
          · have h := h.1 hc
            refine wp_iload_n (pc := 112) d_X12_unitValue_112 rfl ?_
            refine wp_sipush (pc := 113) (v := 307) d_X12_unitValue_113 rfl ?_
            refine wp_icmp_ne (pc := 116) (tgt := 126) d_X12_unitValue_116 (by decide) (fun hc => ?_) (fun hc => ?_)
            · have h := h.1 hc
              refine wp_iload_n (pc := 126) d_X12_unitValue_126 rfl ?_
              refine wp_sipush (pc := 127) (v := 308) d_X12_unitValue_127 rfl ?_
              refine wp_icmp_ne (pc := 130) (tgt := 140) d_X12_unitValue_130 (by decide) (fun hc => ?_) (fun hc => ?_)
              · have h := h.1 hc
                refine wp_iload_n (pc := 140) d_X12_unitValue_140 rfl ?_
                refine wp_sipush (pc := 141) (v := 309) d_X12_unitValue_141 rfl ?_
                refine wp_icmp_ne (pc := 144) (tgt := 154) d_X12_unitValue_144 (by decide) (fun hc => ?_) (fun hc => ?_)
                · have h := h.1 hc
                  refine wp_iload_n (pc := 154) d_X12_unitValue_154 rfl ?_
                  refine wp_sipush (pc := 155) (v := 310) d_X12_unitValue_155 rfl ?_
                  refine wp_icmp_ne (pc := 158) (tgt := 168) d_X12_unitValue_158 (by decide) (fun hc => ?_) (fun hc => ?_)
                  · have h := h.1 hc
                    refine wp_iload_n (pc := 168) d_X12_unitValue_168 rfl ?_
                    refine wp_sipush (pc := 169) (v := 311) d_X12_unitValue_169 rfl ?_
                    refine wp_icmp_ne (pc := 172) (tgt := 182) d_X12_unitValue_172 (by decide) (fun hc => ?_) (fun hc => ?_)
                    · have h := h.1 hc
                      refine wp_aload_n (pc := 182) d_X12_unitValue_182 rfl ?_
                      refine wp_invV (pc := 183) (N := M_X12_apartValue) (As := []) (rest := []) (r := (cn_12, ct_12, 95)) d_X12_unitValue_183 ml_X12_525 mk_X12_apartValue mv_X12_apartValue h0 ho5 rfl rfl (Nat.le_of_ble_eq_true rfl) ?_
                      refine wpM.mono h (fun rr G7 hr => ?_)
                      obtain ⟨r6, rfl, h⟩ := hr
                      show wp E d M_X12_unitValue 186 [some (vr _), some (vi _), none, none, none, none, none] [vj _] G7 Q
                      refine wp_sub ?_ h
                      exact ⟨rfl, ⟨rfl, trivial⟩⟩
                    · have h := h.2 hc
                      refine wp_aload_n (pc := 175) d_X12_unitValue_175 rfl ?_
                      refine wp_invV (pc := 176) (N := M_X12_busyValue) (As := []) (rest := []) (r := (cn_12, ct_12, 95)) d_X12_unitValue_176 ml_X12_522 mk_X12_busyValue mv_X12_busyValue h0 ho5 rfl rfl (Nat.le_of_ble_eq_true rfl) ?_
                      refine wpM.mono h (fun rr G9 hr => ?_)
                      obtain ⟨r8, rfl, h⟩ := hr
                      show wp E d M_X12_unitValue 179 [some (vr _), some (vi _), none, none, none, none, none] [vj _] G9 Q
                      refine wp_goto (pc := 179) (tgt := 186) d_X12_unitValue_179 (by decide) ?_
                      refine wp_sub ?_ h
                      exact ⟨rfl, ⟨rfl, trivial⟩⟩
                  · have h := h.2 hc
                    refine wp_aload_n (pc := 161) d_X12_unitValue_161 rfl ?_
                    refine wp_invV (pc := 162) (N := M_X12_autoValue) (As := []) (rest := []) (r := (cn_12, ct_12, 95)) d_X12_unitValue_162 ml_X12_519 mk_X12_autoValue mv_X12_autoValue h0 ho5 rfl rfl (Nat.le_of_ble_eq_true rfl) ?_
                    refine wpM.mono h (fun rr G11 hr => ?_)
                    obtain ⟨r10, rfl, h⟩ := hr
                    show wp E d M_X12_unitValue 165 [some (vr _), some (vi _), none, none, none, none, none] [vj _] G11 Q
                    refine wp_goto (pc := 165) (tgt := 186) d_X12_unitValue_165 (by decide) ?_
                    refine wp_sub ?_ h
                    exact ⟨rfl, ⟨rfl, trivial⟩⟩
                · have h := h.2 hc
                  refine wp_aload_n (pc := 147) d_X12_unitValue_147 rfl ?_
                  refine wp_invV (pc := 148) (N := M_X12_ringValue) (As := []) (rest := []) (r := (cn_12, ct_12, 95)) d_X12_unitValue_148 ml_X12_516 mk_X12_ringValue mv_X12_ringValue h0 ho5 rfl rfl (Nat.le_of_ble_eq_true rfl) ?_
                  refine wpM.mono h (fun rr G13 hr => ?_)
                  obtain ⟨r12, rfl, h⟩ := hr
                  show wp E d M_X12_unitValue 151 [some (vr _), some (vi _), none, none, none, none, none] [vj _] G13 Q
                  refine wp_goto (pc := 151) (tgt := 186) d_X12_unitValue_151 (by decide) ?_
                  refine wp_sub ?_ h
                  exact ⟨rfl, ⟨rfl, trivial⟩⟩
              · have h := h.2 hc
                refine wp_aload_n (pc := 133) d_X12_unitValue_133 rfl ?_
                refine wp_invV (pc := 134) (N := M_X12_lexValue) (As := []) (rest := []) (r := (cn_12, ct_12, 95)) d_X12_unitValue_134 ml_X12_513 mk_X12_lexValue mv_X12_lexValue h0 ho5 rfl rfl (Nat.le_of_ble_eq_true rfl) ?_
                refine wpM.mono h (fun rr G15 hr => ?_)
                obtain ⟨r14, rfl, h⟩ := hr
                show wp E d M_X12_unitValue 137 [some (vr _), some (vi _), none, none, none, none, none] [vj _] G15 Q
                refine wp_goto (pc := 137) (tgt := 186) d_X12_unitValue_137 (by decide) ?_
                refine wp_sub ?_ h
                exact ⟨rfl, ⟨rfl, trivial⟩⟩
            · have h := h.2 hc
              refine wp_aload_n (pc := 119) d_X12_unitValue_119 rfl ?_
              refine wp_invV (pc := 120) (N := M_X12_rowValue) (As := []) (rest := []) (r := (cn_12, ct_12, 95)) d_X12_unitValue_120 ml_X12_510 mk_X12_rowValue mv_X12_rowValue h0 ho5 rfl rfl (Nat.le_of_ble_eq_true rfl) ?_
              refine wpM.mono h (fun rr G17 hr => ?_)
              obtain ⟨r16, rfl, h⟩ := hr
              show wp E d M_X12_unitValue 123 [some (vr _), some (vi _), none, none, none, none, none] [vj _] G17 Q
              refine wp_goto (pc := 123) (tgt := 186) d_X12_unitValue_123 (by decide) ?_
              refine wp_sub ?_ h
              exact ⟨rfl, ⟨rfl, trivial⟩⟩
          · have h := h.2 hc
            refine wp_aload_n (pc := 105) d_X12_unitValue_105 rfl ?_
            refine wp_invV (pc := 106) (N := M_X12_allValue) (As := []) (rest := []) (r := (cn_12, ct_12, 95)) d_X12_unitValue_106 ml_X12_507 mk_X12_allValue mv_X12_allValue h0 ho5 rfl rfl (Nat.le_of_ble_eq_true rfl) ?_
            refine wpM.mono h (fun rr G19 hr => ?_)
            obtain ⟨r18, rfl, h⟩ := hr
            show wp E d M_X12_unitValue 109 [some (vr _), some (vi _), none, none, none, none, none] [vj _] G19 Q
            refine wp_goto (pc := 109) (tgt := 186) d_X12_unitValue_109 (by decide) ?_
            refine wp_sub ?_ h
            exact ⟨rfl, ⟨rfl, trivial⟩⟩
    · have h := h.2 hc
      refine wp_aload_n (pc := 47) d_X12_unitValue_47 rfl ?_
      refine wp_dup (pc := 48) d_X12_unitValue_48 (c1_r _) ?_
      refine wp_getI (pc := 49) d_X12_unitValue_49 fl_X12_472 (fun _ _ _ => rfl) ho1 ?_
      refine wp_iconst (pc := 52) (v := 1) d_X12_unitValue_52 rfl ?_
      refine wp_iadd (pc := 53) d_X12_unitValue_53 ?_
      refine wp_putI (pc := 54) d_X12_unitValue_54 fl_X12_472 (fun _ _ _ => rfl) (Or.inl rfl) ho1 (okI_int _) ?_
      refine wp_nm (fun G20 eG20 => ?_)
      have h := h G20 eG20
      have ho21 := isO_sI eG20 ho1
      refine wp_aload_n (pc := 57) d_X12_unitValue_57 rfl ?_
      refine wp_invV (pc := 58) (N := M_X12_testValue) (As := []) (rest := []) (r := (cn_12, ct_12, 95)) d_X12_unitValue_58 ml_X12_489 mk_X12_testValue mv_X12_testValue h0 ho21 rfl rfl (Nat.le_of_ble_eq_true rfl) ?_
      refine wpM.mono h (fun rr G23 hr => ?_)
      obtain ⟨r22, rfl, h⟩ := hr
      show wp E d M_X12_unitValue 61 [some (vr _), some (vi _), none, none, none, none, none] [vj _] G23 Q
      refine wp_lstore_n (pc := 61) (lv' := [some (vr _), some (vi _), some (vj _), none, none, none, none]) d_X12_unitValue_61 (by decide) rfl ?_
      refine wp_aload_n (pc := 62) d_X12_unitValue_62 rfl ?_
      refine wp_dup (pc := 63) d_X12_unitValue_63 (c1_r _) ?_
      obtain ⟨ho24, h⟩ := h
      refine wp_getI (pc := 64) d_X12_unitValue_64 fl_X12_472 (fun _ _ _ => rfl) ho24 ?_
      refine wp_iconst (pc := 67) (v := 1) d_X12_unitValue_67 rfl ?_
      refine wp_iadd (pc := 68) d_X12_unitValue_68 ?_
      refine wp_putI (pc := 69) d_X12_unitValue_69 fl_X12_472 (fun _ _ _ => rfl) (Or.inl rfl) ho24 (okI_int _) ?_
      refine wp_nm (fun G25 eG25 => ?_)
      have h := h G25 eG25
      have ho26 := isO_sI eG25 ho24
      refine wp_lload_n (pc := 72) d_X12_unitValue_72 rfl ?_
      exact wp_lret (pc := 73) d_X12_unitValue_73 rfl h
  · have h := h.2 hc
    refine wp_aload_n (pc := 16) d_X12_unitValue_16 rfl ?_
    refine wp_dup (pc := 17) d_X12_unitValue_17 (c1_r _) ?_
    refine wp_getI (pc := 18) d_X12_unitValue_18 fl_X12_472 (fun _ _ _ => rfl) ho1 ?_
    refine wp_iconst (pc := 21) (v := 1) d_X12_unitValue_21 rfl ?_
    refine wp_iadd (pc := 22) d_X12_unitValue_22 ?_
    refine wp_putI (pc := 23) d_X12_unitValue_23 fl_X12_472 (fun _ _ _ => rfl) (Or.inl rfl) ho1 (okI_int _) ?_
    refine wp_nm (fun G27 eG27 => ?_)
    have h := h G27 eG27
    have ho28 := isO_sI eG27 ho1
    refine wp_aload_n (pc := 26) d_X12_unitValue_26 rfl ?_
    refine wp_invV (pc := 27) (N := M_X12_unitValue) (As := []) (rest := []) (r := (cn_12, ct_12, 95)) d_X12_unitValue_27 ml_X12_504 mk_X12_unitValue mv_X12_unitValue h0 ho28 rfl rfl (Nat.le_of_ble_eq_true rfl) ?_
    refine wpM.mono h (fun rr G30 hr => ?_)
    obtain ⟨r29, rfl, h⟩ := hr
    show wp E d M_X12_unitValue 30 [some (vr _), some (vi _), none, none, none, none, none] [vj _] G30 Q
    refine wp_lconst (pc := 30) (v := 0) d_X12_unitValue_30 rfl ?_
    refine wp_lcmp_ne (pc := 31) (tgt := 39) d_X12_unitValue_31 d_X12_unitValue_32 (by decide) (fun hc => ?_) (fun hc => ?_)
    · have h := h.1 hc
      refine wp_lconst (pc := 39) (v := 0) d_X12_unitValue_39 rfl ?_
      exact wp_lret (pc := 40) d_X12_unitValue_40 rfl h
    · have h := h.2 hc
      refine wp_lconst (pc := 35) (v := 1) d_X12_unitValue_35 rfl ?_
      refine wp_goto (pc := 36) (tgt := 40) d_X12_unitValue_36 (by decide) ?_
      exact wp_lret (pc := 40) d_X12_unitValue_40 rfl h
theorem v_X12_unitValue_186 {E : EE} {d : Nat} {Q : Option AV → AH → Prop} {x0 : Nat} {x1 : Int32} {t0 : Int64} {G : AH} (h : isO E G x0 12 ∧ (Q (some (vj t0)) (sI G x0 54 ((gI G x0 54) + 1)))) : wp E d M_X12_unitValue 186 [some (vr x0), some (vi x1), none, none, none, none, none] [vj t0] G Q := by
  refine wp_lstore_n (pc := 186) (lv' := [some (vr _), some (vi _), some (vj _), none, none, none, none]) d_X12_unitValue_186 (by decide) rfl ?_
  refine wp_aload_n (pc := 187) d_X12_unitValue_187 rfl ?_
  refine wp_dup (pc := 188) d_X12_unitValue_188 (c1_r _) ?_
  obtain ⟨ho1, h⟩ := h
  refine wp_getI (pc := 189) d_X12_unitValue_189 fl_X12_472 (fun _ _ _ => rfl) ho1 ?_
  refine wp_iconst (pc := 192) (v := 1) d_X12_unitValue_192 rfl ?_
  refine wp_iadd (pc := 193) d_X12_unitValue_193 ?_
  refine wp_putI (pc := 194) d_X12_unitValue_194 fl_X12_472 (fun _ _ _ => rfl) (Or.inl rfl) ho1 (okI_int _) ?_
  refine wp_lload_n (pc := 197) d_X12_unitValue_197 rfl ?_
  exact wp_lret (pc := 198) d_X12_unitValue_198 rfl h
theorem v_X12_unitValue_199 {E : EE} {d : Nat} {Q : Option AV → AH → Prop} {x0 : Nat} {x1 : Int32} {G : AH} (h0 : 0 < d) (h : isO E G x0 12 ∧ (wpJ E (d - 1) M_X12_sumValue [vr x0] G (fun r1 G2 => isO E G2 x0 12 ∧ (isO E G2 (gR G2 x0 8) 14 ∧ (vp_in (gI G2 x0 54) (gN G2 (gR G2 x0 8)) ∧ (wpJ E (d - 1) M_X12_sumValue [vr x0] (sI G2 x0 54 ((gI G2 x0 54) + 1)) (fun r6 G7 => ((gI G2 (gR G2 x0 8) (Int32.toNatClampNeg (gI G2 x0 54))) = 35 → (¬ r1 = r6 → Q (some (vj 0)) G7) ∧ (r1 = r6 → Q (some (vj 1)) G7)) ∧ (((gI G2 (gR G2 x0 8) (Int32.toNatClampNeg (gI G2 x0 54))) = 60 → (r1 < r6 → Q (some (vj 0)) G7) ∧ (¬ (r1 < r6) → Q (some (vj ((r1 - r6) + 1))) G7)) ∧ (((gI G2 (gR G2 x0 8) (Int32.toNatClampNeg (gI G2 x0 54))) = 61 → (r6 ≤ r1 → Q (some (vj (r1 - r6))) G7) ∧ (¬ (r6 ≤ r1) → Q (some (vj (r6 - r1))) G7)) ∧ (((gI G2 (gR G2 x0 8) (Int32.toNatClampNeg (gI G2 x0 54))) = 200 → (r1 ≤ r6 → Q (some (vj 0)) G7) ∧ (¬ (r1 ≤ r6) → Q (some (vj (r1 - r6))) G7)) ∧ (((gI G2 (gR G2 x0 8) (Int32.toNatClampNeg (gI G2 x0 54))) = 201 → (r6 ≤ r1 → Q (some (vj 0)) G7) ∧ (¬ (r6 ≤ r1) → Q (some (vj (r6 - r1))) G7)) ∧ ((¬ (gI G2 (gR G2 x0 8) (Int32.toNatClampNeg (gI G2 x0 54))) = 35 → ¬ (gI G2 (gR G2 x0 8) (Int32.toNatClampNeg (gI G2 x0 54))) = 60 → ¬ (gI G2 (gR G2 x0 8) (Int32.toNatClampNeg (gI G2 x0 54))) = 61 → ¬ (gI G2 (gR G2 x0 8) (Int32.toNatClampNeg (gI G2 x0 54))) = 200 → ¬ (gI G2 (gR G2 x0 8) (Int32.toNatClampNeg (gI G2 x0 54))) = 201 → (r6 < r1 → Q (some (vj 0)) G7) ∧ (¬ (r6 < r1) → Q (some (vj ((r6 - r1) + 1))) G7)))))))))))))) : wp E d M_X12_unitValue 199 [some (vr x0), some (vi x1), none, none, none, none, none] [] G Q := by
  refine wp_aload_n (pc := 199) d_X12_unitValue_199 rfl ?_
  obtain ⟨ho13, h⟩ := h
  refine wp_invV (pc := 200) (N := M_X12_sumValue) (As := []) (rest := []) (r := (cn_12, ct_12, 95)) d_X12_unitValue_200 ml_X12_492 mk_X12_sumValue mv_X12_sumValue h0 ho13 rfl rfl (Nat.le_of_ble_eq_true rfl) ?_
  refine wpM.mono h (fun rr G2 hr => ?_)
  obtain ⟨r1, rfl, h⟩ := hr
  show wp E d M_X12_unitValue 203 [some (vr _), some (vi _), none, none, none, none, none] [vj _] G2 Q
  refine wp_lstore_n (pc := 203) (lv' := [some (vr _), some (vi _), some (vj _), none, none, none, none]) d_X12_unitValue_203 (by decide) rfl ?_
  refine wp_aload_n (pc := 204) d_X12_unitValue_204 rfl ?_
  obtain ⟨ho3, h⟩ := h
  refine wp_getR (pc := 205) d_X12_unitValue_205 fl_X12_31 (fun _ _ _ => rfl) ho3 ?_
  refine wp_aload_n (pc := 208) d_X12_unitValue_208 rfl ?_
  refine wp_getI (pc := 209) d_X12_unitValue_209 fl_X12_472 (fun _ _ _ => rfl) ho3 ?_
  obtain ⟨ho4, h⟩ := h
  obtain ⟨hi5, h⟩ := h
  refine wp_iald (pc := 212) d_X12_unitValue_212 ho4 hi5 ?_
  refine wp_istore (pc := 213) (lv' := [some (vr _), some (vi _), some (vj _), none, some (vi _), none, none]) d_X12_unitValue_213 (by decide) rfl ?_
  refine wp_aload_n (pc := 215) d_X12_unitValue_215 rfl ?_
  refine wp_dup (pc := 216) d_X12_unitValue_216 (c1_r _) ?_
  refine wp_getI (pc := 217) d_X12_unitValue_217 fl_X12_472 (fun _ _ _ => rfl) ho3 ?_
  refine wp_iconst (pc := 220) (v := 1) d_X12_unitValue_220 rfl ?_
  refine wp_iadd (pc := 221) d_X12_unitValue_221 ?_
  refine wp_putI (pc := 222) d_X12_unitValue_222 fl_X12_472 (fun _ _ _ => rfl) (Or.inl rfl) ho3 (okI_int _) ?_
  refine wp_aload_n (pc := 225) d_X12_unitValue_225 rfl ?_
  refine wp_invV (pc := 226) (N := M_X12_sumValue) (As := []) (rest := []) (r := (cn_12, ct_12, 95)) d_X12_unitValue_226 ml_X12_492 mk_X12_sumValue mv_X12_sumValue h0 ho3 rfl rfl (Nat.le_of_ble_eq_true rfl) ?_
  refine wpM.mono h (fun rr G7 hr => ?_)
  obtain ⟨r6, rfl, h⟩ := hr
  show wp E d M_X12_unitValue 229 [some (vr _), some (vi _), some (vj _), none, some (vi _), none, none] [vj _] G7 Q
  refine wp_lstore (pc := 229) (lv' := [some (vr _), some (vi _), some (vj _), none, some (vi _), some (vj _), none]) d_X12_unitValue_229 (by decide) rfl ?_
  refine wp_iload (pc := 231) d_X12_unitValue_231 rfl ?_
  obtain ⟨hk, h⟩ := h
  by_cases hn8 : (gI G2 (gR G2 x0 8) (Int32.toNatClampNeg (gI G2 x0 54))) = 35
  · have h := hk hn8
    refine wp_lkp (pc := 233) (tgt := 303) (off := 70) d_X12_unitValue_233 (by decide) (by rw [hn8]; first | done | rfl) (by decide) ?_
    refine wp_lload_n (pc := 303) d_X12_unitValue_303 rfl ?_
    refine wp_lload (pc := 304) d_X12_unitValue_304 rfl ?_
    refine wp_lcmp_ne (pc := 306) (tgt := 314) d_X12_unitValue_306 d_X12_unitValue_307 (by decide) (fun hc => ?_) (fun hc => ?_)
    · have h := h.1 hc
      refine wp_lconst (pc := 314) (v := 0) d_X12_unitValue_314 rfl ?_
      exact wp_lret (pc := 315) d_X12_unitValue_315 rfl h
    · have h := h.2 hc
      refine wp_lconst (pc := 310) (v := 1) d_X12_unitValue_310 rfl ?_
      refine wp_goto (pc := 311) (tgt := 315) d_X12_unitValue_311 (by decide) ?_
      exact wp_lret (pc := 315) d_X12_unitValue_315 rfl h
  obtain ⟨hk, h⟩ := h
  by_cases hn9 : (gI G2 (gR G2 x0 8) (Int32.toNatClampNeg (gI G2 x0 54))) = 60
  · have h := hk hn9
    refine wp_lkp (pc := 233) (tgt := 332) (off := 99) d_X12_unitValue_233 (by decide) (by rw [hn9]; first | done | rfl) (by decide) ?_
    refine wp_lload_n (pc := 332) d_X12_unitValue_332 rfl ?_
    refine wp_lload (pc := 333) d_X12_unitValue_333 rfl ?_
    refine wp_lcmp_lt (pc := 335) (tgt := 348) d_X12_unitValue_335 d_X12_unitValue_336 (by decide) (fun hc => ?_) (fun hc => ?_)
    · have h := h.1 hc
      refine wp_lconst (pc := 348) (v := 0) d_X12_unitValue_348 rfl ?_
      exact wp_lret (pc := 349) d_X12_unitValue_349 rfl h
    · have h := h.2 hc
      refine wp_lload_n (pc := 339) d_X12_unitValue_339 rfl ?_
      refine wp_lload (pc := 340) d_X12_unitValue_340 rfl ?_
      refine wp_lsub (pc := 342) d_X12_unitValue_342 ?_
      refine wp_lconst (pc := 343) (v := 1) d_X12_unitValue_343 rfl ?_
      refine wp_ladd (pc := 344) d_X12_unitValue_344 ?_
      refine wp_goto (pc := 345) (tgt := 349) d_X12_unitValue_345 (by decide) ?_
      exact wp_lret (pc := 349) d_X12_unitValue_349 rfl h
  obtain ⟨hk, h⟩ := h
  by_cases hn10 : (gI G2 (gR G2 x0 8) (Int32.toNatClampNeg (gI G2 x0 54))) = 61
  · have h := hk hn10
    refine wp_lkp (pc := 233) (tgt := 284) (off := 51) d_X12_unitValue_233 (by decide) (by rw [hn10]; first | done | rfl) (by decide) ?_
    refine wp_lload_n (pc := 284) d_X12_unitValue_284 rfl ?_
    refine wp_lload (pc := 285) d_X12_unitValue_285 rfl ?_
    refine wp_lcmp_ge (pc := 287) (tgt := 298) d_X12_unitValue_287 d_X12_unitValue_288 (by decide) (fun hc => ?_) (fun hc => ?_)
    · have h := h.1 hc
      refine wp_lload_n (pc := 298) d_X12_unitValue_298 rfl ?_
      refine wp_lload (pc := 299) d_X12_unitValue_299 rfl ?_
      refine wp_lsub (pc := 301) d_X12_unitValue_301 ?_
      exact wp_lret (pc := 302) d_X12_unitValue_302 rfl h
    · have h := h.2 hc
      refine wp_lload (pc := 291) d_X12_unitValue_291 rfl ?_
      refine wp_lload_n (pc := 293) d_X12_unitValue_293 rfl ?_
      refine wp_lsub (pc := 294) d_X12_unitValue_294 ?_
      refine wp_goto (pc := 295) (tgt := 302) d_X12_unitValue_295 (by decide) ?_
      exact wp_lret (pc := 302) d_X12_unitValue_302 rfl h
  obtain ⟨hk, h⟩ := h
  by_cases hn11 : (gI G2 (gR G2 x0 8) (Int32.toNatClampNeg (gI G2 x0 54))) = 200
  · have h := hk hn11
    refine wp_lkp (pc := 233) (tgt := 316) (off := 83) d_X12_unitValue_233 (by decide) (by rw [hn11]; first | done | rfl) (by decide) ?_
    refine wp_lload_n (pc := 316) d_X12_unitValue_316 rfl ?_
    refine wp_lload (pc := 317) d_X12_unitValue_317 rfl ?_
    refine wp_lcmp_le (pc := 319) (tgt := 330) d_X12_unitValue_319 d_X12_unitValue_320 (by decide) (fun hc => ?_) (fun hc => ?_)
    · have h := h.1 hc
      refine wp_lconst (pc := 330) (v := 0) d_X12_unitValue_330 rfl ?_
      exact wp_lret (pc := 331) d_X12_unitValue_331 rfl h
    · have h := h.2 hc
      refine wp_lload_n (pc := 323) d_X12_unitValue_323 rfl ?_
      refine wp_lload (pc := 324) d_X12_unitValue_324 rfl ?_
      refine wp_lsub (pc := 326) d_X12_unitValue_326 ?_
      refine wp_goto (pc := 327) (tgt := 331) d_X12_unitValue_327 (by decide) ?_
      exact wp_lret (pc := 331) d_X12_unitValue_331 rfl h
  obtain ⟨hk, h⟩ := h
  by_cases hn12 : (gI G2 (gR G2 x0 8) (Int32.toNatClampNeg (gI G2 x0 54))) = 201
  · have h := hk hn12
    refine wp_lkp (pc := 233) (tgt := 350) (off := 117) d_X12_unitValue_233 (by decide) (by rw [hn12]; first | done | rfl) (by decide) ?_
    refine wp_lload (pc := 350) d_X12_unitValue_350 rfl ?_
    refine wp_lload_n (pc := 352) d_X12_unitValue_352 rfl ?_
    refine wp_lcmp_le (pc := 353) (tgt := 364) d_X12_unitValue_353 d_X12_unitValue_354 (by decide) (fun hc => ?_) (fun hc => ?_)
    · have h := h.1 hc
      refine wp_lconst (pc := 364) (v := 0) d_X12_unitValue_364 rfl ?_
      exact wp_lret (pc := 365) d_X12_unitValue_365 rfl h
    · have h := h.2 hc
      refine wp_lload (pc := 357) d_X12_unitValue_357 rfl ?_
      refine wp_lload_n (pc := 359) d_X12_unitValue_359 rfl ?_
      refine wp_lsub (pc := 360) d_X12_unitValue_360 ?_
      refine wp_goto (pc := 361) (tgt := 365) d_X12_unitValue_361 (by decide) ?_
      exact wp_lret (pc := 365) d_X12_unitValue_365 rfl h
  have h := h hn8 hn9 hn10 hn11 hn12
  refine wp_lkp (pc := 233) (tgt := 366) (off := 133) d_X12_unitValue_233 (by decide) (by rw [lv_osw hn8 (by decide), lv_osw hn9 (by decide), lv_osw hn10 (by decide), lv_osw hn11 (by decide), lv_osw hn12 (by decide)]; first | done | rfl) (by decide) ?_
  refine wp_lload (pc := 366) d_X12_unitValue_366 rfl ?_
  refine wp_lload_n (pc := 368) d_X12_unitValue_368 rfl ?_
  refine wp_lcmp_lt (pc := 369) (tgt := 382) d_X12_unitValue_369 d_X12_unitValue_370 (by decide) (fun hc => ?_) (fun hc => ?_)
  · have h := h.1 hc
    refine wp_lconst (pc := 382) (v := 0) d_X12_unitValue_382 rfl ?_
    exact wp_lret (pc := 383) d_X12_unitValue_383 rfl h
  · have h := h.2 hc
    refine wp_lload (pc := 373) d_X12_unitValue_373 rfl ?_
    refine wp_lload_n (pc := 375) d_X12_unitValue_375 rfl ?_
    refine wp_lsub (pc := 376) d_X12_unitValue_376 ?_
    refine wp_lconst (pc := 377) (v := 1) d_X12_unitValue_377 rfl ?_
    refine wp_ladd (pc := 378) d_X12_unitValue_378 ?_
    refine wp_goto (pc := 379) (tgt := 383) d_X12_unitValue_379 (by decide) ?_
    exact wp_lret (pc := 383) d_X12_unitValue_383 rfl h
theorem d_X12_allValue_0 : decode prog_14_method_77_code 0 = .ok (.aload_n 0, 1) := by decide +kernel
theorem d_X12_allValue_1 : decode prog_14_method_77_code 1 = .ok (.invokevirtual 531, 3) := by decide +kernel
theorem d_X12_allValue_4 : decode prog_14_method_77_code 4 = .ok (.aload_n 0, 1) := by decide +kernel
theorem d_X12_allValue_5 : decode prog_14_method_77_code 5 = .ok (.getfield 528, 3) := by decide +kernel
theorem d_X12_allValue_8 : decode prog_14_method_77_code 8 = .ok (.aload_n 0, 1) := by decide +kernel
theorem d_X12_allValue_9 : decode prog_14_method_77_code 9 = .ok (.invokevirtual 534, 3) := by decide +kernel
theorem d_X12_allValue_12 : decode prog_14_method_77_code 12 = .ok (.isub, 1) := by decide +kernel
theorem d_X12_allValue_13 : decode prog_14_method_77_code 13 = .ok (.i2l, 1) := by decide +kernel
theorem d_X12_allValue_14 : decode prog_14_method_77_code 14 = .ok (.lreturn, 1) := by decide +kernel
theorem v_X12_allValue_0 {E : EE} {d : Nat} {Q : Option AV → AH → Prop} {x0 : Nat} {G : AH} (h0 : 0 < d) (h : isO E G x0 12 ∧ (wpV E (d - 1) M_X12_rowOfNames [vr x0] G (fun G1 => isO E G1 x0 12 ∧ (wpI E (d - 1) M_X12_different [vr x0] G1 (fun r3 G4 => Q (some (vj (Int32.toInt64 ((gI G1 x0 57) - r3)))) G4))))) : wp E d M_X12_allValue 0 [some (vr x0)] [] G Q := by
  refine wp_aload_n (pc := 0) d_X12_allValue_0 rfl ?_
  obtain ⟨ho5, h⟩ := h
  refine wp_invV (pc := 1) (N := M_X12_rowOfNames) (As := []) (rest := []) (r := (cn_12, ct_12, 95)) d_X12_allValue_1 ml_X12_531 mk_X12_rowOfNames mv_X12_rowOfNames h0 ho5 rfl rfl (Nat.le_of_ble_eq_true rfl) ?_
  refine wpM.mono h (fun rr G1 hr => ?_)
  obtain ⟨rfl, h⟩ := hr
  show wp E d M_X12_allValue 4 [some (vr _)] [] G1 Q
  refine wp_aload_n (pc := 4) d_X12_allValue_4 rfl ?_
  obtain ⟨ho2, h⟩ := h
  refine wp_getI (pc := 5) d_X12_allValue_5 fl_X12_528 (fun _ _ _ => rfl) ho2 ?_
  refine wp_aload_n (pc := 8) d_X12_allValue_8 rfl ?_
  refine wp_invV (pc := 9) (N := M_X12_different) (As := []) (rest := [vi _]) (r := (cn_12, ct_12, 95)) d_X12_allValue_9 ml_X12_534 mk_X12_different mv_X12_different h0 ho2 rfl rfl (Nat.le_of_ble_eq_true rfl) ?_
  refine wpM.mono h (fun rr G4 hr => ?_)
  obtain ⟨r3, rfl, h⟩ := hr
  show wp E d M_X12_allValue 12 [some (vr _)] [vi _, vi _] G4 Q
  refine wp_isub (pc := 12) d_X12_allValue_12 ?_
  refine wp_i2l (pc := 13) d_X12_allValue_13 ?_
  exact wp_lret (pc := 14) d_X12_allValue_14 rfl h
theorem d_X12_rowOfNames_0 : decode prog_14_method_75_code 0 = .ok (.aload_n 0, 1) := by decide +kernel
theorem d_X12_rowOfNames_1 : decode prog_14_method_75_code 1 = .ok (.iconst 0, 1) := by decide +kernel
theorem d_X12_rowOfNames_2 : decode prog_14_method_75_code 2 = .ok (.putfield 528, 3) := by decide +kernel
theorem d_X12_rowOfNames_5 : decode prog_14_method_75_code 5 = .ok (.aload_n 0, 1) := by decide +kernel
theorem d_X12_rowOfNames_6 : decode prog_14_method_75_code 6 = .ok (.getfield 127, 3) := by decide +kernel
theorem d_X12_rowOfNames_9 : decode prog_14_method_75_code 9 = .ok (.aload_n 0, 1) := by decide +kernel
theorem d_X12_rowOfNames_10 : decode prog_14_method_75_code 10 = .ok (.getfield 528, 3) := by decide +kernel
theorem d_X12_rowOfNames_13 : decode prog_14_method_75_code 13 = .ok (.aload_n 0, 1) := by decide +kernel
theorem d_X12_rowOfNames_14 : decode prog_14_method_75_code 14 = .ok (.invokevirtual 486, 3) := by decide +kernel
theorem d_X12_rowOfNames_17 : decode prog_14_method_75_code 17 = .ok (.lastore, 1) := by decide +kernel
theorem d_X12_rowOfNames_18 : decode prog_14_method_75_code 18 = .ok (.aload_n 0, 1) := by decide +kernel
theorem d_X12_rowOfNames_19 : decode prog_14_method_75_code 19 = .ok (.dup, 1) := by decide +kernel
theorem d_X12_rowOfNames_20 : decode prog_14_method_75_code 20 = .ok (.getfield 528, 3) := by decide +kernel
theorem d_X12_rowOfNames_23 : decode prog_14_method_75_code 23 = .ok (.iconst 1, 1) := by decide +kernel
theorem d_X12_rowOfNames_24 : decode prog_14_method_75_code 24 = .ok (.iadd, 1) := by decide +kernel
theorem d_X12_rowOfNames_25 : decode prog_14_method_75_code 25 = .ok (.putfield 528, 3) := by decide +kernel
theorem d_X12_rowOfNames_28 : decode prog_14_method_75_code 28 = .ok (.aload_n 0, 1) := by decide +kernel
theorem d_X12_rowOfNames_29 : decode prog_14_method_75_code 29 = .ok (.getfield 31, 3) := by decide +kernel
theorem d_X12_rowOfNames_32 : decode prog_14_method_75_code 32 = .ok (.aload_n 0, 1) := by decide +kernel
theorem d_X12_rowOfNames_33 : decode prog_14_method_75_code 33 = .ok (.getfield 472, 3) := by decide +kernel
theorem d_X12_rowOfNames_36 : decode prog_14_method_75_code 36 = .ok (.iaload, 1) := by decide +kernel
theorem d_X12_rowOfNames_37 : decode prog_14_method_75_code 37 = .ok (.bipush 44, 2) := by decide +kernel
theorem d_X12_rowOfNames_39 : decode prog_14_method_75_code 39 = .ok (.if_icmp .ne 39, 3) := by decide +kernel
theorem d_X12_rowOfNames_42 : decode prog_14_method_75_code 42 = .ok (.aload_n 0, 1) := by decide +kernel
theorem d_X12_rowOfNames_43 : decode prog_14_method_75_code 43 = .ok (.dup, 1) := by decide +kernel
theorem d_X12_rowOfNames_44 : decode prog_14_method_75_code 44 = .ok (.getfield 472, 3) := by decide +kernel
theorem d_X12_rowOfNames_47 : decode prog_14_method_75_code 47 = .ok (.iconst 1, 1) := by decide +kernel
theorem d_X12_rowOfNames_48 : decode prog_14_method_75_code 48 = .ok (.iadd, 1) := by decide +kernel
theorem d_X12_rowOfNames_49 : decode prog_14_method_75_code 49 = .ok (.putfield 472, 3) := by decide +kernel
theorem d_X12_rowOfNames_52 : decode prog_14_method_75_code 52 = .ok (.aload_n 0, 1) := by decide +kernel
theorem d_X12_rowOfNames_53 : decode prog_14_method_75_code 53 = .ok (.getfield 127, 3) := by decide +kernel
theorem d_X12_rowOfNames_56 : decode prog_14_method_75_code 56 = .ok (.aload_n 0, 1) := by decide +kernel
theorem d_X12_rowOfNames_57 : decode prog_14_method_75_code 57 = .ok (.getfield 528, 3) := by decide +kernel
theorem d_X12_rowOfNames_60 : decode prog_14_method_75_code 60 = .ok (.aload_n 0, 1) := by decide +kernel
theorem d_X12_rowOfNames_61 : decode prog_14_method_75_code 61 = .ok (.invokevirtual 486, 3) := by decide +kernel
theorem d_X12_rowOfNames_64 : decode prog_14_method_75_code 64 = .ok (.lastore, 1) := by decide +kernel
theorem d_X12_rowOfNames_65 : decode prog_14_method_75_code 65 = .ok (.aload_n 0, 1) := by decide +kernel
theorem d_X12_rowOfNames_66 : decode prog_14_method_75_code 66 = .ok (.dup, 1) := by decide +kernel
theorem d_X12_rowOfNames_67 : decode prog_14_method_75_code 67 = .ok (.getfield 528, 3) := by decide +kernel
theorem d_X12_rowOfNames_70 : decode prog_14_method_75_code 70 = .ok (.iconst 1, 1) := by decide +kernel
theorem d_X12_rowOfNames_71 : decode prog_14_method_75_code 71 = .ok (.iadd, 1) := by decide +kernel
theorem d_X12_rowOfNames_72 : decode prog_14_method_75_code 72 = .ok (.putfield 528, 3) := by decide +kernel
theorem d_X12_rowOfNames_75 : decode prog_14_method_75_code 75 = .ok (.goto (-47), 3) := by decide +kernel
theorem d_X12_rowOfNames_78 : decode prog_14_method_75_code 78 = .ok (.return_, 1) := by decide +kernel
theorem v_X12_rowOfNames_0 {E : EE} {d : Nat} {Q : Option AV → AH → Prop} {x0 : Nat} {G : AH} (h0 : 0 < d) (h : isO E G x0 12 ∧ (∀ G2 : AH, G2 = sI G x0 57 0 → wpJ E (d - 1) M_X12_nameValue [vr x0] G2 (fun r4 G5 => isO E G5 (gR G2 x0 55) 15 ∧ (vp_in (gI G2 x0 57) (gN G5 (gR G2 x0 55)) ∧ (∀ G8 : AH, G8 = sJ G5 (gR G2 x0 55) (Int32.toNatClampNeg (gI G2 x0 57)) r4 → isO E G8 x0 12 ∧ (∀ G10 : AH, G10 = sI G8 x0 57 ((gI G8 x0 57) + 1) → wp E d M_X12_rowOfNames 28 [some (vr x0)] [] G10 Q)))))) : wp E d M_X12_rowOfNames 0 [some (vr x0)] [] G Q := by
  refine wp_aload_n (pc := 0) d_X12_rowOfNames_0 rfl ?_
  refine wp_iconst (pc := 1) (v := 0) d_X12_rowOfNames_1 rfl ?_
  obtain ⟨ho1, h⟩ := h
  refine wp_putI (pc := 2) d_X12_rowOfNames_2 fl_X12_528 (fun _ _ _ => rfl) (Or.inl rfl) ho1 (okI_int _) ?_
  refine wp_nm (fun G2 eG2 => ?_)
  have h := h G2 eG2
  have ho3 := isO_sI eG2 ho1
  refine wp_aload_n (pc := 5) d_X12_rowOfNames_5 rfl ?_
  refine wp_getR (pc := 6) d_X12_rowOfNames_6 fl_X12_127 (fun _ _ _ => rfl) ho3 ?_
  refine wp_aload_n (pc := 9) d_X12_rowOfNames_9 rfl ?_
  refine wp_getI (pc := 10) d_X12_rowOfNames_10 fl_X12_528 (fun _ _ _ => rfl) ho3 ?_
  refine wp_aload_n (pc := 13) d_X12_rowOfNames_13 rfl ?_
  refine wp_invV (pc := 14) (N := M_X12_nameValue) (As := []) (rest := [vi _, vr _]) (r := (cn_12, ct_12, 95)) d_X12_rowOfNames_14 ml_X12_486 mk_X12_nameValue mv_X12_nameValue h0 ho3 rfl rfl (Nat.le_of_ble_eq_true rfl) ?_
  refine wpM.mono h (fun rr G5 hr => ?_)
  obtain ⟨r4, rfl, h⟩ := hr
  show wp E d M_X12_rowOfNames 17 [some (vr _)] [vj _, vi _, vr _] G5 Q
  obtain ⟨ho6, h⟩ := h
  obtain ⟨hi7, h⟩ := h
  refine wp_last (pc := 17) d_X12_rowOfNames_17 ho6 hi7 ?_
  refine wp_nm (fun G8 eG8 => ?_)
  have h := h G8 eG8
  refine wp_aload_n (pc := 18) d_X12_rowOfNames_18 rfl ?_
  refine wp_dup (pc := 19) d_X12_rowOfNames_19 (c1_r _) ?_
  obtain ⟨ho9, h⟩ := h
  refine wp_getI (pc := 20) d_X12_rowOfNames_20 fl_X12_528 (fun _ _ _ => rfl) ho9 ?_
  refine wp_iconst (pc := 23) (v := 1) d_X12_rowOfNames_23 rfl ?_
  refine wp_iadd (pc := 24) d_X12_rowOfNames_24 ?_
  refine wp_putI (pc := 25) d_X12_rowOfNames_25 fl_X12_528 (fun _ _ _ => rfl) (Or.inl rfl) ho9 (okI_int _) ?_
  refine wp_nm (fun G10 eG10 => ?_)
  have h := h G10 eG10
  have ho11 := isO_sI eG10 ho9
  refine wp_sub ?_ h
  exact ⟨rfl, trivial⟩
theorem v_X12_rowOfNames_28 {E : EE} {d : Nat} {Q : Option AV → AH → Prop} {x0 : Nat} {G : AH} (h0 : 0 < d) (h : isO E G x0 12 ∧ (isO E G (gR G x0 8) 14 ∧ (vp_in (gI G x0 54) (gN G (gR G x0 8)) ∧ ((¬ (gI G (gR G x0 8) (Int32.toNatClampNeg (gI G x0 54))) = 44 → Q none G) ∧ ((gI G (gR G x0 8) (Int32.toNatClampNeg (gI G x0 54))) = 44 → ∀ G4 : AH, G4 = sI G x0 54 ((gI G x0 54) + 1) → wpJ E (d - 1) M_X12_nameValue [vr x0] G4 (fun r6 G7 => isO E G7 (gR G4 x0 55) 15 ∧ (vp_in (gI G4 x0 57) (gN G7 (gR G4 x0 55)) ∧ (∀ G10 : AH, G10 = sJ G7 (gR G4 x0 55) (Int32.toNatClampNeg (gI G4 x0 57)) r6 → isO E G10 x0 12 ∧ (∀ G12 : AH, G12 = sI G10 x0 57 ((gI G10 x0 57) + 1) → wp E d M_X12_rowOfNames 28 [some (vr x0)] [] G12 Q))))))))) : wp E d M_X12_rowOfNames 28 [some (vr x0)] [] G Q := by
  refine wp_aload_n (pc := 28) d_X12_rowOfNames_28 rfl ?_
  obtain ⟨ho1, h⟩ := h
  refine wp_getR (pc := 29) d_X12_rowOfNames_29 fl_X12_31 (fun _ _ _ => rfl) ho1 ?_
  refine wp_aload_n (pc := 32) d_X12_rowOfNames_32 rfl ?_
  refine wp_getI (pc := 33) d_X12_rowOfNames_33 fl_X12_472 (fun _ _ _ => rfl) ho1 ?_
  obtain ⟨ho2, h⟩ := h
  obtain ⟨hi3, h⟩ := h
  refine wp_iald (pc := 36) d_X12_rowOfNames_36 ho2 hi3 ?_
  refine wp_bipush (pc := 37) (v := 44) d_X12_rowOfNames_37 rfl ?_
  refine wp_icmp_ne (pc := 39) (tgt := 78) d_X12_rowOfNames_39 (by decide) (fun hc => ?_) (fun hc => ?_)
  · have h := h.1 hc
    exact wp_vret (pc := 78) d_X12_rowOfNames_78 rfl h
  · have h := h.2 hc
    refine wp_aload_n (pc := 42) d_X12_rowOfNames_42 rfl ?_
    refine wp_dup (pc := 43) d_X12_rowOfNames_43 (c1_r _) ?_
    refine wp_getI (pc := 44) d_X12_rowOfNames_44 fl_X12_472 (fun _ _ _ => rfl) ho1 ?_
    refine wp_iconst (pc := 47) (v := 1) d_X12_rowOfNames_47 rfl ?_
    refine wp_iadd (pc := 48) d_X12_rowOfNames_48 ?_
    refine wp_putI (pc := 49) d_X12_rowOfNames_49 fl_X12_472 (fun _ _ _ => rfl) (Or.inl rfl) ho1 (okI_int _) ?_
    refine wp_nm (fun G4 eG4 => ?_)
    have h := h G4 eG4
    have ho5 := isO_sI eG4 ho1
    refine wp_aload_n (pc := 52) d_X12_rowOfNames_52 rfl ?_
    refine wp_getR (pc := 53) d_X12_rowOfNames_53 fl_X12_127 (fun _ _ _ => rfl) ho5 ?_
    refine wp_aload_n (pc := 56) d_X12_rowOfNames_56 rfl ?_
    refine wp_getI (pc := 57) d_X12_rowOfNames_57 fl_X12_528 (fun _ _ _ => rfl) ho5 ?_
    refine wp_aload_n (pc := 60) d_X12_rowOfNames_60 rfl ?_
    refine wp_invV (pc := 61) (N := M_X12_nameValue) (As := []) (rest := [vi _, vr _]) (r := (cn_12, ct_12, 95)) d_X12_rowOfNames_61 ml_X12_486 mk_X12_nameValue mv_X12_nameValue h0 ho5 rfl rfl (Nat.le_of_ble_eq_true rfl) ?_
    refine wpM.mono h (fun rr G7 hr => ?_)
    obtain ⟨r6, rfl, h⟩ := hr
    show wp E d M_X12_rowOfNames 64 [some (vr _)] [vj _, vi _, vr _] G7 Q
    obtain ⟨ho8, h⟩ := h
    obtain ⟨hi9, h⟩ := h
    refine wp_last (pc := 64) d_X12_rowOfNames_64 ho8 hi9 ?_
    refine wp_nm (fun G10 eG10 => ?_)
    have h := h G10 eG10
    refine wp_aload_n (pc := 65) d_X12_rowOfNames_65 rfl ?_
    refine wp_dup (pc := 66) d_X12_rowOfNames_66 (c1_r _) ?_
    obtain ⟨ho11, h⟩ := h
    refine wp_getI (pc := 67) d_X12_rowOfNames_67 fl_X12_528 (fun _ _ _ => rfl) ho11 ?_
    refine wp_iconst (pc := 70) (v := 1) d_X12_rowOfNames_70 rfl ?_
    refine wp_iadd (pc := 71) d_X12_rowOfNames_71 ?_
    refine wp_putI (pc := 72) d_X12_rowOfNames_72 fl_X12_528 (fun _ _ _ => rfl) (Or.inl rfl) ho11 (okI_int _) ?_
    refine wp_nm (fun G12 eG12 => ?_)
    have h := h G12 eG12
    have ho13 := isO_sI eG12 ho11
    refine wp_goto (pc := 75) (tgt := 28) d_X12_rowOfNames_75 (by decide) ?_
    refine wp_sub ?_ h
    exact ⟨rfl, trivial⟩
theorem d_X12_nameValue_0 : decode prog_14_method_66_code 0 = .ok (.aload_n 0, 1) := by decide +kernel
theorem d_X12_nameValue_1 : decode prog_14_method_66_code 1 = .ok (.getfield 34, 3) := by decide +kernel
theorem d_X12_nameValue_4 : decode prog_14_method_66_code 4 = .ok (.aload_n 0, 1) := by decide +kernel
theorem d_X12_nameValue_5 : decode prog_14_method_66_code 5 = .ok (.getfield 472, 3) := by decide +kernel
theorem d_X12_nameValue_8 : decode prog_14_method_66_code 8 = .ok (.iaload, 1) := by decide +kernel
theorem d_X12_nameValue_9 : decode prog_14_method_66_code 9 = .ok (.istore_n 1, 1) := by decide +kernel
theorem d_X12_nameValue_10 : decode prog_14_method_66_code 10 = .ok (.aload_n 0, 1) := by decide +kernel
theorem d_X12_nameValue_11 : decode prog_14_method_66_code 11 = .ok (.dup, 1) := by decide +kernel
theorem d_X12_nameValue_12 : decode prog_14_method_66_code 12 = .ok (.getfield 472, 3) := by decide +kernel
theorem d_X12_nameValue_15 : decode prog_14_method_66_code 15 = .ok (.iconst 1, 1) := by decide +kernel
theorem d_X12_nameValue_16 : decode prog_14_method_66_code 16 = .ok (.iadd, 1) := by decide +kernel
theorem d_X12_nameValue_17 : decode prog_14_method_66_code 17 = .ok (.putfield 472, 3) := by decide +kernel
theorem d_X12_nameValue_20 : decode prog_14_method_66_code 20 = .ok (.iload_n 1, 1) := by decide +kernel
theorem d_X12_nameValue_21 : decode prog_14_method_66_code 21 = .ok (.bipush 100, 2) := by decide +kernel
theorem d_X12_nameValue_23 : decode prog_14_method_66_code 23 = .ok (.if_icmp .lt 16, 3) := by decide +kernel
theorem d_X12_nameValue_26 : decode prog_14_method_66_code 26 = .ok (.aload_n 0, 1) := by decide +kernel
theorem d_X12_nameValue_27 : decode prog_14_method_66_code 27 = .ok (.getfield 121, 3) := by decide +kernel
theorem d_X12_nameValue_30 : decode prog_14_method_66_code 30 = .ok (.iload_n 1, 1) := by decide +kernel
theorem d_X12_nameValue_31 : decode prog_14_method_66_code 31 = .ok (.bipush 100, 2) := by decide +kernel
theorem d_X12_nameValue_33 : decode prog_14_method_66_code 33 = .ok (.isub, 1) := by decide +kernel
theorem d_X12_nameValue_34 : decode prog_14_method_66_code 34 = .ok (.iaload, 1) := by decide +kernel
theorem d_X12_nameValue_35 : decode prog_14_method_66_code 35 = .ok (.i2l, 1) := by decide +kernel
theorem d_X12_nameValue_36 : decode prog_14_method_66_code 36 = .ok (.goto 10, 3) := by decide +kernel
theorem d_X12_nameValue_39 : decode prog_14_method_66_code 39 = .ok (.aload_n 0, 1) := by decide +kernel
theorem d_X12_nameValue_40 : decode prog_14_method_66_code 40 = .ok (.getfield 124, 3) := by decide +kernel
theorem d_X12_nameValue_43 : decode prog_14_method_66_code 43 = .ok (.iload_n 1, 1) := by decide +kernel
theorem d_X12_nameValue_44 : decode prog_14_method_66_code 44 = .ok (.iaload, 1) := by decide +kernel
theorem d_X12_nameValue_45 : decode prog_14_method_66_code 45 = .ok (.i2l, 1) := by decide +kernel
theorem d_X12_nameValue_46 : decode prog_14_method_66_code 46 = .ok (.lreturn, 1) := by decide +kernel
theorem v_X12_nameValue_0 {E : EE} {d : Nat} {Q : Option AV → AH → Prop} {x0 : Nat} {G : AH} (h : isO E G x0 12 ∧ (isO E G (gR G x0 9) 14 ∧ (vp_in (gI G x0 54) (gN G (gR G x0 9)) ∧ (((gI G (gR G x0 9) (Int32.toNatClampNeg (gI G x0 54))) < 100 → isO E G (gR G x0 53) 14 ∧ (vp_in (gI G (gR G x0 9) (Int32.toNatClampNeg (gI G x0 54))) (gN G (gR G x0 53)) ∧ (Q (some (vj (Int32.toInt64 (gI (sI G x0 54 ((gI G x0 54) + 1)) (gR G x0 53) (Int32.toNatClampNeg (gI G (gR G x0 9) (Int32.toNatClampNeg (gI G x0 54)))))))) (sI G x0 54 ((gI G x0 54) + 1))))) ∧ (¬ ((gI G (gR G x0 9) (Int32.toNatClampNeg (gI G x0 54))) < 100) → isO E G (gR G x0 52) 14 ∧ (vp_in ((gI G (gR G x0 9) (Int32.toNatClampNeg (gI G x0 54))) - 100) (gN G (gR G x0 52)) ∧ (Q (some (vj (Int32.toInt64 (gI (sI G x0 54 ((gI G x0 54) + 1)) (gR G x0 52) (Int32.toNatClampNeg ((gI G (gR G x0 9) (Int32.toNatClampNeg (gI G x0 54))) - 100)))))) (sI G x0 54 ((gI G x0 54) + 1))))))))) : wp E d M_X12_nameValue 0 [some (vr x0), none] [] G Q := by
  refine wp_aload_n (pc := 0) d_X12_nameValue_0 rfl ?_
  obtain ⟨ho1, h⟩ := h
  refine wp_getR (pc := 1) d_X12_nameValue_1 fl_X12_34 (fun _ _ _ => rfl) ho1 ?_
  refine wp_aload_n (pc := 4) d_X12_nameValue_4 rfl ?_
  refine wp_getI (pc := 5) d_X12_nameValue_5 fl_X12_472 (fun _ _ _ => rfl) ho1 ?_
  obtain ⟨ho2, h⟩ := h
  obtain ⟨hi3, h⟩ := h
  refine wp_iald (pc := 8) d_X12_nameValue_8 ho2 hi3 ?_
  refine wp_istore_n (pc := 9) (lv' := [some (vr _), some (vi _)]) d_X12_nameValue_9 (by decide) rfl ?_
  refine wp_aload_n (pc := 10) d_X12_nameValue_10 rfl ?_
  refine wp_dup (pc := 11) d_X12_nameValue_11 (c1_r _) ?_
  refine wp_getI (pc := 12) d_X12_nameValue_12 fl_X12_472 (fun _ _ _ => rfl) ho1 ?_
  refine wp_iconst (pc := 15) (v := 1) d_X12_nameValue_15 rfl ?_
  refine wp_iadd (pc := 16) d_X12_nameValue_16 ?_
  refine wp_putI (pc := 17) d_X12_nameValue_17 fl_X12_472 (fun _ _ _ => rfl) (Or.inl rfl) ho1 (okI_int _) ?_
  refine wp_iload_n (pc := 20) d_X12_nameValue_20 rfl ?_
  refine wp_bipush (pc := 21) (v := 100) d_X12_nameValue_21 rfl ?_
  refine wp_icmp_lt (pc := 23) (tgt := 39) d_X12_nameValue_23 (by decide) (fun hc => ?_) (fun hc => ?_)
  · have h := h.1 hc
    refine wp_aload_n (pc := 39) d_X12_nameValue_39 rfl ?_
    refine wp_getR (pc := 40) d_X12_nameValue_40 fl_X12_124 (fun _ _ _ => rfl) ho1 ?_
    show wp E d M_X12_nameValue 43 [some (vr x0), some (vi (gI G (gR G x0 9) (Int32.toNatClampNeg (gI G x0 54))))] [vr (gR G x0 53)] (sI G x0 54 ((gI G x0 54) + 1)) Q
    refine wp_iload_n (pc := 43) d_X12_nameValue_43 rfl ?_
    obtain ⟨ho4, h⟩ := h
    obtain ⟨hi5, h⟩ := h
    refine wp_iald (pc := 44) d_X12_nameValue_44 ho4 hi5 ?_
    refine wp_i2l (pc := 45) d_X12_nameValue_45 ?_
    exact wp_lret (pc := 46) d_X12_nameValue_46 rfl h
  · have h := h.2 hc
    refine wp_aload_n (pc := 26) d_X12_nameValue_26 rfl ?_
    refine wp_getR (pc := 27) d_X12_nameValue_27 fl_X12_121 (fun _ _ _ => rfl) ho1 ?_
    show wp E d M_X12_nameValue 30 [some (vr x0), some (vi (gI G (gR G x0 9) (Int32.toNatClampNeg (gI G x0 54))))] [vr (gR G x0 52)] (sI G x0 54 ((gI G x0 54) + 1)) Q
    refine wp_iload_n (pc := 30) d_X12_nameValue_30 rfl ?_
    refine wp_bipush (pc := 31) (v := 100) d_X12_nameValue_31 rfl ?_
    refine wp_isub (pc := 33) d_X12_nameValue_33 ?_
    obtain ⟨ho6, h⟩ := h
    obtain ⟨hi7, h⟩ := h
    refine wp_iald (pc := 34) d_X12_nameValue_34 ho6 hi7 ?_
    refine wp_i2l (pc := 35) d_X12_nameValue_35 ?_
    refine wp_goto (pc := 36) (tgt := 46) d_X12_nameValue_36 (by decide) ?_
    exact wp_lret (pc := 46) d_X12_nameValue_46 rfl h
theorem d_X12_different_0 : decode prog_14_method_76_code 0 = .ok (.iconst 0, 1) := by decide +kernel
theorem d_X12_different_1 : decode prog_14_method_76_code 1 = .ok (.istore_n 1, 1) := by decide +kernel
theorem d_X12_different_2 : decode prog_14_method_76_code 2 = .ok (.iconst 0, 1) := by decide +kernel
theorem d_X12_different_3 : decode prog_14_method_76_code 3 = .ok (.istore_n 2, 1) := by decide +kernel
theorem d_X12_different_4 : decode prog_14_method_76_code 4 = .ok (.iload_n 2, 1) := by decide +kernel
theorem d_X12_different_5 : decode prog_14_method_76_code 5 = .ok (.aload_n 0, 1) := by decide +kernel
theorem d_X12_different_6 : decode prog_14_method_76_code 6 = .ok (.getfield 528, 3) := by decide +kernel
theorem d_X12_different_9 : decode prog_14_method_76_code 9 = .ok (.if_icmp .ge 65, 3) := by decide +kernel
theorem d_X12_different_12 : decode prog_14_method_76_code 12 = .ok (.iconst 1, 1) := by decide +kernel
theorem d_X12_different_13 : decode prog_14_method_76_code 13 = .ok (.istore_n 3, 1) := by decide +kernel
theorem d_X12_different_14 : decode prog_14_method_76_code 14 = .ok (.iconst 0, 1) := by decide +kernel
theorem d_X12_different_15 : decode prog_14_method_76_code 15 = .ok (.istore 4, 2) := by decide +kernel
theorem d_X12_different_17 : decode prog_14_method_76_code 17 = .ok (.iload 4, 2) := by decide +kernel
theorem d_X12_different_19 : decode prog_14_method_76_code 19 = .ok (.iload_n 2, 1) := by decide +kernel
theorem d_X12_different_20 : decode prog_14_method_76_code 20 = .ok (.if_icmp .ge 36, 3) := by decide +kernel
theorem d_X12_different_23 : decode prog_14_method_76_code 23 = .ok (.iload_n 3, 1) := by decide +kernel
theorem d_X12_different_24 : decode prog_14_method_76_code 24 = .ok (.ifCond .eq 24, 3) := by decide +kernel
theorem d_X12_different_27 : decode prog_14_method_76_code 27 = .ok (.aload_n 0, 1) := by decide +kernel
theorem d_X12_different_28 : decode prog_14_method_76_code 28 = .ok (.getfield 127, 3) := by decide +kernel
theorem d_X12_different_31 : decode prog_14_method_76_code 31 = .ok (.iload 4, 2) := by decide +kernel
theorem d_X12_different_33 : decode prog_14_method_76_code 33 = .ok (.laload, 1) := by decide +kernel
theorem d_X12_different_34 : decode prog_14_method_76_code 34 = .ok (.aload_n 0, 1) := by decide +kernel
theorem d_X12_different_35 : decode prog_14_method_76_code 35 = .ok (.getfield 127, 3) := by decide +kernel
theorem d_X12_different_38 : decode prog_14_method_76_code 38 = .ok (.iload_n 2, 1) := by decide +kernel
theorem d_X12_different_39 : decode prog_14_method_76_code 39 = .ok (.laload, 1) := by decide +kernel
theorem d_X12_different_40 : decode prog_14_method_76_code 40 = .ok (.lcmp, 1) := by decide +kernel
theorem d_X12_different_41 : decode prog_14_method_76_code 41 = .ok (.ifCond .eq 7, 3) := by decide +kernel
theorem d_X12_different_44 : decode prog_14_method_76_code 44 = .ok (.iconst 1, 1) := by decide +kernel
theorem d_X12_different_45 : decode prog_14_method_76_code 45 = .ok (.goto 4, 3) := by decide +kernel
theorem d_X12_different_48 : decode prog_14_method_76_code 48 = .ok (.iconst 0, 1) := by decide +kernel
theorem d_X12_different_49 : decode prog_14_method_76_code 49 = .ok (.istore_n 3, 1) := by decide +kernel
theorem d_X12_different_50 : decode prog_14_method_76_code 50 = .ok (.iinc 4 1, 3) := by decide +kernel
theorem d_X12_different_53 : decode prog_14_method_76_code 53 = .ok (.goto (-36), 3) := by decide +kernel
theorem d_X12_different_56 : decode prog_14_method_76_code 56 = .ok (.iload_n 1, 1) := by decide +kernel
theorem d_X12_different_57 : decode prog_14_method_76_code 57 = .ok (.iload_n 3, 1) := by decide +kernel
theorem d_X12_different_58 : decode prog_14_method_76_code 58 = .ok (.ifCond .eq 7, 3) := by decide +kernel
theorem d_X12_different_61 : decode prog_14_method_76_code 61 = .ok (.iconst 1, 1) := by decide +kernel
theorem d_X12_different_62 : decode prog_14_method_76_code 62 = .ok (.goto 4, 3) := by decide +kernel
theorem d_X12_different_65 : decode prog_14_method_76_code 65 = .ok (.iconst 0, 1) := by decide +kernel
theorem d_X12_different_66 : decode prog_14_method_76_code 66 = .ok (.iadd, 1) := by decide +kernel
theorem d_X12_different_67 : decode prog_14_method_76_code 67 = .ok (.istore_n 1, 1) := by decide +kernel
theorem d_X12_different_68 : decode prog_14_method_76_code 68 = .ok (.iinc 2 1, 3) := by decide +kernel
theorem d_X12_different_71 : decode prog_14_method_76_code 71 = .ok (.goto (-67), 3) := by decide +kernel
theorem d_X12_different_74 : decode prog_14_method_76_code 74 = .ok (.iload_n 1, 1) := by decide +kernel
theorem d_X12_different_75 : decode prog_14_method_76_code 75 = .ok (.ireturn, 1) := by decide +kernel
theorem v_X12_different_0 {E : EE} {d : Nat} {Q : Option AV → AH → Prop} {x0 : Nat} {G : AH} (h : wp E d M_X12_different 4 [some (vr x0), some (vi 0), some (vi 0), none, none] [] G Q) : wp E d M_X12_different 0 [some (vr x0), none, none, none, none] [] G Q := by
  refine wp_iconst (pc := 0) (v := 0) d_X12_different_0 rfl ?_
  refine wp_istore_n (pc := 1) (lv' := [some (vr _), some (vi _), none, none, none]) d_X12_different_1 (by decide) rfl ?_
  refine wp_iconst (pc := 2) (v := 0) d_X12_different_2 rfl ?_
  refine wp_istore_n (pc := 3) (lv' := [some (vr _), some (vi _), some (vi _), none, none]) d_X12_different_3 (by decide) rfl ?_
  refine wp_sub ?_ h
  exact ⟨rfl, ⟨rfl, ⟨rfl, trivial⟩⟩⟩
theorem v_X12_different_4 {E : EE} {d : Nat} {Q : Option AV → AH → Prop} {x0 : Nat} {x1 : Int32} {x2 : Int32} {G : AH} (h : isO E G x0 12 ∧ (((gI G x0 57) ≤ x2 → Q (some (vi x1)) G) ∧ (¬ ((gI G x0 57) ≤ x2) → wp E d M_X12_different 17 [some (vr x0), some (vi x1), some (vi x2), some (vi 1), some (vi 0)] [] G Q))) : wp E d M_X12_different 4 [some (vr x0), some (vi x1), some (vi x2), none, none] [] G Q := by
  refine wp_iload_n (pc := 4) d_X12_different_4 rfl ?_
  refine wp_aload_n (pc := 5) d_X12_different_5 rfl ?_
  obtain ⟨ho1, h⟩ := h
  refine wp_getI (pc := 6) d_X12_different_6 fl_X12_528 (fun _ _ _ => rfl) ho1 ?_
  refine wp_icmp_ge (pc := 9) (tgt := 74) d_X12_different_9 (by decide) (fun hc => ?_) (fun hc => ?_)
  · have h := h.1 hc
    refine wp_iload_n (pc := 74) d_X12_different_74 rfl ?_
    exact wp_iret (pc := 75) d_X12_different_75 rfl h
  · have h := h.2 hc
    refine wp_iconst (pc := 12) (v := 1) d_X12_different_12 rfl ?_
    refine wp_istore_n (pc := 13) (lv' := [some (vr _), some (vi _), some (vi _), some (vi _), none]) d_X12_different_13 (by decide) rfl ?_
    refine wp_iconst (pc := 14) (v := 0) d_X12_different_14 rfl ?_
    refine wp_istore (pc := 15) (lv' := [some (vr _), some (vi _), some (vi _), some (vi _), some (vi _)]) d_X12_different_15 (by decide) rfl ?_
    refine wp_sub ?_ h
    exact ⟨rfl, ⟨rfl, ⟨rfl, ⟨rfl, ⟨rfl, trivial⟩⟩⟩⟩⟩
theorem v_X12_different_17 {E : EE} {d : Nat} {Q : Option AV → AH → Prop} {x0 : Nat} {x1 : Int32} {x2 : Int32} {x3 : Int32} {x4 : Int32} {G : AH} (h : (x2 ≤ x4 → (x3 = 0 → wp E d M_X12_different 66 [some (vr x0), some (vi x1), some (vi x2), some (vi x3), some (vi x4)] [vi 0, vi x1] G Q) ∧ (¬ (x3 = 0) → wp E d M_X12_different 66 [some (vr x0), some (vi x1), some (vi x2), some (vi x3), some (vi x4)] [vi 1, vi x1] G Q)) ∧ (¬ (x2 ≤ x4) → (x3 = 0 → wp E d M_X12_different 48 [some (vr x0), some (vi x1), some (vi x2), some (vi x3), some (vi x4)] [] G Q) ∧ (¬ (x3 = 0) → isO E G x0 12 ∧ (isO E G (gR G x0 55) 15 ∧ (vp_in x4 (gN G (gR G x0 55)) ∧ (vp_in x2 (gN G (gR G x0 55)) ∧ (((gJ G (gR G x0 55) (Int32.toNatClampNeg x4)) = (gJ G (gR G x0 55) (Int32.toNatClampNeg x2)) → wp E d M_X12_different 48 [some (vr x0), some (vi x1), some (vi x2), some (vi x3), some (vi x4)] [] G Q) ∧ (¬ ((gJ G (gR G x0 55) (Int32.toNatClampNeg x4)) = (gJ G (gR G x0 55) (Int32.toNatClampNeg x2))) → wp E d M_X12_different 49 [some (vr x0), some (vi x1), some (vi x2), some (vi x3), some (vi x4)] [vi 1] G Q)))))))) : wp E d M_X12_different 17 [some (vr x0), some (vi x1), some (vi x2), some (vi x3), some (vi x4)] [] G Q := by
  refine wp_iload (pc := 17) d_X12_different_17 rfl ?_
  refine wp_iload_n (pc := 19) d_X12_different_19 rfl ?_
  refine wp_icmp_ge (pc := 20) (tgt := 56) d_X12_different_20 (by decide) (fun hc => ?_) (fun hc => ?_)
  · have h := h.1 hc
    refine wp_iload_n (pc := 56) d_X12_different_56 rfl ?_
    refine wp_iload_n (pc := 57) d_X12_different_57 rfl ?_
    refine wp_if_eq (pc := 58) (tgt := 65) d_X12_different_58 (by decide) (fun hc => ?_) (fun hc => ?_)
    · have h := h.1 hc
      refine wp_iconst (pc := 65) (v := 0) d_X12_different_65 rfl ?_
      refine wp_sub ?_ h
      exact ⟨rfl, ⟨rfl, ⟨rfl, ⟨rfl, ⟨rfl, trivial⟩⟩⟩⟩⟩
    · have h := h.2 hc
      refine wp_iconst (pc := 61) (v := 1) d_X12_different_61 rfl ?_
      refine wp_goto (pc := 62) (tgt := 66) d_X12_different_62 (by decide) ?_
      refine wp_sub ?_ h
      exact ⟨rfl, ⟨rfl, ⟨rfl, ⟨rfl, ⟨rfl, trivial⟩⟩⟩⟩⟩
  · have h := h.2 hc
    refine wp_iload_n (pc := 23) d_X12_different_23 rfl ?_
    refine wp_if_eq (pc := 24) (tgt := 48) d_X12_different_24 (by decide) (fun hc => ?_) (fun hc => ?_)
    · have h := h.1 hc
      refine wp_sub ?_ h
      exact ⟨rfl, ⟨rfl, ⟨rfl, ⟨rfl, ⟨rfl, trivial⟩⟩⟩⟩⟩
    · have h := h.2 hc
      refine wp_aload_n (pc := 27) d_X12_different_27 rfl ?_
      obtain ⟨ho1, h⟩ := h
      refine wp_getR (pc := 28) d_X12_different_28 fl_X12_127 (fun _ _ _ => rfl) ho1 ?_
      refine wp_iload (pc := 31) d_X12_different_31 rfl ?_
      obtain ⟨ho2, h⟩ := h
      obtain ⟨hi3, h⟩ := h
      refine wp_lald (pc := 33) d_X12_different_33 ho2 hi3 ?_
      refine wp_aload_n (pc := 34) d_X12_different_34 rfl ?_
      refine wp_getR (pc := 35) d_X12_different_35 fl_X12_127 (fun _ _ _ => rfl) ho1 ?_
      refine wp_iload_n (pc := 38) d_X12_different_38 rfl ?_
      obtain ⟨hi4, h⟩ := h
      refine wp_lald (pc := 39) d_X12_different_39 ho2 hi4 ?_
      refine wp_lcmp_eq (pc := 40) (tgt := 48) d_X12_different_40 d_X12_different_41 (by decide) (fun hc => ?_) (fun hc => ?_)
      · have h := h.1 hc
        refine wp_sub ?_ h
        exact ⟨rfl, ⟨rfl, ⟨rfl, ⟨rfl, ⟨rfl, trivial⟩⟩⟩⟩⟩
      · have h := h.2 hc
        refine wp_iconst (pc := 44) (v := 1) d_X12_different_44 rfl ?_
        refine wp_goto (pc := 45) (tgt := 49) d_X12_different_45 (by decide) ?_
        refine wp_sub ?_ h
        exact ⟨rfl, ⟨rfl, ⟨rfl, ⟨rfl, ⟨rfl, trivial⟩⟩⟩⟩⟩
theorem v_X12_different_48 {E : EE} {d : Nat} {Q : Option AV → AH → Prop} {x0 : Nat} {x1 : Int32} {x2 : Int32} {x3 : Int32} {x4 : Int32} {G : AH} (h : wp E d M_X12_different 49 [some (vr x0), some (vi x1), some (vi x2), some (vi x3), some (vi x4)] [vi 0] G Q) : wp E d M_X12_different 48 [some (vr x0), some (vi x1), some (vi x2), some (vi x3), some (vi x4)] [] G Q := by
  refine wp_iconst (pc := 48) (v := 0) d_X12_different_48 rfl ?_
  refine wp_sub ?_ h
  exact ⟨rfl, ⟨rfl, ⟨rfl, ⟨rfl, ⟨rfl, trivial⟩⟩⟩⟩⟩
theorem v_X12_different_49 {E : EE} {d : Nat} {Q : Option AV → AH → Prop} {x0 : Nat} {x1 : Int32} {x2 : Int32} {x3 : Int32} {x4 : Int32} {t0 : Int32} {G : AH} (h : wp E d M_X12_different 17 [some (vr x0), some (vi x1), some (vi x2), some (vi t0), some (vi (x4 + 1))] [] G Q) : wp E d M_X12_different 49 [some (vr x0), some (vi x1), some (vi x2), some (vi x3), some (vi x4)] [vi t0] G Q := by
  refine wp_istore_n (pc := 49) (lv' := [some (vr _), some (vi _), some (vi _), some (vi _), some (vi _)]) d_X12_different_49 (by decide) rfl ?_
  refine wp_iinc (pc := 50) (v := 1) (lv' := [some (vr _), some (vi _), some (vi _), some (vi _), some (vi _)]) d_X12_different_50 (by decide) rfl rfl rfl ?_
  refine wp_goto (pc := 53) (tgt := 17) d_X12_different_53 (by decide) ?_
  refine wp_sub ?_ h
  exact ⟨rfl, ⟨rfl, ⟨rfl, ⟨rfl, ⟨rfl, trivial⟩⟩⟩⟩⟩
theorem v_X12_different_66 {E : EE} {d : Nat} {Q : Option AV → AH → Prop} {x0 : Nat} {x1 : Int32} {x2 : Int32} {x3 : Int32} {x4 : Int32} {t0 : Int32} {t1 : Int32} {G : AH} (h : wp E d M_X12_different 4 [some (vr x0), some (vi (t0 + t1)), some (vi (x2 + 1)), none, none] [] G Q) : wp E d M_X12_different 66 [some (vr x0), some (vi x1), some (vi x2), some (vi x3), some (vi x4)] [vi t1, vi t0] G Q := by
  refine wp_iadd (pc := 66) d_X12_different_66 ?_
  refine wp_istore_n (pc := 67) (lv' := [some (vr _), some (vi _), some (vi _), some (vi _), some (vi _)]) d_X12_different_67 (by decide) rfl ?_
  refine wp_iinc (pc := 68) (v := 1) (lv' := [some (vr _), some (vi _), some (vi _), some (vi _), some (vi _)]) d_X12_different_68 (by decide) rfl rfl rfl ?_
  refine wp_goto (pc := 71) (tgt := 4) d_X12_different_71 (by decide) ?_
  refine wp_sub ?_ h
  exact ⟨rfl, ⟨rfl, ⟨rfl, trivial⟩⟩⟩
theorem d_X12_rowValue_0 : decode prog_14_method_78_code 0 = .ok (.aload_n 0, 1) := by decide +kernel
theorem d_X12_rowValue_1 : decode prog_14_method_78_code 1 = .ok (.invokevirtual 531, 3) := by decide +kernel
theorem d_X12_rowValue_4 : decode prog_14_method_78_code 4 = .ok (.aload_n 0, 1) := by decide +kernel
theorem d_X12_rowValue_5 : decode prog_14_method_78_code 5 = .ok (.getfield 528, 3) := by decide +kernel
theorem d_X12_rowValue_8 : decode prog_14_method_78_code 8 = .ok (.i2l, 1) := by decide +kernel
theorem d_X12_rowValue_9 : decode prog_14_method_78_code 9 = .ok (.lstore_n 1, 1) := by decide +kernel
theorem d_X12_rowValue_10 : decode prog_14_method_78_code 10 = .ok (.aload_n 0, 1) := by decide +kernel
theorem d_X12_rowValue_11 : decode prog_14_method_78_code 11 = .ok (.getfield 31, 3) := by decide +kernel
theorem d_X12_rowValue_14 : decode prog_14_method_78_code 14 = .ok (.aload_n 0, 1) := by decide +kernel
theorem d_X12_rowValue_15 : decode prog_14_method_78_code 15 = .ok (.getfield 472, 3) := by decide +kernel
theorem d_X12_rowValue_18 : decode prog_14_method_78_code 18 = .ok (.iaload, 1) := by decide +kernel
theorem d_X12_rowValue_19 : decode prog_14_method_78_code 19 = .ok (.bipush 41, 2) := by decide +kernel
theorem d_X12_rowValue_21 : decode prog_14_method_78_code 21 = .ok (.if_icmp .eq 100, 3) := by decide +kernel
theorem d_X12_rowValue_24 : decode prog_14_method_78_code 24 = .ok (.aload_n 0, 1) := by decide +kernel
theorem d_X12_rowValue_25 : decode prog_14_method_78_code 25 = .ok (.dup, 1) := by decide +kernel
theorem d_X12_rowValue_26 : decode prog_14_method_78_code 26 = .ok (.getfield 472, 3) := by decide +kernel
theorem d_X12_rowValue_29 : decode prog_14_method_78_code 29 = .ok (.iconst 2, 1) := by decide +kernel
theorem d_X12_rowValue_30 : decode prog_14_method_78_code 30 = .ok (.iadd, 1) := by decide +kernel
theorem d_X12_rowValue_31 : decode prog_14_method_78_code 31 = .ok (.putfield 472, 3) := by decide +kernel
theorem d_X12_rowValue_34 : decode prog_14_method_78_code 34 = .ok (.lconst 0, 1) := by decide +kernel
theorem d_X12_rowValue_35 : decode prog_14_method_78_code 35 = .ok (.lstore_n 3, 1) := by decide +kernel
theorem d_X12_rowValue_36 : decode prog_14_method_78_code 36 = .ok (.iconst 0, 1) := by decide +kernel
theorem d_X12_rowValue_37 : decode prog_14_method_78_code 37 = .ok (.istore 5, 2) := by decide +kernel
theorem d_X12_rowValue_39 : decode prog_14_method_78_code 39 = .ok (.iload 5, 2) := by decide +kernel
theorem d_X12_rowValue_41 : decode prog_14_method_78_code 41 = .ok (.aload_n 0, 1) := by decide +kernel
theorem d_X12_rowValue_42 : decode prog_14_method_78_code 42 = .ok (.getfield 528, 3) := by decide +kernel
theorem d_X12_rowValue_45 : decode prog_14_method_78_code 45 = .ok (.if_icmp .ge 51, 3) := by decide +kernel
theorem d_X12_rowValue_48 : decode prog_14_method_78_code 48 = .ok (.aload_n 0, 1) := by decide +kernel
theorem d_X12_rowValue_49 : decode prog_14_method_78_code 49 = .ok (.dup, 1) := by decide +kernel
theorem d_X12_rowValue_50 : decode prog_14_method_78_code 50 = .ok (.getfield 472, 3) := by decide +kernel
theorem d_X12_rowValue_53 : decode prog_14_method_78_code 53 = .ok (.iload 5, 2) := by decide +kernel
theorem d_X12_rowValue_55 : decode prog_14_method_78_code 55 = .ok (.ifCond .le 7, 3) := by decide +kernel
theorem d_X12_rowValue_58 : decode prog_14_method_78_code 58 = .ok (.iconst 1, 1) := by decide +kernel
theorem d_X12_rowValue_59 : decode prog_14_method_78_code 59 = .ok (.goto 4, 3) := by decide +kernel
theorem d_X12_rowValue_62 : decode prog_14_method_78_code 62 = .ok (.iconst 0, 1) := by decide +kernel
theorem d_X12_rowValue_63 : decode prog_14_method_78_code 63 = .ok (.iadd, 1) := by decide +kernel
theorem d_X12_rowValue_64 : decode prog_14_method_78_code 64 = .ok (.putfield 472, 3) := by decide +kernel
theorem d_X12_rowValue_67 : decode prog_14_method_78_code 67 = .ok (.lload_n 3, 1) := by decide +kernel
theorem d_X12_rowValue_68 : decode prog_14_method_78_code 68 = .ok (.aload_n 0, 1) := by decide +kernel
theorem d_X12_rowValue_69 : decode prog_14_method_78_code 69 = .ok (.invokevirtual 495, 3) := by decide +kernel
theorem d_X12_rowValue_72 : decode prog_14_method_78_code 72 = .ok (.aload_n 0, 1) := by decide +kernel
theorem d_X12_rowValue_73 : decode prog_14_method_78_code 73 = .ok (.getfield 127, 3) := by decide +kernel
theorem d_X12_rowValue_76 : decode prog_14_method_78_code 76 = .ok (.iload 5, 2) := by decide +kernel
theorem d_X12_rowValue_78 : decode prog_14_method_78_code 78 = .ok (.laload, 1) := by decide +kernel
theorem d_X12_rowValue_79 : decode prog_14_method_78_code 79 = .ok (.lcmp, 1) := by decide +kernel
theorem d_X12_rowValue_80 : decode prog_14_method_78_code 80 = .ok (.ifCond .ne 7, 3) := by decide +kernel
theorem d_X12_rowValue_83 : decode prog_14_method_78_code 83 = .ok (.lconst 0, 1) := by decide +kernel
theorem d_X12_rowValue_84 : decode prog_14_method_78_code 84 = .ok (.goto 4, 3) := by decide +kernel
theorem d_X12_rowValue_87 : decode prog_14_method_78_code 87 = .ok (.lconst 1, 1) := by decide +kernel
theorem d_X12_rowValue_88 : decode prog_14_method_78_code 88 = .ok (.ladd, 1) := by decide +kernel
theorem d_X12_rowValue_89 : decode prog_14_method_78_code 89 = .ok (.lstore_n 3, 1) := by decide +kernel
theorem d_X12_rowValue_90 : decode prog_14_method_78_code 90 = .ok (.iinc 5 1, 3) := by decide +kernel
theorem d_X12_rowValue_93 : decode prog_14_method_78_code 93 = .ok (.goto (-54), 3) := by decide +kernel
theorem d_X12_rowValue_96 : decode prog_14_method_78_code 96 = .ok (.aload_n 0, 1) := by decide +kernel
theorem d_X12_rowValue_97 : decode prog_14_method_78_code 97 = .ok (.dup, 1) := by decide +kernel
theorem d_X12_rowValue_98 : decode prog_14_method_78_code 98 = .ok (.getfield 472, 3) := by decide +kernel
theorem d_X12_rowValue_101 : decode prog_14_method_78_code 101 = .ok (.iconst 1, 1) := by decide +kernel
theorem d_X12_rowValue_102 : decode prog_14_method_78_code 102 = .ok (.iadd, 1) := by decide +kernel
theorem d_X12_rowValue_103 : decode prog_14_method_78_code 103 = .ok (.putfield 472, 3) := by decide +kernel
theorem d_X12_rowValue_106 : decode prog_14_method_78_code 106 = .ok (.lload_n 3, 1) := by decide +kernel
theorem d_X12_rowValue_107 : decode prog_14_method_78_code 107 = .ok (.lload_n 1, 1) := by decide +kernel
theorem d_X12_rowValue_108 : decode prog_14_method_78_code 108 = .ok (.lcmp, 1) := by decide +kernel
theorem d_X12_rowValue_109 : decode prog_14_method_78_code 109 = .ok (.ifCond .ge 7, 3) := by decide +kernel
theorem d_X12_rowValue_112 : decode prog_14_method_78_code 112 = .ok (.lload_n 3, 1) := by decide +kernel
theorem d_X12_rowValue_113 : decode prog_14_method_78_code 113 = .ok (.goto 4, 3) := by decide +kernel
theorem d_X12_rowValue_116 : decode prog_14_method_78_code 116 = .ok (.lload_n 1, 1) := by decide +kernel
theorem d_X12_rowValue_117 : decode prog_14_method_78_code 117 = .ok (.lstore_n 1, 1) := by decide +kernel
theorem d_X12_rowValue_118 : decode prog_14_method_78_code 118 = .ok (.goto (-108), 3) := by decide +kernel
theorem d_X12_rowValue_121 : decode prog_14_method_78_code 121 = .ok (.lload_n 1, 1) := by decide +kernel
theorem d_X12_rowValue_122 : decode prog_14_method_78_code 122 = .ok (.lreturn, 1) := by decide +kernel
theorem v_X12_rowValue_0 {E : EE} {d : Nat} {Q : Option AV → AH → Prop} {x0 : Nat} {G : AH} (h0 : 0 < d) (h : isO E G x0 12 ∧ (wpV E (d - 1) M_X12_rowOfNames [vr x0] G (fun G1 => isO E G1 x0 12 ∧ (wp E d M_X12_rowValue 10 [some (vr x0), some (vj (Int32.toInt64 (gI G1 x0 57))), none, none, none, none] [] G1 Q)))) : wp E d M_X12_rowValue 0 [some (vr x0), none, none, none, none, none] [] G Q := by
  refine wp_aload_n (pc := 0) d_X12_rowValue_0 rfl ?_
  obtain ⟨ho3, h⟩ := h
  refine wp_invV (pc := 1) (N := M_X12_rowOfNames) (As := []) (rest := []) (r := (cn_12, ct_12, 95)) d_X12_rowValue_1 ml_X12_531 mk_X12_rowOfNames mv_X12_rowOfNames h0 ho3 rfl rfl (Nat.le_of_ble_eq_true rfl) ?_
  refine wpM.mono h (fun rr G1 hr => ?_)
  obtain ⟨rfl, h⟩ := hr
  show wp E d M_X12_rowValue 4 [some (vr _), none, none, none, none, none] [] G1 Q
  refine wp_aload_n (pc := 4) d_X12_rowValue_4 rfl ?_
  obtain ⟨ho2, h⟩ := h
  refine wp_getI (pc := 5) d_X12_rowValue_5 fl_X12_528 (fun _ _ _ => rfl) ho2 ?_
  refine wp_i2l (pc := 8) d_X12_rowValue_8 ?_
  refine wp_lstore_n (pc := 9) (lv' := [some (vr _), some (vj _), none, none, none, none]) d_X12_rowValue_9 (by decide) rfl ?_
  refine wp_sub ?_ h
  exact ⟨rfl, ⟨rfl, trivial⟩⟩
theorem v_X12_rowValue_10 {E : EE} {d : Nat} {Q : Option AV → AH → Prop} {x0 : Nat} {x1 : Int64} {G : AH} (h : isO E G x0 12 ∧ (isO E G (gR G x0 8) 14 ∧ (vp_in (gI G x0 54) (gN G (gR G x0 8)) ∧ (((gI G (gR G x0 8) (Int32.toNatClampNeg (gI G x0 54))) = 41 → Q (some (vj x1)) G) ∧ (¬ ((gI G (gR G x0 8) (Int32.toNatClampNeg (gI G x0 54))) = 41) → wp E d M_X12_rowValue 39 [some (vr x0), some (vj x1), none, some (vj 0), none, some (vi 0)] [] (sI G x0 54 ((gI G x0 54) + 2)) Q))))) : wp E d M_X12_rowValue 10 [some (vr x0), some (vj x1), none, none, none, none] [] G Q := by
  refine wp_aload_n (pc := 10) d_X12_rowValue_10 rfl ?_
  obtain ⟨ho1, h⟩ := h
  refine wp_getR (pc := 11) d_X12_rowValue_11 fl_X12_31 (fun _ _ _ => rfl) ho1 ?_
  refine wp_aload_n (pc := 14) d_X12_rowValue_14 rfl ?_
  refine wp_getI (pc := 15) d_X12_rowValue_15 fl_X12_472 (fun _ _ _ => rfl) ho1 ?_
  obtain ⟨ho2, h⟩ := h
  obtain ⟨hi3, h⟩ := h
  refine wp_iald (pc := 18) d_X12_rowValue_18 ho2 hi3 ?_
  refine wp_bipush (pc := 19) (v := 41) d_X12_rowValue_19 rfl ?_
  refine wp_icmp_eq (pc := 21) (tgt := 121) d_X12_rowValue_21 (by decide) (fun hc => ?_) (fun hc => ?_)
  · have h := h.1 hc
    refine wp_lload_n (pc := 121) d_X12_rowValue_121 rfl ?_
    exact wp_lret (pc := 122) d_X12_rowValue_122 rfl h
  · have h := h.2 hc
    refine wp_aload_n (pc := 24) d_X12_rowValue_24 rfl ?_
    refine wp_dup (pc := 25) d_X12_rowValue_25 (c1_r _) ?_
    refine wp_getI (pc := 26) d_X12_rowValue_26 fl_X12_472 (fun _ _ _ => rfl) ho1 ?_
    refine wp_iconst (pc := 29) (v := 2) d_X12_rowValue_29 rfl ?_
    refine wp_iadd (pc := 30) d_X12_rowValue_30 ?_
    refine wp_putI (pc := 31) d_X12_rowValue_31 fl_X12_472 (fun _ _ _ => rfl) (Or.inl rfl) ho1 (okI_int _) ?_
    refine wp_lconst (pc := 34) (v := 0) d_X12_rowValue_34 rfl ?_
    refine wp_lstore_n (pc := 35) (lv' := [some (vr _), some (vj _), none, some (vj _), none, none]) d_X12_rowValue_35 (by decide) rfl ?_
    refine wp_iconst (pc := 36) (v := 0) d_X12_rowValue_36 rfl ?_
    refine wp_istore (pc := 37) (lv' := [some (vr _), some (vj _), none, some (vj _), none, some (vi _)]) d_X12_rowValue_37 (by decide) rfl ?_
    refine wp_sub ?_ h
    exact ⟨rfl, ⟨rfl, ⟨rfl, ⟨rfl, trivial⟩⟩⟩⟩
theorem v_X12_rowValue_39 {E : EE} {d : Nat} {Q : Option AV → AH → Prop} {x0 : Nat} {x1 : Int64} {x3 : Int64} {x5 : Int32} {G : AH} (h : isO E G x0 12 ∧ (((gI G x0 57) ≤ x5 → (x1 ≤ x3 → wp E d M_X12_rowValue 117 [some (vr x0), some (vj x1), none, some (vj x3), none, some (vi x5)] [vj x1] (sI G x0 54 ((gI G x0 54) + 1)) Q) ∧ (¬ (x1 ≤ x3) → wp E d M_X12_rowValue 117 [some (vr x0), some (vj x1), none, some (vj x3), none, some (vi x5)] [vj x3] (sI G x0 54 ((gI G x0 54) + 1)) Q)) ∧ (¬ ((gI G x0 57) ≤ x5) → (x5 ≤ 0 → wp E d M_X12_rowValue 63 [some (vr x0), some (vj x1), none, some (vj x3), none, some (vi x5)] [vi 0, vi (gI G x0 54), vr x0] G Q) ∧ (¬ (x5 ≤ 0) → wp E d M_X12_rowValue 63 [some (vr x0), some (vj x1), none, some (vj x3), none, some (vi x5)] [vi 1, vi (gI G x0 54), vr x0] G Q)))) : wp E d M_X12_rowValue 39 [some (vr x0), some (vj x1), none, some (vj x3), none, some (vi x5)] [] G Q := by
  refine wp_iload (pc := 39) d_X12_rowValue_39 rfl ?_
  refine wp_aload_n (pc := 41) d_X12_rowValue_41 rfl ?_
  obtain ⟨ho1, h⟩ := h
  refine wp_getI (pc := 42) d_X12_rowValue_42 fl_X12_528 (fun _ _ _ => rfl) ho1 ?_
  refine wp_icmp_ge (pc := 45) (tgt := 96) d_X12_rowValue_45 (by decide) (fun hc => ?_) (fun hc => ?_)
  · have h := h.1 hc
    refine wp_aload_n (pc := 96) d_X12_rowValue_96 rfl ?_
    refine wp_dup (pc := 97) d_X12_rowValue_97 (c1_r _) ?_
    refine wp_getI (pc := 98) d_X12_rowValue_98 fl_X12_472 (fun _ _ _ => rfl) ho1 ?_
    refine wp_iconst (pc := 101) (v := 1) d_X12_rowValue_101 rfl ?_
    refine wp_iadd (pc := 102) d_X12_rowValue_102 ?_
    refine wp_putI (pc := 103) d_X12_rowValue_103 fl_X12_472 (fun _ _ _ => rfl) (Or.inl rfl) ho1 (okI_int _) ?_
    refine wp_lload_n (pc := 106) d_X12_rowValue_106 rfl ?_
    refine wp_lload_n (pc := 107) d_X12_rowValue_107 rfl ?_
    refine wp_lcmp_ge (pc := 108) (tgt := 116) d_X12_rowValue_108 d_X12_rowValue_109 (by decide) (fun hc => ?_) (fun hc => ?_)
    · have h := h.1 hc
      refine wp_lload_n (pc := 116) d_X12_rowValue_116 rfl ?_
      refine wp_sub ?_ h
      exact ⟨rfl, ⟨rfl, ⟨rfl, ⟨rfl, trivial⟩⟩⟩⟩
    · have h := h.2 hc
      refine wp_lload_n (pc := 112) d_X12_rowValue_112 rfl ?_
      refine wp_goto (pc := 113) (tgt := 117) d_X12_rowValue_113 (by decide) ?_
      refine wp_sub ?_ h
      exact ⟨rfl, ⟨rfl, ⟨rfl, ⟨rfl, trivial⟩⟩⟩⟩
  · have h := h.2 hc
    refine wp_aload_n (pc := 48) d_X12_rowValue_48 rfl ?_
    refine wp_dup (pc := 49) d_X12_rowValue_49 (c1_r _) ?_
    refine wp_getI (pc := 50) d_X12_rowValue_50 fl_X12_472 (fun _ _ _ => rfl) ho1 ?_
    refine wp_iload (pc := 53) d_X12_rowValue_53 rfl ?_
    refine wp_if_le (pc := 55) (tgt := 62) d_X12_rowValue_55 (by decide) (fun hc => ?_) (fun hc => ?_)
    · have h := h.1 hc
      refine wp_iconst (pc := 62) (v := 0) d_X12_rowValue_62 rfl ?_
      refine wp_sub ?_ h
      exact ⟨rfl, ⟨rfl, ⟨rfl, ⟨rfl, trivial⟩⟩⟩⟩
    · have h := h.2 hc
      refine wp_iconst (pc := 58) (v := 1) d_X12_rowValue_58 rfl ?_
      refine wp_goto (pc := 59) (tgt := 63) d_X12_rowValue_59 (by decide) ?_
      refine wp_sub ?_ h
      exact ⟨rfl, ⟨rfl, ⟨rfl, ⟨rfl, trivial⟩⟩⟩⟩
theorem v_X12_rowValue_63 {E : EE} {d : Nat} {Q : Option AV → AH → Prop} {x0 : Nat} {x1 : Int64} {x3 : Int64} {x5 : Int32} {t0 : Nat} {t1 : Int32} {t2 : Int32} {G : AH} (h0 : 0 < d) (h : isO E G t0 12 ∧ (isO E G x0 12 ∧ (wpJ E (d - 1) M_X12_intValue [vr x0] (sI G t0 54 (t1 + t2)) (fun r2 G3 => isO E G3 x0 12 ∧ (isO E G3 (gR G3 x0 55) 15 ∧ (vp_in x5 (gN G3 (gR G3 x0 55)) ∧ ((¬ r2 = (gJ G3 (gR G3 x0 55) (Int32.toNatClampNeg x5)) → wp E d M_X12_rowValue 88 [some (vr x0), some (vj x1), none, some (vj x3), none, some (vi x5)] [vj 1, vj x3] G3 Q) ∧ (r2 = (gJ G3 (gR G3 x0 55) (Int32.toNatClampNeg x5)) → wp E d M_X12_rowValue 88 [some (vr x0), some (vj x1), none, some (vj x3), none, some (vi x5)] [vj 0, vj x3] G3 Q)))))))) : wp E d M_X12_rowValue 63 [some (vr x0), some (vj x1), none, some (vj x3), none, some (vi x5)] [vi t2, vi t1, vr t0] G Q := by
  refine wp_iadd (pc := 63) d_X12_rowValue_63 ?_
  obtain ⟨ho1, h⟩ := h
  refine wp_putI (pc := 64) d_X12_rowValue_64 fl_X12_472 (fun _ _ _ => rfl) (Or.inl rfl) ho1 (okI_int _) ?_
  refine wp_lload_n (pc := 67) d_X12_rowValue_67 rfl ?_
  refine wp_aload_n (pc := 68) d_X12_rowValue_68 rfl ?_
  obtain ⟨ho7, h⟩ := h
  refine wp_invV (pc := 69) (N := M_X12_intValue) (As := []) (rest := [vj _]) (r := (cn_12, ct_12, 95)) d_X12_rowValue_69 ml_X12_495 mk_X12_intValue mv_X12_intValue h0 ho7 rfl rfl (Nat.le_of_ble_eq_true rfl) ?_
  refine wpM.mono h (fun rr G3 hr => ?_)
  obtain ⟨r2, rfl, h⟩ := hr
  show wp E d M_X12_rowValue 72 [some (vr _), some (vj _), none, some (vj _), none, some (vi _)] [vj _, vj _] G3 Q
  refine wp_aload_n (pc := 72) d_X12_rowValue_72 rfl ?_
  obtain ⟨ho4, h⟩ := h
  refine wp_getR (pc := 73) d_X12_rowValue_73 fl_X12_127 (fun _ _ _ => rfl) ho4 ?_
  refine wp_iload (pc := 76) d_X12_rowValue_76 rfl ?_
  obtain ⟨ho5, h⟩ := h
  obtain ⟨hi6, h⟩ := h
  refine wp_lald (pc := 78) d_X12_rowValue_78 ho5 hi6 ?_
  refine wp_lcmp_ne (pc := 79) (tgt := 87) d_X12_rowValue_79 d_X12_rowValue_80 (by decide) (fun hc => ?_) (fun hc => ?_)
  · have h := h.1 hc
    refine wp_lconst (pc := 87) (v := 1) d_X12_rowValue_87 rfl ?_
    refine wp_sub ?_ h
    exact ⟨rfl, ⟨rfl, ⟨rfl, ⟨rfl, trivial⟩⟩⟩⟩
  · have h := h.2 hc
    refine wp_lconst (pc := 83) (v := 0) d_X12_rowValue_83 rfl ?_
    refine wp_goto (pc := 84) (tgt := 88) d_X12_rowValue_84 (by decide) ?_
    refine wp_sub ?_ h
    exact ⟨rfl, ⟨rfl, ⟨rfl, ⟨rfl, trivial⟩⟩⟩⟩
theorem v_X12_rowValue_88 {E : EE} {d : Nat} {Q : Option AV → AH → Prop} {x0 : Nat} {x1 : Int64} {x3 : Int64} {x5 : Int32} {t0 : Int64} {t1 : Int64} {G : AH} (h : wp E d M_X12_rowValue 39 [some (vr x0), some (vj x1), none, some (vj (t0 + t1)), none, some (vi (x5 + 1))] [] G Q) : wp E d M_X12_rowValue 88 [some (vr x0), some (vj x1), none, some (vj x3), none, some (vi x5)] [vj t1, vj t0] G Q := by
  refine wp_ladd (pc := 88) d_X12_rowValue_88 ?_
  refine wp_lstore_n (pc := 89) (lv' := [some (vr _), some (vj _), none, some (vj _), none, some (vi _)]) d_X12_rowValue_89 (by decide) rfl ?_
  refine wp_iinc (pc := 90) (v := 1) (lv' := [some (vr _), some (vj _), none, some (vj _), none, some (vi _)]) d_X12_rowValue_90 (by decide) rfl rfl rfl ?_
  refine wp_goto (pc := 93) (tgt := 39) d_X12_rowValue_93 (by decide) ?_
  refine wp_sub ?_ h
  exact ⟨rfl, ⟨rfl, ⟨rfl, ⟨rfl, trivial⟩⟩⟩⟩
theorem v_X12_rowValue_117 {E : EE} {d : Nat} {Q : Option AV → AH → Prop} {x0 : Nat} {x1 : Int64} {x3 : Int64} {x5 : Int32} {t0 : Int64} {G : AH} (h : wp E d M_X12_rowValue 10 [some (vr x0), some (vj t0), none, none, none, none] [] G Q) : wp E d M_X12_rowValue 117 [some (vr x0), some (vj x1), none, some (vj x3), none, some (vi x5)] [vj t0] G Q := by
  refine wp_lstore_n (pc := 117) (lv' := [some (vr _), some (vj _), none, some (vj _), none, some (vi _)]) d_X12_rowValue_117 (by decide) rfl ?_
  refine wp_goto (pc := 118) (tgt := 10) d_X12_rowValue_118 (by decide) ?_
  refine wp_sub ?_ h
  exact ⟨rfl, ⟨rfl, trivial⟩⟩
theorem d_X12_intValue_0 : decode prog_14_method_67_code 0 = .ok (.aload_n 0, 1) := by decide +kernel
theorem d_X12_intValue_1 : decode prog_14_method_67_code 1 = .ok (.getfield 31, 3) := by decide +kernel
theorem d_X12_intValue_4 : decode prog_14_method_67_code 4 = .ok (.aload_n 0, 1) := by decide +kernel
theorem d_X12_intValue_5 : decode prog_14_method_67_code 5 = .ok (.getfield 472, 3) := by decide +kernel
theorem d_X12_intValue_8 : decode prog_14_method_67_code 8 = .ok (.iaload, 1) := by decide +kernel
theorem d_X12_intValue_9 : decode prog_14_method_67_code 9 = .ok (.bipush 45, 2) := by decide +kernel
theorem d_X12_intValue_11 : decode prog_14_method_67_code 11 = .ok (.if_icmp .ne 7, 3) := by decide +kernel
theorem d_X12_intValue_14 : decode prog_14_method_67_code 14 = .ok (.iconst 1, 1) := by decide +kernel
theorem d_X12_intValue_15 : decode prog_14_method_67_code 15 = .ok (.goto 4, 3) := by decide +kernel
theorem d_X12_intValue_18 : decode prog_14_method_67_code 18 = .ok (.iconst 0, 1) := by decide +kernel
theorem d_X12_intValue_19 : decode prog_14_method_67_code 19 = .ok (.istore_n 1, 1) := by decide +kernel
theorem d_X12_intValue_20 : decode prog_14_method_67_code 20 = .ok (.aload_n 0, 1) := by decide +kernel
theorem d_X12_intValue_21 : decode prog_14_method_67_code 21 = .ok (.dup, 1) := by decide +kernel
theorem d_X12_intValue_22 : decode prog_14_method_67_code 22 = .ok (.getfield 472, 3) := by decide +kernel
theorem d_X12_intValue_25 : decode prog_14_method_67_code 25 = .ok (.iload_n 1, 1) := by decide +kernel
theorem d_X12_intValue_26 : decode prog_14_method_67_code 26 = .ok (.ifCond .eq 7, 3) := by decide +kernel
theorem d_X12_intValue_29 : decode prog_14_method_67_code 29 = .ok (.iconst 1, 1) := by decide +kernel
theorem d_X12_intValue_30 : decode prog_14_method_67_code 30 = .ok (.goto 4, 3) := by decide +kernel
theorem d_X12_intValue_33 : decode prog_14_method_67_code 33 = .ok (.iconst 0, 1) := by decide +kernel
theorem d_X12_intValue_34 : decode prog_14_method_67_code 34 = .ok (.iadd, 1) := by decide +kernel
theorem d_X12_intValue_35 : decode prog_14_method_67_code 35 = .ok (.putfield 472, 3) := by decide +kernel
theorem d_X12_intValue_38 : decode prog_14_method_67_code 38 = .ok (.aload_n 0, 1) := by decide +kernel
theorem d_X12_intValue_39 : decode prog_14_method_67_code 39 = .ok (.getfield 34, 3) := by decide +kernel
theorem d_X12_intValue_42 : decode prog_14_method_67_code 42 = .ok (.aload_n 0, 1) := by decide +kernel
theorem d_X12_intValue_43 : decode prog_14_method_67_code 43 = .ok (.getfield 472, 3) := by decide +kernel
theorem d_X12_intValue_46 : decode prog_14_method_67_code 46 = .ok (.iaload, 1) := by decide +kernel
theorem d_X12_intValue_47 : decode prog_14_method_67_code 47 = .ok (.istore_n 2, 1) := by decide +kernel
theorem d_X12_intValue_48 : decode prog_14_method_67_code 48 = .ok (.aload_n 0, 1) := by decide +kernel
theorem d_X12_intValue_49 : decode prog_14_method_67_code 49 = .ok (.dup, 1) := by decide +kernel
theorem d_X12_intValue_50 : decode prog_14_method_67_code 50 = .ok (.getfield 472, 3) := by decide +kernel
theorem d_X12_intValue_53 : decode prog_14_method_67_code 53 = .ok (.iconst 1, 1) := by decide +kernel
theorem d_X12_intValue_54 : decode prog_14_method_67_code 54 = .ok (.iadd, 1) := by decide +kernel
theorem d_X12_intValue_55 : decode prog_14_method_67_code 55 = .ok (.putfield 472, 3) := by decide +kernel
theorem d_X12_intValue_58 : decode prog_14_method_67_code 58 = .ok (.iload_n 1, 1) := by decide +kernel
theorem d_X12_intValue_59 : decode prog_14_method_67_code 59 = .ok (.ifCond .eq 9, 3) := by decide +kernel
theorem d_X12_intValue_62 : decode prog_14_method_67_code 62 = .ok (.iload_n 2, 1) := by decide +kernel
theorem d_X12_intValue_63 : decode prog_14_method_67_code 63 = .ok (.ineg, 1) := by decide +kernel
theorem d_X12_intValue_64 : decode prog_14_method_67_code 64 = .ok (.i2l, 1) := by decide +kernel
theorem d_X12_intValue_65 : decode prog_14_method_67_code 65 = .ok (.goto 5, 3) := by decide +kernel
theorem d_X12_intValue_68 : decode prog_14_method_67_code 68 = .ok (.iload_n 2, 1) := by decide +kernel
theorem d_X12_intValue_69 : decode prog_14_method_67_code 69 = .ok (.i2l, 1) := by decide +kernel
theorem d_X12_intValue_70 : decode prog_14_method_67_code 70 = .ok (.lreturn, 1) := by decide +kernel
theorem v_X12_intValue_0 {E : EE} {d : Nat} {Q : Option AV → AH → Prop} {x0 : Nat} {G : AH} (h : isO E G x0 12 ∧ (isO E G (gR G x0 8) 14 ∧ (vp_in (gI G x0 54) (gN G (gR G x0 8)) ∧ ((¬ (gI G (gR G x0 8) (Int32.toNatClampNeg (gI G x0 54))) = 45 → wp E d M_X12_intValue 19 [some (vr x0), none, none] [vi 0] G Q) ∧ ((gI G (gR G x0 8) (Int32.toNatClampNeg (gI G x0 54))) = 45 → wp E d M_X12_intValue 19 [some (vr x0), none, none] [vi 1] G Q))))) : wp E d M_X12_intValue 0 [some (vr x0), none, none] [] G Q := by
  refine wp_aload_n (pc := 0) d_X12_intValue_0 rfl ?_
  obtain ⟨ho1, h⟩ := h
  refine wp_getR (pc := 1) d_X12_intValue_1 fl_X12_31 (fun _ _ _ => rfl) ho1 ?_
  refine wp_aload_n (pc := 4) d_X12_intValue_4 rfl ?_
  refine wp_getI (pc := 5) d_X12_intValue_5 fl_X12_472 (fun _ _ _ => rfl) ho1 ?_
  obtain ⟨ho2, h⟩ := h
  obtain ⟨hi3, h⟩ := h
  refine wp_iald (pc := 8) d_X12_intValue_8 ho2 hi3 ?_
  refine wp_bipush (pc := 9) (v := 45) d_X12_intValue_9 rfl ?_
  refine wp_icmp_ne (pc := 11) (tgt := 18) d_X12_intValue_11 (by decide) (fun hc => ?_) (fun hc => ?_)
  · have h := h.1 hc
    refine wp_iconst (pc := 18) (v := 0) d_X12_intValue_18 rfl ?_
    refine wp_sub ?_ h
    exact ⟨rfl, trivial⟩
  · have h := h.2 hc
    refine wp_iconst (pc := 14) (v := 1) d_X12_intValue_14 rfl ?_
    refine wp_goto (pc := 15) (tgt := 19) d_X12_intValue_15 (by decide) ?_
    refine wp_sub ?_ h
    exact ⟨rfl, trivial⟩
theorem v_X12_intValue_19 {E : EE} {d : Nat} {Q : Option AV → AH → Prop} {x0 : Nat} {t0 : Int32} {G : AH} (h : isO E G x0 12 ∧ ((t0 = 0 → wp E d M_X12_intValue 34 [some (vr x0), some (vi t0), none] [vi 0, vi (gI G x0 54), vr x0] G Q) ∧ (¬ (t0 = 0) → wp E d M_X12_intValue 34 [some (vr x0), some (vi t0), none] [vi 1, vi (gI G x0 54), vr x0] G Q))) : wp E d M_X12_intValue 19 [some (vr x0), none, none] [vi t0] G Q := by
  refine wp_istore_n (pc := 19) (lv' := [some (vr _), some (vi _), none]) d_X12_intValue_19 (by decide) rfl ?_
  refine wp_aload_n (pc := 20) d_X12_intValue_20 rfl ?_
  refine wp_dup (pc := 21) d_X12_intValue_21 (c1_r _) ?_
  obtain ⟨ho1, h⟩ := h
  refine wp_getI (pc := 22) d_X12_intValue_22 fl_X12_472 (fun _ _ _ => rfl) ho1 ?_
  refine wp_iload_n (pc := 25) d_X12_intValue_25 rfl ?_
  refine wp_if_eq (pc := 26) (tgt := 33) d_X12_intValue_26 (by decide) (fun hc => ?_) (fun hc => ?_)
  · have h := h.1 hc
    refine wp_iconst (pc := 33) (v := 0) d_X12_intValue_33 rfl ?_
    refine wp_sub ?_ h
    exact ⟨rfl, ⟨rfl, trivial⟩⟩
  · have h := h.2 hc
    refine wp_iconst (pc := 29) (v := 1) d_X12_intValue_29 rfl ?_
    refine wp_goto (pc := 30) (tgt := 34) d_X12_intValue_30 (by decide) ?_
    refine wp_sub ?_ h
    exact ⟨rfl, ⟨rfl, trivial⟩⟩
theorem v_X12_intValue_34 {E : EE} {d : Nat} {Q : Option AV → AH → Prop} {x0 : Nat} {x1 : Int32} {t0 : Nat} {t1 : Int32} {t2 : Int32} {G : AH} (h : isO E G t0 12 ∧ (∀ G2 : AH, G2 = sI G t0 54 (t1 + t2) → isO E G2 x0 12 ∧ (isO E G2 (gR G2 x0 9) 14 ∧ (vp_in (gI G2 x0 54) (gN G2 (gR G2 x0 9)) ∧ (∀ G6 : AH, G6 = sI G2 x0 54 ((gI G2 x0 54) + 1) → (x1 = 0 → Q (some (vj (Int32.toInt64 (gI G2 (gR G2 x0 9) (Int32.toNatClampNeg (gI G2 x0 54)))))) G6) ∧ (¬ (x1 = 0) → Q (some (vj (Int32.toInt64 (-(gI G2 (gR G2 x0 9) (Int32.toNatClampNeg (gI G2 x0 54))))))) G6)))))) : wp E d M_X12_intValue 34 [some (vr x0), some (vi x1), none] [vi t2, vi t1, vr t0] G Q := by
  refine wp_iadd (pc := 34) d_X12_intValue_34 ?_
  obtain ⟨ho1, h⟩ := h
  refine wp_putI (pc := 35) d_X12_intValue_35 fl_X12_472 (fun _ _ _ => rfl) (Or.inl rfl) ho1 (okI_int _) ?_
  refine wp_nm (fun G2 eG2 => ?_)
  have h := h G2 eG2
  refine wp_aload_n (pc := 38) d_X12_intValue_38 rfl ?_
  obtain ⟨ho3, h⟩ := h
  refine wp_getR (pc := 39) d_X12_intValue_39 fl_X12_34 (fun _ _ _ => rfl) ho3 ?_
  refine wp_aload_n (pc := 42) d_X12_intValue_42 rfl ?_
  refine wp_getI (pc := 43) d_X12_intValue_43 fl_X12_472 (fun _ _ _ => rfl) ho3 ?_
  obtain ⟨ho4, h⟩ := h
  obtain ⟨hi5, h⟩ := h
  refine wp_iald (pc := 46) d_X12_intValue_46 ho4 hi5 ?_
  refine wp_istore_n (pc := 47) (lv' := [some (vr _), some (vi _), some (vi _)]) d_X12_intValue_47 (by decide) rfl ?_
  refine wp_aload_n (pc := 48) d_X12_intValue_48 rfl ?_
  refine wp_dup (pc := 49) d_X12_intValue_49 (c1_r _) ?_
  refine wp_getI (pc := 50) d_X12_intValue_50 fl_X12_472 (fun _ _ _ => rfl) ho3 ?_
  refine wp_iconst (pc := 53) (v := 1) d_X12_intValue_53 rfl ?_
  refine wp_iadd (pc := 54) d_X12_intValue_54 ?_
  refine wp_putI (pc := 55) d_X12_intValue_55 fl_X12_472 (fun _ _ _ => rfl) (Or.inl rfl) ho3 (okI_int _) ?_
  refine wp_nm (fun G6 eG6 => ?_)
  have h := h G6 eG6
  have ho7 := isO_sI eG6 ho3
  refine wp_iload_n (pc := 58) d_X12_intValue_58 rfl ?_
  refine wp_if_eq (pc := 59) (tgt := 68) d_X12_intValue_59 (by decide) (fun hc => ?_) (fun hc => ?_)
  · have h := h.1 hc
    refine wp_iload_n (pc := 68) d_X12_intValue_68 rfl ?_
    refine wp_i2l (pc := 69) d_X12_intValue_69 ?_
    exact wp_lret (pc := 70) d_X12_intValue_70 rfl h
  · have h := h.2 hc
    refine wp_iload_n (pc := 62) d_X12_intValue_62 rfl ?_
    refine wp_ineg (pc := 63) d_X12_intValue_63 ?_
    refine wp_i2l (pc := 64) d_X12_intValue_64 ?_
    refine wp_goto (pc := 65) (tgt := 70) d_X12_intValue_65 (by decide) ?_
    exact wp_lret (pc := 70) d_X12_intValue_70 rfl h
theorem d_X12_lexValue_0 : decode prog_14_method_79_code 0 = .ok (.aload_n 0, 1) := by decide +kernel
theorem d_X12_lexValue_1 : decode prog_14_method_79_code 1 = .ok (.invokevirtual 531, 3) := by decide +kernel
theorem d_X12_lexValue_4 : decode prog_14_method_79_code 4 = .ok (.iconst 0, 1) := by decide +kernel
theorem d_X12_lexValue_5 : decode prog_14_method_79_code 5 = .ok (.istore_n 1, 1) := by decide +kernel
theorem d_X12_lexValue_6 : decode prog_14_method_79_code 6 = .ok (.iload_n 1, 1) := by decide +kernel
theorem d_X12_lexValue_7 : decode prog_14_method_79_code 7 = .ok (.aload_n 0, 1) := by decide +kernel
theorem d_X12_lexValue_8 : decode prog_14_method_79_code 8 = .ok (.getfield 528, 3) := by decide +kernel
theorem d_X12_lexValue_11 : decode prog_14_method_79_code 11 = .ok (.if_icmp .ge 21, 3) := by decide +kernel
theorem d_X12_lexValue_14 : decode prog_14_method_79_code 14 = .ok (.aload_n 0, 1) := by decide +kernel
theorem d_X12_lexValue_15 : decode prog_14_method_79_code 15 = .ok (.getfield 131, 3) := by decide +kernel
theorem d_X12_lexValue_18 : decode prog_14_method_79_code 18 = .ok (.iload_n 1, 1) := by decide +kernel
theorem d_X12_lexValue_19 : decode prog_14_method_79_code 19 = .ok (.aload_n 0, 1) := by decide +kernel
theorem d_X12_lexValue_20 : decode prog_14_method_79_code 20 = .ok (.getfield 127, 3) := by decide +kernel
theorem d_X12_lexValue_23 : decode prog_14_method_79_code 23 = .ok (.iload_n 1, 1) := by decide +kernel
theorem d_X12_lexValue_24 : decode prog_14_method_79_code 24 = .ok (.laload, 1) := by decide +kernel
theorem d_X12_lexValue_25 : decode prog_14_method_79_code 25 = .ok (.lastore, 1) := by decide +kernel
theorem d_X12_lexValue_26 : decode prog_14_method_79_code 26 = .ok (.iinc 1 1, 3) := by decide +kernel
theorem d_X12_lexValue_29 : decode prog_14_method_79_code 29 = .ok (.goto (-23), 3) := by decide +kernel
theorem d_X12_lexValue_32 : decode prog_14_method_79_code 32 = .ok (.aload_n 0, 1) := by decide +kernel
theorem d_X12_lexValue_33 : decode prog_14_method_79_code 33 = .ok (.dup, 1) := by decide +kernel
theorem d_X12_lexValue_34 : decode prog_14_method_79_code 34 = .ok (.getfield 472, 3) := by decide +kernel
theorem d_X12_lexValue_37 : decode prog_14_method_79_code 37 = .ok (.iconst 1, 1) := by decide +kernel
theorem d_X12_lexValue_38 : decode prog_14_method_79_code 38 = .ok (.iadd, 1) := by decide +kernel
theorem d_X12_lexValue_39 : decode prog_14_method_79_code 39 = .ok (.putfield 472, 3) := by decide +kernel
theorem d_X12_lexValue_42 : decode prog_14_method_79_code 42 = .ok (.aload_n 0, 1) := by decide +kernel
theorem d_X12_lexValue_43 : decode prog_14_method_79_code 43 = .ok (.invokevirtual 531, 3) := by decide +kernel
theorem d_X12_lexValue_46 : decode prog_14_method_79_code 46 = .ok (.iconst 0, 1) := by decide +kernel
theorem d_X12_lexValue_47 : decode prog_14_method_79_code 47 = .ok (.istore_n 1, 1) := by decide +kernel
theorem d_X12_lexValue_48 : decode prog_14_method_79_code 48 = .ok (.iload_n 1, 1) := by decide +kernel
theorem d_X12_lexValue_49 : decode prog_14_method_79_code 49 = .ok (.aload_n 0, 1) := by decide +kernel
theorem d_X12_lexValue_50 : decode prog_14_method_79_code 50 = .ok (.getfield 528, 3) := by decide +kernel
theorem d_X12_lexValue_53 : decode prog_14_method_79_code 53 = .ok (.if_icmp .ge 25, 3) := by decide +kernel
theorem d_X12_lexValue_56 : decode prog_14_method_79_code 56 = .ok (.aload_n 0, 1) := by decide +kernel
theorem d_X12_lexValue_57 : decode prog_14_method_79_code 57 = .ok (.getfield 131, 3) := by decide +kernel
theorem d_X12_lexValue_60 : decode prog_14_method_79_code 60 = .ok (.iload_n 1, 1) := by decide +kernel
theorem d_X12_lexValue_61 : decode prog_14_method_79_code 61 = .ok (.laload, 1) := by decide +kernel
theorem d_X12_lexValue_62 : decode prog_14_method_79_code 62 = .ok (.aload_n 0, 1) := by decide +kernel
theorem d_X12_lexValue_63 : decode prog_14_method_79_code 63 = .ok (.getfield 127, 3) := by decide +kernel
theorem d_X12_lexValue_66 : decode prog_14_method_79_code 66 = .ok (.iload_n 1, 1) := by decide +kernel
theorem d_X12_lexValue_67 : decode prog_14_method_79_code 67 = .ok (.laload, 1) := by decide +kernel
theorem d_X12_lexValue_68 : decode prog_14_method_79_code 68 = .ok (.lcmp, 1) := by decide +kernel
theorem d_X12_lexValue_69 : decode prog_14_method_79_code 69 = .ok (.ifCond .ne 9, 3) := by decide +kernel
theorem d_X12_lexValue_72 : decode prog_14_method_79_code 72 = .ok (.iinc 1 1, 3) := by decide +kernel
theorem d_X12_lexValue_75 : decode prog_14_method_79_code 75 = .ok (.goto (-27), 3) := by decide +kernel
theorem d_X12_lexValue_78 : decode prog_14_method_79_code 78 = .ok (.iload_n 1, 1) := by decide +kernel
theorem d_X12_lexValue_79 : decode prog_14_method_79_code 79 = .ok (.aload_n 0, 1) := by decide +kernel
theorem d_X12_lexValue_80 : decode prog_14_method_79_code 80 = .ok (.getfield 528, 3) := by decide +kernel
theorem d_X12_lexValue_83 : decode prog_14_method_79_code 83 = .ok (.if_icmp .ge 23, 3) := by decide +kernel
theorem d_X12_lexValue_86 : decode prog_14_method_79_code 86 = .ok (.aload_n 0, 1) := by decide +kernel
theorem d_X12_lexValue_87 : decode prog_14_method_79_code 87 = .ok (.getfield 131, 3) := by decide +kernel
theorem d_X12_lexValue_90 : decode prog_14_method_79_code 90 = .ok (.iload_n 1, 1) := by decide +kernel
theorem d_X12_lexValue_91 : decode prog_14_method_79_code 91 = .ok (.laload, 1) := by decide +kernel
theorem d_X12_lexValue_92 : decode prog_14_method_79_code 92 = .ok (.aload_n 0, 1) := by decide +kernel
theorem d_X12_lexValue_93 : decode prog_14_method_79_code 93 = .ok (.getfield 127, 3) := by decide +kernel
theorem d_X12_lexValue_96 : decode prog_14_method_79_code 96 = .ok (.iload_n 1, 1) := by decide +kernel
theorem d_X12_lexValue_97 : decode prog_14_method_79_code 97 = .ok (.laload, 1) := by decide +kernel
theorem d_X12_lexValue_98 : decode prog_14_method_79_code 98 = .ok (.lcmp, 1) := by decide +kernel
theorem d_X12_lexValue_99 : decode prog_14_method_79_code 99 = .ok (.ifCond .le 7, 3) := by decide +kernel
theorem d_X12_lexValue_102 : decode prog_14_method_79_code 102 = .ok (.lconst 1, 1) := by decide +kernel
theorem d_X12_lexValue_103 : decode prog_14_method_79_code 103 = .ok (.goto 4, 3) := by decide +kernel
theorem d_X12_lexValue_106 : decode prog_14_method_79_code 106 = .ok (.lconst 0, 1) := by decide +kernel
theorem d_X12_lexValue_107 : decode prog_14_method_79_code 107 = .ok (.lreturn, 1) := by decide +kernel
theorem v_X12_lexValue_0 {E : EE} {d : Nat} {Q : Option AV → AH → Prop} {x0 : Nat} {G : AH} (h0 : 0 < d) (h : isO E G x0 12 ∧ (wpV E (d - 1) M_X12_rowOfNames [vr x0] G (fun G1 => wp E d M_X12_lexValue 6 [some (vr x0), some (vi 0)] [] G1 Q))) : wp E d M_X12_lexValue 0 [some (vr x0), none] [] G Q := by
  refine wp_aload_n (pc := 0) d_X12_lexValue_0 rfl ?_
  obtain ⟨ho2, h⟩ := h
  refine wp_invV (pc := 1) (N := M_X12_rowOfNames) (As := []) (rest := []) (r := (cn_12, ct_12, 95)) d_X12_lexValue_1 ml_X12_531 mk_X12_rowOfNames mv_X12_rowOfNames h0 ho2 rfl rfl (Nat.le_of_ble_eq_true rfl) ?_
  refine wpM.mono h (fun rr G1 hr => ?_)
  obtain ⟨rfl, h⟩ := hr
  show wp E d M_X12_lexValue 4 [some (vr _), none] [] G1 Q
  refine wp_iconst (pc := 4) (v := 0) d_X12_lexValue_4 rfl ?_
  refine wp_istore_n (pc := 5) (lv' := [some (vr _), some (vi _)]) d_X12_lexValue_5 (by decide) rfl ?_
  refine wp_sub ?_ h
  exact ⟨rfl, ⟨rfl, trivial⟩⟩
theorem v_X12_lexValue_6 {E : EE} {d : Nat} {Q : Option AV → AH → Prop} {x0 : Nat} {x1 : Int32} {G : AH} (h0 : 0 < d) (h : isO E G x0 12 ∧ (((gI G x0 57) ≤ x1 → wpV E (d - 1) M_X12_rowOfNames [vr x0] (sI G x0 54 ((gI G x0 54) + 1)) (fun G2 => wp E d M_X12_lexValue 48 [some (vr x0), some (vi 0)] [] G2 Q)) ∧ (¬ ((gI G x0 57) ≤ x1) → isO E G (gR G x0 55) 15 ∧ (vp_in x1 (gN G (gR G x0 55)) ∧ (isO E G (gR G x0 56) 15 ∧ (vp_in x1 (gN G (gR G x0 56)) ∧ (wp E d M_X12_lexValue 6 [some (vr x0), some (vi (x1 + 1))] [] (sJ G (gR G x0 56) (Int32.toNatClampNeg x1) (gJ G (gR G x0 55) (Int32.toNatClampNeg x1))) Q))))))) : wp E d M_X12_lexValue 6 [some (vr x0), some (vi x1)] [] G Q := by
  refine wp_iload_n (pc := 6) d_X12_lexValue_6 rfl ?_
  refine wp_aload_n (pc := 7) d_X12_lexValue_7 rfl ?_
  obtain ⟨ho1, h⟩ := h
  refine wp_getI (pc := 8) d_X12_lexValue_8 fl_X12_528 (fun _ _ _ => rfl) ho1 ?_
  refine wp_icmp_ge (pc := 11) (tgt := 32) d_X12_lexValue_11 (by decide) (fun hc => ?_) (fun hc => ?_)
  · have h := h.1 hc
    refine wp_aload_n (pc := 32) d_X12_lexValue_32 rfl ?_
    refine wp_dup (pc := 33) d_X12_lexValue_33 (c1_r _) ?_
    refine wp_getI (pc := 34) d_X12_lexValue_34 fl_X12_472 (fun _ _ _ => rfl) ho1 ?_
    refine wp_iconst (pc := 37) (v := 1) d_X12_lexValue_37 rfl ?_
    refine wp_iadd (pc := 38) d_X12_lexValue_38 ?_
    refine wp_putI (pc := 39) d_X12_lexValue_39 fl_X12_472 (fun _ _ _ => rfl) (Or.inl rfl) ho1 (okI_int _) ?_
    refine wp_aload_n (pc := 42) d_X12_lexValue_42 rfl ?_
    refine wp_invV (pc := 43) (N := M_X12_rowOfNames) (As := []) (rest := []) (r := (cn_12, ct_12, 95)) d_X12_lexValue_43 ml_X12_531 mk_X12_rowOfNames mv_X12_rowOfNames h0 ho1 rfl rfl (Nat.le_of_ble_eq_true rfl) ?_
    refine wpM.mono h (fun rr G2 hr => ?_)
    obtain ⟨rfl, h⟩ := hr
    show wp E d M_X12_lexValue 46 [some (vr _), some (vi _)] [] G2 Q
    refine wp_iconst (pc := 46) (v := 0) d_X12_lexValue_46 rfl ?_
    refine wp_istore_n (pc := 47) (lv' := [some (vr _), some (vi _)]) d_X12_lexValue_47 (by decide) rfl ?_
    refine wp_sub ?_ h
    exact ⟨rfl, ⟨rfl, trivial⟩⟩
  · have h := h.2 hc
    refine wp_aload_n (pc := 14) d_X12_lexValue_14 rfl ?_
    refine wp_getR (pc := 15) d_X12_lexValue_15 fl_X12_131 (fun _ _ _ => rfl) ho1 ?_
    refine wp_iload_n (pc := 18) d_X12_lexValue_18 rfl ?_
    refine wp_aload_n (pc := 19) d_X12_lexValue_19 rfl ?_
    refine wp_getR (pc := 20) d_X12_lexValue_20 fl_X12_127 (fun _ _ _ => rfl) ho1 ?_
    refine wp_iload_n (pc := 23) d_X12_lexValue_23 rfl ?_
    obtain ⟨ho3, h⟩ := h
    obtain ⟨hi4, h⟩ := h
    refine wp_lald (pc := 24) d_X12_lexValue_24 ho3 hi4 ?_
    obtain ⟨ho5, h⟩ := h
    obtain ⟨hi6, h⟩ := h
    refine wp_last (pc := 25) d_X12_lexValue_25 ho5 hi6 ?_
    refine wp_iinc (pc := 26) (v := 1) (lv' := [some (vr _), some (vi _)]) d_X12_lexValue_26 (by decide) rfl rfl rfl ?_
    refine wp_goto (pc := 29) (tgt := 6) d_X12_lexValue_29 (by decide) ?_
    refine wp_sub ?_ h
    exact ⟨rfl, ⟨rfl, trivial⟩⟩
theorem v_X12_lexValue_48 {E : EE} {d : Nat} {Q : Option AV → AH → Prop} {x0 : Nat} {x1 : Int32} {G : AH} (h : isO E G x0 12 ∧ (((gI G x0 57) ≤ x1 → wp E d M_X12_lexValue 78 [some (vr x0), some (vi x1)] [] G Q) ∧ (¬ ((gI G x0 57) ≤ x1) → isO E G (gR G x0 56) 15 ∧ (vp_in x1 (gN G (gR G x0 56)) ∧ (isO E G (gR G x0 55) 15 ∧ (vp_in x1 (gN G (gR G x0 55)) ∧ ((¬ (gJ G (gR G x0 56) (Int32.toNatClampNeg x1)) = (gJ G (gR G x0 55) (Int32.toNatClampNeg x1)) → wp E d M_X12_lexValue 78 [some (vr x0), some (vi x1)] [] G Q) ∧ ((gJ G (gR G x0 56) (Int32.toNatClampNeg x1)) = (gJ G (gR G x0 55) (Int32.toNatClampNeg x1)) → wp E d M_X12_lexValue 48 [some (vr x0), some (vi (x1 + 1))] [] G Q)))))))) : wp E d M_X12_lexValue 48 [some (vr x0), some (vi x1)] [] G Q := by
  refine wp_iload_n (pc := 48) d_X12_lexValue_48 rfl ?_
  refine wp_aload_n (pc := 49) d_X12_lexValue_49 rfl ?_
  obtain ⟨ho1, h⟩ := h
  refine wp_getI (pc := 50) d_X12_lexValue_50 fl_X12_528 (fun _ _ _ => rfl) ho1 ?_
  refine wp_icmp_ge (pc := 53) (tgt := 78) d_X12_lexValue_53 (by decide) (fun hc => ?_) (fun hc => ?_)
  · have h := h.1 hc
    refine wp_sub ?_ h
    exact ⟨rfl, ⟨rfl, trivial⟩⟩
  · have h := h.2 hc
    refine wp_aload_n (pc := 56) d_X12_lexValue_56 rfl ?_
    refine wp_getR (pc := 57) d_X12_lexValue_57 fl_X12_131 (fun _ _ _ => rfl) ho1 ?_
    refine wp_iload_n (pc := 60) d_X12_lexValue_60 rfl ?_
    obtain ⟨ho2, h⟩ := h
    obtain ⟨hi3, h⟩ := h
    refine wp_lald (pc := 61) d_X12_lexValue_61 ho2 hi3 ?_
    refine wp_aload_n (pc := 62) d_X12_lexValue_62 rfl ?_
    refine wp_getR (pc := 63) d_X12_lexValue_63 fl_X12_127 (fun _ _ _ => rfl) ho1 ?_
    refine wp_iload_n (pc := 66) d_X12_lexValue_66 rfl ?_
    obtain ⟨ho4, h⟩ := h
    obtain ⟨hi5, h⟩ := h
    refine wp_lald (pc := 67) d_X12_lexValue_67 ho4 hi5 ?_
    refine wp_lcmp_ne (pc := 68) (tgt := 78) d_X12_lexValue_68 d_X12_lexValue_69 (by decide) (fun hc => ?_) (fun hc => ?_)
    · have h := h.1 hc
      refine wp_sub ?_ h
      exact ⟨rfl, ⟨rfl, trivial⟩⟩
    · have h := h.2 hc
      refine wp_iinc (pc := 72) (v := 1) (lv' := [some (vr _), some (vi _)]) d_X12_lexValue_72 (by decide) rfl rfl rfl ?_
      refine wp_goto (pc := 75) (tgt := 48) d_X12_lexValue_75 (by decide) ?_
      refine wp_sub ?_ h
      exact ⟨rfl, ⟨rfl, trivial⟩⟩
theorem v_X12_lexValue_78 {E : EE} {d : Nat} {Q : Option AV → AH → Prop} {x0 : Nat} {x1 : Int32} {G : AH} (h : isO E G x0 12 ∧ (((gI G x0 57) ≤ x1 → Q (some (vj 0)) G) ∧ (¬ ((gI G x0 57) ≤ x1) → isO E G (gR G x0 56) 15 ∧ (vp_in x1 (gN G (gR G x0 56)) ∧ (isO E G (gR G x0 55) 15 ∧ (vp_in x1 (gN G (gR G x0 55)) ∧ (((gJ G (gR G x0 56) (Int32.toNatClampNeg x1)) ≤ (gJ G (gR G x0 55) (Int32.toNatClampNeg x1)) → Q (some (vj 0)) G) ∧ (¬ ((gJ G (gR G x0 56) (Int32.toNatClampNeg x1)) ≤ (gJ G (gR G x0 55) (Int32.toNatClampNeg x1))) → Q (some (vj 1)) G)))))))) : wp E d M_X12_lexValue 78 [some (vr x0), some (vi x1)] [] G Q := by
  refine wp_iload_n (pc := 78) d_X12_lexValue_78 rfl ?_
  refine wp_aload_n (pc := 79) d_X12_lexValue_79 rfl ?_
  obtain ⟨ho1, h⟩ := h
  refine wp_getI (pc := 80) d_X12_lexValue_80 fl_X12_528 (fun _ _ _ => rfl) ho1 ?_
  refine wp_icmp_ge (pc := 83) (tgt := 106) d_X12_lexValue_83 (by decide) (fun hc => ?_) (fun hc => ?_)
  · have h := h.1 hc
    refine wp_lconst (pc := 106) (v := 0) d_X12_lexValue_106 rfl ?_
    exact wp_lret (pc := 107) d_X12_lexValue_107 rfl h
  · have h := h.2 hc
    refine wp_aload_n (pc := 86) d_X12_lexValue_86 rfl ?_
    refine wp_getR (pc := 87) d_X12_lexValue_87 fl_X12_131 (fun _ _ _ => rfl) ho1 ?_
    refine wp_iload_n (pc := 90) d_X12_lexValue_90 rfl ?_
    obtain ⟨ho2, h⟩ := h
    obtain ⟨hi3, h⟩ := h
    refine wp_lald (pc := 91) d_X12_lexValue_91 ho2 hi3 ?_
    refine wp_aload_n (pc := 92) d_X12_lexValue_92 rfl ?_
    refine wp_getR (pc := 93) d_X12_lexValue_93 fl_X12_127 (fun _ _ _ => rfl) ho1 ?_
    refine wp_iload_n (pc := 96) d_X12_lexValue_96 rfl ?_
    obtain ⟨ho4, h⟩ := h
    obtain ⟨hi5, h⟩ := h
    refine wp_lald (pc := 97) d_X12_lexValue_97 ho4 hi5 ?_
    refine wp_lcmp_le (pc := 98) (tgt := 106) d_X12_lexValue_98 d_X12_lexValue_99 (by decide) (fun hc => ?_) (fun hc => ?_)
    · have h := h.1 hc
      refine wp_lconst (pc := 106) (v := 0) d_X12_lexValue_106 rfl ?_
      exact wp_lret (pc := 107) d_X12_lexValue_107 rfl h
    · have h := h.2 hc
      refine wp_lconst (pc := 102) (v := 1) d_X12_lexValue_102 rfl ?_
      refine wp_goto (pc := 103) (tgt := 107) d_X12_lexValue_103 (by decide) ?_
      exact wp_lret (pc := 107) d_X12_lexValue_107 rfl h
theorem d_X12_ringValue_0 : decode prog_14_method_80_code 0 = .ok (.aload_n 0, 1) := by decide +kernel
theorem d_X12_ringValue_1 : decode prog_14_method_80_code 1 = .ok (.invokevirtual 531, 3) := by decide +kernel
theorem d_X12_ringValue_4 : decode prog_14_method_80_code 4 = .ok (.iconst 0, 1) := by decide +kernel
theorem d_X12_ringValue_5 : decode prog_14_method_80_code 5 = .ok (.istore_n 1, 1) := by decide +kernel
theorem d_X12_ringValue_6 : decode prog_14_method_80_code 6 = .ok (.iconst (-1), 1) := by decide +kernel
theorem d_X12_ringValue_7 : decode prog_14_method_80_code 7 = .ok (.istore_n 2, 1) := by decide +kernel
theorem d_X12_ringValue_8 : decode prog_14_method_80_code 8 = .ok (.iconst 0, 1) := by decide +kernel
theorem d_X12_ringValue_9 : decode prog_14_method_80_code 9 = .ok (.istore_n 3, 1) := by decide +kernel
theorem d_X12_ringValue_10 : decode prog_14_method_80_code 10 = .ok (.iload_n 3, 1) := by decide +kernel
theorem d_X12_ringValue_11 : decode prog_14_method_80_code 11 = .ok (.aload_n 0, 1) := by decide +kernel
theorem d_X12_ringValue_12 : decode prog_14_method_80_code 12 = .ok (.getfield 528, 3) := by decide +kernel
theorem d_X12_ringValue_15 : decode prog_14_method_80_code 15 = .ok (.if_icmp .ge 54, 3) := by decide +kernel
theorem d_X12_ringValue_18 : decode prog_14_method_80_code 18 = .ok (.aload_n 0, 1) := by decide +kernel
theorem d_X12_ringValue_19 : decode prog_14_method_80_code 19 = .ok (.getfield 127, 3) := by decide +kernel
theorem d_X12_ringValue_22 : decode prog_14_method_80_code 22 = .ok (.iload_n 3, 1) := by decide +kernel
theorem d_X12_ringValue_23 : decode prog_14_method_80_code 23 = .ok (.laload, 1) := by decide +kernel
theorem d_X12_ringValue_24 : decode prog_14_method_80_code 24 = .ok (.lconst 0, 1) := by decide +kernel
theorem d_X12_ringValue_25 : decode prog_14_method_80_code 25 = .ok (.lcmp, 1) := by decide +kernel
theorem d_X12_ringValue_26 : decode prog_14_method_80_code 26 = .ok (.ifCond .lt 18, 3) := by decide +kernel
theorem d_X12_ringValue_29 : decode prog_14_method_80_code 29 = .ok (.aload_n 0, 1) := by decide +kernel
theorem d_X12_ringValue_30 : decode prog_14_method_80_code 30 = .ok (.getfield 127, 3) := by decide +kernel
theorem d_X12_ringValue_33 : decode prog_14_method_80_code 33 = .ok (.iload_n 3, 1) := by decide +kernel
theorem d_X12_ringValue_34 : decode prog_14_method_80_code 34 = .ok (.laload, 1) := by decide +kernel
theorem d_X12_ringValue_35 : decode prog_14_method_80_code 35 = .ok (.aload_n 0, 1) := by decide +kernel
theorem d_X12_ringValue_36 : decode prog_14_method_80_code 36 = .ok (.getfield 528, 3) := by decide +kernel
theorem d_X12_ringValue_39 : decode prog_14_method_80_code 39 = .ok (.i2l, 1) := by decide +kernel
theorem d_X12_ringValue_40 : decode prog_14_method_80_code 40 = .ok (.lcmp, 1) := by decide +kernel
theorem d_X12_ringValue_41 : decode prog_14_method_80_code 41 = .ok (.ifCond .lt 5, 3) := by decide +kernel
theorem d_X12_ringValue_44 : decode prog_14_method_80_code 44 = .ok (.lconst 1, 1) := by decide +kernel
theorem d_X12_ringValue_45 : decode prog_14_method_80_code 45 = .ok (.lreturn, 1) := by decide +kernel
theorem d_X12_ringValue_46 : decode prog_14_method_80_code 46 = .ok (.aload_n 0, 1) := by decide +kernel
theorem d_X12_ringValue_47 : decode prog_14_method_80_code 47 = .ok (.getfield 127, 3) := by decide +kernel
theorem d_X12_ringValue_50 : decode prog_14_method_80_code 50 = .ok (.iload_n 3, 1) := by decide +kernel
theorem d_X12_ringValue_51 : decode prog_14_method_80_code 51 = .ok (.laload, 1) := by decide +kernel
theorem d_X12_ringValue_52 : decode prog_14_method_80_code 52 = .ok (.iload_n 3, 1) := by decide +kernel
theorem d_X12_ringValue_53 : decode prog_14_method_80_code 53 = .ok (.i2l, 1) := by decide +kernel
theorem d_X12_ringValue_54 : decode prog_14_method_80_code 54 = .ok (.lcmp, 1) := by decide +kernel
theorem d_X12_ringValue_55 : decode prog_14_method_80_code 55 = .ok (.ifCond .eq 8, 3) := by decide +kernel
theorem d_X12_ringValue_58 : decode prog_14_method_80_code 58 = .ok (.iinc 1 1, 3) := by decide +kernel
theorem d_X12_ringValue_61 : decode prog_14_method_80_code 61 = .ok (.iload_n 3, 1) := by decide +kernel
theorem d_X12_ringValue_62 : decode prog_14_method_80_code 62 = .ok (.istore_n 2, 1) := by decide +kernel
theorem d_X12_ringValue_63 : decode prog_14_method_80_code 63 = .ok (.iinc 3 1, 3) := by decide +kernel
theorem d_X12_ringValue_66 : decode prog_14_method_80_code 66 = .ok (.goto (-56), 3) := by decide +kernel
theorem d_X12_ringValue_69 : decode prog_14_method_80_code 69 = .ok (.aload_n 0, 1) := by decide +kernel
theorem d_X12_ringValue_70 : decode prog_14_method_80_code 70 = .ok (.invokevirtual 534, 3) := by decide +kernel
theorem d_X12_ringValue_73 : decode prog_14_method_80_code 73 = .ok (.aload_n 0, 1) := by decide +kernel
theorem d_X12_ringValue_74 : decode prog_14_method_80_code 74 = .ok (.getfield 528, 3) := by decide +kernel
theorem d_X12_ringValue_77 : decode prog_14_method_80_code 77 = .ok (.if_icmp .ge 5, 3) := by decide +kernel
theorem d_X12_ringValue_80 : decode prog_14_method_80_code 80 = .ok (.lconst 1, 1) := by decide +kernel
theorem d_X12_ringValue_81 : decode prog_14_method_80_code 81 = .ok (.lreturn, 1) := by decide +kernel
theorem d_X12_ringValue_82 : decode prog_14_method_80_code 82 = .ok (.iconst 0, 1) := by decide +kernel
theorem d_X12_ringValue_83 : decode prog_14_method_80_code 83 = .ok (.istore_n 3, 1) := by decide +kernel
theorem d_X12_ringValue_84 : decode prog_14_method_80_code 84 = .ok (.iload_n 2, 1) := by decide +kernel
theorem d_X12_ringValue_85 : decode prog_14_method_80_code 85 = .ok (.istore 4, 2) := by decide +kernel
theorem d_X12_ringValue_87 : decode prog_14_method_80_code 87 = .ok (.iload_n 2, 1) := by decide +kernel
theorem d_X12_ringValue_88 : decode prog_14_method_80_code 88 = .ok (.ifCond .lt 29, 3) := by decide +kernel
theorem d_X12_ringValue_91 : decode prog_14_method_80_code 91 = .ok (.iload_n 3, 1) := by decide +kernel
theorem d_X12_ringValue_92 : decode prog_14_method_80_code 92 = .ok (.ifCond .eq 9, 3) := by decide +kernel
theorem d_X12_ringValue_95 : decode prog_14_method_80_code 95 = .ok (.iload 4, 2) := by decide +kernel
theorem d_X12_ringValue_97 : decode prog_14_method_80_code 97 = .ok (.iload_n 2, 1) := by decide +kernel
theorem d_X12_ringValue_98 : decode prog_14_method_80_code 98 = .ok (.if_icmp .eq 19, 3) := by decide +kernel
theorem d_X12_ringValue_101 : decode prog_14_method_80_code 101 = .ok (.aload_n 0, 1) := by decide +kernel
theorem d_X12_ringValue_102 : decode prog_14_method_80_code 102 = .ok (.getfield 127, 3) := by decide +kernel
theorem d_X12_ringValue_105 : decode prog_14_method_80_code 105 = .ok (.iload 4, 2) := by decide +kernel
theorem d_X12_ringValue_107 : decode prog_14_method_80_code 107 = .ok (.laload, 1) := by decide +kernel
theorem d_X12_ringValue_108 : decode prog_14_method_80_code 108 = .ok (.l2i, 1) := by decide +kernel
theorem d_X12_ringValue_109 : decode prog_14_method_80_code 109 = .ok (.istore 4, 2) := by decide +kernel
theorem d_X12_ringValue_111 : decode prog_14_method_80_code 111 = .ok (.iinc 3 1, 3) := by decide +kernel
theorem d_X12_ringValue_114 : decode prog_14_method_80_code 114 = .ok (.goto (-27), 3) := by decide +kernel
theorem d_X12_ringValue_117 : decode prog_14_method_80_code 117 = .ok (.iload_n 3, 1) := by decide +kernel
theorem d_X12_ringValue_118 : decode prog_14_method_80_code 118 = .ok (.iload_n 1, 1) := by decide +kernel
theorem d_X12_ringValue_119 : decode prog_14_method_80_code 119 = .ok (.if_icmp .ne 7, 3) := by decide +kernel
theorem d_X12_ringValue_122 : decode prog_14_method_80_code 122 = .ok (.lconst 0, 1) := by decide +kernel
theorem d_X12_ringValue_123 : decode prog_14_method_80_code 123 = .ok (.goto 4, 3) := by decide +kernel
theorem d_X12_ringValue_126 : decode prog_14_method_80_code 126 = .ok (.lconst 1, 1) := by decide +kernel
theorem d_X12_ringValue_127 : decode prog_14_method_80_code 127 = .ok (.lreturn, 1) := by decide +kernel
theorem v_X12_ringValue_0 {E : EE} {d : Nat} {Q : Option AV → AH → Prop} {x0 : Nat} {G : AH} (h0 : 0 < d) (h : isO E G x0 12 ∧ (wpV E (d - 1) M_X12_rowOfNames [vr x0] G (fun G1 => wp E d M_X12_ringValue 10 [some (vr x0), some (vi 0), some (vi (-1)), some (vi 0), none] [] G1 Q))) : wp E d M_X12_ringValue 0 [some (vr x0), none, none, none, none] [] G Q := by
  refine wp_aload_n (pc := 0) d_X12_ringValue_0 rfl ?_
  obtain ⟨ho2, h⟩ := h
  refine wp_invV (pc := 1) (N := M_X12_rowOfNames) (As := []) (rest := []) (r := (cn_12, ct_12, 95)) d_X12_ringValue_1 ml_X12_531 mk_X12_rowOfNames mv_X12_rowOfNames h0 ho2 rfl rfl (Nat.le_of_ble_eq_true rfl) ?_
  refine wpM.mono h (fun rr G1 hr => ?_)
  obtain ⟨rfl, h⟩ := hr
  show wp E d M_X12_ringValue 4 [some (vr _), none, none, none, none] [] G1 Q
  refine wp_iconst (pc := 4) (v := 0) d_X12_ringValue_4 rfl ?_
  refine wp_istore_n (pc := 5) (lv' := [some (vr _), some (vi _), none, none, none]) d_X12_ringValue_5 (by decide) rfl ?_
  refine wp_iconst (pc := 6) (v := (-1)) d_X12_ringValue_6 rfl ?_
  refine wp_istore_n (pc := 7) (lv' := [some (vr _), some (vi _), some (vi _), none, none]) d_X12_ringValue_7 (by decide) rfl ?_
  refine wp_iconst (pc := 8) (v := 0) d_X12_ringValue_8 rfl ?_
  refine wp_istore_n (pc := 9) (lv' := [some (vr _), some (vi _), some (vi _), some (vi _), none]) d_X12_ringValue_9 (by decide) rfl ?_
  refine wp_sub ?_ h
  exact ⟨rfl, ⟨rfl, ⟨rfl, ⟨rfl, trivial⟩⟩⟩⟩
theorem v_X12_ringValue_10 {E : EE} {d : Nat} {Q : Option AV → AH → Prop} {x0 : Nat} {x1 : Int32} {x2 : Int32} {x3 : Int32} {G : AH} (h0 : 0 < d) (h : isO E G x0 12 ∧ (((gI G x0 57) ≤ x3 → wpI E (d - 1) M_X12_different [vr x0] G (fun r2 G3 => isO E G3 x0 12 ∧ (((gI G3 x0 57) ≤ r2 → wp E d M_X12_ringValue 87 [some (vr x0), some (vi x1), some (vi x2), some (vi 0), some (vi x2)] [] G3 Q) ∧ (¬ ((gI G3 x0 57) ≤ r2) → Q (some (vj 1)) G3)))) ∧ (¬ ((gI G x0 57) ≤ x3) → isO E G (gR G x0 55) 15 ∧ (vp_in x3 (gN G (gR G x0 55)) ∧ (((gJ G (gR G x0 55) (Int32.toNatClampNeg x3)) < 0 → Q (some (vj 1)) G) ∧ (¬ ((gJ G (gR G x0 55) (Int32.toNatClampNeg x3)) < 0) → vp_in x3 (gN G (gR G x0 55)) ∧ (((gJ G (gR G x0 55) (Int32.toNatClampNeg x3)) < (Int32.toInt64 (gI G x0 57)) → vp_in x3 (gN G (gR G x0 55)) ∧ (((gJ G (gR G x0 55) (Int32.toNatClampNeg x3)) = (Int32.toInt64 x3) → wp E d M_X12_ringValue 63 [some (vr x0), some (vi x1), some (vi x2), some (vi x3), none] [] G Q) ∧ (¬ ((gJ G (gR G x0 55) (Int32.toNatClampNeg x3)) = (Int32.toInt64 x3)) → wp E d M_X12_ringValue 63 [some (vr x0), some (vi (x1 + 1)), some (vi x3), some (vi x3), none] [] G Q))) ∧ (¬ ((gJ G (gR G x0 55) (Int32.toNatClampNeg x3)) < (Int32.toInt64 (gI G x0 57))) → Q (some (vj 1)) G)))))))) : wp E d M_X12_ringValue 10 [some (vr x0), some (vi x1), some (vi x2), some (vi x3), none] [] G Q := by
  refine wp_iload_n (pc := 10) d_X12_ringValue_10 rfl ?_
  refine wp_aload_n (pc := 11) d_X12_ringValue_11 rfl ?_
  obtain ⟨ho1, h⟩ := h
  refine wp_getI (pc := 12) d_X12_ringValue_12 fl_X12_528 (fun _ _ _ => rfl) ho1 ?_
  refine wp_icmp_ge (pc := 15) (tgt := 69) d_X12_ringValue_15 (by decide) (fun hc => ?_) (fun hc => ?_)
  · have h := h.1 hc
    refine wp_aload_n (pc := 69) d_X12_ringValue_69 rfl ?_
    refine wp_invV (pc := 70) (N := M_X12_different) (As := []) (rest := []) (r := (cn_12, ct_12, 95)) d_X12_ringValue_70 ml_X12_534 mk_X12_different mv_X12_different h0 ho1 rfl rfl (Nat.le_of_ble_eq_true rfl) ?_
    refine wpM.mono h (fun rr G3 hr => ?_)
    obtain ⟨r2, rfl, h⟩ := hr
    show wp E d M_X12_ringValue 73 [some (vr _), some (vi _), some (vi _), some (vi _), none] [vi _] G3 Q
    refine wp_aload_n (pc := 73) d_X12_ringValue_73 rfl ?_
    obtain ⟨ho4, h⟩ := h
    refine wp_getI (pc := 74) d_X12_ringValue_74 fl_X12_528 (fun _ _ _ => rfl) ho4 ?_
    refine wp_icmp_ge (pc := 77) (tgt := 82) d_X12_ringValue_77 (by decide) (fun hc => ?_) (fun hc => ?_)
    · have h := h.1 hc
      refine wp_iconst (pc := 82) (v := 0) d_X12_ringValue_82 rfl ?_
      refine wp_istore_n (pc := 83) (lv' := [some (vr _), some (vi _), some (vi _), some (vi _), none]) d_X12_ringValue_83 (by decide) rfl ?_
      refine wp_iload_n (pc := 84) d_X12_ringValue_84 rfl ?_
      refine wp_istore (pc := 85) (lv' := [some (vr _), some (vi _), some (vi _), some (vi _), some (vi _)]) d_X12_ringValue_85 (by decide) rfl ?_
      refine wp_sub ?_ h
      exact ⟨rfl, ⟨rfl, ⟨rfl, ⟨rfl, ⟨rfl, trivial⟩⟩⟩⟩⟩
    · have h := h.2 hc
      refine wp_lconst (pc := 80) (v := 1) d_X12_ringValue_80 rfl ?_
      exact wp_lret (pc := 81) d_X12_ringValue_81 rfl h
  · have h := h.2 hc
    refine wp_aload_n (pc := 18) d_X12_ringValue_18 rfl ?_
    refine wp_getR (pc := 19) d_X12_ringValue_19 fl_X12_127 (fun _ _ _ => rfl) ho1 ?_
    refine wp_iload_n (pc := 22) d_X12_ringValue_22 rfl ?_
    obtain ⟨ho5, h⟩ := h
    obtain ⟨hi6, h⟩ := h
    refine wp_lald (pc := 23) d_X12_ringValue_23 ho5 hi6 ?_
    refine wp_lconst (pc := 24) (v := 0) d_X12_ringValue_24 rfl ?_
    refine wp_lcmp_lt (pc := 25) (tgt := 44) d_X12_ringValue_25 d_X12_ringValue_26 (by decide) (fun hc => ?_) (fun hc => ?_)
    · have h := h.1 hc
      refine wp_lconst (pc := 44) (v := 1) d_X12_ringValue_44 rfl ?_
      exact wp_lret (pc := 45) d_X12_ringValue_45 rfl h
    · have h := h.2 hc
      refine wp_aload_n (pc := 29) d_X12_ringValue_29 rfl ?_
      refine wp_getR (pc := 30) d_X12_ringValue_30 fl_X12_127 (fun _ _ _ => rfl) ho1 ?_
      refine wp_iload_n (pc := 33) d_X12_ringValue_33 rfl ?_
      obtain ⟨hi7, h⟩ := h
      refine wp_lald (pc := 34) d_X12_ringValue_34 ho5 hi7 ?_
      refine wp_aload_n (pc := 35) d_X12_ringValue_35 rfl ?_
      refine wp_getI (pc := 36) d_X12_ringValue_36 fl_X12_528 (fun _ _ _ => rfl) ho1 ?_
      refine wp_i2l (pc := 39) d_X12_ringValue_39 ?_
      refine wp_lcmp_lt (pc := 40) (tgt := 46) d_X12_ringValue_40 d_X12_ringValue_41 (by decide) (fun hc => ?_) (fun hc => ?_)
      · have h := h.1 hc
        refine wp_aload_n (pc := 46) d_X12_ringValue_46 rfl ?_
        refine wp_getR (pc := 47) d_X12_ringValue_47 fl_X12_127 (fun _ _ _ => rfl) ho1 ?_
        refine wp_iload_n (pc := 50) d_X12_ringValue_50 rfl ?_
        obtain ⟨hi8, h⟩ := h
        refine wp_lald (pc := 51) d_X12_ringValue_51 ho5 hi8 ?_
        refine wp_iload_n (pc := 52) d_X12_ringValue_52 rfl ?_
        refine wp_i2l (pc := 53) d_X12_ringValue_53 ?_
        refine wp_lcmp_eq (pc := 54) (tgt := 63) d_X12_ringValue_54 d_X12_ringValue_55 (by decide) (fun hc => ?_) (fun hc => ?_)
        · have h := h.1 hc
          refine wp_sub ?_ h
          exact ⟨rfl, ⟨rfl, ⟨rfl, ⟨rfl, trivial⟩⟩⟩⟩
        · have h := h.2 hc
          refine wp_iinc (pc := 58) (v := 1) (lv' := [some (vr _), some (vi _), some (vi _), some (vi _), none]) d_X12_ringValue_58 (by decide) rfl rfl rfl ?_
          refine wp_iload_n (pc := 61) d_X12_ringValue_61 rfl ?_
          refine wp_istore_n (pc := 62) (lv' := [some (vr _), some (vi _), some (vi _), some (vi _), none]) d_X12_ringValue_62 (by decide) rfl ?_
          refine wp_sub ?_ h
          exact ⟨rfl, ⟨rfl, ⟨rfl, ⟨rfl, trivial⟩⟩⟩⟩
      · have h := h.2 hc
        refine wp_lconst (pc := 44) (v := 1) d_X12_ringValue_44 rfl ?_
        exact wp_lret (pc := 45) d_X12_ringValue_45 rfl h
theorem v_X12_ringValue_63 {E : EE} {d : Nat} {Q : Option AV → AH → Prop} {x0 : Nat} {x1 : Int32} {x2 : Int32} {x3 : Int32} {G : AH} (h : wp E d M_X12_ringValue 10 [some (vr x0), some (vi x1), some (vi x2), some (vi (x3 + 1)), none] [] G Q) : wp E d M_X12_ringValue 63 [some (vr x0), some (vi x1), some (vi x2), some (vi x3), none] [] G Q := by
  refine wp_iinc (pc := 63) (v := 1) (lv' := [some (vr _), some (vi _), some (vi _), some (vi _), none]) d_X12_ringValue_63 (by decide) rfl rfl rfl ?_
  refine wp_goto (pc := 66) (tgt := 10) d_X12_ringValue_66 (by decide) ?_
  refine wp_sub ?_ h
  exact ⟨rfl, ⟨rfl, ⟨rfl, ⟨rfl, trivial⟩⟩⟩⟩
theorem v_X12_ringValue_87 {E : EE} {d : Nat} {Q : Option AV → AH → Prop} {x0 : Nat} {x1 : Int32} {x2 : Int32} {x3 : Int32} {x4 : Int32} {G : AH} (h : (x2 < 0 → wp E d M_X12_ringValue 117 [some (vr x0), some (vi x1), some (vi x2), some (vi x3), some (vi x4)] [] G Q) ∧ (¬ (x2 < 0) → (x3 = 0 → wp E d M_X12_ringValue 101 [some (vr x0), some (vi x1), some (vi x2), some (vi x3), some (vi x4)] [] G Q) ∧ (¬ (x3 = 0) → (x4 = x2 → wp E d M_X12_ringValue 117 [some (vr x0), some (vi x1), some (vi x2), some (vi x3), some (vi x4)] [] G Q) ∧ (¬ (x4 = x2) → wp E d M_X12_ringValue 101 [some (vr x0), some (vi x1), some (vi x2), some (vi x3), some (vi x4)] [] G Q)))) : wp E d M_X12_ringValue 87 [some (vr x0), some (vi x1), some (vi x2), some (vi x3), some (vi x4)] [] G Q := by
  refine wp_iload_n (pc := 87) d_X12_ringValue_87 rfl ?_
  refine wp_if_lt (pc := 88) (tgt := 117) d_X12_ringValue_88 (by decide) (fun hc => ?_) (fun hc => ?_)
  · have h := h.1 hc
    refine wp_sub ?_ h
    exact ⟨rfl, ⟨rfl, ⟨rfl, ⟨rfl, ⟨rfl, trivial⟩⟩⟩⟩⟩
  · have h := h.2 hc
    refine wp_iload_n (pc := 91) d_X12_ringValue_91 rfl ?_
    refine wp_if_eq (pc := 92) (tgt := 101) d_X12_ringValue_92 (by decide) (fun hc => ?_) (fun hc => ?_)
    · have h := h.1 hc
      refine wp_sub ?_ h
      exact ⟨rfl, ⟨rfl, ⟨rfl, ⟨rfl, ⟨rfl, trivial⟩⟩⟩⟩⟩
    · have h := h.2 hc
      refine wp_iload (pc := 95) d_X12_ringValue_95 rfl ?_
      refine wp_iload_n (pc := 97) d_X12_ringValue_97 rfl ?_
      refine wp_icmp_eq (pc := 98) (tgt := 117) d_X12_ringValue_98 (by decide) (fun hc => ?_) (fun hc => ?_)
      · have h := h.1 hc
        refine wp_sub ?_ h
        exact ⟨rfl, ⟨rfl, ⟨rfl, ⟨rfl, ⟨rfl, trivial⟩⟩⟩⟩⟩
      · have h := h.2 hc
        refine wp_sub ?_ h
        exact ⟨rfl, ⟨rfl, ⟨rfl, ⟨rfl, ⟨rfl, trivial⟩⟩⟩⟩⟩
theorem v_X12_ringValue_101 {E : EE} {d : Nat} {Q : Option AV → AH → Prop} {x0 : Nat} {x1 : Int32} {x2 : Int32} {x3 : Int32} {x4 : Int32} {G : AH} (h : isO E G x0 12 ∧ (isO E G (gR G x0 55) 15 ∧ (vp_in x4 (gN G (gR G x0 55)) ∧ (wp E d M_X12_ringValue 87 [some (vr x0), some (vi x1), some (vi x2), some (vi (x3 + 1)), some (vi (Int64.toInt32 (gJ G (gR G x0 55) (Int32.toNatClampNeg x4))))] [] G Q)))) : wp E d M_X12_ringValue 101 [some (vr x0), some (vi x1), some (vi x2), some (vi x3), some (vi x4)] [] G Q := by
  refine wp_aload_n (pc := 101) d_X12_ringValue_101 rfl ?_
  obtain ⟨ho1, h⟩ := h
  refine wp_getR (pc := 102) d_X12_ringValue_102 fl_X12_127 (fun _ _ _ => rfl) ho1 ?_
  refine wp_iload (pc := 105) d_X12_ringValue_105 rfl ?_
  obtain ⟨ho2, h⟩ := h
  obtain ⟨hi3, h⟩ := h
  refine wp_lald (pc := 107) d_X12_ringValue_107 ho2 hi3 ?_
  refine wp_l2i (pc := 108) d_X12_ringValue_108 ?_
  refine wp_istore (pc := 109) (lv' := [some (vr _), some (vi _), some (vi _), some (vi _), some (vi _)]) d_X12_ringValue_109 (by decide) rfl ?_
  refine wp_iinc (pc := 111) (v := 1) (lv' := [some (vr _), some (vi _), some (vi _), some (vi _), some (vi _)]) d_X12_ringValue_111 (by decide) rfl rfl rfl ?_
  refine wp_goto (pc := 114) (tgt := 87) d_X12_ringValue_114 (by decide) ?_
  refine wp_sub ?_ h
  exact ⟨rfl, ⟨rfl, ⟨rfl, ⟨rfl, ⟨rfl, trivial⟩⟩⟩⟩⟩
theorem v_X12_ringValue_117 {E : EE} {d : Nat} {Q : Option AV → AH → Prop} {x0 : Nat} {x1 : Int32} {x2 : Int32} {x3 : Int32} {x4 : Int32} {G : AH} (h : (¬ x3 = x1 → Q (some (vj 1)) G) ∧ (x3 = x1 → Q (some (vj 0)) G)) : wp E d M_X12_ringValue 117 [some (vr x0), some (vi x1), some (vi x2), some (vi x3), some (vi x4)] [] G Q := by
  refine wp_iload_n (pc := 117) d_X12_ringValue_117 rfl ?_
  refine wp_iload_n (pc := 118) d_X12_ringValue_118 rfl ?_
  refine wp_icmp_ne (pc := 119) (tgt := 126) d_X12_ringValue_119 (by decide) (fun hc => ?_) (fun hc => ?_)
  · have h := h.1 hc
    refine wp_lconst (pc := 126) (v := 1) d_X12_ringValue_126 rfl ?_
    exact wp_lret (pc := 127) d_X12_ringValue_127 rfl h
  · have h := h.2 hc
    refine wp_lconst (pc := 122) (v := 0) d_X12_ringValue_122 rfl ?_
    refine wp_goto (pc := 123) (tgt := 127) d_X12_ringValue_123 (by decide) ?_
    exact wp_lret (pc := 127) d_X12_ringValue_127 rfl h
theorem d_X12_autoValue_0 : decode prog_14_method_81_code 0 = .ok (.aload_n 0, 1) := by decide +kernel
theorem d_X12_autoValue_1 : decode prog_14_method_81_code 1 = .ok (.invokevirtual 531, 3) := by decide +kernel
theorem d_X12_autoValue_4 : decode prog_14_method_81_code 4 = .ok (.aload_n 0, 1) := by decide +kernel
theorem d_X12_autoValue_5 : decode prog_14_method_81_code 5 = .ok (.getfield 472, 3) := by decide +kernel
theorem d_X12_autoValue_8 : decode prog_14_method_81_code 8 = .ok (.istore_n 1, 1) := by decide +kernel
theorem d_X12_autoValue_9 : decode prog_14_method_81_code 9 = .ok (.iconst 0, 1) := by decide +kernel
theorem d_X12_autoValue_10 : decode prog_14_method_81_code 10 = .ok (.istore_n 2, 1) := by decide +kernel
theorem d_X12_autoValue_11 : decode prog_14_method_81_code 11 = .ok (.iconst 0, 1) := by decide +kernel
theorem d_X12_autoValue_12 : decode prog_14_method_81_code 12 = .ok (.istore_n 3, 1) := by decide +kernel
theorem d_X12_autoValue_13 : decode prog_14_method_81_code 13 = .ok (.iload_n 3, 1) := by decide +kernel
theorem d_X12_autoValue_14 : decode prog_14_method_81_code 14 = .ok (.aload_n 0, 1) := by decide +kernel
theorem d_X12_autoValue_15 : decode prog_14_method_81_code 15 = .ok (.getfield 528, 3) := by decide +kernel
theorem d_X12_autoValue_18 : decode prog_14_method_81_code 18 = .ok (.if_icmp .ge 148, 3) := by decide +kernel
theorem d_X12_autoValue_21 : decode prog_14_method_81_code 21 = .ok (.aload_n 0, 1) := by decide +kernel
theorem d_X12_autoValue_22 : decode prog_14_method_81_code 22 = .ok (.iload_n 1, 1) := by decide +kernel
theorem d_X12_autoValue_23 : decode prog_14_method_81_code 23 = .ok (.putfield 472, 3) := by decide +kernel
theorem d_X12_autoValue_26 : decode prog_14_method_81_code 26 = .ok (.iconst (-1), 1) := by decide +kernel
theorem d_X12_autoValue_27 : decode prog_14_method_81_code 27 = .ok (.istore 4, 2) := by decide +kernel
theorem d_X12_autoValue_29 : decode prog_14_method_81_code 29 = .ok (.aload_n 0, 1) := by decide +kernel
theorem d_X12_autoValue_30 : decode prog_14_method_81_code 30 = .ok (.getfield 31, 3) := by decide +kernel
theorem d_X12_autoValue_33 : decode prog_14_method_81_code 33 = .ok (.aload_n 0, 1) := by decide +kernel
theorem d_X12_autoValue_34 : decode prog_14_method_81_code 34 = .ok (.getfield 472, 3) := by decide +kernel
theorem d_X12_autoValue_37 : decode prog_14_method_81_code 37 = .ok (.iaload, 1) := by decide +kernel
theorem d_X12_autoValue_38 : decode prog_14_method_81_code 38 = .ok (.bipush 58, 2) := by decide +kernel
theorem d_X12_autoValue_40 : decode prog_14_method_81_code 40 = .ok (.if_icmp .ne 11, 3) := by decide +kernel
theorem d_X12_autoValue_43 : decode prog_14_method_81_code 43 = .ok (.aload_n 0, 1) := by decide +kernel
theorem d_X12_autoValue_44 : decode prog_14_method_81_code 44 = .ok (.getfield 472, 3) := by decide +kernel
theorem d_X12_autoValue_47 : decode prog_14_method_81_code 47 = .ok (.iload_n 1, 1) := by decide +kernel
theorem d_X12_autoValue_48 : decode prog_14_method_81_code 48 = .ok (.if_icmp .ne 101, 3) := by decide +kernel
theorem d_X12_autoValue_51 : decode prog_14_method_81_code 51 = .ok (.aload_n 0, 1) := by decide +kernel
theorem d_X12_autoValue_52 : decode prog_14_method_81_code 52 = .ok (.dup, 1) := by decide +kernel
theorem d_X12_autoValue_53 : decode prog_14_method_81_code 53 = .ok (.getfield 472, 3) := by decide +kernel
theorem d_X12_autoValue_56 : decode prog_14_method_81_code 56 = .ok (.iconst 2, 1) := by decide +kernel
theorem d_X12_autoValue_57 : decode prog_14_method_81_code 57 = .ok (.iadd, 1) := by decide +kernel
theorem d_X12_autoValue_58 : decode prog_14_method_81_code 58 = .ok (.putfield 472, 3) := by decide +kernel
theorem d_X12_autoValue_61 : decode prog_14_method_81_code 61 = .ok (.aload_n 0, 1) := by decide +kernel
theorem d_X12_autoValue_62 : decode prog_14_method_81_code 62 = .ok (.getfield 34, 3) := by decide +kernel
theorem d_X12_autoValue_65 : decode prog_14_method_81_code 65 = .ok (.aload_n 0, 1) := by decide +kernel
theorem d_X12_autoValue_66 : decode prog_14_method_81_code 66 = .ok (.getfield 472, 3) := by decide +kernel
theorem d_X12_autoValue_69 : decode prog_14_method_81_code 69 = .ok (.iaload, 1) := by decide +kernel
theorem d_X12_autoValue_70 : decode prog_14_method_81_code 70 = .ok (.istore 5, 2) := by decide +kernel
theorem d_X12_autoValue_72 : decode prog_14_method_81_code 72 = .ok (.aload_n 0, 1) := by decide +kernel
theorem d_X12_autoValue_73 : decode prog_14_method_81_code 73 = .ok (.dup, 1) := by decide +kernel
theorem d_X12_autoValue_74 : decode prog_14_method_81_code 74 = .ok (.getfield 472, 3) := by decide +kernel
theorem d_X12_autoValue_77 : decode prog_14_method_81_code 77 = .ok (.iconst 2, 1) := by decide +kernel
theorem d_X12_autoValue_78 : decode prog_14_method_81_code 78 = .ok (.iadd, 1) := by decide +kernel
theorem d_X12_autoValue_79 : decode prog_14_method_81_code 79 = .ok (.putfield 472, 3) := by decide +kernel
theorem d_X12_autoValue_82 : decode prog_14_method_81_code 82 = .ok (.aload_n 0, 1) := by decide +kernel
theorem d_X12_autoValue_83 : decode prog_14_method_81_code 83 = .ok (.invokevirtual 495, 3) := by decide +kernel
theorem d_X12_autoValue_86 : decode prog_14_method_81_code 86 = .ok (.lstore 6, 2) := by decide +kernel
theorem d_X12_autoValue_88 : decode prog_14_method_81_code 88 = .ok (.aload_n 0, 1) := by decide +kernel
theorem d_X12_autoValue_89 : decode prog_14_method_81_code 89 = .ok (.dup, 1) := by decide +kernel
theorem d_X12_autoValue_90 : decode prog_14_method_81_code 90 = .ok (.getfield 472, 3) := by decide +kernel
theorem d_X12_autoValue_93 : decode prog_14_method_81_code 93 = .ok (.iconst 1, 1) := by decide +kernel
theorem d_X12_autoValue_94 : decode prog_14_method_81_code 94 = .ok (.iadd, 1) := by decide +kernel
theorem d_X12_autoValue_95 : decode prog_14_method_81_code 95 = .ok (.putfield 472, 3) := by decide +kernel
theorem d_X12_autoValue_98 : decode prog_14_method_81_code 98 = .ok (.aload_n 0, 1) := by decide +kernel
theorem d_X12_autoValue_99 : decode prog_14_method_81_code 99 = .ok (.getfield 34, 3) := by decide +kernel
theorem d_X12_autoValue_102 : decode prog_14_method_81_code 102 = .ok (.aload_n 0, 1) := by decide +kernel
theorem d_X12_autoValue_103 : decode prog_14_method_81_code 103 = .ok (.getfield 472, 3) := by decide +kernel
theorem d_X12_autoValue_106 : decode prog_14_method_81_code 106 = .ok (.iaload, 1) := by decide +kernel
theorem d_X12_autoValue_107 : decode prog_14_method_81_code 107 = .ok (.istore 8, 2) := by decide +kernel
theorem d_X12_autoValue_109 : decode prog_14_method_81_code 109 = .ok (.aload_n 0, 1) := by decide +kernel
theorem d_X12_autoValue_110 : decode prog_14_method_81_code 110 = .ok (.dup, 1) := by decide +kernel
theorem d_X12_autoValue_111 : decode prog_14_method_81_code 111 = .ok (.getfield 472, 3) := by decide +kernel
theorem d_X12_autoValue_114 : decode prog_14_method_81_code 114 = .ok (.iconst 2, 1) := by decide +kernel
theorem d_X12_autoValue_115 : decode prog_14_method_81_code 115 = .ok (.iadd, 1) := by decide +kernel
theorem d_X12_autoValue_116 : decode prog_14_method_81_code 116 = .ok (.putfield 472, 3) := by decide +kernel
theorem d_X12_autoValue_119 : decode prog_14_method_81_code 119 = .ok (.iload 4, 2) := by decide +kernel
theorem d_X12_autoValue_121 : decode prog_14_method_81_code 121 = .ok (.ifCond .ge 25, 3) := by decide +kernel
theorem d_X12_autoValue_124 : decode prog_14_method_81_code 124 = .ok (.iload_n 2, 1) := by decide +kernel
theorem d_X12_autoValue_125 : decode prog_14_method_81_code 125 = .ok (.iload 5, 2) := by decide +kernel
theorem d_X12_autoValue_127 : decode prog_14_method_81_code 127 = .ok (.if_icmp .ne 19, 3) := by decide +kernel
theorem d_X12_autoValue_130 : decode prog_14_method_81_code 130 = .ok (.aload_n 0, 1) := by decide +kernel
theorem d_X12_autoValue_131 : decode prog_14_method_81_code 131 = .ok (.getfield 127, 3) := by decide +kernel
theorem d_X12_autoValue_134 : decode prog_14_method_81_code 134 = .ok (.iload_n 3, 1) := by decide +kernel
theorem d_X12_autoValue_135 : decode prog_14_method_81_code 135 = .ok (.laload, 1) := by decide +kernel
theorem d_X12_autoValue_136 : decode prog_14_method_81_code 136 = .ok (.lload 6, 2) := by decide +kernel
theorem d_X12_autoValue_138 : decode prog_14_method_81_code 138 = .ok (.lcmp, 1) := by decide +kernel
theorem d_X12_autoValue_139 : decode prog_14_method_81_code 139 = .ok (.ifCond .ne 7, 3) := by decide +kernel
theorem d_X12_autoValue_142 : decode prog_14_method_81_code 142 = .ok (.iload 8, 2) := by decide +kernel
theorem d_X12_autoValue_144 : decode prog_14_method_81_code 144 = .ok (.istore 4, 2) := by decide +kernel
theorem d_X12_autoValue_146 : decode prog_14_method_81_code 146 = .ok (.goto (-117), 3) := by decide +kernel
theorem d_X12_autoValue_149 : decode prog_14_method_81_code 149 = .ok (.iload_n 2, 1) := by decide +kernel
theorem d_X12_autoValue_150 : decode prog_14_method_81_code 150 = .ok (.ifCond .ge 7, 3) := by decide +kernel
theorem d_X12_autoValue_153 : decode prog_14_method_81_code 153 = .ok (.iconst (-1), 1) := by decide +kernel
theorem d_X12_autoValue_154 : decode prog_14_method_81_code 154 = .ok (.goto 5, 3) := by decide +kernel
theorem d_X12_autoValue_157 : decode prog_14_method_81_code 157 = .ok (.iload 4, 2) := by decide +kernel
theorem d_X12_autoValue_159 : decode prog_14_method_81_code 159 = .ok (.istore_n 2, 1) := by decide +kernel
theorem d_X12_autoValue_160 : decode prog_14_method_81_code 160 = .ok (.iinc 3 1, 3) := by decide +kernel
theorem d_X12_autoValue_163 : decode prog_14_method_81_code 163 = .ok (.goto (-150), 3) := by decide +kernel
theorem d_X12_autoValue_166 : decode prog_14_method_81_code 166 = .ok (.iconst 0, 1) := by decide +kernel
theorem d_X12_autoValue_167 : decode prog_14_method_81_code 167 = .ok (.istore_n 3, 1) := by decide +kernel
theorem d_X12_autoValue_168 : decode prog_14_method_81_code 168 = .ok (.aload_n 0, 1) := by decide +kernel
theorem d_X12_autoValue_169 : decode prog_14_method_81_code 169 = .ok (.getfield 31, 3) := by decide +kernel
theorem d_X12_autoValue_172 : decode prog_14_method_81_code 172 = .ok (.aload_n 0, 1) := by decide +kernel
theorem d_X12_autoValue_173 : decode prog_14_method_81_code 173 = .ok (.getfield 472, 3) := by decide +kernel
theorem d_X12_autoValue_176 : decode prog_14_method_81_code 176 = .ok (.iaload, 1) := by decide +kernel
theorem d_X12_autoValue_177 : decode prog_14_method_81_code 177 = .ok (.bipush 41, 2) := by decide +kernel
theorem d_X12_autoValue_179 : decode prog_14_method_81_code 179 = .ok (.if_icmp .eq 49, 3) := by decide +kernel
theorem d_X12_autoValue_182 : decode prog_14_method_81_code 182 = .ok (.aload_n 0, 1) := by decide +kernel
theorem d_X12_autoValue_183 : decode prog_14_method_81_code 183 = .ok (.dup, 1) := by decide +kernel
theorem d_X12_autoValue_184 : decode prog_14_method_81_code 184 = .ok (.getfield 472, 3) := by decide +kernel
theorem d_X12_autoValue_187 : decode prog_14_method_81_code 187 = .ok (.iconst 1, 1) := by decide +kernel
theorem d_X12_autoValue_188 : decode prog_14_method_81_code 188 = .ok (.iadd, 1) := by decide +kernel
theorem d_X12_autoValue_189 : decode prog_14_method_81_code 189 = .ok (.putfield 472, 3) := by decide +kernel
theorem d_X12_autoValue_192 : decode prog_14_method_81_code 192 = .ok (.iload_n 3, 1) := by decide +kernel
theorem d_X12_autoValue_193 : decode prog_14_method_81_code 193 = .ok (.ifCond .ne 16, 3) := by decide +kernel
theorem d_X12_autoValue_196 : decode prog_14_method_81_code 196 = .ok (.aload_n 0, 1) := by decide +kernel
theorem d_X12_autoValue_197 : decode prog_14_method_81_code 197 = .ok (.getfield 34, 3) := by decide +kernel
theorem d_X12_autoValue_200 : decode prog_14_method_81_code 200 = .ok (.aload_n 0, 1) := by decide +kernel
theorem d_X12_autoValue_201 : decode prog_14_method_81_code 201 = .ok (.getfield 472, 3) := by decide +kernel
theorem d_X12_autoValue_204 : decode prog_14_method_81_code 204 = .ok (.iaload, 1) := by decide +kernel
theorem d_X12_autoValue_205 : decode prog_14_method_81_code 205 = .ok (.iload_n 2, 1) := by decide +kernel
theorem d_X12_autoValue_206 : decode prog_14_method_81_code 206 = .ok (.if_icmp .ne 7, 3) := by decide +kernel
theorem d_X12_autoValue_209 : decode prog_14_method_81_code 209 = .ok (.iconst 1, 1) := by decide +kernel
theorem d_X12_autoValue_210 : decode prog_14_method_81_code 210 = .ok (.goto 4, 3) := by decide +kernel
theorem d_X12_autoValue_213 : decode prog_14_method_81_code 213 = .ok (.iconst 0, 1) := by decide +kernel
theorem d_X12_autoValue_214 : decode prog_14_method_81_code 214 = .ok (.istore_n 3, 1) := by decide +kernel
theorem d_X12_autoValue_215 : decode prog_14_method_81_code 215 = .ok (.aload_n 0, 1) := by decide +kernel
theorem d_X12_autoValue_216 : decode prog_14_method_81_code 216 = .ok (.dup, 1) := by decide +kernel
theorem d_X12_autoValue_217 : decode prog_14_method_81_code 217 = .ok (.getfield 472, 3) := by decide +kernel
theorem d_X12_autoValue_220 : decode prog_14_method_81_code 220 = .ok (.iconst 1, 1) := by decide +kernel
theorem d_X12_autoValue_221 : decode prog_14_method_81_code 221 = .ok (.iadd, 1) := by decide +kernel
theorem d_X12_autoValue_222 : decode prog_14_method_81_code 222 = .ok (.putfield 472, 3) := by decide +kernel
theorem d_X12_autoValue_225 : decode prog_14_method_81_code 225 = .ok (.goto (-57), 3) := by decide +kernel
theorem d_X12_autoValue_228 : decode prog_14_method_81_code 228 = .ok (.iload_n 2, 1) := by decide +kernel
theorem d_X12_autoValue_229 : decode prog_14_method_81_code 229 = .ok (.ifCond .lt 11, 3) := by decide +kernel
theorem d_X12_autoValue_232 : decode prog_14_method_81_code 232 = .ok (.iload_n 3, 1) := by decide +kernel
theorem d_X12_autoValue_233 : decode prog_14_method_81_code 233 = .ok (.ifCond .eq 7, 3) := by decide +kernel
theorem d_X12_autoValue_236 : decode prog_14_method_81_code 236 = .ok (.lconst 0, 1) := by decide +kernel
theorem d_X12_autoValue_237 : decode prog_14_method_81_code 237 = .ok (.goto 4, 3) := by decide +kernel
theorem d_X12_autoValue_240 : decode prog_14_method_81_code 240 = .ok (.lconst 1, 1) := by decide +kernel
theorem d_X12_autoValue_241 : decode prog_14_method_81_code 241 = .ok (.lreturn, 1) := by decide +kernel
theorem v_X12_autoValue_0 {E : EE} {d : Nat} {Q : Option AV → AH → Prop} {x0 : Nat} {G : AH} (h0 : 0 < d) (h : isO E G x0 12 ∧ (wpV E (d - 1) M_X12_rowOfNames [vr x0] G (fun G1 => isO E G1 x0 12 ∧ (wp E d M_X12_autoValue 13 [some (vr x0), some (vi (gI G1 x0 54)), some (vi 0), some (vi 0), none, none, none, none, none] [] G1 Q)))) : wp E d M_X12_autoValue 0 [some (vr x0), none, none, none, none, none, none, none, none] [] G Q := by
  refine wp_aload_n (pc := 0) d_X12_autoValue_0 rfl ?_
  obtain ⟨ho3, h⟩ := h
  refine wp_invV (pc := 1) (N := M_X12_rowOfNames) (As := []) (rest := []) (r := (cn_12, ct_12, 95)) d_X12_autoValue_1 ml_X12_531 mk_X12_rowOfNames mv_X12_rowOfNames h0 ho3 rfl rfl (Nat.le_of_ble_eq_true rfl) ?_
  refine wpM.mono h (fun rr G1 hr => ?_)
  obtain ⟨rfl, h⟩ := hr
  show wp E d M_X12_autoValue 4 [some (vr _), none, none, none, none, none, none, none, none] [] G1 Q
  refine wp_aload_n (pc := 4) d_X12_autoValue_4 rfl ?_
  obtain ⟨ho2, h⟩ := h
  refine wp_getI (pc := 5) d_X12_autoValue_5 fl_X12_472 (fun _ _ _ => rfl) ho2 ?_
  refine wp_istore_n (pc := 8) (lv' := [some (vr _), some (vi _), none, none, none, none, none, none, none]) d_X12_autoValue_8 (by decide) rfl ?_
  refine wp_iconst (pc := 9) (v := 0) d_X12_autoValue_9 rfl ?_
  refine wp_istore_n (pc := 10) (lv' := [some (vr _), some (vi _), some (vi _), none, none, none, none, none, none]) d_X12_autoValue_10 (by decide) rfl ?_
  refine wp_iconst (pc := 11) (v := 0) d_X12_autoValue_11 rfl ?_
  refine wp_istore_n (pc := 12) (lv' := [some (vr _), some (vi _), some (vi _), some (vi _), none, none, none, none, none]) d_X12_autoValue_12 (by decide) rfl ?_
  refine wp_sub ?_ h
  exact ⟨rfl, ⟨rfl, ⟨rfl, ⟨rfl, trivial⟩⟩⟩⟩
theorem v_X12_autoValue_13 {E : EE} {d : Nat} {Q : Option AV → AH → Prop} {x0 : Nat} {x1 : Int32} {x2 : Int32} {x3 : Int32} {G : AH} (h : isO E G x0 12 ∧ (((gI G x0 57) ≤ x3 → wp E d M_X12_autoValue 168 [some (vr x0), some (vi x1), some (vi x2), some (vi 0), none, none, none, none, none] [] G Q) ∧ (¬ ((gI G x0 57) ≤ x3) → wp E d M_X12_autoValue 29 [some (vr x0), some (vi x1), some (vi x2), some (vi x3), some (vi (-1)), none, none, none, none] [] (sI G x0 54 x1) Q))) : wp E d M_X12_autoValue 13 [some (vr x0), some (vi x1), some (vi x2), some (vi x3), none, none, none, none, none] [] G Q := by
  refine wp_iload_n (pc := 13) d_X12_autoValue_13 rfl ?_
  refine wp_aload_n (pc := 14) d_X12_autoValue_14 rfl ?_
  obtain ⟨ho1, h⟩ := h
  refine wp_getI (pc := 15) d_X12_autoValue_15 fl_X12_528 (fun _ _ _ => rfl) ho1 ?_
  refine wp_icmp_ge (pc := 18) (tgt := 166) d_X12_autoValue_18 (by decide) (fun hc => ?_) (fun hc => ?_)
  · have h := h.1 hc
    refine wp_iconst (pc := 166) (v := 0) d_X12_autoValue_166 rfl ?_
    refine wp_istore_n (pc := 167) (lv' := [some (vr _), some (vi _), some (vi _), some (vi _), none, none, none, none, none]) d_X12_autoValue_167 (by decide) rfl ?_
    refine wp_sub ?_ h
    exact ⟨rfl, ⟨rfl, ⟨rfl, ⟨rfl, trivial⟩⟩⟩⟩
  · have h := h.2 hc
    refine wp_aload_n (pc := 21) d_X12_autoValue_21 rfl ?_
    refine wp_iload_n (pc := 22) d_X12_autoValue_22 rfl ?_
    refine wp_putI (pc := 23) d_X12_autoValue_23 fl_X12_472 (fun _ _ _ => rfl) (Or.inl rfl) ho1 (okI_int _) ?_
    refine wp_iconst (pc := 26) (v := (-1)) d_X12_autoValue_26 rfl ?_
    refine wp_istore (pc := 27) (lv' := [some (vr _), some (vi _), some (vi _), some (vi _), some (vi _), none, none, none, none]) d_X12_autoValue_27 (by decide) rfl ?_
    refine wp_sub ?_ h
    exact ⟨rfl, ⟨rfl, ⟨rfl, ⟨rfl, ⟨rfl, trivial⟩⟩⟩⟩⟩
theorem v_X12_autoValue_29 {E : EE} {d : Nat} {Q : Option AV → AH → Prop} {x0 : Nat} {x1 : Int32} {x2 : Int32} {x3 : Int32} {x4 : Int32} {G : AH} (h : isO E G x0 12 ∧ (isO E G (gR G x0 8) 14 ∧ (vp_in (gI G x0 54) (gN G (gR G x0 8)) ∧ ((¬ (gI G (gR G x0 8) (Int32.toNatClampNeg (gI G x0 54))) = 58 → wp E d M_X12_autoValue 51 [some (vr x0), some (vi x1), some (vi x2), some (vi x3), some (vi x4), none, none, none, none] [] G Q) ∧ ((gI G (gR G x0 8) (Int32.toNatClampNeg (gI G x0 54))) = 58 → (¬ (gI G x0 54) = x1 → (0 ≤ x2 → wp E d M_X12_autoValue 159 [some (vr x0), some (vi x1), some (vi x2), some (vi x3), some (vi x4), none, none, none, none] [vi x4] G Q) ∧ (¬ (0 ≤ x2) → wp E d M_X12_autoValue 159 [some (vr x0), some (vi x1), some (vi x2), some (vi x3), some (vi x4), none, none, none, none] [vi (-1)] G Q)) ∧ ((gI G x0 54) = x1 → wp E d M_X12_autoValue 51 [some (vr x0), some (vi x1), some (vi x2), some (vi x3), some (vi x4), none, none, none, none] [] G Q)))))) : wp E d M_X12_autoValue 29 [some (vr x0), some (vi x1), some (vi x2), some (vi x3), some (vi x4), none, none, none, none] [] G Q := by
  refine wp_aload_n (pc := 29) d_X12_autoValue_29 rfl ?_
  obtain ⟨ho1, h⟩ := h
  refine wp_getR (pc := 30) d_X12_autoValue_30 fl_X12_31 (fun _ _ _ => rfl) ho1 ?_
  refine wp_aload_n (pc := 33) d_X12_autoValue_33 rfl ?_
  refine wp_getI (pc := 34) d_X12_autoValue_34 fl_X12_472 (fun _ _ _ => rfl) ho1 ?_
  obtain ⟨ho2, h⟩ := h
  obtain ⟨hi3, h⟩ := h
  refine wp_iald (pc := 37) d_X12_autoValue_37 ho2 hi3 ?_
  refine wp_bipush (pc := 38) (v := 58) d_X12_autoValue_38 rfl ?_
  refine wp_icmp_ne (pc := 40) (tgt := 51) d_X12_autoValue_40 (by decide) (fun hc => ?_) (fun hc => ?_)
  · have h := h.1 hc
    refine wp_sub ?_ h
    exact ⟨rfl, ⟨rfl, ⟨rfl, ⟨rfl, ⟨rfl, trivial⟩⟩⟩⟩⟩
  · have h := h.2 hc
    refine wp_aload_n (pc := 43) d_X12_autoValue_43 rfl ?_
    refine wp_getI (pc := 44) d_X12_autoValue_44 fl_X12_472 (fun _ _ _ => rfl) ho1 ?_
    refine wp_iload_n (pc := 47) d_X12_autoValue_47 rfl ?_
    refine wp_icmp_ne (pc := 48) (tgt := 149) d_X12_autoValue_48 (by decide) (fun hc => ?_) (fun hc => ?_)
    · have h := h.1 hc
      refine wp_iload_n (pc := 149) d_X12_autoValue_149 rfl ?_
      refine wp_if_ge (pc := 150) (tgt := 157) d_X12_autoValue_150 (by decide) (fun hc => ?_) (fun hc => ?_)
      · have h := h.1 hc
        refine wp_iload (pc := 157) d_X12_autoValue_157 rfl ?_
        refine wp_sub ?_ h
        exact ⟨rfl, ⟨rfl, ⟨rfl, ⟨rfl, ⟨rfl, trivial⟩⟩⟩⟩⟩
      · have h := h.2 hc
        refine wp_iconst (pc := 153) (v := (-1)) d_X12_autoValue_153 rfl ?_
        refine wp_goto (pc := 154) (tgt := 159) d_X12_autoValue_154 (by decide) ?_
        refine wp_sub ?_ h
        exact ⟨rfl, ⟨rfl, ⟨rfl, ⟨rfl, ⟨rfl, trivial⟩⟩⟩⟩⟩
    · have h := h.2 hc
      refine wp_sub ?_ h
      exact ⟨rfl, ⟨rfl, ⟨rfl, ⟨rfl, ⟨rfl, trivial⟩⟩⟩⟩⟩
theorem v_X12_autoValue_51 {E : EE} {d : Nat} {Q : Option AV → AH → Prop} {x0 : Nat} {x1 : Int32} {x2 : Int32} {x3 : Int32} {x4 : Int32} {G : AH} (h0 : 0 < d) (h : isO E G x0 12 ∧ (∀ G2 : AH, G2 = sI G x0 54 ((gI G x0 54) + 2) → isO E G2 (gR G2 x0 9) 14 ∧ (vp_in (gI G2 x0 54) (gN G2 (gR G2 x0 9)) ∧ (∀ G6 : AH, G6 = sI G2 x0 54 ((gI G2 x0 54) + 2) → wpJ E (d - 1) M_X12_intValue [vr x0] G6 (fun r8 G9 => isO E G9 x0 12 ∧ (∀ G11 : AH, G11 = sI G9 x0 54 ((gI G9 x0 54) + 1) → isO E G11 (gR G11 x0 9) 14 ∧ (vp_in (gI G11 x0 54) (gN G11 (gR G11 x0 9)) ∧ (∀ G15 : AH, G15 = sI G11 x0 54 ((gI G11 x0 54) + 2) → (0 ≤ x4 → wp E d M_X12_autoValue 146 [some (vr x0), some (vi x1), some (vi x2), some (vi x3), some (vi x4), some (vi (gI G2 (gR G2 x0 9) (Int32.toNatClampNeg (gI G2 x0 54)))), some (vj r8), none, some (vi (gI G11 (gR G11 x0 9) (Int32.toNatClampNeg (gI G11 x0 54))))] [] G15 Q) ∧ (¬ (0 ≤ x4) → (¬ x2 = (gI G2 (gR G2 x0 9) (Int32.toNatClampNeg (gI G2 x0 54))) → wp E d M_X12_autoValue 146 [some (vr x0), some (vi x1), some (vi x2), some (vi x3), some (vi x4), some (vi (gI G2 (gR G2 x0 9) (Int32.toNatClampNeg (gI G2 x0 54)))), some (vj r8), none, some (vi (gI G11 (gR G11 x0 9) (Int32.toNatClampNeg (gI G11 x0 54))))] [] G15 Q) ∧ (x2 = (gI G2 (gR G2 x0 9) (Int32.toNatClampNeg (gI G2 x0 54))) → isO E G15 (gR G15 x0 55) 15 ∧ (vp_in x3 (gN G15 (gR G15 x0 55)) ∧ ((¬ (gJ G15 (gR G15 x0 55) (Int32.toNatClampNeg x3)) = r8 → wp E d M_X12_autoValue 146 [some (vr x0), some (vi x1), some (vi x2), some (vi x3), some (vi x4), some (vi (gI G2 (gR G2 x0 9) (Int32.toNatClampNeg (gI G2 x0 54)))), some (vj r8), none, some (vi (gI G11 (gR G11 x0 9) (Int32.toNatClampNeg (gI G11 x0 54))))] [] G15 Q) ∧ ((gJ G15 (gR G15 x0 55) (Int32.toNatClampNeg x3)) = r8 → wp E d M_X12_autoValue 146 [some (vr x0), some (vi x1), some (vi x2), some (vi x3), some (vi (gI G11 (gR G11 x0 9) (Int32.toNatClampNeg (gI G11 x0 54)))), some (vi (gI G2 (gR G2 x0 9) (Int32.toNatClampNeg (gI G2 x0 54)))), some (vj r8), none, some (vi (gI G11 (gR G11 x0 9) (Int32.toNatClampNeg (gI G11 x0 54))))] [] G15 Q))))))))))))) : wp E d M_X12_autoValue 51 [some (vr x0), some (vi x1), some (vi x2), some (vi x3), some (vi x4), none, none, none, none] [] G Q := by
  refine wp_aload_n (pc := 51) d_X12_autoValue_51 rfl ?_
  refine wp_dup (pc := 52) d_X12_autoValue_52 (c1_r _) ?_
  obtain ⟨ho1, h⟩ := h
  refine wp_getI (pc := 53) d_X12_autoValue_53 fl_X12_472 (fun _ _ _ => rfl) ho1 ?_
  refine wp_iconst (pc := 56) (v := 2) d_X12_autoValue_56 rfl ?_
  refine wp_iadd (pc := 57) d_X12_autoValue_57 ?_
  refine wp_putI (pc := 58) d_X12_autoValue_58 fl_X12_472 (fun _ _ _ => rfl) (Or.inl rfl) ho1 (okI_int _) ?_
  refine wp_nm (fun G2 eG2 => ?_)
  have h := h G2 eG2
  have ho3 := isO_sI eG2 ho1
  refine wp_aload_n (pc := 61) d_X12_autoValue_61 rfl ?_
  refine wp_getR (pc := 62) d_X12_autoValue_62 fl_X12_34 (fun _ _ _ => rfl) ho3 ?_
  refine wp_aload_n (pc := 65) d_X12_autoValue_65 rfl ?_
  refine wp_getI (pc := 66) d_X12_autoValue_66 fl_X12_472 (fun _ _ _ => rfl) ho3 ?_
  obtain ⟨ho4, h⟩ := h
  obtain ⟨hi5, h⟩ := h
  refine wp_iald (pc := 69) d_X12_autoValue_69 ho4 hi5 ?_
  refine wp_istore (pc := 70) (lv' := [some (vr _), some (vi _), some (vi _), some (vi _), some (vi _), some (vi _), none, none, none]) d_X12_autoValue_70 (by decide) rfl ?_
  refine wp_aload_n (pc := 72) d_X12_autoValue_72 rfl ?_
  refine wp_dup (pc := 73) d_X12_autoValue_73 (c1_r _) ?_
  refine wp_getI (pc := 74) d_X12_autoValue_74 fl_X12_472 (fun _ _ _ => rfl) ho3 ?_
  refine wp_iconst (pc := 77) (v := 2) d_X12_autoValue_77 rfl ?_
  refine wp_iadd (pc := 78) d_X12_autoValue_78 ?_
  refine wp_putI (pc := 79) d_X12_autoValue_79 fl_X12_472 (fun _ _ _ => rfl) (Or.inl rfl) ho3 (okI_int _) ?_
  refine wp_nm (fun G6 eG6 => ?_)
  have h := h G6 eG6
  have ho7 := isO_sI eG6 ho3
  refine wp_aload_n (pc := 82) d_X12_autoValue_82 rfl ?_
  refine wp_invV (pc := 83) (N := M_X12_intValue) (As := []) (rest := []) (r := (cn_12, ct_12, 95)) d_X12_autoValue_83 ml_X12_495 mk_X12_intValue mv_X12_intValue h0 ho7 rfl rfl (Nat.le_of_ble_eq_true rfl) ?_
  refine wpM.mono h (fun rr G9 hr => ?_)
  obtain ⟨r8, rfl, h⟩ := hr
  show wp E d M_X12_autoValue 86 [some (vr _), some (vi _), some (vi _), some (vi _), some (vi _), some (vi _), none, none, none] [vj _] G9 Q
  refine wp_lstore (pc := 86) (lv' := [some (vr _), some (vi _), some (vi _), some (vi _), some (vi _), some (vi _), some (vj _), none, none]) d_X12_autoValue_86 (by decide) rfl ?_
  refine wp_aload_n (pc := 88) d_X12_autoValue_88 rfl ?_
  refine wp_dup (pc := 89) d_X12_autoValue_89 (c1_r _) ?_
  obtain ⟨ho10, h⟩ := h
  refine wp_getI (pc := 90) d_X12_autoValue_90 fl_X12_472 (fun _ _ _ => rfl) ho10 ?_
  refine wp_iconst (pc := 93) (v := 1) d_X12_autoValue_93 rfl ?_
  refine wp_iadd (pc := 94) d_X12_autoValue_94 ?_
  refine wp_putI (pc := 95) d_X12_autoValue_95 fl_X12_472 (fun _ _ _ => rfl) (Or.inl rfl) ho10 (okI_int _) ?_
  refine wp_nm (fun G11 eG11 => ?_)
  have h := h G11 eG11
  have ho12 := isO_sI eG11 ho10
  refine wp_aload_n (pc := 98) d_X12_autoValue_98 rfl ?_
  refine wp_getR (pc := 99) d_X12_autoValue_99 fl_X12_34 (fun _ _ _ => rfl) ho12 ?_
  refine wp_aload_n (pc := 102) d_X12_autoValue_102 rfl ?_
  refine wp_getI (pc := 103) d_X12_autoValue_103 fl_X12_472 (fun _ _ _ => rfl) ho12 ?_
  obtain ⟨ho13, h⟩ := h
  obtain ⟨hi14, h⟩ := h
  refine wp_iald (pc := 106) d_X12_autoValue_106 ho13 hi14 ?_
  refine wp_istore (pc := 107) (lv' := [some (vr _), some (vi _), some (vi _), some (vi _), some (vi _), some (vi _), some (vj _), none, some (vi _)]) d_X12_autoValue_107 (by decide) rfl ?_
  refine wp_aload_n (pc := 109) d_X12_autoValue_109 rfl ?_
  refine wp_dup (pc := 110) d_X12_autoValue_110 (c1_r _) ?_
  refine wp_getI (pc := 111) d_X12_autoValue_111 fl_X12_472 (fun _ _ _ => rfl) ho12 ?_
  refine wp_iconst (pc := 114) (v := 2) d_X12_autoValue_114 rfl ?_
  refine wp_iadd (pc := 115) d_X12_autoValue_115 ?_
  refine wp_putI (pc := 116) d_X12_autoValue_116 fl_X12_472 (fun _ _ _ => rfl) (Or.inl rfl) ho12 (okI_int _) ?_
  refine wp_nm (fun G15 eG15 => ?_)
  have h := h G15 eG15
  have ho16 := isO_sI eG15 ho12
  refine wp_iload (pc := 119) d_X12_autoValue_119 rfl ?_
  refine wp_if_ge (pc := 121) (tgt := 146) d_X12_autoValue_121 (by decide) (fun hc => ?_) (fun hc => ?_)
  · have h := h.1 hc
    refine wp_sub ?_ h
    exact ⟨rfl, ⟨rfl, ⟨rfl, ⟨rfl, ⟨rfl, ⟨rfl, ⟨rfl, ⟨rfl, trivial⟩⟩⟩⟩⟩⟩⟩⟩
  · have h := h.2 hc
    refine wp_iload_n (pc := 124) d_X12_autoValue_124 rfl ?_
    refine wp_iload (pc := 125) d_X12_autoValue_125 rfl ?_
    refine wp_icmp_ne (pc := 127) (tgt := 146) d_X12_autoValue_127 (by decide) (fun hc => ?_) (fun hc => ?_)
    · have h := h.1 hc
      refine wp_sub ?_ h
      exact ⟨rfl, ⟨rfl, ⟨rfl, ⟨rfl, ⟨rfl, ⟨rfl, ⟨rfl, ⟨rfl, trivial⟩⟩⟩⟩⟩⟩⟩⟩
    · have h := h.2 hc
      refine wp_aload_n (pc := 130) d_X12_autoValue_130 rfl ?_
      refine wp_getR (pc := 131) d_X12_autoValue_131 fl_X12_127 (fun _ _ _ => rfl) ho16 ?_
      refine wp_iload_n (pc := 134) d_X12_autoValue_134 rfl ?_
      obtain ⟨ho17, h⟩ := h
      obtain ⟨hi18, h⟩ := h
      refine wp_lald (pc := 135) d_X12_autoValue_135 ho17 hi18 ?_
      refine wp_lload (pc := 136) d_X12_autoValue_136 rfl ?_
      refine wp_lcmp_ne (pc := 138) (tgt := 146) d_X12_autoValue_138 d_X12_autoValue_139 (by decide) (fun hc => ?_) (fun hc => ?_)
      · have h := h.1 hc
        refine wp_sub ?_ h
        exact ⟨rfl, ⟨rfl, ⟨rfl, ⟨rfl, ⟨rfl, ⟨rfl, ⟨rfl, ⟨rfl, trivial⟩⟩⟩⟩⟩⟩⟩⟩
      · have h := h.2 hc
        refine wp_iload (pc := 142) d_X12_autoValue_142 rfl ?_
        refine wp_istore (pc := 144) (lv' := [some (vr _), some (vi _), some (vi _), some (vi _), some (vi _), some (vi _), some (vj _), none, some (vi _)]) d_X12_autoValue_144 (by decide) rfl ?_
        refine wp_sub ?_ h
        exact ⟨rfl, ⟨rfl, ⟨rfl, ⟨rfl, ⟨rfl, ⟨rfl, ⟨rfl, ⟨rfl, trivial⟩⟩⟩⟩⟩⟩⟩⟩
theorem v_X12_autoValue_146 {E : EE} {d : Nat} {Q : Option AV → AH → Prop} {x0 : Nat} {x1 : Int32} {x2 : Int32} {x3 : Int32} {x4 : Int32} {x5 : Int32} {x6 : Int64} {x8 : Int32} {G : AH} (h : wp E d M_X12_autoValue 29 [some (vr x0), some (vi x1), some (vi x2), some (vi x3), some (vi x4), none, none, none, none] [] G Q) : wp E d M_X12_autoValue 146 [some (vr x0), some (vi x1), some (vi x2), some (vi x3), some (vi x4), some (vi x5), some (vj x6), none, some (vi x8)] [] G Q := by
  refine wp_goto (pc := 146) (tgt := 29) d_X12_autoValue_146 (by decide) ?_
  refine wp_sub ?_ h
  exact ⟨rfl, ⟨rfl, ⟨rfl, ⟨rfl, ⟨rfl, trivial⟩⟩⟩⟩⟩
theorem v_X12_autoValue_159 {E : EE} {d : Nat} {Q : Option AV → AH → Prop} {x0 : Nat} {x1 : Int32} {x2 : Int32} {x3 : Int32} {x4 : Int32} {t0 : Int32} {G : AH} (h : wp E d M_X12_autoValue 13 [some (vr x0), some (vi x1), some (vi t0), some (vi (x3 + 1)), none, none, none, none, none] [] G Q) : wp E d M_X12_autoValue 159 [some (vr x0), some (vi x1), some (vi x2), some (vi x3), some (vi x4), none, none, none, none] [vi t0] G Q := by
  refine wp_istore_n (pc := 159) (lv' := [some (vr _), some (vi _), some (vi _), some (vi _), some (vi _), none, none, none, none]) d_X12_autoValue_159 (by decide) rfl ?_
  refine wp_iinc (pc := 160) (v := 1) (lv' := [some (vr _), some (vi _), some (vi _), some (vi _), some (vi _), none, none, none, none]) d_X12_autoValue_160 (by decide) rfl rfl rfl ?_
  refine wp_goto (pc := 163) (tgt := 13) d_X12_autoValue_163 (by decide) ?_
  refine wp_sub ?_ h
  exact ⟨rfl, ⟨rfl, ⟨rfl, ⟨rfl, trivial⟩⟩⟩⟩
theorem v_X12_autoValue_168 {E : EE} {d : Nat} {Q : Option AV → AH → Prop} {x0 : Nat} {x1 : Int32} {x2 : Int32} {x3 : Int32} {G : AH} (h : isO E G x0 12 ∧ (isO E G (gR G x0 8) 14 ∧ (vp_in (gI G x0 54) (gN G (gR G x0 8)) ∧ (((gI G (gR G x0 8) (Int32.toNatClampNeg (gI G x0 54))) = 41 → (x2 < 0 → Q (some (vj 1)) G) ∧ (¬ (x2 < 0) → (x3 = 0 → Q (some (vj 1)) G) ∧ (¬ (x3 = 0) → Q (some (vj 0)) G))) ∧ (¬ ((gI G (gR G x0 8) (Int32.toNatClampNeg (gI G x0 54))) = 41) → (¬ x3 = 0 → wp E d M_X12_autoValue 209 [some (vr x0), some (vi x1), some (vi x2), some (vi x3), none, none, none, none, none] [] (sI G x0 54 ((gI G x0 54) + 1)) Q) ∧ (x3 = 0 → isO E G (gR G x0 9) 14 ∧ (vp_in (gI (sI G x0 54 ((gI G x0 54) + 1)) x0 54) (gN G (gR G x0 9)) ∧ ((¬ (gI (sI G x0 54 ((gI G x0 54) + 1)) (gR G x0 9) (Int32.toNatClampNeg (gI (sI G x0 54 ((gI G x0 54) + 1)) x0 54))) = x2 → wp E d M_X12_autoValue 214 [some (vr x0), some (vi x1), some (vi x2), some (vi x3), none, none, none, none, none] [vi 0] (sI G x0 54 ((gI G x0 54) + 1)) Q) ∧ ((gI (sI G x0 54 ((gI G x0 54) + 1)) (gR G x0 9) (Int32.toNatClampNeg (gI (sI G x0 54 ((gI G x0 54) + 1)) x0 54))) = x2 → wp E d M_X12_autoValue 209 [some (vr x0), some (vi x1), some (vi x2), some (vi x3), none, none, none, none, none] [] (sI G x0 54 ((gI G x0 54) + 1)) Q))))))))) : wp E d M_X12_autoValue 168 [some (vr x0), some (vi x1), some (vi x2), some (vi x3), none, none, none, none, none] [] G Q := by
  refine wp_aload_n (pc := 168) d_X12_autoValue_168 rfl ?_
  obtain ⟨ho1, h⟩ := h
  refine wp_getR (pc := 169) d_X12_autoValue_169 fl_X12_31 (fun _ _ _ => rfl) ho1 ?_
  refine wp_aload_n (pc := 172) d_X12_autoValue_172 rfl ?_
  refine wp_getI (pc := 173) d_X12_autoValue_173 fl_X12_472 (fun _ _ _ => rfl) ho1 ?_
  obtain ⟨ho2, h⟩ := h
  obtain ⟨hi3, h⟩ := h
  refine wp_iald (pc := 176) d_X12_autoValue_176 ho2 hi3 ?_
  refine wp_bipush (pc := 177) (v := 41) d_X12_autoValue_177 rfl ?_
  refine wp_icmp_eq (pc := 179) (tgt := 228) d_X12_autoValue_179 (by decide) (fun hc => ?_) (fun hc => ?_)
  · have h := h.1 hc
    refine wp_iload_n (pc := 228) d_X12_autoValue_228 rfl ?_
    refine wp_if_lt (pc := 229) (tgt := 240) d_X12_autoValue_229 (by decide) (fun hc => ?_) (fun hc => ?_)
    · have h := h.1 hc
      refine wp_lconst (pc := 240) (v := 1) d_X12_autoValue_240 rfl ?_
      exact wp_lret (pc := 241) d_X12_autoValue_241 rfl h
    · have h := h.2 hc
      refine wp_iload_n (pc := 232) d_X12_autoValue_232 rfl ?_
      refine wp_if_eq (pc := 233) (tgt := 240) d_X12_autoValue_233 (by decide) (fun hc => ?_) (fun hc => ?_)
      · have h := h.1 hc
        refine wp_lconst (pc := 240) (v := 1) d_X12_autoValue_240 rfl ?_
        exact wp_lret (pc := 241) d_X12_autoValue_241 rfl h
      · have h := h.2 hc
        refine wp_lconst (pc := 236) (v := 0) d_X12_autoValue_236 rfl ?_
        refine wp_goto (pc := 237) (tgt := 241) d_X12_autoValue_237 (by decide) ?_
        exact wp_lret (pc := 241) d_X12_autoValue_241 rfl h
  · have h := h.2 hc
    refine wp_aload_n (pc := 182) d_X12_autoValue_182 rfl ?_
    refine wp_dup (pc := 183) d_X12_autoValue_183 (c1_r _) ?_
    refine wp_getI (pc := 184) d_X12_autoValue_184 fl_X12_472 (fun _ _ _ => rfl) ho1 ?_
    refine wp_iconst (pc := 187) (v := 1) d_X12_autoValue_187 rfl ?_
    refine wp_iadd (pc := 188) d_X12_autoValue_188 ?_
    refine wp_putI (pc := 189) d_X12_autoValue_189 fl_X12_472 (fun _ _ _ => rfl) (Or.inl rfl) ho1 (okI_int _) ?_
    refine wp_iload_n (pc := 192) d_X12_autoValue_192 rfl ?_
    refine wp_if_ne (pc := 193) (tgt := 209) d_X12_autoValue_193 (by decide) (fun hc => ?_) (fun hc => ?_)
    · have h := h.1 hc
      refine wp_sub ?_ h
      exact ⟨rfl, ⟨rfl, ⟨rfl, ⟨rfl, trivial⟩⟩⟩⟩
    · have h := h.2 hc
      refine wp_aload_n (pc := 196) d_X12_autoValue_196 rfl ?_
      refine wp_getR (pc := 197) d_X12_autoValue_197 fl_X12_34 (fun _ _ _ => rfl) ho1 ?_
      show wp E d M_X12_autoValue 200 [some (vr x0), some (vi x1), some (vi x2), some (vi x3), none, none, none, none, none] [vr (gR G x0 9)] (sI G x0 54 ((gI G x0 54) + 1)) Q
      refine wp_aload_n (pc := 200) d_X12_autoValue_200 rfl ?_
      refine wp_getI (pc := 201) d_X12_autoValue_201 fl_X12_472 (fun _ _ _ => rfl) ho1 ?_
      obtain ⟨ho4, h⟩ := h
      obtain ⟨hi5, h⟩ := h
      refine wp_iald (pc := 204) d_X12_autoValue_204 ho4 hi5 ?_
      refine wp_iload_n (pc := 205) d_X12_autoValue_205 rfl ?_
      refine wp_icmp_ne (pc := 206) (tgt := 213) d_X12_autoValue_206 (by decide) (fun hc => ?_) (fun hc => ?_)
      · have h := h.1 hc
        refine wp_iconst (pc := 213) (v := 0) d_X12_autoValue_213 rfl ?_
        refine wp_sub ?_ h
        exact ⟨rfl, ⟨rfl, ⟨rfl, ⟨rfl, trivial⟩⟩⟩⟩
      · have h := h.2 hc
        refine wp_sub ?_ h
        exact ⟨rfl, ⟨rfl, ⟨rfl, ⟨rfl, trivial⟩⟩⟩⟩
theorem v_X12_autoValue_209 {E : EE} {d : Nat} {Q : Option AV → AH → Prop} {x0 : Nat} {x1 : Int32} {x2 : Int32} {x3 : Int32} {G : AH} (h : wp E d M_X12_autoValue 214 [some (vr x0), some (vi x1), some (vi x2), some (vi x3), none, none, none, none, none] [vi 1] G Q) : wp E d M_X12_autoValue 209 [some (vr x0), some (vi x1), some (vi x2), some (vi x3), none, none, none, none, none] [] G Q := by
  refine wp_iconst (pc := 209) (v := 1) d_X12_autoValue_209 rfl ?_
  refine wp_goto (pc := 210) (tgt := 214) d_X12_autoValue_210 (by decide) ?_
  refine wp_sub ?_ h
  exact ⟨rfl, ⟨rfl, ⟨rfl, ⟨rfl, trivial⟩⟩⟩⟩
theorem v_X12_autoValue_214 {E : EE} {d : Nat} {Q : Option AV → AH → Prop} {x0 : Nat} {x1 : Int32} {x2 : Int32} {x3 : Int32} {t0 : Int32} {G : AH} (h : isO E G x0 12 ∧ (wp E d M_X12_autoValue 168 [some (vr x0), some (vi x1), some (vi x2), some (vi t0), none, none, none, none, none] [] (sI G x0 54 ((gI G x0 54) + 1)) Q)) : wp E d M_X12_autoValue 214 [some (vr x0), some (vi x1), some (vi x2), some (vi x3), none, none, none, none, none] [vi t0] G Q := by
  refine wp_istore_n (pc := 214) (lv' := [some (vr _), some (vi _), some (vi _), some (vi _), none, none, none, none, none]) d_X12_autoValue_214 (by decide) rfl ?_
  refine wp_aload_n (pc := 215) d_X12_autoValue_215 rfl ?_
  refine wp_dup (pc := 216) d_X12_autoValue_216 (c1_r _) ?_
  obtain ⟨ho1, h⟩ := h
  refine wp_getI (pc := 217) d_X12_autoValue_217 fl_X12_472 (fun _ _ _ => rfl) ho1 ?_
  refine wp_iconst (pc := 220) (v := 1) d_X12_autoValue_220 rfl ?_
  refine wp_iadd (pc := 221) d_X12_autoValue_221 ?_
  refine wp_putI (pc := 222) d_X12_autoValue_222 fl_X12_472 (fun _ _ _ => rfl) (Or.inl rfl) ho1 (okI_int _) ?_
  refine wp_goto (pc := 225) (tgt := 168) d_X12_autoValue_225 (by decide) ?_
  refine wp_sub ?_ h
  exact ⟨rfl, ⟨rfl, ⟨rfl, ⟨rfl, trivial⟩⟩⟩⟩
theorem d_X12_busyValue_0 : decode prog_14_method_82_code 0 = .ok (.aload_n 0, 1) := by decide +kernel
theorem d_X12_busyValue_1 : decode prog_14_method_82_code 1 = .ok (.getfield 34, 3) := by decide +kernel
theorem d_X12_busyValue_4 : decode prog_14_method_82_code 4 = .ok (.aload_n 0, 1) := by decide +kernel
theorem d_X12_busyValue_5 : decode prog_14_method_82_code 5 = .ok (.getfield 472, 3) := by decide +kernel
theorem d_X12_busyValue_8 : decode prog_14_method_82_code 8 = .ok (.iaload, 1) := by decide +kernel
theorem d_X12_busyValue_9 : decode prog_14_method_82_code 9 = .ok (.i2l, 1) := by decide +kernel
theorem d_X12_busyValue_10 : decode prog_14_method_82_code 10 = .ok (.lstore_n 1, 1) := by decide +kernel
theorem d_X12_busyValue_11 : decode prog_14_method_82_code 11 = .ok (.aload_n 0, 1) := by decide +kernel
theorem d_X12_busyValue_12 : decode prog_14_method_82_code 12 = .ok (.dup, 1) := by decide +kernel
theorem d_X12_busyValue_13 : decode prog_14_method_82_code 13 = .ok (.getfield 472, 3) := by decide +kernel
theorem d_X12_busyValue_16 : decode prog_14_method_82_code 16 = .ok (.iconst 1, 1) := by decide +kernel
theorem d_X12_busyValue_17 : decode prog_14_method_82_code 17 = .ok (.iadd, 1) := by decide +kernel
theorem d_X12_busyValue_18 : decode prog_14_method_82_code 18 = .ok (.putfield 472, 3) := by decide +kernel
theorem d_X12_busyValue_21 : decode prog_14_method_82_code 21 = .ok (.iconst 0, 1) := by decide +kernel
theorem d_X12_busyValue_22 : decode prog_14_method_82_code 22 = .ok (.istore_n 3, 1) := by decide +kernel
theorem d_X12_busyValue_23 : decode prog_14_method_82_code 23 = .ok (.aload_n 0, 1) := by decide +kernel
theorem d_X12_busyValue_24 : decode prog_14_method_82_code 24 = .ok (.getfield 31, 3) := by decide +kernel
theorem d_X12_busyValue_27 : decode prog_14_method_82_code 27 = .ok (.aload_n 0, 1) := by decide +kernel
theorem d_X12_busyValue_28 : decode prog_14_method_82_code 28 = .ok (.getfield 472, 3) := by decide +kernel
theorem d_X12_busyValue_31 : decode prog_14_method_82_code 31 = .ok (.iaload, 1) := by decide +kernel
theorem d_X12_busyValue_32 : decode prog_14_method_82_code 32 = .ok (.bipush 41, 2) := by decide +kernel
theorem d_X12_busyValue_34 : decode prog_14_method_82_code 34 = .ok (.if_icmp .eq 91, 3) := by decide +kernel
theorem d_X12_busyValue_37 : decode prog_14_method_82_code 37 = .ok (.aload_n 0, 1) := by decide +kernel
theorem d_X12_busyValue_38 : decode prog_14_method_82_code 38 = .ok (.dup, 1) := by decide +kernel
theorem d_X12_busyValue_39 : decode prog_14_method_82_code 39 = .ok (.getfield 472, 3) := by decide +kernel
theorem d_X12_busyValue_42 : decode prog_14_method_82_code 42 = .ok (.iconst 2, 1) := by decide +kernel
theorem d_X12_busyValue_43 : decode prog_14_method_82_code 43 = .ok (.iadd, 1) := by decide +kernel
theorem d_X12_busyValue_44 : decode prog_14_method_82_code 44 = .ok (.putfield 472, 3) := by decide +kernel
theorem d_X12_busyValue_47 : decode prog_14_method_82_code 47 = .ok (.aload_n 0, 1) := by decide +kernel
theorem d_X12_busyValue_48 : decode prog_14_method_82_code 48 = .ok (.getfield 134, 3) := by decide +kernel
theorem d_X12_busyValue_51 : decode prog_14_method_82_code 51 = .ok (.iload_n 3, 1) := by decide +kernel
theorem d_X12_busyValue_52 : decode prog_14_method_82_code 52 = .ok (.aload_n 0, 1) := by decide +kernel
theorem d_X12_busyValue_53 : decode prog_14_method_82_code 53 = .ok (.invokevirtual 486, 3) := by decide +kernel
theorem d_X12_busyValue_56 : decode prog_14_method_82_code 56 = .ok (.lastore, 1) := by decide +kernel
theorem d_X12_busyValue_57 : decode prog_14_method_82_code 57 = .ok (.aload_n 0, 1) := by decide +kernel
theorem d_X12_busyValue_58 : decode prog_14_method_82_code 58 = .ok (.dup, 1) := by decide +kernel
theorem d_X12_busyValue_59 : decode prog_14_method_82_code 59 = .ok (.getfield 472, 3) := by decide +kernel
theorem d_X12_busyValue_62 : decode prog_14_method_82_code 62 = .ok (.iconst 1, 1) := by decide +kernel
theorem d_X12_busyValue_63 : decode prog_14_method_82_code 63 = .ok (.iadd, 1) := by decide +kernel
theorem d_X12_busyValue_64 : decode prog_14_method_82_code 64 = .ok (.putfield 472, 3) := by decide +kernel
theorem d_X12_busyValue_67 : decode prog_14_method_82_code 67 = .ok (.aload_n 0, 1) := by decide +kernel
theorem d_X12_busyValue_68 : decode prog_14_method_82_code 68 = .ok (.getfield 137, 3) := by decide +kernel
theorem d_X12_busyValue_71 : decode prog_14_method_82_code 71 = .ok (.iload_n 3, 1) := by decide +kernel
theorem d_X12_busyValue_72 : decode prog_14_method_82_code 72 = .ok (.aload_n 0, 1) := by decide +kernel
theorem d_X12_busyValue_73 : decode prog_14_method_82_code 73 = .ok (.getfield 34, 3) := by decide +kernel
theorem d_X12_busyValue_76 : decode prog_14_method_82_code 76 = .ok (.aload_n 0, 1) := by decide +kernel
theorem d_X12_busyValue_77 : decode prog_14_method_82_code 77 = .ok (.getfield 472, 3) := by decide +kernel
theorem d_X12_busyValue_80 : decode prog_14_method_82_code 80 = .ok (.iaload, 1) := by decide +kernel
theorem d_X12_busyValue_81 : decode prog_14_method_82_code 81 = .ok (.i2l, 1) := by decide +kernel
theorem d_X12_busyValue_82 : decode prog_14_method_82_code 82 = .ok (.lastore, 1) := by decide +kernel
theorem d_X12_busyValue_83 : decode prog_14_method_82_code 83 = .ok (.aload_n 0, 1) := by decide +kernel
theorem d_X12_busyValue_84 : decode prog_14_method_82_code 84 = .ok (.dup, 1) := by decide +kernel
theorem d_X12_busyValue_85 : decode prog_14_method_82_code 85 = .ok (.getfield 472, 3) := by decide +kernel
theorem d_X12_busyValue_88 : decode prog_14_method_82_code 88 = .ok (.iconst 2, 1) := by decide +kernel
theorem d_X12_busyValue_89 : decode prog_14_method_82_code 89 = .ok (.iadd, 1) := by decide +kernel
theorem d_X12_busyValue_90 : decode prog_14_method_82_code 90 = .ok (.putfield 472, 3) := by decide +kernel
theorem d_X12_busyValue_93 : decode prog_14_method_82_code 93 = .ok (.aload_n 0, 1) := by decide +kernel
theorem d_X12_busyValue_94 : decode prog_14_method_82_code 94 = .ok (.getfield 140, 3) := by decide +kernel
theorem d_X12_busyValue_97 : decode prog_14_method_82_code 97 = .ok (.iload_n 3, 1) := by decide +kernel
theorem d_X12_busyValue_98 : decode prog_14_method_82_code 98 = .ok (.aload_n 0, 1) := by decide +kernel
theorem d_X12_busyValue_99 : decode prog_14_method_82_code 99 = .ok (.getfield 34, 3) := by decide +kernel
theorem d_X12_busyValue_102 : decode prog_14_method_82_code 102 = .ok (.aload_n 0, 1) := by decide +kernel
theorem d_X12_busyValue_103 : decode prog_14_method_82_code 103 = .ok (.getfield 472, 3) := by decide +kernel
theorem d_X12_busyValue_106 : decode prog_14_method_82_code 106 = .ok (.iaload, 1) := by decide +kernel
theorem d_X12_busyValue_107 : decode prog_14_method_82_code 107 = .ok (.i2l, 1) := by decide +kernel
theorem d_X12_busyValue_108 : decode prog_14_method_82_code 108 = .ok (.lastore, 1) := by decide +kernel
theorem d_X12_busyValue_109 : decode prog_14_method_82_code 109 = .ok (.aload_n 0, 1) := by decide +kernel
theorem d_X12_busyValue_110 : decode prog_14_method_82_code 110 = .ok (.dup, 1) := by decide +kernel
theorem d_X12_busyValue_111 : decode prog_14_method_82_code 111 = .ok (.getfield 472, 3) := by decide +kernel
theorem d_X12_busyValue_114 : decode prog_14_method_82_code 114 = .ok (.iconst 2, 1) := by decide +kernel
theorem d_X12_busyValue_115 : decode prog_14_method_82_code 115 = .ok (.iadd, 1) := by decide +kernel
theorem d_X12_busyValue_116 : decode prog_14_method_82_code 116 = .ok (.putfield 472, 3) := by decide +kernel
theorem d_X12_busyValue_119 : decode prog_14_method_82_code 119 = .ok (.iinc 3 1, 3) := by decide +kernel
theorem d_X12_busyValue_122 : decode prog_14_method_82_code 122 = .ok (.goto (-99), 3) := by decide +kernel
theorem d_X12_busyValue_125 : decode prog_14_method_82_code 125 = .ok (.lconst 0, 1) := by decide +kernel
theorem d_X12_busyValue_126 : decode prog_14_method_82_code 126 = .ok (.lstore 4, 2) := by decide +kernel
theorem d_X12_busyValue_128 : decode prog_14_method_82_code 128 = .ok (.iconst 0, 1) := by decide +kernel
theorem d_X12_busyValue_129 : decode prog_14_method_82_code 129 = .ok (.istore 6, 2) := by decide +kernel
theorem d_X12_busyValue_131 : decode prog_14_method_82_code 131 = .ok (.iload 6, 2) := by decide +kernel
theorem d_X12_busyValue_133 : decode prog_14_method_82_code 133 = .ok (.iload_n 3, 1) := by decide +kernel
theorem d_X12_busyValue_134 : decode prog_14_method_82_code 134 = .ok (.if_icmp .ge 116, 3) := by decide +kernel
theorem d_X12_busyValue_137 : decode prog_14_method_82_code 137 = .ok (.lconst 0, 1) := by decide +kernel
theorem d_X12_busyValue_138 : decode prog_14_method_82_code 138 = .ok (.lstore 7, 2) := by decide +kernel
theorem d_X12_busyValue_140 : decode prog_14_method_82_code 140 = .ok (.iconst 0, 1) := by decide +kernel
theorem d_X12_busyValue_141 : decode prog_14_method_82_code 141 = .ok (.istore 9, 2) := by decide +kernel
theorem d_X12_busyValue_143 : decode prog_14_method_82_code 143 = .ok (.iload 9, 2) := by decide +kernel
theorem d_X12_busyValue_145 : decode prog_14_method_82_code 145 = .ok (.iload_n 3, 1) := by decide +kernel
theorem d_X12_busyValue_146 : decode prog_14_method_82_code 146 = .ok (.if_icmp .ge 81, 3) := by decide +kernel
theorem d_X12_busyValue_149 : decode prog_14_method_82_code 149 = .ok (.aload_n 0, 1) := by decide +kernel
theorem d_X12_busyValue_150 : decode prog_14_method_82_code 150 = .ok (.getfield 134, 3) := by decide +kernel
theorem d_X12_busyValue_153 : decode prog_14_method_82_code 153 = .ok (.iload 9, 2) := by decide +kernel
theorem d_X12_busyValue_155 : decode prog_14_method_82_code 155 = .ok (.laload, 1) := by decide +kernel
theorem d_X12_busyValue_156 : decode prog_14_method_82_code 156 = .ok (.aload_n 0, 1) := by decide +kernel
theorem d_X12_busyValue_157 : decode prog_14_method_82_code 157 = .ok (.getfield 134, 3) := by decide +kernel
theorem d_X12_busyValue_160 : decode prog_14_method_82_code 160 = .ok (.iload 6, 2) := by decide +kernel
theorem d_X12_busyValue_162 : decode prog_14_method_82_code 162 = .ok (.laload, 1) := by decide +kernel
theorem d_X12_busyValue_163 : decode prog_14_method_82_code 163 = .ok (.lcmp, 1) := by decide +kernel
theorem d_X12_busyValue_164 : decode prog_14_method_82_code 164 = .ok (.ifCond .gt 33, 3) := by decide +kernel
theorem d_X12_busyValue_167 : decode prog_14_method_82_code 167 = .ok (.aload_n 0, 1) := by decide +kernel
theorem d_X12_busyValue_168 : decode prog_14_method_82_code 168 = .ok (.getfield 134, 3) := by decide +kernel
theorem d_X12_busyValue_171 : decode prog_14_method_82_code 171 = .ok (.iload 6, 2) := by decide +kernel
theorem d_X12_busyValue_173 : decode prog_14_method_82_code 173 = .ok (.laload, 1) := by decide +kernel
theorem d_X12_busyValue_174 : decode prog_14_method_82_code 174 = .ok (.aload_n 0, 1) := by decide +kernel
theorem d_X12_busyValue_175 : decode prog_14_method_82_code 175 = .ok (.getfield 134, 3) := by decide +kernel
theorem d_X12_busyValue_178 : decode prog_14_method_82_code 178 = .ok (.iload 9, 2) := by decide +kernel
theorem d_X12_busyValue_180 : decode prog_14_method_82_code 180 = .ok (.laload, 1) := by decide +kernel
theorem d_X12_busyValue_181 : decode prog_14_method_82_code 181 = .ok (.aload_n 0, 1) := by decide +kernel
theorem d_X12_busyValue_182 : decode prog_14_method_82_code 182 = .ok (.getfield 137, 3) := by decide +kernel
theorem d_X12_busyValue_185 : decode prog_14_method_82_code 185 = .ok (.iload 9, 2) := by decide +kernel
theorem d_X12_busyValue_187 : decode prog_14_method_82_code 187 = .ok (.laload, 1) := by decide +kernel
theorem d_X12_busyValue_188 : decode prog_14_method_82_code 188 = .ok (.ladd, 1) := by decide +kernel
theorem d_X12_busyValue_189 : decode prog_14_method_82_code 189 = .ok (.lcmp, 1) := by decide +kernel
theorem d_X12_busyValue_190 : decode prog_14_method_82_code 190 = .ok (.ifCond .ge 7, 3) := by decide +kernel
theorem d_X12_busyValue_193 : decode prog_14_method_82_code 193 = .ok (.iconst 1, 1) := by decide +kernel
theorem d_X12_busyValue_194 : decode prog_14_method_82_code 194 = .ok (.goto 4, 3) := by decide +kernel
theorem d_X12_busyValue_197 : decode prog_14_method_82_code 197 = .ok (.iconst 0, 1) := by decide +kernel
theorem d_X12_busyValue_198 : decode prog_14_method_82_code 198 = .ok (.istore 10, 2) := by decide +kernel
theorem d_X12_busyValue_200 : decode prog_14_method_82_code 200 = .ok (.lload 7, 2) := by decide +kernel
theorem d_X12_busyValue_202 : decode prog_14_method_82_code 202 = .ok (.iload 10, 2) := by decide +kernel
theorem d_X12_busyValue_204 : decode prog_14_method_82_code 204 = .ok (.ifCond .eq 13, 3) := by decide +kernel
theorem d_X12_busyValue_207 : decode prog_14_method_82_code 207 = .ok (.aload_n 0, 1) := by decide +kernel
theorem d_X12_busyValue_208 : decode prog_14_method_82_code 208 = .ok (.getfield 140, 3) := by decide +kernel
theorem d_X12_busyValue_211 : decode prog_14_method_82_code 211 = .ok (.iload 9, 2) := by decide +kernel
theorem d_X12_busyValue_213 : decode prog_14_method_82_code 213 = .ok (.laload, 1) := by decide +kernel
theorem d_X12_busyValue_214 : decode prog_14_method_82_code 214 = .ok (.goto 4, 3) := by decide +kernel
theorem d_X12_busyValue_217 : decode prog_14_method_82_code 217 = .ok (.lconst 0, 1) := by decide +kernel
theorem d_X12_busyValue_218 : decode prog_14_method_82_code 218 = .ok (.ladd, 1) := by decide +kernel
theorem d_X12_busyValue_219 : decode prog_14_method_82_code 219 = .ok (.lstore 7, 2) := by decide +kernel
theorem d_X12_busyValue_221 : decode prog_14_method_82_code 221 = .ok (.iinc 9 1, 3) := by decide +kernel
theorem d_X12_busyValue_224 : decode prog_14_method_82_code 224 = .ok (.goto (-81), 3) := by decide +kernel
theorem d_X12_busyValue_227 : decode prog_14_method_82_code 227 = .ok (.lload 7, 2) := by decide +kernel
theorem d_X12_busyValue_229 : decode prog_14_method_82_code 229 = .ok (.lload 4, 2) := by decide +kernel
theorem d_X12_busyValue_231 : decode prog_14_method_82_code 231 = .ok (.lcmp, 1) := by decide +kernel
theorem d_X12_busyValue_232 : decode prog_14_method_82_code 232 = .ok (.ifCond .le 8, 3) := by decide +kernel
theorem d_X12_busyValue_235 : decode prog_14_method_82_code 235 = .ok (.lload 7, 2) := by decide +kernel
theorem d_X12_busyValue_237 : decode prog_14_method_82_code 237 = .ok (.goto 5, 3) := by decide +kernel
theorem d_X12_busyValue_240 : decode prog_14_method_82_code 240 = .ok (.lload 4, 2) := by decide +kernel
theorem d_X12_busyValue_242 : decode prog_14_method_82_code 242 = .ok (.lstore 4, 2) := by decide +kernel
theorem d_X12_busyValue_244 : decode prog_14_method_82_code 244 = .ok (.iinc 6 1, 3) := by decide +kernel
theorem d_X12_busyValue_247 : decode prog_14_method_82_code 247 = .ok (.goto (-116), 3) := by decide +kernel
theorem d_X12_busyValue_250 : decode prog_14_method_82_code 250 = .ok (.lload 4, 2) := by decide +kernel
theorem d_X12_busyValue_252 : decode prog_14_method_82_code 252 = .ok (.lload_n 1, 1) := by decide +kernel
theorem d_X12_busyValue_253 : decode prog_14_method_82_code 253 = .ok (.lcmp, 1) := by decide +kernel
theorem d_X12_busyValue_254 : decode prog_14_method_82_code 254 = .ok (.ifCond .le 10, 3) := by decide +kernel
theorem d_X12_busyValue_257 : decode prog_14_method_82_code 257 = .ok (.lload 4, 2) := by decide +kernel
theorem d_X12_busyValue_259 : decode prog_14_method_82_code 259 = .ok (.lload_n 1, 1) := by decide +kernel
theorem d_X12_busyValue_260 : decode prog_14_method_82_code 260 = .ok (.lsub, 1) := by decide +kernel
theorem d_X12_busyValue_261 : decode prog_14_method_82_code 261 = .ok (.goto 4, 3) := by decide +kernel
theorem d_X12_busyValue_264 : decode prog_14_method_82_code 264 = .ok (.lconst 0, 1) := by decide +kernel
theorem d_X12_busyValue_265 : decode prog_14_method_82_code 265 = .ok (.lreturn, 1) := by decide +kernel
theorem v_X12_busyValue_0 {E : EE} {d : Nat} {Q : Option AV → AH → Prop} {x0 : Nat} {G : AH} (h : isO E G x0 12 ∧ (isO E G (gR G x0 9) 14 ∧ (vp_in (gI G x0 54) (gN G (gR G x0 9)) ∧ (wp E d M_X12_busyValue 23 [some (vr x0), some (vj (Int32.toInt64 (gI G (gR G x0 9) (Int32.toNatClampNeg (gI G x0 54))))), none, some (vi 0), none, none, none, none, none, none, none] [] (sI G x0 54 ((gI G x0 54) + 1)) Q)))) : wp E d M_X12_busyValue 0 [some (vr x0), none, none, none, none, none, none, none, none, none, none] [] G Q := by
  refine wp_aload_n (pc := 0) d_X12_busyValue_0 rfl ?_
  obtain ⟨ho1, h⟩ := h
  refine wp_getR (pc := 1) d_X12_busyValue_1 fl_X12_34 (fun _ _ _ => rfl) ho1 ?_
  refine wp_aload_n (pc := 4) d_X12_busyValue_4 rfl ?_
  refine wp_getI (pc := 5) d_X12_busyValue_5 fl_X12_472 (fun _ _ _ => rfl) ho1 ?_
  obtain ⟨ho2, h⟩ := h
  obtain ⟨hi3, h⟩ := h
  refine wp_iald (pc := 8) d_X12_busyValue_8 ho2 hi3 ?_
  refine wp_i2l (pc := 9) d_X12_busyValue_9 ?_
  refine wp_lstore_n (pc := 10) (lv' := [some (vr _), some (vj _), none, none, none, none, none, none, none, none, none]) d_X12_busyValue_10 (by decide) rfl ?_
  refine wp_aload_n (pc := 11) d_X12_busyValue_11 rfl ?_
  refine wp_dup (pc := 12) d_X12_busyValue_12 (c1_r _) ?_
  refine wp_getI (pc := 13) d_X12_busyValue_13 fl_X12_472 (fun _ _ _ => rfl) ho1 ?_
  refine wp_iconst (pc := 16) (v := 1) d_X12_busyValue_16 rfl ?_
  refine wp_iadd (pc := 17) d_X12_busyValue_17 ?_
  refine wp_putI (pc := 18) d_X12_busyValue_18 fl_X12_472 (fun _ _ _ => rfl) (Or.inl rfl) ho1 (okI_int _) ?_
  refine wp_iconst (pc := 21) (v := 0) d_X12_busyValue_21 rfl ?_
  refine wp_istore_n (pc := 22) (lv' := [some (vr _), some (vj _), none, some (vi _), none, none, none, none, none, none, none]) d_X12_busyValue_22 (by decide) rfl ?_
  refine wp_sub ?_ h
  exact ⟨rfl, ⟨rfl, ⟨rfl, trivial⟩⟩⟩
theorem v_X12_busyValue_23 {E : EE} {d : Nat} {Q : Option AV → AH → Prop} {x0 : Nat} {x1 : Int64} {x3 : Int32} {G : AH} (h0 : 0 < d) (h : isO E G x0 12 ∧ (isO E G (gR G x0 8) 14 ∧ (vp_in (gI G x0 54) (gN G (gR G x0 8)) ∧ (((gI G (gR G x0 8) (Int32.toNatClampNeg (gI G x0 54))) = 41 → wp E d M_X12_busyValue 131 [some (vr x0), some (vj x1), none, some (vi x3), some (vj 0), none, some (vi 0), none, none, none, none] [] G Q) ∧ (¬ ((gI G (gR G x0 8) (Int32.toNatClampNeg (gI G x0 54))) = 41) → ∀ G4 : AH, G4 = sI G x0 54 ((gI G x0 54) + 2) → wpJ E (d - 1) M_X12_nameValue [vr x0] G4 (fun r6 G7 => isO E G7 (gR G4 x0 58) 15 ∧ (vp_in x3 (gN G7 (gR G4 x0 58)) ∧ (∀ G10 : AH, G10 = sJ G7 (gR G4 x0 58) (Int32.toNatClampNeg x3) r6 → isO E G10 x0 12 ∧ (∀ G12 : AH, G12 = sI G10 x0 54 ((gI G10 x0 54) + 1) → isO E G12 (gR G12 x0 9) 14 ∧ (vp_in (gI G12 x0 54) (gN G12 (gR G12 x0 9)) ∧ (isO E G12 (gR G12 x0 59) 15 ∧ (vp_in x3 (gN G12 (gR G12 x0 59)) ∧ (∀ G18 : AH, G18 = sJ G12 (gR G12 x0 59) (Int32.toNatClampNeg x3) (Int32.toInt64 (gI G12 (gR G12 x0 9) (Int32.toNatClampNeg (gI G12 x0 54)))) → ∀ G20 : AH, G20 = sI G18 x0 54 ((gI G18 x0 54) + 2) → isO E G20 (gR G20 x0 9) 14 ∧ (vp_in (gI G20 x0 54) (gN G20 (gR G20 x0 9)) ∧ (isO E G20 (gR G20 x0 60) 15 ∧ (vp_in x3 (gN G20 (gR G20 x0 60)) ∧ (∀ G26 : AH, G26 = sJ G20 (gR G20 x0 60) (Int32.toNatClampNeg x3) (Int32.toInt64 (gI G20 (gR G20 x0 9) (Int32.toNatClampNeg (gI G20 x0 54)))) → ∀ G28 : AH, G28 = sI G26 x0 54 ((gI G26 x0 54) + 2) → wp E d M_X12_busyValue 23 [some (vr x0), some (vj x1), none, some (vi (x3 + 1)), none, none, none, none, none, none, none] [] G28 Q))))))))))))))))) : wp E d M_X12_busyValue 23 [some (vr x0), some (vj x1), none, some (vi x3), none, none, none, none, none, none, none] [] G Q := by
  refine wp_aload_n (pc := 23) d_X12_busyValue_23 rfl ?_
  obtain ⟨ho1, h⟩ := h
  refine wp_getR (pc := 24) d_X12_busyValue_24 fl_X12_31 (fun _ _ _ => rfl) ho1 ?_
  refine wp_aload_n (pc := 27) d_X12_busyValue_27 rfl ?_
  refine wp_getI (pc := 28) d_X12_busyValue_28 fl_X12_472 (fun _ _ _ => rfl) ho1 ?_
  obtain ⟨ho2, h⟩ := h
  obtain ⟨hi3, h⟩ := h
  refine wp_iald (pc := 31) d_X12_busyValue_31 ho2 hi3 ?_
  refine wp_bipush (pc := 32) (v := 41) d_X12_busyValue_32 rfl ?_
  refine wp_icmp_eq (pc := 34) (tgt := 125) d_X12_busyValue_34 (by decide) (fun hc => ?_) (fun hc => ?_)
  · have h := h.1 hc
    refine wp_lconst (pc := 125) (v := 0) d_X12_busyValue_125 rfl ?_
    refine wp_lstore (pc := 126) (lv' := [some (vr _), some (vj _), none, some (vi _), some (vj _), none, none, none, none, none, none]) d_X12_busyValue_126 (by decide) rfl ?_
    refine wp_iconst (pc := 128) (v := 0) d_X12_busyValue_128 rfl ?_
    refine wp_istore (pc := 129) (lv' := [some (vr _), some (vj _), none, some (vi _), some (vj _), none, some (vi _), none, none, none, none]) d_X12_busyValue_129 (by decide) rfl ?_
    refine wp_sub ?_ h
    exact ⟨rfl, ⟨rfl, ⟨rfl, ⟨rfl, ⟨rfl, trivial⟩⟩⟩⟩⟩
  · have h := h.2 hc
    refine wp_aload_n (pc := 37) d_X12_busyValue_37 rfl ?_
    refine wp_dup (pc := 38) d_X12_busyValue_38 (c1_r _) ?_
    refine wp_getI (pc := 39) d_X12_busyValue_39 fl_X12_472 (fun _ _ _ => rfl) ho1 ?_
    refine wp_iconst (pc := 42) (v := 2) d_X12_busyValue_42 rfl ?_
    refine wp_iadd (pc := 43) d_X12_busyValue_43 ?_
    refine wp_putI (pc := 44) d_X12_busyValue_44 fl_X12_472 (fun _ _ _ => rfl) (Or.inl rfl) ho1 (okI_int _) ?_
    refine wp_nm (fun G4 eG4 => ?_)
    have h := h G4 eG4
    have ho5 := isO_sI eG4 ho1
    refine wp_aload_n (pc := 47) d_X12_busyValue_47 rfl ?_
    refine wp_getR (pc := 48) d_X12_busyValue_48 fl_X12_134 (fun _ _ _ => rfl) ho5 ?_
    refine wp_iload_n (pc := 51) d_X12_busyValue_51 rfl ?_
    refine wp_aload_n (pc := 52) d_X12_busyValue_52 rfl ?_
    refine wp_invV (pc := 53) (N := M_X12_nameValue) (As := []) (rest := [vi _, vr _]) (r := (cn_12, ct_12, 95)) d_X12_busyValue_53 ml_X12_486 mk_X12_nameValue mv_X12_nameValue h0 ho5 rfl rfl (Nat.le_of_ble_eq_true rfl) ?_
    refine wpM.mono h (fun rr G7 hr => ?_)
    obtain ⟨r6, rfl, h⟩ := hr
    show wp E d M_X12_busyValue 56 [some (vr _), some (vj _), none, some (vi _), none, none, none, none, none, none, none] [vj _, vi _, vr _] G7 Q
    obtain ⟨ho8, h⟩ := h
    obtain ⟨hi9, h⟩ := h
    refine wp_last (pc := 56) d_X12_busyValue_56 ho8 hi9 ?_
    refine wp_nm (fun G10 eG10 => ?_)
    have h := h G10 eG10
    refine wp_aload_n (pc := 57) d_X12_busyValue_57 rfl ?_
    refine wp_dup (pc := 58) d_X12_busyValue_58 (c1_r _) ?_
    obtain ⟨ho11, h⟩ := h
    refine wp_getI (pc := 59) d_X12_busyValue_59 fl_X12_472 (fun _ _ _ => rfl) ho11 ?_
    refine wp_iconst (pc := 62) (v := 1) d_X12_busyValue_62 rfl ?_
    refine wp_iadd (pc := 63) d_X12_busyValue_63 ?_
    refine wp_putI (pc := 64) d_X12_busyValue_64 fl_X12_472 (fun _ _ _ => rfl) (Or.inl rfl) ho11 (okI_int _) ?_
    refine wp_nm (fun G12 eG12 => ?_)
    have h := h G12 eG12
    have ho13 := isO_sI eG12 ho11
    refine wp_aload_n (pc := 67) d_X12_busyValue_67 rfl ?_
    refine wp_getR (pc := 68) d_X12_busyValue_68 fl_X12_137 (fun _ _ _ => rfl) ho13 ?_
    refine wp_iload_n (pc := 71) d_X12_busyValue_71 rfl ?_
    refine wp_aload_n (pc := 72) d_X12_busyValue_72 rfl ?_
    refine wp_getR (pc := 73) d_X12_busyValue_73 fl_X12_34 (fun _ _ _ => rfl) ho13 ?_
    refine wp_aload_n (pc := 76) d_X12_busyValue_76 rfl ?_
    refine wp_getI (pc := 77) d_X12_busyValue_77 fl_X12_472 (fun _ _ _ => rfl) ho13 ?_
    obtain ⟨ho14, h⟩ := h
    obtain ⟨hi15, h⟩ := h
    refine wp_iald (pc := 80) d_X12_busyValue_80 ho14 hi15 ?_
    refine wp_i2l (pc := 81) d_X12_busyValue_81 ?_
    obtain ⟨ho16, h⟩ := h
    obtain ⟨hi17, h⟩ := h
    refine wp_last (pc := 82) d_X12_busyValue_82 ho16 hi17 ?_
    refine wp_nm (fun G18 eG18 => ?_)
    have h := h G18 eG18
    have ho19 := isO_sJ eG18 ho13
    refine wp_aload_n (pc := 83) d_X12_busyValue_83 rfl ?_
    refine wp_dup (pc := 84) d_X12_busyValue_84 (c1_r _) ?_
    refine wp_getI (pc := 85) d_X12_busyValue_85 fl_X12_472 (fun _ _ _ => rfl) ho19 ?_
    refine wp_iconst (pc := 88) (v := 2) d_X12_busyValue_88 rfl ?_
    refine wp_iadd (pc := 89) d_X12_busyValue_89 ?_
    refine wp_putI (pc := 90) d_X12_busyValue_90 fl_X12_472 (fun _ _ _ => rfl) (Or.inl rfl) ho19 (okI_int _) ?_
    refine wp_nm (fun G20 eG20 => ?_)
    have h := h G20 eG20
    have ho21 := isO_sI eG20 ho19
    refine wp_aload_n (pc := 93) d_X12_busyValue_93 rfl ?_
    refine wp_getR (pc := 94) d_X12_busyValue_94 fl_X12_140 (fun _ _ _ => rfl) ho21 ?_
    refine wp_iload_n (pc := 97) d_X12_busyValue_97 rfl ?_
    refine wp_aload_n (pc := 98) d_X12_busyValue_98 rfl ?_
    refine wp_getR (pc := 99) d_X12_busyValue_99 fl_X12_34 (fun _ _ _ => rfl) ho21 ?_
    refine wp_aload_n (pc := 102) d_X12_busyValue_102 rfl ?_
    refine wp_getI (pc := 103) d_X12_busyValue_103 fl_X12_472 (fun _ _ _ => rfl) ho21 ?_
    obtain ⟨ho22, h⟩ := h
    obtain ⟨hi23, h⟩ := h
    refine wp_iald (pc := 106) d_X12_busyValue_106 ho22 hi23 ?_
    refine wp_i2l (pc := 107) d_X12_busyValue_107 ?_
    obtain ⟨ho24, h⟩ := h
    obtain ⟨hi25, h⟩ := h
    refine wp_last (pc := 108) d_X12_busyValue_108 ho24 hi25 ?_
    refine wp_nm (fun G26 eG26 => ?_)
    have h := h G26 eG26
    have ho27 := isO_sJ eG26 ho21
    refine wp_aload_n (pc := 109) d_X12_busyValue_109 rfl ?_
    refine wp_dup (pc := 110) d_X12_busyValue_110 (c1_r _) ?_
    refine wp_getI (pc := 111) d_X12_busyValue_111 fl_X12_472 (fun _ _ _ => rfl) ho27 ?_
    refine wp_iconst (pc := 114) (v := 2) d_X12_busyValue_114 rfl ?_
    refine wp_iadd (pc := 115) d_X12_busyValue_115 ?_
    refine wp_putI (pc := 116) d_X12_busyValue_116 fl_X12_472 (fun _ _ _ => rfl) (Or.inl rfl) ho27 (okI_int _) ?_
    refine wp_nm (fun G28 eG28 => ?_)
    have h := h G28 eG28
    have ho29 := isO_sI eG28 ho27
    refine wp_iinc (pc := 119) (v := 1) (lv' := [some (vr _), some (vj _), none, some (vi _), none, none, none, none, none, none, none]) d_X12_busyValue_119 (by decide) rfl rfl rfl ?_
    refine wp_goto (pc := 122) (tgt := 23) d_X12_busyValue_122 (by decide) ?_
    refine wp_sub ?_ h
    exact ⟨rfl, ⟨rfl, ⟨rfl, trivial⟩⟩⟩
theorem v_X12_busyValue_131 {E : EE} {d : Nat} {Q : Option AV → AH → Prop} {x0 : Nat} {x1 : Int64} {x3 : Int32} {x4 : Int64} {x6 : Int32} {G : AH} (h : (x3 ≤ x6 → (x4 ≤ x1 → Q (some (vj 0)) G) ∧ (¬ (x4 ≤ x1) → Q (some (vj (x4 - x1))) G)) ∧ (¬ (x3 ≤ x6) → wp E d M_X12_busyValue 143 [some (vr x0), some (vj x1), none, some (vi x3), some (vj x4), none, some (vi x6), some (vj 0), none, some (vi 0), none] [] G Q)) : wp E d M_X12_busyValue 131 [some (vr x0), some (vj x1), none, some (vi x3), some (vj x4), none, some (vi x6), none, none, none, none] [] G Q := by
  refine wp_iload (pc := 131) d_X12_busyValue_131 rfl ?_
  refine wp_iload_n (pc := 133) d_X12_busyValue_133 rfl ?_
  refine wp_icmp_ge (pc := 134) (tgt := 250) d_X12_busyValue_134 (by decide) (fun hc => ?_) (fun hc => ?_)
  · have h := h.1 hc
    refine wp_lload (pc := 250) d_X12_busyValue_250 rfl ?_
    refine wp_lload_n (pc := 252) d_X12_busyValue_252 rfl ?_
    refine wp_lcmp_le (pc := 253) (tgt := 264) d_X12_busyValue_253 d_X12_busyValue_254 (by decide) (fun hc => ?_) (fun hc => ?_)
    · have h := h.1 hc
      refine wp_lconst (pc := 264) (v := 0) d_X12_busyValue_264 rfl ?_
      exact wp_lret (pc := 265) d_X12_busyValue_265 rfl h
    · have h := h.2 hc
      refine wp_lload (pc := 257) d_X12_busyValue_257 rfl ?_
      refine wp_lload_n (pc := 259) d_X12_busyValue_259 rfl ?_
      refine wp_lsub (pc := 260) d_X12_busyValue_260 ?_
      refine wp_goto (pc := 261) (tgt := 265) d_X12_busyValue_261 (by decide) ?_
      exact wp_lret (pc := 265) d_X12_busyValue_265 rfl h
  · have h := h.2 hc
    refine wp_lconst (pc := 137) (v := 0) d_X12_busyValue_137 rfl ?_
    refine wp_lstore (pc := 138) (lv' := [some (vr _), some (vj _), none, some (vi _), some (vj _), none, some (vi _), some (vj _), none, none, none]) d_X12_busyValue_138 (by decide) rfl ?_
    refine wp_iconst (pc := 140) (v := 0) d_X12_busyValue_140 rfl ?_
    refine wp_istore (pc := 141) (lv' := [some (vr _), some (vj _), none, some (vi _), some (vj _), none, some (vi _), some (vj _), none, some (vi _), none]) d_X12_busyValue_141 (by decide) rfl ?_
    refine wp_sub ?_ h
    exact ⟨rfl, ⟨rfl, ⟨rfl, ⟨rfl, ⟨rfl, ⟨rfl, ⟨rfl, trivial⟩⟩⟩⟩⟩⟩⟩
theorem v_X12_busyValue_143 {E : EE} {d : Nat} {Q : Option AV → AH → Prop} {x0 : Nat} {x1 : Int64} {x3 : Int32} {x4 : Int64} {x6 : Int32} {x7 : Int64} {x9 : Int32} {G : AH} (h : (x3 ≤ x9 → (x7 ≤ x4 → wp E d M_X12_busyValue 242 [some (vr x0), some (vj x1), none, some (vi x3), some (vj x4), none, some (vi x6), some (vj x7), none, some (vi x9), none] [vj x4] G Q) ∧ (¬ (x7 ≤ x4) → wp E d M_X12_busyValue 242 [some (vr x0), some (vj x1), none, some (vi x3), some (vj x4), none, some (vi x6), some (vj x7), none, some (vi x9), none] [vj x7] G Q)) ∧ (¬ (x3 ≤ x9) → isO E G x0 12 ∧ (isO E G (gR G x0 58) 15 ∧ (vp_in x9 (gN G (gR G x0 58)) ∧ (vp_in x6 (gN G (gR G x0 58)) ∧ (((gJ G (gR G x0 58) (Int32.toNatClampNeg x6)) < (gJ G (gR G x0 58) (Int32.toNatClampNeg x9)) → wp E d M_X12_busyValue 197 [some (vr x0), some (vj x1), none, some (vi x3), some (vj x4), none, some (vi x6), some (vj x7), none, some (vi x9), none] [] G Q) ∧ (¬ ((gJ G (gR G x0 58) (Int32.toNatClampNeg x6)) < (gJ G (gR G x0 58) (Int32.toNatClampNeg x9))) → vp_in x6 (gN G (gR G x0 58)) ∧ (vp_in x9 (gN G (gR G x0 58)) ∧ (isO E G (gR G x0 59) 15 ∧ (vp_in x9 (gN G (gR G x0 59)) ∧ ((((gJ G (gR G x0 58) (Int32.toNatClampNeg x9)) + (gJ G (gR G x0 59) (Int32.toNatClampNeg x9))) ≤ (gJ G (gR G x0 58) (Int32.toNatClampNeg x6)) → wp E d M_X12_busyValue 197 [some (vr x0), some (vj x1), none, some (vi x3), some (vj x4), none, some (vi x6), some (vj x7), none, some (vi x9), none] [] G Q) ∧ (¬ (((gJ G (gR G x0 58) (Int32.toNatClampNeg x9)) + (gJ G (gR G x0 59) (Int32.toNatClampNeg x9))) ≤ (gJ G (gR G x0 58) (Int32.toNatClampNeg x6))) → wp E d M_X12_busyValue 198 [some (vr x0), some (vj x1), none, some (vi x3), some (vj x4), none, some (vi x6), some (vj x7), none, some (vi x9), none] [vi 1] G Q)))))))))))) : wp E d M_X12_busyValue 143 [some (vr x0), some (vj x1), none, some (vi x3), some (vj x4), none, some (vi x6), some (vj x7), none, some (vi x9), none] [] G Q := by
  refine wp_iload (pc := 143) d_X12_busyValue_143 rfl ?_
  refine wp_iload_n (pc := 145) d_X12_busyValue_145 rfl ?_
  refine wp_icmp_ge (pc := 146) (tgt := 227) d_X12_busyValue_146 (by decide) (fun hc => ?_) (fun hc => ?_)
  · have h := h.1 hc
    refine wp_lload (pc := 227) d_X12_busyValue_227 rfl ?_
    refine wp_lload (pc := 229) d_X12_busyValue_229 rfl ?_
    refine wp_lcmp_le (pc := 231) (tgt := 240) d_X12_busyValue_231 d_X12_busyValue_232 (by decide) (fun hc => ?_) (fun hc => ?_)
    · have h := h.1 hc
      refine wp_lload (pc := 240) d_X12_busyValue_240 rfl ?_
      refine wp_sub ?_ h
      exact ⟨rfl, ⟨rfl, ⟨rfl, ⟨rfl, ⟨rfl, ⟨rfl, ⟨rfl, trivial⟩⟩⟩⟩⟩⟩⟩
    · have h := h.2 hc
      refine wp_lload (pc := 235) d_X12_busyValue_235 rfl ?_
      refine wp_goto (pc := 237) (tgt := 242) d_X12_busyValue_237 (by decide) ?_
      refine wp_sub ?_ h
      exact ⟨rfl, ⟨rfl, ⟨rfl, ⟨rfl, ⟨rfl, ⟨rfl, ⟨rfl, trivial⟩⟩⟩⟩⟩⟩⟩
  · have h := h.2 hc
    refine wp_aload_n (pc := 149) d_X12_busyValue_149 rfl ?_
    obtain ⟨ho1, h⟩ := h
    refine wp_getR (pc := 150) d_X12_busyValue_150 fl_X12_134 (fun _ _ _ => rfl) ho1 ?_
    refine wp_iload (pc := 153) d_X12_busyValue_153 rfl ?_
    obtain ⟨ho2, h⟩ := h
    obtain ⟨hi3, h⟩ := h
    refine wp_lald (pc := 155) d_X12_busyValue_155 ho2 hi3 ?_
    refine wp_aload_n (pc := 156) d_X12_busyValue_156 rfl ?_
    refine wp_getR (pc := 157) d_X12_busyValue_157 fl_X12_134 (fun _ _ _ => rfl) ho1 ?_
    refine wp_iload (pc := 160) d_X12_busyValue_160 rfl ?_
    obtain ⟨hi4, h⟩ := h
    refine wp_lald (pc := 162) d_X12_busyValue_162 ho2 hi4 ?_
    refine wp_lcmp_gt (pc := 163) (tgt := 197) d_X12_busyValue_163 d_X12_busyValue_164 (by decide) (fun hc => ?_) (fun hc => ?_)
    · have h := h.1 hc
      refine wp_sub ?_ h
      exact ⟨rfl, ⟨rfl, ⟨rfl, ⟨rfl, ⟨rfl, ⟨rfl, ⟨rfl, trivial⟩⟩⟩⟩⟩⟩⟩
    · have h := h.2 hc
      refine wp_aload_n (pc := 167) d_X12_busyValue_167 rfl ?_
      refine wp_getR (pc := 168) d_X12_busyValue_168 fl_X12_134 (fun _ _ _ => rfl) ho1 ?_
      refine wp_iload (pc := 171) d_X12_busyValue_171 rfl ?_
      obtain ⟨hi5, h⟩ := h
      refine wp_lald (pc := 173) d_X12_busyValue_173 ho2 hi5 ?_
      refine wp_aload_n (pc := 174) d_X12_busyValue_174 rfl ?_
      refine wp_getR (pc := 175) d_X12_busyValue_175 fl_X12_134 (fun _ _ _ => rfl) ho1 ?_
      refine wp_iload (pc := 178) d_X12_busyValue_178 rfl ?_
      obtain ⟨hi6, h⟩ := h
      refine wp_lald (pc := 180) d_X12_busyValue_180 ho2 hi6 ?_
      refine wp_aload_n (pc := 181) d_X12_busyValue_181 rfl ?_
      refine wp_getR (pc := 182) d_X12_busyValue_182 fl_X12_137 (fun _ _ _ => rfl) ho1 ?_
      refine wp_iload (pc := 185) d_X12_busyValue_185 rfl ?_
      obtain ⟨ho7, h⟩ := h
      obtain ⟨hi8, h⟩ := h
      refine wp_lald (pc := 187) d_X12_busyValue_187 ho7 hi8 ?_
      refine wp_ladd (pc := 188) d_X12_busyValue_188 ?_
      refine wp_lcmp_ge (pc := 189) (tgt := 197) d_X12_busyValue_189 d_X12_busyValue_190 (by decide) (fun hc => ?_) (fun hc => ?_)
      · have h := h.1 hc
        refine wp_sub ?_ h
        exact ⟨rfl, ⟨rfl, ⟨rfl, ⟨rfl, ⟨rfl, ⟨rfl, ⟨rfl, trivial⟩⟩⟩⟩⟩⟩⟩
      · have h := h.2 hc
        refine wp_iconst (pc := 193) (v := 1) d_X12_busyValue_193 rfl ?_
        refine wp_goto (pc := 194) (tgt := 198) d_X12_busyValue_194 (by decide) ?_
        refine wp_sub ?_ h
        exact ⟨rfl, ⟨rfl, ⟨rfl, ⟨rfl, ⟨rfl, ⟨rfl, ⟨rfl, trivial⟩⟩⟩⟩⟩⟩⟩
theorem v_X12_busyValue_197 {E : EE} {d : Nat} {Q : Option AV → AH → Prop} {x0 : Nat} {x1 : Int64} {x3 : Int32} {x4 : Int64} {x6 : Int32} {x7 : Int64} {x9 : Int32} {G : AH} (h : wp E d M_X12_busyValue 198 [some (vr x0), some (vj x1), none, some (vi x3), some (vj x4), none, some (vi x6), some (vj x7), none, some (vi x9), none] [vi 0] G Q) : wp E d M_X12_busyValue 197 [some (vr x0), some (vj x1), none, some (vi x3), some (vj x4), none, some (vi x6), some (vj x7), none, some (vi x9), none] [] G Q := by
  refine wp_iconst (pc := 197) (v := 0) d_X12_busyValue_197 rfl ?_
  refine wp_sub ?_ h
  exact ⟨rfl, ⟨rfl, ⟨rfl, ⟨rfl, ⟨rfl, ⟨rfl, ⟨rfl, trivial⟩⟩⟩⟩⟩⟩⟩
theorem v_X12_busyValue_198 {E : EE} {d : Nat} {Q : Option AV → AH → Prop} {x0 : Nat} {x1 : Int64} {x3 : Int32} {x4 : Int64} {x6 : Int32} {x7 : Int64} {x9 : Int32} {t0 : Int32} {G : AH} (h : (t0 = 0 → wp E d M_X12_busyValue 218 [some (vr x0), some (vj x1), none, some (vi x3), some (vj x4), none, some (vi x6), some (vj x7), none, some (vi x9), some (vi t0)] [vj 0, vj x7] G Q) ∧ (¬ (t0 = 0) → isO E G x0 12 ∧ (isO E G (gR G x0 60) 15 ∧ (vp_in x9 (gN G (gR G x0 60)) ∧ (wp E d M_X12_busyValue 218 [some (vr x0), some (vj x1), none, some (vi x3), some (vj x4), none, some (vi x6), some (vj x7), none, some (vi x9), some (vi t0)] [vj (gJ G (gR G x0 60) (Int32.toNatClampNeg x9)), vj x7] G Q))))) : wp E d M_X12_busyValue 198 [some (vr x0), some (vj x1), none, some (vi x3), some (vj x4), none, some (vi x6), some (vj x7), none, some (vi x9), none] [vi t0] G Q := by
  refine wp_istore (pc := 198) (lv' := [some (vr _), some (vj _), none, some (vi _), some (vj _), none, some (vi _), some (vj _), none, some (vi _), some (vi _)]) d_X12_busyValue_198 (by decide) rfl ?_
  refine wp_lload (pc := 200) d_X12_busyValue_200 rfl ?_
  refine wp_iload (pc := 202) d_X12_busyValue_202 rfl ?_
  refine wp_if_eq (pc := 204) (tgt := 217) d_X12_busyValue_204 (by decide) (fun hc => ?_) (fun hc => ?_)
  · have h := h.1 hc
    refine wp_lconst (pc := 217) (v := 0) d_X12_busyValue_217 rfl ?_
    refine wp_sub ?_ h
    exact ⟨rfl, ⟨rfl, ⟨rfl, ⟨rfl, ⟨rfl, ⟨rfl, ⟨rfl, ⟨rfl, trivial⟩⟩⟩⟩⟩⟩⟩⟩
  · have h := h.2 hc
    refine wp_aload_n (pc := 207) d_X12_busyValue_207 rfl ?_
    obtain ⟨ho1, h⟩ := h
    refine wp_getR (pc := 208) d_X12_busyValue_208 fl_X12_140 (fun _ _ _ => rfl) ho1 ?_
    refine wp_iload (pc := 211) d_X12_busyValue_211 rfl ?_
    obtain ⟨ho2, h⟩ := h
    obtain ⟨hi3, h⟩ := h
    refine wp_lald (pc := 213) d_X12_busyValue_213 ho2 hi3 ?_
    refine wp_goto (pc := 214) (tgt := 218) d_X12_busyValue_214 (by decide) ?_
    refine wp_sub ?_ h
    exact ⟨rfl, ⟨rfl, ⟨rfl, ⟨rfl, ⟨rfl, ⟨rfl, ⟨rfl, ⟨rfl, trivial⟩⟩⟩⟩⟩⟩⟩⟩
theorem v_X12_busyValue_218 {E : EE} {d : Nat} {Q : Option AV → AH → Prop} {x0 : Nat} {x1 : Int64} {x3 : Int32} {x4 : Int64} {x6 : Int32} {x7 : Int64} {x9 : Int32} {x10 : Int32} {t0 : Int64} {t1 : Int64} {G : AH} (h : wp E d M_X12_busyValue 143 [some (vr x0), some (vj x1), none, some (vi x3), some (vj x4), none, some (vi x6), some (vj (t0 + t1)), none, some (vi (x9 + 1)), none] [] G Q) : wp E d M_X12_busyValue 218 [some (vr x0), some (vj x1), none, some (vi x3), some (vj x4), none, some (vi x6), some (vj x7), none, some (vi x9), some (vi x10)] [vj t1, vj t0] G Q := by
  refine wp_ladd (pc := 218) d_X12_busyValue_218 ?_
  refine wp_lstore (pc := 219) (lv' := [some (vr _), some (vj _), none, some (vi _), some (vj _), none, some (vi _), some (vj _), none, some (vi _), some (vi _)]) d_X12_busyValue_219 (by decide) rfl ?_
  refine wp_iinc (pc := 221) (v := 1) (lv' := [some (vr _), some (vj _), none, some (vi _), some (vj _), none, some (vi _), some (vj _), none, some (vi _), some (vi _)]) d_X12_busyValue_221 (by decide) rfl rfl rfl ?_
  refine wp_goto (pc := 224) (tgt := 143) d_X12_busyValue_224 (by decide) ?_
  refine wp_sub ?_ h
  exact ⟨rfl, ⟨rfl, ⟨rfl, ⟨rfl, ⟨rfl, ⟨rfl, ⟨rfl, trivial⟩⟩⟩⟩⟩⟩⟩
theorem v_X12_busyValue_242 {E : EE} {d : Nat} {Q : Option AV → AH → Prop} {x0 : Nat} {x1 : Int64} {x3 : Int32} {x4 : Int64} {x6 : Int32} {x7 : Int64} {x9 : Int32} {t0 : Int64} {G : AH} (h : wp E d M_X12_busyValue 131 [some (vr x0), some (vj x1), none, some (vi x3), some (vj t0), none, some (vi (x6 + 1)), none, none, none, none] [] G Q) : wp E d M_X12_busyValue 242 [some (vr x0), some (vj x1), none, some (vi x3), some (vj x4), none, some (vi x6), some (vj x7), none, some (vi x9), none] [vj t0] G Q := by
  refine wp_lstore (pc := 242) (lv' := [some (vr _), some (vj _), none, some (vi _), some (vj _), none, some (vi _), some (vj _), none, some (vi _), none]) d_X12_busyValue_242 (by decide) rfl ?_
  refine wp_iinc (pc := 244) (v := 1) (lv' := [some (vr _), some (vj _), none, some (vi _), some (vj _), none, some (vi _), some (vj _), none, some (vi _), none]) d_X12_busyValue_244 (by decide) rfl rfl rfl ?_
  refine wp_goto (pc := 247) (tgt := 131) d_X12_busyValue_247 (by decide) ?_
  refine wp_sub ?_ h
  exact ⟨rfl, ⟨rfl, ⟨rfl, ⟨rfl, ⟨rfl, trivial⟩⟩⟩⟩⟩
theorem d_X12_apartValue_0 : decode prog_14_method_83_code 0 = .ok (.iconst 0, 1) := by decide +kernel
theorem d_X12_apartValue_1 : decode prog_14_method_83_code 1 = .ok (.istore_n 1, 1) := by decide +kernel
theorem d_X12_apartValue_2 : decode prog_14_method_83_code 2 = .ok (.iconst 1, 1) := by decide +kernel
theorem d_X12_apartValue_3 : decode prog_14_method_83_code 3 = .ok (.istore_n 2, 1) := by decide +kernel
theorem d_X12_apartValue_4 : decode prog_14_method_83_code 4 = .ok (.aload_n 0, 1) := by decide +kernel
theorem d_X12_apartValue_5 : decode prog_14_method_83_code 5 = .ok (.getfield 31, 3) := by decide +kernel
theorem d_X12_apartValue_8 : decode prog_14_method_83_code 8 = .ok (.aload_n 0, 1) := by decide +kernel
theorem d_X12_apartValue_9 : decode prog_14_method_83_code 9 = .ok (.getfield 472, 3) := by decide +kernel
theorem d_X12_apartValue_12 : decode prog_14_method_83_code 12 = .ok (.iaload, 1) := by decide +kernel
theorem d_X12_apartValue_13 : decode prog_14_method_83_code 13 = .ok (.bipush 41, 2) := by decide +kernel
theorem d_X12_apartValue_15 : decode prog_14_method_83_code 15 = .ok (.if_icmp .eq 121, 3) := by decide +kernel
theorem d_X12_apartValue_18 : decode prog_14_method_83_code 18 = .ok (.aload_n 0, 1) := by decide +kernel
theorem d_X12_apartValue_19 : decode prog_14_method_83_code 19 = .ok (.dup, 1) := by decide +kernel
theorem d_X12_apartValue_20 : decode prog_14_method_83_code 20 = .ok (.getfield 472, 3) := by decide +kernel
theorem d_X12_apartValue_23 : decode prog_14_method_83_code 23 = .ok (.iload_n 2, 1) := by decide +kernel
theorem d_X12_apartValue_24 : decode prog_14_method_83_code 24 = .ok (.ifCond .eq 7, 3) := by decide +kernel
theorem d_X12_apartValue_27 : decode prog_14_method_83_code 27 = .ok (.iconst 1, 1) := by decide +kernel
theorem d_X12_apartValue_28 : decode prog_14_method_83_code 28 = .ok (.goto 4, 3) := by decide +kernel
theorem d_X12_apartValue_31 : decode prog_14_method_83_code 31 = .ok (.iconst 2, 1) := by decide +kernel
theorem d_X12_apartValue_32 : decode prog_14_method_83_code 32 = .ok (.iadd, 1) := by decide +kernel
theorem d_X12_apartValue_33 : decode prog_14_method_83_code 33 = .ok (.putfield 472, 3) := by decide +kernel
theorem d_X12_apartValue_36 : decode prog_14_method_83_code 36 = .ok (.iconst 0, 1) := by decide +kernel
theorem d_X12_apartValue_37 : decode prog_14_method_83_code 37 = .ok (.istore_n 2, 1) := by decide +kernel
theorem d_X12_apartValue_38 : decode prog_14_method_83_code 38 = .ok (.aload_n 0, 1) := by decide +kernel
theorem d_X12_apartValue_39 : decode prog_14_method_83_code 39 = .ok (.getfield 134, 3) := by decide +kernel
theorem d_X12_apartValue_42 : decode prog_14_method_83_code 42 = .ok (.iload_n 1, 1) := by decide +kernel
theorem d_X12_apartValue_43 : decode prog_14_method_83_code 43 = .ok (.aload_n 0, 1) := by decide +kernel
theorem d_X12_apartValue_44 : decode prog_14_method_83_code 44 = .ok (.invokevirtual 486, 3) := by decide +kernel
theorem d_X12_apartValue_47 : decode prog_14_method_83_code 47 = .ok (.lastore, 1) := by decide +kernel
theorem d_X12_apartValue_48 : decode prog_14_method_83_code 48 = .ok (.aload_n 0, 1) := by decide +kernel
theorem d_X12_apartValue_49 : decode prog_14_method_83_code 49 = .ok (.dup, 1) := by decide +kernel
theorem d_X12_apartValue_50 : decode prog_14_method_83_code 50 = .ok (.getfield 472, 3) := by decide +kernel
theorem d_X12_apartValue_53 : decode prog_14_method_83_code 53 = .ok (.iconst 1, 1) := by decide +kernel
theorem d_X12_apartValue_54 : decode prog_14_method_83_code 54 = .ok (.iadd, 1) := by decide +kernel
theorem d_X12_apartValue_55 : decode prog_14_method_83_code 55 = .ok (.putfield 472, 3) := by decide +kernel
theorem d_X12_apartValue_58 : decode prog_14_method_83_code 58 = .ok (.aload_n 0, 1) := by decide +kernel
theorem d_X12_apartValue_59 : decode prog_14_method_83_code 59 = .ok (.getfield 137, 3) := by decide +kernel
theorem d_X12_apartValue_62 : decode prog_14_method_83_code 62 = .ok (.iload_n 1, 1) := by decide +kernel
theorem d_X12_apartValue_63 : decode prog_14_method_83_code 63 = .ok (.aload_n 0, 1) := by decide +kernel
theorem d_X12_apartValue_64 : decode prog_14_method_83_code 64 = .ok (.invokevirtual 486, 3) := by decide +kernel
theorem d_X12_apartValue_67 : decode prog_14_method_83_code 67 = .ok (.lastore, 1) := by decide +kernel
theorem d_X12_apartValue_68 : decode prog_14_method_83_code 68 = .ok (.aload_n 0, 1) := by decide +kernel
theorem d_X12_apartValue_69 : decode prog_14_method_83_code 69 = .ok (.dup, 1) := by decide +kernel
theorem d_X12_apartValue_70 : decode prog_14_method_83_code 70 = .ok (.getfield 472, 3) := by decide +kernel
theorem d_X12_apartValue_73 : decode prog_14_method_83_code 73 = .ok (.iconst 1, 1) := by decide +kernel
theorem d_X12_apartValue_74 : decode prog_14_method_83_code 74 = .ok (.iadd, 1) := by decide +kernel
theorem d_X12_apartValue_75 : decode prog_14_method_83_code 75 = .ok (.putfield 472, 3) := by decide +kernel
theorem d_X12_apartValue_78 : decode prog_14_method_83_code 78 = .ok (.aload_n 0, 1) := by decide +kernel
theorem d_X12_apartValue_79 : decode prog_14_method_83_code 79 = .ok (.getfield 143, 3) := by decide +kernel
theorem d_X12_apartValue_82 : decode prog_14_method_83_code 82 = .ok (.iload_n 1, 1) := by decide +kernel
theorem d_X12_apartValue_83 : decode prog_14_method_83_code 83 = .ok (.aload_n 0, 1) := by decide +kernel
theorem d_X12_apartValue_84 : decode prog_14_method_83_code 84 = .ok (.getfield 34, 3) := by decide +kernel
theorem d_X12_apartValue_87 : decode prog_14_method_83_code 87 = .ok (.aload_n 0, 1) := by decide +kernel
theorem d_X12_apartValue_88 : decode prog_14_method_83_code 88 = .ok (.getfield 472, 3) := by decide +kernel
theorem d_X12_apartValue_91 : decode prog_14_method_83_code 91 = .ok (.iaload, 1) := by decide +kernel
theorem d_X12_apartValue_92 : decode prog_14_method_83_code 92 = .ok (.i2l, 1) := by decide +kernel
theorem d_X12_apartValue_93 : decode prog_14_method_83_code 93 = .ok (.lastore, 1) := by decide +kernel
theorem d_X12_apartValue_94 : decode prog_14_method_83_code 94 = .ok (.aload_n 0, 1) := by decide +kernel
theorem d_X12_apartValue_95 : decode prog_14_method_83_code 95 = .ok (.dup, 1) := by decide +kernel
theorem d_X12_apartValue_96 : decode prog_14_method_83_code 96 = .ok (.getfield 472, 3) := by decide +kernel
theorem d_X12_apartValue_99 : decode prog_14_method_83_code 99 = .ok (.iconst 2, 1) := by decide +kernel
theorem d_X12_apartValue_100 : decode prog_14_method_83_code 100 = .ok (.iadd, 1) := by decide +kernel
theorem d_X12_apartValue_101 : decode prog_14_method_83_code 101 = .ok (.putfield 472, 3) := by decide +kernel
theorem d_X12_apartValue_104 : decode prog_14_method_83_code 104 = .ok (.aload_n 0, 1) := by decide +kernel
theorem d_X12_apartValue_105 : decode prog_14_method_83_code 105 = .ok (.getfield 140, 3) := by decide +kernel
theorem d_X12_apartValue_108 : decode prog_14_method_83_code 108 = .ok (.iload_n 1, 1) := by decide +kernel
theorem d_X12_apartValue_109 : decode prog_14_method_83_code 109 = .ok (.aload_n 0, 1) := by decide +kernel
theorem d_X12_apartValue_110 : decode prog_14_method_83_code 110 = .ok (.getfield 34, 3) := by decide +kernel
theorem d_X12_apartValue_113 : decode prog_14_method_83_code 113 = .ok (.aload_n 0, 1) := by decide +kernel
theorem d_X12_apartValue_114 : decode prog_14_method_83_code 114 = .ok (.getfield 472, 3) := by decide +kernel
theorem d_X12_apartValue_117 : decode prog_14_method_83_code 117 = .ok (.iaload, 1) := by decide +kernel
theorem d_X12_apartValue_118 : decode prog_14_method_83_code 118 = .ok (.i2l, 1) := by decide +kernel
theorem d_X12_apartValue_119 : decode prog_14_method_83_code 119 = .ok (.lastore, 1) := by decide +kernel
theorem d_X12_apartValue_120 : decode prog_14_method_83_code 120 = .ok (.aload_n 0, 1) := by decide +kernel
theorem d_X12_apartValue_121 : decode prog_14_method_83_code 121 = .ok (.dup, 1) := by decide +kernel
theorem d_X12_apartValue_122 : decode prog_14_method_83_code 122 = .ok (.getfield 472, 3) := by decide +kernel
theorem d_X12_apartValue_125 : decode prog_14_method_83_code 125 = .ok (.iconst 2, 1) := by decide +kernel
theorem d_X12_apartValue_126 : decode prog_14_method_83_code 126 = .ok (.iadd, 1) := by decide +kernel
theorem d_X12_apartValue_127 : decode prog_14_method_83_code 127 = .ok (.putfield 472, 3) := by decide +kernel
theorem d_X12_apartValue_130 : decode prog_14_method_83_code 130 = .ok (.iinc 1 1, 3) := by decide +kernel
theorem d_X12_apartValue_133 : decode prog_14_method_83_code 133 = .ok (.goto (-129), 3) := by decide +kernel
theorem d_X12_apartValue_136 : decode prog_14_method_83_code 136 = .ok (.lconst 0, 1) := by decide +kernel
theorem d_X12_apartValue_137 : decode prog_14_method_83_code 137 = .ok (.lstore_n 3, 1) := by decide +kernel
theorem d_X12_apartValue_138 : decode prog_14_method_83_code 138 = .ok (.iconst 0, 1) := by decide +kernel
theorem d_X12_apartValue_139 : decode prog_14_method_83_code 139 = .ok (.istore 5, 2) := by decide +kernel
theorem d_X12_apartValue_141 : decode prog_14_method_83_code 141 = .ok (.iload 5, 2) := by decide +kernel
theorem d_X12_apartValue_143 : decode prog_14_method_83_code 143 = .ok (.iload_n 1, 1) := by decide +kernel
theorem d_X12_apartValue_144 : decode prog_14_method_83_code 144 = .ok (.if_icmp .ge 161, 3) := by decide +kernel
theorem d_X12_apartValue_147 : decode prog_14_method_83_code 147 = .ok (.iconst 0, 1) := by decide +kernel
theorem d_X12_apartValue_148 : decode prog_14_method_83_code 148 = .ok (.istore 6, 2) := by decide +kernel
theorem d_X12_apartValue_150 : decode prog_14_method_83_code 150 = .ok (.iload 6, 2) := by decide +kernel
theorem d_X12_apartValue_152 : decode prog_14_method_83_code 152 = .ok (.iload 5, 2) := by decide +kernel
theorem d_X12_apartValue_154 : decode prog_14_method_83_code 154 = .ok (.if_icmp .ge 145, 3) := by decide +kernel
theorem d_X12_apartValue_157 : decode prog_14_method_83_code 157 = .ok (.aload_n 0, 1) := by decide +kernel
theorem d_X12_apartValue_158 : decode prog_14_method_83_code 158 = .ok (.getfield 134, 3) := by decide +kernel
theorem d_X12_apartValue_161 : decode prog_14_method_83_code 161 = .ok (.iload 5, 2) := by decide +kernel
theorem d_X12_apartValue_163 : decode prog_14_method_83_code 163 = .ok (.laload, 1) := by decide +kernel
theorem d_X12_apartValue_164 : decode prog_14_method_83_code 164 = .ok (.aload_n 0, 1) := by decide +kernel
theorem d_X12_apartValue_165 : decode prog_14_method_83_code 165 = .ok (.getfield 134, 3) := by decide +kernel
theorem d_X12_apartValue_168 : decode prog_14_method_83_code 168 = .ok (.iload 6, 2) := by decide +kernel
theorem d_X12_apartValue_170 : decode prog_14_method_83_code 170 = .ok (.laload, 1) := by decide +kernel
theorem d_X12_apartValue_171 : decode prog_14_method_83_code 171 = .ok (.aload_n 0, 1) := by decide +kernel
theorem d_X12_apartValue_172 : decode prog_14_method_83_code 172 = .ok (.getfield 143, 3) := by decide +kernel
theorem d_X12_apartValue_175 : decode prog_14_method_83_code 175 = .ok (.iload 6, 2) := by decide +kernel
theorem d_X12_apartValue_177 : decode prog_14_method_83_code 177 = .ok (.laload, 1) := by decide +kernel
theorem d_X12_apartValue_178 : decode prog_14_method_83_code 178 = .ok (.ladd, 1) := by decide +kernel
theorem d_X12_apartValue_179 : decode prog_14_method_83_code 179 = .ok (.lcmp, 1) := by decide +kernel
theorem d_X12_apartValue_180 : decode prog_14_method_83_code 180 = .ok (.ifCond .ge 33, 3) := by decide +kernel
theorem d_X12_apartValue_183 : decode prog_14_method_83_code 183 = .ok (.aload_n 0, 1) := by decide +kernel
theorem d_X12_apartValue_184 : decode prog_14_method_83_code 184 = .ok (.getfield 134, 3) := by decide +kernel
theorem d_X12_apartValue_187 : decode prog_14_method_83_code 187 = .ok (.iload 6, 2) := by decide +kernel
theorem d_X12_apartValue_189 : decode prog_14_method_83_code 189 = .ok (.laload, 1) := by decide +kernel
theorem d_X12_apartValue_190 : decode prog_14_method_83_code 190 = .ok (.aload_n 0, 1) := by decide +kernel
theorem d_X12_apartValue_191 : decode prog_14_method_83_code 191 = .ok (.getfield 134, 3) := by decide +kernel
theorem d_X12_apartValue_194 : decode prog_14_method_83_code 194 = .ok (.iload 5, 2) := by decide +kernel
theorem d_X12_apartValue_196 : decode prog_14_method_83_code 196 = .ok (.laload, 1) := by decide +kernel
theorem d_X12_apartValue_197 : decode prog_14_method_83_code 197 = .ok (.aload_n 0, 1) := by decide +kernel
theorem d_X12_apartValue_198 : decode prog_14_method_83_code 198 = .ok (.getfield 143, 3) := by decide +kernel
theorem d_X12_apartValue_201 : decode prog_14_method_83_code 201 = .ok (.iload 5, 2) := by decide +kernel
theorem d_X12_apartValue_203 : decode prog_14_method_83_code 203 = .ok (.laload, 1) := by decide +kernel
theorem d_X12_apartValue_204 : decode prog_14_method_83_code 204 = .ok (.ladd, 1) := by decide +kernel
theorem d_X12_apartValue_205 : decode prog_14_method_83_code 205 = .ok (.lcmp, 1) := by decide +kernel
theorem d_X12_apartValue_206 : decode prog_14_method_83_code 206 = .ok (.ifCond .ge 7, 3) := by decide +kernel
theorem d_X12_apartValue_209 : decode prog_14_method_83_code 209 = .ok (.iconst 1, 1) := by decide +kernel
theorem d_X12_apartValue_210 : decode prog_14_method_83_code 210 = .ok (.goto 4, 3) := by decide +kernel
theorem d_X12_apartValue_213 : decode prog_14_method_83_code 213 = .ok (.iconst 0, 1) := by decide +kernel
theorem d_X12_apartValue_214 : decode prog_14_method_83_code 214 = .ok (.istore 7, 2) := by decide +kernel
theorem d_X12_apartValue_216 : decode prog_14_method_83_code 216 = .ok (.aload_n 0, 1) := by decide +kernel
theorem d_X12_apartValue_217 : decode prog_14_method_83_code 217 = .ok (.getfield 137, 3) := by decide +kernel
theorem d_X12_apartValue_220 : decode prog_14_method_83_code 220 = .ok (.iload 5, 2) := by decide +kernel
theorem d_X12_apartValue_222 : decode prog_14_method_83_code 222 = .ok (.laload, 1) := by decide +kernel
theorem d_X12_apartValue_223 : decode prog_14_method_83_code 223 = .ok (.aload_n 0, 1) := by decide +kernel
theorem d_X12_apartValue_224 : decode prog_14_method_83_code 224 = .ok (.getfield 137, 3) := by decide +kernel
theorem d_X12_apartValue_227 : decode prog_14_method_83_code 227 = .ok (.iload 6, 2) := by decide +kernel
theorem d_X12_apartValue_229 : decode prog_14_method_83_code 229 = .ok (.laload, 1) := by decide +kernel
theorem d_X12_apartValue_230 : decode prog_14_method_83_code 230 = .ok (.aload_n 0, 1) := by decide +kernel
theorem d_X12_apartValue_231 : decode prog_14_method_83_code 231 = .ok (.getfield 140, 3) := by decide +kernel
theorem d_X12_apartValue_234 : decode prog_14_method_83_code 234 = .ok (.iload 6, 2) := by decide +kernel
theorem d_X12_apartValue_236 : decode prog_14_method_83_code 236 = .ok (.laload, 1) := by decide +kernel
theorem d_X12_apartValue_237 : decode prog_14_method_83_code 237 = .ok (.ladd, 1) := by decide +kernel
theorem d_X12_apartValue_238 : decode prog_14_method_83_code 238 = .ok (.lcmp, 1) := by decide +kernel
theorem d_X12_apartValue_239 : decode prog_14_method_83_code 239 = .ok (.ifCond .ge 33, 3) := by decide +kernel
theorem d_X12_apartValue_242 : decode prog_14_method_83_code 242 = .ok (.aload_n 0, 1) := by decide +kernel
theorem d_X12_apartValue_243 : decode prog_14_method_83_code 243 = .ok (.getfield 137, 3) := by decide +kernel
theorem d_X12_apartValue_246 : decode prog_14_method_83_code 246 = .ok (.iload 6, 2) := by decide +kernel
theorem d_X12_apartValue_248 : decode prog_14_method_83_code 248 = .ok (.laload, 1) := by decide +kernel
theorem d_X12_apartValue_249 : decode prog_14_method_83_code 249 = .ok (.aload_n 0, 1) := by decide +kernel
theorem d_X12_apartValue_250 : decode prog_14_method_83_code 250 = .ok (.getfield 137, 3) := by decide +kernel
theorem d_X12_apartValue_253 : decode prog_14_method_83_code 253 = .ok (.iload 5, 2) := by decide +kernel
theorem d_X12_apartValue_255 : decode prog_14_method_83_code 255 = .ok (.laload, 1) := by decide +kernel
theorem d_X12_apartValue_256 : decode prog_14_method_83_code 256 = .ok (.aload_n 0, 1) := by decide +kernel
theorem d_X12_apartValue_257 : decode prog_14_method_83_code 257 = .ok (.getfield 140, 3) := by decide +kernel
theorem d_X12_apartValue_260 : decode prog_14_method_83_code 260 = .ok (.iload 5, 2) := by decide +kernel
theorem d_X12_apartValue_262 : decode prog_14_method_83_code 262 = .ok (.laload, 1) := by decide +kernel
theorem d_X12_apartValue_263 : decode prog_14_method_83_code 263 = .ok (.ladd, 1) := by decide +kernel
theorem d_X12_apartValue_264 : decode prog_14_method_83_code 264 = .ok (.lcmp, 1) := by decide +kernel
theorem d_X12_apartValue_265 : decode prog_14_method_83_code 265 = .ok (.ifCond .ge 7, 3) := by decide +kernel
theorem d_X12_apartValue_268 : decode prog_14_method_83_code 268 = .ok (.iconst 1, 1) := by decide +kernel
theorem d_X12_apartValue_269 : decode prog_14_method_83_code 269 = .ok (.goto 4, 3) := by decide +kernel
theorem d_X12_apartValue_272 : decode prog_14_method_83_code 272 = .ok (.iconst 0, 1) := by decide +kernel
theorem d_X12_apartValue_273 : decode prog_14_method_83_code 273 = .ok (.istore 8, 2) := by decide +kernel
theorem d_X12_apartValue_275 : decode prog_14_method_83_code 275 = .ok (.lload_n 3, 1) := by decide +kernel
theorem d_X12_apartValue_276 : decode prog_14_method_83_code 276 = .ok (.iload 7, 2) := by decide +kernel
theorem d_X12_apartValue_278 : decode prog_14_method_83_code 278 = .ok (.ifCond .eq 12, 3) := by decide +kernel
theorem d_X12_apartValue_281 : decode prog_14_method_83_code 281 = .ok (.iload 8, 2) := by decide +kernel
theorem d_X12_apartValue_283 : decode prog_14_method_83_code 283 = .ok (.ifCond .eq 7, 3) := by decide +kernel
theorem d_X12_apartValue_286 : decode prog_14_method_83_code 286 = .ok (.lconst 1, 1) := by decide +kernel
theorem d_X12_apartValue_287 : decode prog_14_method_83_code 287 = .ok (.goto 4, 3) := by decide +kernel
theorem d_X12_apartValue_290 : decode prog_14_method_83_code 290 = .ok (.lconst 0, 1) := by decide +kernel
theorem d_X12_apartValue_291 : decode prog_14_method_83_code 291 = .ok (.ladd, 1) := by decide +kernel
theorem d_X12_apartValue_292 : decode prog_14_method_83_code 292 = .ok (.lstore_n 3, 1) := by decide +kernel
theorem d_X12_apartValue_293 : decode prog_14_method_83_code 293 = .ok (.iinc 6 1, 3) := by decide +kernel
theorem d_X12_apartValue_296 : decode prog_14_method_83_code 296 = .ok (.goto (-146), 3) := by decide +kernel
theorem d_X12_apartValue_299 : decode prog_14_method_83_code 299 = .ok (.iinc 5 1, 3) := by decide +kernel
theorem d_X12_apartValue_302 : decode prog_14_method_83_code 302 = .ok (.goto (-161), 3) := by decide +kernel
theorem d_X12_apartValue_305 : decode prog_14_method_83_code 305 = .ok (.lload_n 3, 1) := by decide +kernel
theorem d_X12_apartValue_306 : decode prog_14_method_83_code 306 = .ok (.lreturn, 1) := by decide +kernel
theorem v_X12_apartValue_0 {E : EE} {d : Nat} {Q : Option AV → AH → Prop} {x0 : Nat} {G : AH} (h : wp E d M_X12_apartValue 4 [some (vr x0), some (vi 0), some (vi 1), none, none, none, none, none, none] [] G Q) : wp E d M_X12_apartValue 0 [some (vr x0), none, none, none, none, none, none, none, none] [] G Q := by
  refine wp_iconst (pc := 0) (v := 0) d_X12_apartValue_0 rfl ?_
  refine wp_istore_n (pc := 1) (lv' := [some (vr _), some (vi _), none, none, none, none, none, none, none]) d_X12_apartValue_1 (by decide) rfl ?_
  refine wp_iconst (pc := 2) (v := 1) d_X12_apartValue_2 rfl ?_
  refine wp_istore_n (pc := 3) (lv' := [some (vr _), some (vi _), some (vi _), none, none, none, none, none, none]) d_X12_apartValue_3 (by decide) rfl ?_
  refine wp_sub ?_ h
  exact ⟨rfl, ⟨rfl, ⟨rfl, trivial⟩⟩⟩
theorem v_X12_apartValue_4 {E : EE} {d : Nat} {Q : Option AV → AH → Prop} {x0 : Nat} {x1 : Int32} {x2 : Int32} {G : AH} (h : isO E G x0 12 ∧ (isO E G (gR G x0 8) 14 ∧ (vp_in (gI G x0 54) (gN G (gR G x0 8)) ∧ (((gI G (gR G x0 8) (Int32.toNatClampNeg (gI G x0 54))) = 41 → wp E d M_X12_apartValue 141 [some (vr x0), some (vi x1), some (vi x2), some (vj 0), none, some (vi 0), none, none, none] [] G Q) ∧ (¬ ((gI G (gR G x0 8) (Int32.toNatClampNeg (gI G x0 54))) = 41) → (x2 = 0 → wp E d M_X12_apartValue 32 [some (vr x0), some (vi x1), some (vi x2), none, none, none, none, none, none] [vi 2, vi (gI G x0 54), vr x0] G Q) ∧ (¬ (x2 = 0) → wp E d M_X12_apartValue 32 [some (vr x0), some (vi x1), some (vi x2), none, none, none, none, none, none] [vi 1, vi (gI G x0 54), vr x0] G Q)))))) : wp E d M_X12_apartValue 4 [some (vr x0), some (vi x1), some (vi x2), none, none, none, none, none, none] [] G Q := by
  refine wp_aload_n (pc := 4) d_X12_apartValue_4 rfl ?_
  obtain ⟨ho1, h⟩ := h
  refine wp_getR (pc := 5) d_X12_apartValue_5 fl_X12_31 (fun _ _ _ => rfl) ho1 ?_
  refine wp_aload_n (pc := 8) d_X12_apartValue_8 rfl ?_
  refine wp_getI (pc := 9) d_X12_apartValue_9 fl_X12_472 (fun _ _ _ => rfl) ho1 ?_
  obtain ⟨ho2, h⟩ := h
  obtain ⟨hi3, h⟩ := h
  refine wp_iald (pc := 12) d_X12_apartValue_12 ho2 hi3 ?_
  refine wp_bipush (pc := 13) (v := 41) d_X12_apartValue_13 rfl ?_
  refine wp_icmp_eq (pc := 15) (tgt := 136) d_X12_apartValue_15 (by decide) (fun hc => ?_) (fun hc => ?_)
  · have h := h.1 hc
    refine wp_lconst (pc := 136) (v := 0) d_X12_apartValue_136 rfl ?_
    refine wp_lstore_n (pc := 137) (lv' := [some (vr _), some (vi _), some (vi _), some (vj _), none, none, none, none, none]) d_X12_apartValue_137 (by decide) rfl ?_
    refine wp_iconst (pc := 138) (v := 0) d_X12_apartValue_138 rfl ?_
    refine wp_istore (pc := 139) (lv' := [some (vr _), some (vi _), some (vi _), some (vj _), none, some (vi _), none, none, none]) d_X12_apartValue_139 (by decide) rfl ?_
    refine wp_sub ?_ h
    exact ⟨rfl, ⟨rfl, ⟨rfl, ⟨rfl, ⟨rfl, trivial⟩⟩⟩⟩⟩
  · have h := h.2 hc
    refine wp_aload_n (pc := 18) d_X12_apartValue_18 rfl ?_
    refine wp_dup (pc := 19) d_X12_apartValue_19 (c1_r _) ?_
    refine wp_getI (pc := 20) d_X12_apartValue_20 fl_X12_472 (fun _ _ _ => rfl) ho1 ?_
    refine wp_iload_n (pc := 23) d_X12_apartValue_23 rfl ?_
    refine wp_if_eq (pc := 24) (tgt := 31) d_X12_apartValue_24 (by decide) (fun hc => ?_) (fun hc => ?_)
    · have h := h.1 hc
      refine wp_iconst (pc := 31) (v := 2) d_X12_apartValue_31 rfl ?_
      refine wp_sub ?_ h
      exact ⟨rfl, ⟨rfl, ⟨rfl, trivial⟩⟩⟩
    · have h := h.2 hc
      refine wp_iconst (pc := 27) (v := 1) d_X12_apartValue_27 rfl ?_
      refine wp_goto (pc := 28) (tgt := 32) d_X12_apartValue_28 (by decide) ?_
      refine wp_sub ?_ h
      exact ⟨rfl, ⟨rfl, ⟨rfl, trivial⟩⟩⟩
theorem v_X12_apartValue_32 {E : EE} {d : Nat} {Q : Option AV → AH → Prop} {x0 : Nat} {x1 : Int32} {x2 : Int32} {t0 : Nat} {t1 : Int32} {t2 : Int32} {G : AH} (h0 : 0 < d) (h : isO E G t0 12 ∧ (∀ G2 : AH, G2 = sI G t0 54 (t1 + t2) → isO E G2 x0 12 ∧ (wpJ E (d - 1) M_X12_nameValue [vr x0] G2 (fun r4 G5 => isO E G5 (gR G2 x0 58) 15 ∧ (vp_in x1 (gN G5 (gR G2 x0 58)) ∧ (∀ G8 : AH, G8 = sJ G5 (gR G2 x0 58) (Int32.toNatClampNeg x1) r4 → isO E G8 x0 12 ∧ (∀ G10 : AH, G10 = sI G8 x0 54 ((gI G8 x0 54) + 1) → wpJ E (d - 1) M_X12_nameValue [vr x0] G10 (fun r12 G13 => isO E G13 (gR G10 x0 59) 15 ∧ (vp_in x1 (gN G13 (gR G10 x0 59)) ∧ (∀ G16 : AH, G16 = sJ G13 (gR G10 x0 59) (Int32.toNatClampNeg x1) r12 → isO E G16 x0 12 ∧ (∀ G18 : AH, G18 = sI G16 x0 54 ((gI G16 x0 54) + 1) → isO E G18 (gR G18 x0 9) 14 ∧ (vp_in (gI G18 x0 54) (gN G18 (gR G18 x0 9)) ∧ (isO E G18 (gR G18 x0 61) 15 ∧ (vp_in x1 (gN G18 (gR G18 x0 61)) ∧ (∀ G24 : AH, G24 = sJ G18 (gR G18 x0 61) (Int32.toNatClampNeg x1) (Int32.toInt64 (gI G18 (gR G18 x0 9) (Int32.toNatClampNeg (gI G18 x0 54)))) → ∀ G26 : AH, G26 = sI G24 x0 54 ((gI G24 x0 54) + 2) → isO E G26 (gR G26 x0 9) 14 ∧ (vp_in (gI G26 x0 54) (gN G26 (gR G26 x0 9)) ∧ (isO E G26 (gR G26 x0 60) 15 ∧ (vp_in x1 (gN G26 (gR G26 x0 60)) ∧ (∀ G32 : AH, G32 = sJ G26 (gR G26 x0 60) (Int32.toNatClampNeg x1) (Int32.toInt64 (gI G26 (gR G26 x0 9) (Int32.toNatClampNeg (gI G26 x0 54)))) → ∀ G34 : AH, G34 = sI G32 x0 54 ((gI G32 x0 54) + 2) → wp E d M_X12_apartValue 4 [some (vr x0), some (vi (x1 + 1)), some (vi 0), none, none, none, none, none, none] [] G34 Q))))))))))))))))))) : wp E d M_X12_apartValue 32 [some (vr x0), some (vi x1), some (vi x2), none, none, none, none, none, none] [vi t2, vi t1, vr t0] G Q := by
  refine wp_iadd (pc := 32) d_X12_apartValue_32 ?_
  obtain ⟨ho1, h⟩ := h
  refine wp_putI (pc := 33) d_X12_apartValue_33 fl_X12_472 (fun _ _ _ => rfl) (Or.inl rfl) ho1 (okI_int _) ?_
  refine wp_nm (fun G2 eG2 => ?_)
  have h := h G2 eG2
  refine wp_iconst (pc := 36) (v := 0) d_X12_apartValue_36 rfl ?_
  refine wp_istore_n (pc := 37) (lv' := [some (vr _), some (vi _), some (vi _), none, none, none, none, none, none]) d_X12_apartValue_37 (by decide) rfl ?_
  refine wp_aload_n (pc := 38) d_X12_apartValue_38 rfl ?_
  obtain ⟨ho3, h⟩ := h
  refine wp_getR (pc := 39) d_X12_apartValue_39 fl_X12_134 (fun _ _ _ => rfl) ho3 ?_
  refine wp_iload_n (pc := 42) d_X12_apartValue_42 rfl ?_
  refine wp_aload_n (pc := 43) d_X12_apartValue_43 rfl ?_
  refine wp_invV (pc := 44) (N := M_X12_nameValue) (As := []) (rest := [vi _, vr _]) (r := (cn_12, ct_12, 95)) d_X12_apartValue_44 ml_X12_486 mk_X12_nameValue mv_X12_nameValue h0 ho3 rfl rfl (Nat.le_of_ble_eq_true rfl) ?_
  refine wpM.mono h (fun rr G5 hr => ?_)
  obtain ⟨r4, rfl, h⟩ := hr
  show wp E d M_X12_apartValue 47 [some (vr _), some (vi _), some (vi _), none, none, none, none, none, none] [vj _, vi _, vr _] G5 Q
  obtain ⟨ho6, h⟩ := h
  obtain ⟨hi7, h⟩ := h
  refine wp_last (pc := 47) d_X12_apartValue_47 ho6 hi7 ?_
  refine wp_nm (fun G8 eG8 => ?_)
  have h := h G8 eG8
  refine wp_aload_n (pc := 48) d_X12_apartValue_48 rfl ?_
  refine wp_dup (pc := 49) d_X12_apartValue_49 (c1_r _) ?_
  obtain ⟨ho9, h⟩ := h
  refine wp_getI (pc := 50) d_X12_apartValue_50 fl_X12_472 (fun _ _ _ => rfl) ho9 ?_
  refine wp_iconst (pc := 53) (v := 1) d_X12_apartValue_53 rfl ?_
  refine wp_iadd (pc := 54) d_X12_apartValue_54 ?_
  refine wp_putI (pc := 55) d_X12_apartValue_55 fl_X12_472 (fun _ _ _ => rfl) (Or.inl rfl) ho9 (okI_int _) ?_
  refine wp_nm (fun G10 eG10 => ?_)
  have h := h G10 eG10
  have ho11 := isO_sI eG10 ho9
  refine wp_aload_n (pc := 58) d_X12_apartValue_58 rfl ?_
  refine wp_getR (pc := 59) d_X12_apartValue_59 fl_X12_137 (fun _ _ _ => rfl) ho11 ?_
  refine wp_iload_n (pc := 62) d_X12_apartValue_62 rfl ?_
  refine wp_aload_n (pc := 63) d_X12_apartValue_63 rfl ?_
  refine wp_invV (pc := 64) (N := M_X12_nameValue) (As := []) (rest := [vi _, vr _]) (r := (cn_12, ct_12, 95)) d_X12_apartValue_64 ml_X12_486 mk_X12_nameValue mv_X12_nameValue h0 ho11 rfl rfl (Nat.le_of_ble_eq_true rfl) ?_
  refine wpM.mono h (fun rr G13 hr => ?_)
  obtain ⟨r12, rfl, h⟩ := hr
  show wp E d M_X12_apartValue 67 [some (vr _), some (vi _), some (vi _), none, none, none, none, none, none] [vj _, vi _, vr _] G13 Q
  obtain ⟨ho14, h⟩ := h
  obtain ⟨hi15, h⟩ := h
  refine wp_last (pc := 67) d_X12_apartValue_67 ho14 hi15 ?_
  refine wp_nm (fun G16 eG16 => ?_)
  have h := h G16 eG16
  refine wp_aload_n (pc := 68) d_X12_apartValue_68 rfl ?_
  refine wp_dup (pc := 69) d_X12_apartValue_69 (c1_r _) ?_
  obtain ⟨ho17, h⟩ := h
  refine wp_getI (pc := 70) d_X12_apartValue_70 fl_X12_472 (fun _ _ _ => rfl) ho17 ?_
  refine wp_iconst (pc := 73) (v := 1) d_X12_apartValue_73 rfl ?_
  refine wp_iadd (pc := 74) d_X12_apartValue_74 ?_
  refine wp_putI (pc := 75) d_X12_apartValue_75 fl_X12_472 (fun _ _ _ => rfl) (Or.inl rfl) ho17 (okI_int _) ?_
  refine wp_nm (fun G18 eG18 => ?_)
  have h := h G18 eG18
  have ho19 := isO_sI eG18 ho17
  refine wp_aload_n (pc := 78) d_X12_apartValue_78 rfl ?_
  refine wp_getR (pc := 79) d_X12_apartValue_79 fl_X12_143 (fun _ _ _ => rfl) ho19 ?_
  refine wp_iload_n (pc := 82) d_X12_apartValue_82 rfl ?_
  refine wp_aload_n (pc := 83) d_X12_apartValue_83 rfl ?_
  refine wp_getR (pc := 84) d_X12_apartValue_84 fl_X12_34 (fun _ _ _ => rfl) ho19 ?_
  refine wp_aload_n (pc := 87) d_X12_apartValue_87 rfl ?_
  refine wp_getI (pc := 88) d_X12_apartValue_88 fl_X12_472 (fun _ _ _ => rfl) ho19 ?_
  obtain ⟨ho20, h⟩ := h
  obtain ⟨hi21, h⟩ := h
  refine wp_iald (pc := 91) d_X12_apartValue_91 ho20 hi21 ?_
  refine wp_i2l (pc := 92) d_X12_apartValue_92 ?_
  obtain ⟨ho22, h⟩ := h
  obtain ⟨hi23, h⟩ := h
  refine wp_last (pc := 93) d_X12_apartValue_93 ho22 hi23 ?_
  refine wp_nm (fun G24 eG24 => ?_)
  have h := h G24 eG24
  have ho25 := isO_sJ eG24 ho19
  refine wp_aload_n (pc := 94) d_X12_apartValue_94 rfl ?_
  refine wp_dup (pc := 95) d_X12_apartValue_95 (c1_r _) ?_
  refine wp_getI (pc := 96) d_X12_apartValue_96 fl_X12_472 (fun _ _ _ => rfl) ho25 ?_
  refine wp_iconst (pc := 99) (v := 2) d_X12_apartValue_99 rfl ?_
  refine wp_iadd (pc := 100) d_X12_apartValue_100 ?_
  refine wp_putI (pc := 101) d_X12_apartValue_101 fl_X12_472 (fun _ _ _ => rfl) (Or.inl rfl) ho25 (okI_int _) ?_
  refine wp_nm (fun G26 eG26 => ?_)
  have h := h G26 eG26
  have ho27 := isO_sI eG26 ho25
  refine wp_aload_n (pc := 104) d_X12_apartValue_104 rfl ?_
  refine wp_getR (pc := 105) d_X12_apartValue_105 fl_X12_140 (fun _ _ _ => rfl) ho27 ?_
  refine wp_iload_n (pc := 108) d_X12_apartValue_108 rfl ?_
  refine wp_aload_n (pc := 109) d_X12_apartValue_109 rfl ?_
  refine wp_getR (pc := 110) d_X12_apartValue_110 fl_X12_34 (fun _ _ _ => rfl) ho27 ?_
  refine wp_aload_n (pc := 113) d_X12_apartValue_113 rfl ?_
  refine wp_getI (pc := 114) d_X12_apartValue_114 fl_X12_472 (fun _ _ _ => rfl) ho27 ?_
  obtain ⟨ho28, h⟩ := h
  obtain ⟨hi29, h⟩ := h
  refine wp_iald (pc := 117) d_X12_apartValue_117 ho28 hi29 ?_
  refine wp_i2l (pc := 118) d_X12_apartValue_118 ?_
  obtain ⟨ho30, h⟩ := h
  obtain ⟨hi31, h⟩ := h
  refine wp_last (pc := 119) d_X12_apartValue_119 ho30 hi31 ?_
  refine wp_nm (fun G32 eG32 => ?_)
  have h := h G32 eG32
  have ho33 := isO_sJ eG32 ho27
  refine wp_aload_n (pc := 120) d_X12_apartValue_120 rfl ?_
  refine wp_dup (pc := 121) d_X12_apartValue_121 (c1_r _) ?_
  refine wp_getI (pc := 122) d_X12_apartValue_122 fl_X12_472 (fun _ _ _ => rfl) ho33 ?_
  refine wp_iconst (pc := 125) (v := 2) d_X12_apartValue_125 rfl ?_
  refine wp_iadd (pc := 126) d_X12_apartValue_126 ?_
  refine wp_putI (pc := 127) d_X12_apartValue_127 fl_X12_472 (fun _ _ _ => rfl) (Or.inl rfl) ho33 (okI_int _) ?_
  refine wp_nm (fun G34 eG34 => ?_)
  have h := h G34 eG34
  have ho35 := isO_sI eG34 ho33
  refine wp_iinc (pc := 130) (v := 1) (lv' := [some (vr _), some (vi _), some (vi _), none, none, none, none, none, none]) d_X12_apartValue_130 (by decide) rfl rfl rfl ?_
  refine wp_goto (pc := 133) (tgt := 4) d_X12_apartValue_133 (by decide) ?_
  refine wp_sub ?_ h
  exact ⟨rfl, ⟨rfl, ⟨rfl, trivial⟩⟩⟩
theorem v_X12_apartValue_141 {E : EE} {d : Nat} {Q : Option AV → AH → Prop} {x0 : Nat} {x1 : Int32} {x2 : Int32} {x3 : Int64} {x5 : Int32} {G : AH} (h : (x1 ≤ x5 → Q (some (vj x3)) G) ∧ (¬ (x1 ≤ x5) → wp E d M_X12_apartValue 150 [some (vr x0), some (vi x1), some (vi x2), some (vj x3), none, some (vi x5), some (vi 0), none, none] [] G Q)) : wp E d M_X12_apartValue 141 [some (vr x0), some (vi x1), some (vi x2), some (vj x3), none, some (vi x5), none, none, none] [] G Q := by
  refine wp_iload (pc := 141) d_X12_apartValue_141 rfl ?_
  refine wp_iload_n (pc := 143) d_X12_apartValue_143 rfl ?_
  refine wp_icmp_ge (pc := 144) (tgt := 305) d_X12_apartValue_144 (by decide) (fun hc => ?_) (fun hc => ?_)
  · have h := h.1 hc
    refine wp_lload_n (pc := 305) d_X12_apartValue_305 rfl ?_
    exact wp_lret (pc := 306) d_X12_apartValue_306 rfl h
  · have h := h.2 hc
    refine wp_iconst (pc := 147) (v := 0) d_X12_apartValue_147 rfl ?_
    refine wp_istore (pc := 148) (lv' := [some (vr _), some (vi _), some (vi _), some (vj _), none, some (vi _), some (vi _), none, none]) d_X12_apartValue_148 (by decide) rfl ?_
    refine wp_sub ?_ h
    exact ⟨rfl, ⟨rfl, ⟨rfl, ⟨rfl, ⟨rfl, ⟨rfl, trivial⟩⟩⟩⟩⟩⟩
theorem v_X12_apartValue_150 {E : EE} {d : Nat} {Q : Option AV → AH → Prop} {x0 : Nat} {x1 : Int32} {x2 : Int32} {x3 : Int64} {x5 : Int32} {x6 : Int32} {G : AH} (h : (x5 ≤ x6 → wp E d M_X12_apartValue 141 [some (vr x0), some (vi x1), some (vi x2), some (vj x3), none, some (vi (x5 + 1)), none, none, none] [] G Q) ∧ (¬ (x5 ≤ x6) → isO E G x0 12 ∧ (isO E G (gR G x0 58) 15 ∧ (vp_in x5 (gN G (gR G x0 58)) ∧ (vp_in x6 (gN G (gR G x0 58)) ∧ (isO E G (gR G x0 61) 15 ∧ (vp_in x6 (gN G (gR G x0 61)) ∧ ((((gJ G (gR G x0 58) (Int32.toNatClampNeg x6)) + (gJ G (gR G x0 61) (Int32.toNatClampNeg x6))) ≤ (gJ G (gR G x0 58) (Int32.toNatClampNeg x5)) → wp E d M_X12_apartValue 213 [some (vr x0), some (vi x1), some (vi x2), some (vj x3), none, some (vi x5), some (vi x6), none, none] [] G Q) ∧ (¬ (((gJ G (gR G x0 58) (Int32.toNatClampNeg x6)) + (gJ G (gR G x0 61) (Int32.toNatClampNeg x6))) ≤ (gJ G (gR G x0 58) (Int32.toNatClampNeg x5))) → vp_in x6 (gN G (gR G x0 58)) ∧ (vp_in x5 (gN G (gR G x0 58)) ∧ (vp_in x5 (gN G (gR G x0 61)) ∧ ((((gJ G (gR G x0 58) (Int32.toNatClampNeg x5)) + (gJ G (gR G x0 61) (Int32.toNatClampNeg x5))) ≤ (gJ G (gR G x0 58) (Int32.toNatClampNeg x6)) → wp E d M_X12_apartValue 213 [some (vr x0), some (vi x1), some (vi x2), some (vj x3), none, some (vi x5), some (vi x6), none, none] [] G Q) ∧ (¬ (((gJ G (gR G x0 58) (Int32.toNatClampNeg x5)) + (gJ G (gR G x0 61) (Int32.toNatClampNeg x5))) ≤ (gJ G (gR G x0 58) (Int32.toNatClampNeg x6))) → wp E d M_X12_apartValue 214 [some (vr x0), some (vi x1), some (vi x2), some (vj x3), none, some (vi x5), some (vi x6), none, none] [vi 1] G Q))))))))))))) : wp E d M_X12_apartValue 150 [some (vr x0), some (vi x1), some (vi x2), some (vj x3), none, some (vi x5), some (vi x6), none, none] [] G Q := by
  refine wp_iload (pc := 150) d_X12_apartValue_150 rfl ?_
  refine wp_iload (pc := 152) d_X12_apartValue_152 rfl ?_
  refine wp_icmp_ge (pc := 154) (tgt := 299) d_X12_apartValue_154 (by decide) (fun hc => ?_) (fun hc => ?_)
  · have h := h.1 hc
    refine wp_iinc (pc := 299) (v := 1) (lv' := [some (vr _), some (vi _), some (vi _), some (vj _), none, some (vi _), some (vi _), none, none]) d_X12_apartValue_299 (by decide) rfl rfl rfl ?_
    refine wp_goto (pc := 302) (tgt := 141) d_X12_apartValue_302 (by decide) ?_
    refine wp_sub ?_ h
    exact ⟨rfl, ⟨rfl, ⟨rfl, ⟨rfl, ⟨rfl, trivial⟩⟩⟩⟩⟩
  · have h := h.2 hc
    refine wp_aload_n (pc := 157) d_X12_apartValue_157 rfl ?_
    obtain ⟨ho1, h⟩ := h
    refine wp_getR (pc := 158) d_X12_apartValue_158 fl_X12_134 (fun _ _ _ => rfl) ho1 ?_
    refine wp_iload (pc := 161) d_X12_apartValue_161 rfl ?_
    obtain ⟨ho2, h⟩ := h
    obtain ⟨hi3, h⟩ := h
    refine wp_lald (pc := 163) d_X12_apartValue_163 ho2 hi3 ?_
    refine wp_aload_n (pc := 164) d_X12_apartValue_164 rfl ?_
    refine wp_getR (pc := 165) d_X12_apartValue_165 fl_X12_134 (fun _ _ _ => rfl) ho1 ?_
    refine wp_iload (pc := 168) d_X12_apartValue_168 rfl ?_
    obtain ⟨hi4, h⟩ := h
    refine wp_lald (pc := 170) d_X12_apartValue_170 ho2 hi4 ?_
    refine wp_aload_n (pc := 171) d_X12_apartValue_171 rfl ?_
    refine wp_getR (pc := 172) d_X12_apartValue_172 fl_X12_143 (fun _ _ _ => rfl) ho1 ?_
    refine wp_iload (pc := 175) d_X12_apartValue_175 rfl ?_
    obtain ⟨ho5, h⟩ := h
    obtain ⟨hi6, h⟩ := h
    refine wp_lald (pc := 177) d_X12_apartValue_177 ho5 hi6 ?_
    refine wp_ladd (pc := 178) d_X12_apartValue_178 ?_
    refine wp_lcmp_ge (pc := 179) (tgt := 213) d_X12_apartValue_179 d_X12_apartValue_180 (by decide) (fun hc => ?_) (fun hc => ?_)
    · have h := h.1 hc
      refine wp_sub ?_ h
      exact ⟨rfl, ⟨rfl, ⟨rfl, ⟨rfl, ⟨rfl, ⟨rfl, trivial⟩⟩⟩⟩⟩⟩
    · have h := h.2 hc
      refine wp_aload_n (pc := 183) d_X12_apartValue_183 rfl ?_
      refine wp_getR (pc := 184) d_X12_apartValue_184 fl_X12_134 (fun _ _ _ => rfl) ho1 ?_
      refine wp_iload (pc := 187) d_X12_apartValue_187 rfl ?_
      obtain ⟨hi7, h⟩ := h
      refine wp_lald (pc := 189) d_X12_apartValue_189 ho2 hi7 ?_
      refine wp_aload_n (pc := 190) d_X12_apartValue_190 rfl ?_
      refine wp_getR (pc := 191) d_X12_apartValue_191 fl_X12_134 (fun _ _ _ => rfl) ho1 ?_
      refine wp_iload (pc := 194) d_X12_apartValue_194 rfl ?_
      obtain ⟨hi8, h⟩ := h
      refine wp_lald (pc := 196) d_X12_apartValue_196 ho2 hi8 ?_
      refine wp_aload_n (pc := 197) d_X12_apartValue_197 rfl ?_
      refine wp_getR (pc := 198) d_X12_apartValue_198 fl_X12_143 (fun _ _ _ => rfl) ho1 ?_
      refine wp_iload (pc := 201) d_X12_apartValue_201 rfl ?_
      obtain ⟨hi9, h⟩ := h
      refine wp_lald (pc := 203) d_X12_apartValue_203 ho5 hi9 ?_
      refine wp_ladd (pc := 204) d_X12_apartValue_204 ?_
      refine wp_lcmp_ge (pc := 205) (tgt := 213) d_X12_apartValue_205 d_X12_apartValue_206 (by decide) (fun hc => ?_) (fun hc => ?_)
      · have h := h.1 hc
        refine wp_sub ?_ h
        exact ⟨rfl, ⟨rfl, ⟨rfl, ⟨rfl, ⟨rfl, ⟨rfl, trivial⟩⟩⟩⟩⟩⟩
      · have h := h.2 hc
        refine wp_iconst (pc := 209) (v := 1) d_X12_apartValue_209 rfl ?_
        refine wp_goto (pc := 210) (tgt := 214) d_X12_apartValue_210 (by decide) ?_
        refine wp_sub ?_ h
        exact ⟨rfl, ⟨rfl, ⟨rfl, ⟨rfl, ⟨rfl, ⟨rfl, trivial⟩⟩⟩⟩⟩⟩
theorem v_X12_apartValue_213 {E : EE} {d : Nat} {Q : Option AV → AH → Prop} {x0 : Nat} {x1 : Int32} {x2 : Int32} {x3 : Int64} {x5 : Int32} {x6 : Int32} {G : AH} (h : wp E d M_X12_apartValue 214 [some (vr x0), some (vi x1), some (vi x2), some (vj x3), none, some (vi x5), some (vi x6), none, none] [vi 0] G Q) : wp E d M_X12_apartValue 213 [some (vr x0), some (vi x1), some (vi x2), some (vj x3), none, some (vi x5), some (vi x6), none, none] [] G Q := by
  refine wp_iconst (pc := 213) (v := 0) d_X12_apartValue_213 rfl ?_
  refine wp_sub ?_ h
  exact ⟨rfl, ⟨rfl, ⟨rfl, ⟨rfl, ⟨rfl, ⟨rfl, trivial⟩⟩⟩⟩⟩⟩
theorem v_X12_apartValue_214 {E : EE} {d : Nat} {Q : Option AV → AH → Prop} {x0 : Nat} {x1 : Int32} {x2 : Int32} {x3 : Int64} {x5 : Int32} {x6 : Int32} {t0 : Int32} {G : AH} (h : isO E G x0 12 ∧ (isO E G (gR G x0 59) 15 ∧ (vp_in x5 (gN G (gR G x0 59)) ∧ (vp_in x6 (gN G (gR G x0 59)) ∧ (isO E G (gR G x0 60) 15 ∧ (vp_in x6 (gN G (gR G x0 60)) ∧ ((((gJ G (gR G x0 59) (Int32.toNatClampNeg x6)) + (gJ G (gR G x0 60) (Int32.toNatClampNeg x6))) ≤ (gJ G (gR G x0 59) (Int32.toNatClampNeg x5)) → wp E d M_X12_apartValue 272 [some (vr x0), some (vi x1), some (vi x2), some (vj x3), none, some (vi x5), some (vi x6), some (vi t0), none] [] G Q) ∧ (¬ (((gJ G (gR G x0 59) (Int32.toNatClampNeg x6)) + (gJ G (gR G x0 60) (Int32.toNatClampNeg x6))) ≤ (gJ G (gR G x0 59) (Int32.toNatClampNeg x5))) → vp_in x6 (gN G (gR G x0 59)) ∧ (vp_in x5 (gN G (gR G x0 59)) ∧ (vp_in x5 (gN G (gR G x0 60)) ∧ ((((gJ G (gR G x0 59) (Int32.toNatClampNeg x5)) + (gJ G (gR G x0 60) (Int32.toNatClampNeg x5))) ≤ (gJ G (gR G x0 59) (Int32.toNatClampNeg x6)) → wp E d M_X12_apartValue 272 [some (vr x0), some (vi x1), some (vi x2), some (vj x3), none, some (vi x5), some (vi x6), some (vi t0), none] [] G Q) ∧ (¬ (((gJ G (gR G x0 59) (Int32.toNatClampNeg x5)) + (gJ G (gR G x0 60) (Int32.toNatClampNeg x5))) ≤ (gJ G (gR G x0 59) (Int32.toNatClampNeg x6))) → wp E d M_X12_apartValue 273 [some (vr x0), some (vi x1), some (vi x2), some (vj x3), none, some (vi x5), some (vi x6), some (vi t0), none] [vi 1] G Q)))))))))))) : wp E d M_X12_apartValue 214 [some (vr x0), some (vi x1), some (vi x2), some (vj x3), none, some (vi x5), some (vi x6), none, none] [vi t0] G Q := by
  refine wp_istore (pc := 214) (lv' := [some (vr _), some (vi _), some (vi _), some (vj _), none, some (vi _), some (vi _), some (vi _), none]) d_X12_apartValue_214 (by decide) rfl ?_
  refine wp_aload_n (pc := 216) d_X12_apartValue_216 rfl ?_
  obtain ⟨ho1, h⟩ := h
  refine wp_getR (pc := 217) d_X12_apartValue_217 fl_X12_137 (fun _ _ _ => rfl) ho1 ?_
  refine wp_iload (pc := 220) d_X12_apartValue_220 rfl ?_
  obtain ⟨ho2, h⟩ := h
  obtain ⟨hi3, h⟩ := h
  refine wp_lald (pc := 222) d_X12_apartValue_222 ho2 hi3 ?_
  refine wp_aload_n (pc := 223) d_X12_apartValue_223 rfl ?_
  refine wp_getR (pc := 224) d_X12_apartValue_224 fl_X12_137 (fun _ _ _ => rfl) ho1 ?_
  refine wp_iload (pc := 227) d_X12_apartValue_227 rfl ?_
  obtain ⟨hi4, h⟩ := h
  refine wp_lald (pc := 229) d_X12_apartValue_229 ho2 hi4 ?_
  refine wp_aload_n (pc := 230) d_X12_apartValue_230 rfl ?_
  refine wp_getR (pc := 231) d_X12_apartValue_231 fl_X12_140 (fun _ _ _ => rfl) ho1 ?_
  refine wp_iload (pc := 234) d_X12_apartValue_234 rfl ?_
  obtain ⟨ho5, h⟩ := h
  obtain ⟨hi6, h⟩ := h
  refine wp_lald (pc := 236) d_X12_apartValue_236 ho5 hi6 ?_
  refine wp_ladd (pc := 237) d_X12_apartValue_237 ?_
  refine wp_lcmp_ge (pc := 238) (tgt := 272) d_X12_apartValue_238 d_X12_apartValue_239 (by decide) (fun hc => ?_) (fun hc => ?_)
  · have h := h.1 hc
    refine wp_sub ?_ h
    exact ⟨rfl, ⟨rfl, ⟨rfl, ⟨rfl, ⟨rfl, ⟨rfl, ⟨rfl, trivial⟩⟩⟩⟩⟩⟩⟩
  · have h := h.2 hc
    refine wp_aload_n (pc := 242) d_X12_apartValue_242 rfl ?_
    refine wp_getR (pc := 243) d_X12_apartValue_243 fl_X12_137 (fun _ _ _ => rfl) ho1 ?_
    refine wp_iload (pc := 246) d_X12_apartValue_246 rfl ?_
    obtain ⟨hi7, h⟩ := h
    refine wp_lald (pc := 248) d_X12_apartValue_248 ho2 hi7 ?_
    refine wp_aload_n (pc := 249) d_X12_apartValue_249 rfl ?_
    refine wp_getR (pc := 250) d_X12_apartValue_250 fl_X12_137 (fun _ _ _ => rfl) ho1 ?_
    refine wp_iload (pc := 253) d_X12_apartValue_253 rfl ?_
    obtain ⟨hi8, h⟩ := h
    refine wp_lald (pc := 255) d_X12_apartValue_255 ho2 hi8 ?_
    refine wp_aload_n (pc := 256) d_X12_apartValue_256 rfl ?_
    refine wp_getR (pc := 257) d_X12_apartValue_257 fl_X12_140 (fun _ _ _ => rfl) ho1 ?_
    refine wp_iload (pc := 260) d_X12_apartValue_260 rfl ?_
    obtain ⟨hi9, h⟩ := h
    refine wp_lald (pc := 262) d_X12_apartValue_262 ho5 hi9 ?_
    refine wp_ladd (pc := 263) d_X12_apartValue_263 ?_
    refine wp_lcmp_ge (pc := 264) (tgt := 272) d_X12_apartValue_264 d_X12_apartValue_265 (by decide) (fun hc => ?_) (fun hc => ?_)
    · have h := h.1 hc
      refine wp_sub ?_ h
      exact ⟨rfl, ⟨rfl, ⟨rfl, ⟨rfl, ⟨rfl, ⟨rfl, ⟨rfl, trivial⟩⟩⟩⟩⟩⟩⟩
    · have h := h.2 hc
      refine wp_iconst (pc := 268) (v := 1) d_X12_apartValue_268 rfl ?_
      refine wp_goto (pc := 269) (tgt := 273) d_X12_apartValue_269 (by decide) ?_
      refine wp_sub ?_ h
      exact ⟨rfl, ⟨rfl, ⟨rfl, ⟨rfl, ⟨rfl, ⟨rfl, ⟨rfl, trivial⟩⟩⟩⟩⟩⟩⟩
theorem v_X12_apartValue_272 {E : EE} {d : Nat} {Q : Option AV → AH → Prop} {x0 : Nat} {x1 : Int32} {x2 : Int32} {x3 : Int64} {x5 : Int32} {x6 : Int32} {x7 : Int32} {G : AH} (h : wp E d M_X12_apartValue 273 [some (vr x0), some (vi x1), some (vi x2), some (vj x3), none, some (vi x5), some (vi x6), some (vi x7), none] [vi 0] G Q) : wp E d M_X12_apartValue 272 [some (vr x0), some (vi x1), some (vi x2), some (vj x3), none, some (vi x5), some (vi x6), some (vi x7), none] [] G Q := by
  refine wp_iconst (pc := 272) (v := 0) d_X12_apartValue_272 rfl ?_
  refine wp_sub ?_ h
  exact ⟨rfl, ⟨rfl, ⟨rfl, ⟨rfl, ⟨rfl, ⟨rfl, ⟨rfl, trivial⟩⟩⟩⟩⟩⟩⟩
theorem v_X12_apartValue_273 {E : EE} {d : Nat} {Q : Option AV → AH → Prop} {x0 : Nat} {x1 : Int32} {x2 : Int32} {x3 : Int64} {x5 : Int32} {x6 : Int32} {x7 : Int32} {t0 : Int32} {G : AH} (h : (x7 = 0 → wp E d M_X12_apartValue 290 [some (vr x0), some (vi x1), some (vi x2), some (vj x3), none, some (vi x5), some (vi x6), some (vi x7), some (vi t0)] [vj x3] G Q) ∧ (¬ (x7 = 0) → (t0 = 0 → wp E d M_X12_apartValue 290 [some (vr x0), some (vi x1), some (vi x2), some (vj x3), none, some (vi x5), some (vi x6), some (vi x7), some (vi t0)] [vj x3] G Q) ∧ (¬ (t0 = 0) → wp E d M_X12_apartValue 291 [some (vr x0), some (vi x1), some (vi x2), some (vj x3), none, some (vi x5), some (vi x6), some (vi x7), some (vi t0)] [vj 1, vj x3] G Q))) : wp E d M_X12_apartValue 273 [some (vr x0), some (vi x1), some (vi x2), some (vj x3), none, some (vi x5), some (vi x6), some (vi x7), none] [vi t0] G Q := by
  refine wp_istore (pc := 273) (lv' := [some (vr _), some (vi _), some (vi _), some (vj _), none, some (vi _), some (vi _), some (vi _), some (vi _)]) d_X12_apartValue_273 (by decide) rfl ?_
  refine wp_lload_n (pc := 275) d_X12_apartValue_275 rfl ?_
  refine wp_iload (pc := 276) d_X12_apartValue_276 rfl ?_
  refine wp_if_eq (pc := 278) (tgt := 290) d_X12_apartValue_278 (by decide) (fun hc => ?_) (fun hc => ?_)
  · have h := h.1 hc
    refine wp_sub ?_ h
    exact ⟨rfl, ⟨rfl, ⟨rfl, ⟨rfl, ⟨rfl, ⟨rfl, ⟨rfl, ⟨rfl, trivial⟩⟩⟩⟩⟩⟩⟩⟩
  · have h := h.2 hc
    refine wp_iload (pc := 281) d_X12_apartValue_281 rfl ?_
    refine wp_if_eq (pc := 283) (tgt := 290) d_X12_apartValue_283 (by decide) (fun hc => ?_) (fun hc => ?_)
    · have h := h.1 hc
      refine wp_sub ?_ h
      exact ⟨rfl, ⟨rfl, ⟨rfl, ⟨rfl, ⟨rfl, ⟨rfl, ⟨rfl, ⟨rfl, trivial⟩⟩⟩⟩⟩⟩⟩⟩
    · have h := h.2 hc
      refine wp_lconst (pc := 286) (v := 1) d_X12_apartValue_286 rfl ?_
      refine wp_goto (pc := 287) (tgt := 291) d_X12_apartValue_287 (by decide) ?_
      refine wp_sub ?_ h
      exact ⟨rfl, ⟨rfl, ⟨rfl, ⟨rfl, ⟨rfl, ⟨rfl, ⟨rfl, ⟨rfl, trivial⟩⟩⟩⟩⟩⟩⟩⟩
theorem v_X12_apartValue_290 {E : EE} {d : Nat} {Q : Option AV → AH → Prop} {x0 : Nat} {x1 : Int32} {x2 : Int32} {x3 : Int64} {x5 : Int32} {x6 : Int32} {x7 : Int32} {x8 : Int32} {t0 : Int64} {G : AH} (h : wp E d M_X12_apartValue 291 [some (vr x0), some (vi x1), some (vi x2), some (vj x3), none, some (vi x5), some (vi x6), some (vi x7), some (vi x8)] [vj 0, vj t0] G Q) : wp E d M_X12_apartValue 290 [some (vr x0), some (vi x1), some (vi x2), some (vj x3), none, some (vi x5), some (vi x6), some (vi x7), some (vi x8)] [vj t0] G Q := by
  refine wp_lconst (pc := 290) (v := 0) d_X12_apartValue_290 rfl ?_
  refine wp_sub ?_ h
  exact ⟨rfl, ⟨rfl, ⟨rfl, ⟨rfl, ⟨rfl, ⟨rfl, ⟨rfl, ⟨rfl, trivial⟩⟩⟩⟩⟩⟩⟩⟩
theorem v_X12_apartValue_291 {E : EE} {d : Nat} {Q : Option AV → AH → Prop} {x0 : Nat} {x1 : Int32} {x2 : Int32} {x3 : Int64} {x5 : Int32} {x6 : Int32} {x7 : Int32} {x8 : Int32} {t0 : Int64} {t1 : Int64} {G : AH} (h : wp E d M_X12_apartValue 150 [some (vr x0), some (vi x1), some (vi x2), some (vj (t0 + t1)), none, some (vi x5), some (vi (x6 + 1)), none, none] [] G Q) : wp E d M_X12_apartValue 291 [some (vr x0), some (vi x1), some (vi x2), some (vj x3), none, some (vi x5), some (vi x6), some (vi x7), some (vi x8)] [vj t1, vj t0] G Q := by
  refine wp_ladd (pc := 291) d_X12_apartValue_291 ?_
  refine wp_lstore_n (pc := 292) (lv' := [some (vr _), some (vi _), some (vi _), some (vj _), none, some (vi _), some (vi _), some (vi _), some (vi _)]) d_X12_apartValue_292 (by decide) rfl ?_
  refine wp_iinc (pc := 293) (v := 1) (lv' := [some (vr _), some (vi _), some (vi _), some (vj _), none, some (vi _), some (vi _), some (vi _), some (vi _)]) d_X12_apartValue_293 (by decide) rfl rfl rfl ?_
  refine wp_goto (pc := 296) (tgt := 150) d_X12_apartValue_296 (by decide) ?_
  refine wp_sub ?_ h
  exact ⟨rfl, ⟨rfl, ⟨rfl, ⟨rfl, ⟨rfl, ⟨rfl, trivial⟩⟩⟩⟩⟩⟩
theorem d_X12_sumValue_0 : decode prog_14_method_68_code 0 = .ok (.aload_n 0, 1) := by decide +kernel
theorem d_X12_sumValue_1 : decode prog_14_method_68_code 1 = .ok (.invokevirtual 475, 3) := by decide +kernel
theorem d_X12_sumValue_4 : decode prog_14_method_68_code 4 = .ok (.lstore_n 1, 1) := by decide +kernel
theorem d_X12_sumValue_5 : decode prog_14_method_68_code 5 = .ok (.aload_n 0, 1) := by decide +kernel
theorem d_X12_sumValue_6 : decode prog_14_method_68_code 6 = .ok (.getfield 31, 3) := by decide +kernel
theorem d_X12_sumValue_9 : decode prog_14_method_68_code 9 = .ok (.aload_n 0, 1) := by decide +kernel
theorem d_X12_sumValue_10 : decode prog_14_method_68_code 10 = .ok (.getfield 472, 3) := by decide +kernel
theorem d_X12_sumValue_13 : decode prog_14_method_68_code 13 = .ok (.iaload, 1) := by decide +kernel
theorem d_X12_sumValue_14 : decode prog_14_method_68_code 14 = .ok (.bipush 43, 2) := by decide +kernel
theorem d_X12_sumValue_16 : decode prog_14_method_68_code 16 = .ok (.if_icmp .eq 17, 3) := by decide +kernel
theorem d_X12_sumValue_19 : decode prog_14_method_68_code 19 = .ok (.aload_n 0, 1) := by decide +kernel
theorem d_X12_sumValue_20 : decode prog_14_method_68_code 20 = .ok (.getfield 31, 3) := by decide +kernel
theorem d_X12_sumValue_23 : decode prog_14_method_68_code 23 = .ok (.aload_n 0, 1) := by decide +kernel
theorem d_X12_sumValue_24 : decode prog_14_method_68_code 24 = .ok (.getfield 472, 3) := by decide +kernel
theorem d_X12_sumValue_27 : decode prog_14_method_68_code 27 = .ok (.iaload, 1) := by decide +kernel
theorem d_X12_sumValue_28 : decode prog_14_method_68_code 28 = .ok (.bipush 45, 2) := by decide +kernel
theorem d_X12_sumValue_30 : decode prog_14_method_68_code 30 = .ok (.if_icmp .ne 61, 3) := by decide +kernel
theorem d_X12_sumValue_33 : decode prog_14_method_68_code 33 = .ok (.aload_n 0, 1) := by decide +kernel
theorem d_X12_sumValue_34 : decode prog_14_method_68_code 34 = .ok (.getfield 31, 3) := by decide +kernel
theorem d_X12_sumValue_37 : decode prog_14_method_68_code 37 = .ok (.aload_n 0, 1) := by decide +kernel
theorem d_X12_sumValue_38 : decode prog_14_method_68_code 38 = .ok (.getfield 472, 3) := by decide +kernel
theorem d_X12_sumValue_41 : decode prog_14_method_68_code 41 = .ok (.iaload, 1) := by decide +kernel
theorem d_X12_sumValue_42 : decode prog_14_method_68_code 42 = .ok (.bipush 45, 2) := by decide +kernel
theorem d_X12_sumValue_44 : decode prog_14_method_68_code 44 = .ok (.if_icmp .ne 7, 3) := by decide +kernel
theorem d_X12_sumValue_47 : decode prog_14_method_68_code 47 = .ok (.iconst 1, 1) := by decide +kernel
theorem d_X12_sumValue_48 : decode prog_14_method_68_code 48 = .ok (.goto 4, 3) := by decide +kernel
theorem d_X12_sumValue_51 : decode prog_14_method_68_code 51 = .ok (.iconst 0, 1) := by decide +kernel
theorem d_X12_sumValue_52 : decode prog_14_method_68_code 52 = .ok (.istore_n 3, 1) := by decide +kernel
theorem d_X12_sumValue_53 : decode prog_14_method_68_code 53 = .ok (.aload_n 0, 1) := by decide +kernel
theorem d_X12_sumValue_54 : decode prog_14_method_68_code 54 = .ok (.dup, 1) := by decide +kernel
theorem d_X12_sumValue_55 : decode prog_14_method_68_code 55 = .ok (.getfield 472, 3) := by decide +kernel
theorem d_X12_sumValue_58 : decode prog_14_method_68_code 58 = .ok (.iconst 1, 1) := by decide +kernel
theorem d_X12_sumValue_59 : decode prog_14_method_68_code 59 = .ok (.iadd, 1) := by decide +kernel
theorem d_X12_sumValue_60 : decode prog_14_method_68_code 60 = .ok (.putfield 472, 3) := by decide +kernel
theorem d_X12_sumValue_63 : decode prog_14_method_68_code 63 = .ok (.aload_n 0, 1) := by decide +kernel
theorem d_X12_sumValue_64 : decode prog_14_method_68_code 64 = .ok (.invokevirtual 475, 3) := by decide +kernel
theorem d_X12_sumValue_67 : decode prog_14_method_68_code 67 = .ok (.lstore 4, 2) := by decide +kernel
theorem d_X12_sumValue_69 : decode prog_14_method_68_code 69 = .ok (.iload_n 3, 1) := by decide +kernel
theorem d_X12_sumValue_70 : decode prog_14_method_68_code 70 = .ok (.ifCond .eq 10, 3) := by decide +kernel
theorem d_X12_sumValue_73 : decode prog_14_method_68_code 73 = .ok (.lload_n 1, 1) := by decide +kernel
theorem d_X12_sumValue_74 : decode prog_14_method_68_code 74 = .ok (.lload 4, 2) := by decide +kernel
theorem d_X12_sumValue_76 : decode prog_14_method_68_code 76 = .ok (.lsub, 1) := by decide +kernel
theorem d_X12_sumValue_77 : decode prog_14_method_68_code 77 = .ok (.goto 7, 3) := by decide +kernel
theorem d_X12_sumValue_80 : decode prog_14_method_68_code 80 = .ok (.lload_n 1, 1) := by decide +kernel
theorem d_X12_sumValue_81 : decode prog_14_method_68_code 81 = .ok (.lload 4, 2) := by decide +kernel
theorem d_X12_sumValue_83 : decode prog_14_method_68_code 83 = .ok (.ladd, 1) := by decide +kernel
theorem d_X12_sumValue_84 : decode prog_14_method_68_code 84 = .ok (.invokestatic 479, 3) := by decide +kernel
theorem d_X12_sumValue_87 : decode prog_14_method_68_code 87 = .ok (.lstore_n 1, 1) := by decide +kernel
theorem d_X12_sumValue_88 : decode prog_14_method_68_code 88 = .ok (.goto (-83), 3) := by decide +kernel
theorem d_X12_sumValue_91 : decode prog_14_method_68_code 91 = .ok (.lload_n 1, 1) := by decide +kernel
theorem d_X12_sumValue_92 : decode prog_14_method_68_code 92 = .ok (.lreturn, 1) := by decide +kernel
theorem v_X12_sumValue_0 {E : EE} {d : Nat} {Q : Option AV → AH → Prop} {x0 : Nat} {G : AH} (h0 : 0 < d) (h : isO E G x0 12 ∧ (wpJ E (d - 1) M_X12_termValue [vr x0] G (fun r1 G2 => wp E d M_X12_sumValue 5 [some (vr x0), some (vj r1), none, none, none, none] [] G2 Q))) : wp E d M_X12_sumValue 0 [some (vr x0), none, none, none, none, none] [] G Q := by
  refine wp_aload_n (pc := 0) d_X12_sumValue_0 rfl ?_
  obtain ⟨ho3, h⟩ := h
  refine wp_invV (pc := 1) (N := M_X12_termValue) (As := []) (rest := []) (r := (cn_12, ct_12, 95)) d_X12_sumValue_1 ml_X12_475 mk_X12_termValue mv_X12_termValue h0 ho3 rfl rfl (Nat.le_of_ble_eq_true rfl) ?_
  refine wpM.mono h (fun rr G2 hr => ?_)
  obtain ⟨r1, rfl, h⟩ := hr
  show wp E d M_X12_sumValue 4 [some (vr _), none, none, none, none, none] [vj _] G2 Q
  refine wp_lstore_n (pc := 4) (lv' := [some (vr _), some (vj _), none, none, none, none]) d_X12_sumValue_4 (by decide) rfl ?_
  refine wp_sub ?_ h
  exact ⟨rfl, ⟨rfl, trivial⟩⟩
theorem v_X12_sumValue_5 {E : EE} {d : Nat} {Q : Option AV → AH → Prop} {x0 : Nat} {x1 : Int64} {G : AH} (h : isO E G x0 12 ∧ (isO E G (gR G x0 8) 14 ∧ (vp_in (gI G x0 54) (gN G (gR G x0 8)) ∧ (((gI G (gR G x0 8) (Int32.toNatClampNeg (gI G x0 54))) = 43 → wp E d M_X12_sumValue 33 [some (vr x0), some (vj x1), none, none, none, none] [] G Q) ∧ (¬ ((gI G (gR G x0 8) (Int32.toNatClampNeg (gI G x0 54))) = 43) → vp_in (gI G x0 54) (gN G (gR G x0 8)) ∧ ((¬ (gI G (gR G x0 8) (Int32.toNatClampNeg (gI G x0 54))) = 45 → Q (some (vj x1)) G) ∧ ((gI G (gR G x0 8) (Int32.toNatClampNeg (gI G x0 54))) = 45 → wp E d M_X12_sumValue 33 [some (vr x0), some (vj x1), none, none, none, none] [] G Q))))))) : wp E d M_X12_sumValue 5 [some (vr x0), some (vj x1), none, none, none, none] [] G Q := by
  refine wp_aload_n (pc := 5) d_X12_sumValue_5 rfl ?_
  obtain ⟨ho1, h⟩ := h
  refine wp_getR (pc := 6) d_X12_sumValue_6 fl_X12_31 (fun _ _ _ => rfl) ho1 ?_
  refine wp_aload_n (pc := 9) d_X12_sumValue_9 rfl ?_
  refine wp_getI (pc := 10) d_X12_sumValue_10 fl_X12_472 (fun _ _ _ => rfl) ho1 ?_
  obtain ⟨ho2, h⟩ := h
  obtain ⟨hi3, h⟩ := h
  refine wp_iald (pc := 13) d_X12_sumValue_13 ho2 hi3 ?_
  refine wp_bipush (pc := 14) (v := 43) d_X12_sumValue_14 rfl ?_
  refine wp_icmp_eq (pc := 16) (tgt := 33) d_X12_sumValue_16 (by decide) (fun hc => ?_) (fun hc => ?_)
  · have h := h.1 hc
    refine wp_sub ?_ h
    exact ⟨rfl, ⟨rfl, trivial⟩⟩
  · have h := h.2 hc
    refine wp_aload_n (pc := 19) d_X12_sumValue_19 rfl ?_
    refine wp_getR (pc := 20) d_X12_sumValue_20 fl_X12_31 (fun _ _ _ => rfl) ho1 ?_
    refine wp_aload_n (pc := 23) d_X12_sumValue_23 rfl ?_
    refine wp_getI (pc := 24) d_X12_sumValue_24 fl_X12_472 (fun _ _ _ => rfl) ho1 ?_
    obtain ⟨hi4, h⟩ := h
    refine wp_iald (pc := 27) d_X12_sumValue_27 ho2 hi4 ?_
    refine wp_bipush (pc := 28) (v := 45) d_X12_sumValue_28 rfl ?_
    refine wp_icmp_ne (pc := 30) (tgt := 91) d_X12_sumValue_30 (by decide) (fun hc => ?_) (fun hc => ?_)
    · have h := h.1 hc
      refine wp_lload_n (pc := 91) d_X12_sumValue_91 rfl ?_
      exact wp_lret (pc := 92) d_X12_sumValue_92 rfl h
    · have h := h.2 hc
      refine wp_sub ?_ h
      exact ⟨rfl, ⟨rfl, trivial⟩⟩
theorem v_X12_sumValue_33 {E : EE} {d : Nat} {Q : Option AV → AH → Prop} {x0 : Nat} {x1 : Int64} {G : AH} (h : isO E G x0 12 ∧ (isO E G (gR G x0 8) 14 ∧ (vp_in (gI G x0 54) (gN G (gR G x0 8)) ∧ ((¬ (gI G (gR G x0 8) (Int32.toNatClampNeg (gI G x0 54))) = 45 → wp E d M_X12_sumValue 52 [some (vr x0), some (vj x1), none, none, none, none] [vi 0] G Q) ∧ ((gI G (gR G x0 8) (Int32.toNatClampNeg (gI G x0 54))) = 45 → wp E d M_X12_sumValue 52 [some (vr x0), some (vj x1), none, none, none, none] [vi 1] G Q))))) : wp E d M_X12_sumValue 33 [some (vr x0), some (vj x1), none, none, none, none] [] G Q := by
  refine wp_aload_n (pc := 33) d_X12_sumValue_33 rfl ?_
  obtain ⟨ho1, h⟩ := h
  refine wp_getR (pc := 34) d_X12_sumValue_34 fl_X12_31 (fun _ _ _ => rfl) ho1 ?_
  refine wp_aload_n (pc := 37) d_X12_sumValue_37 rfl ?_
  refine wp_getI (pc := 38) d_X12_sumValue_38 fl_X12_472 (fun _ _ _ => rfl) ho1 ?_
  obtain ⟨ho2, h⟩ := h
  obtain ⟨hi3, h⟩ := h
  refine wp_iald (pc := 41) d_X12_sumValue_41 ho2 hi3 ?_
  refine wp_bipush (pc := 42) (v := 45) d_X12_sumValue_42 rfl ?_
  refine wp_icmp_ne (pc := 44) (tgt := 51) d_X12_sumValue_44 (by decide) (fun hc => ?_) (fun hc => ?_)
  · have h := h.1 hc
    refine wp_iconst (pc := 51) (v := 0) d_X12_sumValue_51 rfl ?_
    refine wp_sub ?_ h
    exact ⟨rfl, ⟨rfl, trivial⟩⟩
  · have h := h.2 hc
    refine wp_iconst (pc := 47) (v := 1) d_X12_sumValue_47 rfl ?_
    refine wp_goto (pc := 48) (tgt := 52) d_X12_sumValue_48 (by decide) ?_
    refine wp_sub ?_ h
    exact ⟨rfl, ⟨rfl, trivial⟩⟩
theorem v_X12_sumValue_52 {E : EE} {d : Nat} {Q : Option AV → AH → Prop} {x0 : Nat} {x1 : Int64} {t0 : Int32} {G : AH} (h0 : 0 < d) (h : isO E G x0 12 ∧ (wpJ E (d - 1) M_X12_termValue [vr x0] (sI G x0 54 ((gI G x0 54) + 1)) (fun r2 G3 => (t0 = 0 → wp E d M_X12_sumValue 84 [some (vr x0), some (vj x1), none, some (vi t0), some (vj r2), none] [vj (x1 + r2)] G3 Q) ∧ (¬ (t0 = 0) → wp E d M_X12_sumValue 84 [some (vr x0), some (vj x1), none, some (vi t0), some (vj r2), none] [vj (x1 - r2)] G3 Q)))) : wp E d M_X12_sumValue 52 [some (vr x0), some (vj x1), none, none, none, none] [vi t0] G Q := by
  refine wp_istore_n (pc := 52) (lv' := [some (vr _), some (vj _), none, some (vi _), none, none]) d_X12_sumValue_52 (by decide) rfl ?_
  refine wp_aload_n (pc := 53) d_X12_sumValue_53 rfl ?_
  refine wp_dup (pc := 54) d_X12_sumValue_54 (c1_r _) ?_
  obtain ⟨ho1, h⟩ := h
  refine wp_getI (pc := 55) d_X12_sumValue_55 fl_X12_472 (fun _ _ _ => rfl) ho1 ?_
  refine wp_iconst (pc := 58) (v := 1) d_X12_sumValue_58 rfl ?_
  refine wp_iadd (pc := 59) d_X12_sumValue_59 ?_
  refine wp_putI (pc := 60) d_X12_sumValue_60 fl_X12_472 (fun _ _ _ => rfl) (Or.inl rfl) ho1 (okI_int _) ?_
  refine wp_aload_n (pc := 63) d_X12_sumValue_63 rfl ?_
  refine wp_invV (pc := 64) (N := M_X12_termValue) (As := []) (rest := []) (r := (cn_12, ct_12, 95)) d_X12_sumValue_64 ml_X12_475 mk_X12_termValue mv_X12_termValue h0 ho1 rfl rfl (Nat.le_of_ble_eq_true rfl) ?_
  refine wpM.mono h (fun rr G3 hr => ?_)
  obtain ⟨r2, rfl, h⟩ := hr
  show wp E d M_X12_sumValue 67 [some (vr _), some (vj _), none, some (vi _), none, none] [vj _] G3 Q
  refine wp_lstore (pc := 67) (lv' := [some (vr _), some (vj _), none, some (vi _), some (vj _), none]) d_X12_sumValue_67 (by decide) rfl ?_
  refine wp_iload_n (pc := 69) d_X12_sumValue_69 rfl ?_
  refine wp_if_eq (pc := 70) (tgt := 80) d_X12_sumValue_70 (by decide) (fun hc => ?_) (fun hc => ?_)
  · have h := h.1 hc
    refine wp_lload_n (pc := 80) d_X12_sumValue_80 rfl ?_
    refine wp_lload (pc := 81) d_X12_sumValue_81 rfl ?_
    refine wp_ladd (pc := 83) d_X12_sumValue_83 ?_
    refine wp_sub ?_ h
    exact ⟨rfl, ⟨rfl, ⟨rfl, ⟨rfl, trivial⟩⟩⟩⟩
  · have h := h.2 hc
    refine wp_lload_n (pc := 73) d_X12_sumValue_73 rfl ?_
    refine wp_lload (pc := 74) d_X12_sumValue_74 rfl ?_
    refine wp_lsub (pc := 76) d_X12_sumValue_76 ?_
    refine wp_goto (pc := 77) (tgt := 84) d_X12_sumValue_77 (by decide) ?_
    refine wp_sub ?_ h
    exact ⟨rfl, ⟨rfl, ⟨rfl, ⟨rfl, trivial⟩⟩⟩⟩
theorem v_X12_sumValue_84 {E : EE} {d : Nat} {Q : Option AV → AH → Prop} {x0 : Nat} {x1 : Int64} {x3 : Int32} {x4 : Int64} {t0 : Int64} {G : AH} (h0 : 0 < d) (h : wpJ E (d - 1) M_X12_held [vj t0] G (fun r1 G2 => wp E d M_X12_sumValue 5 [some (vr x0), some (vj r1), none, none, none, none] [] G2 Q)) : wp E d M_X12_sumValue 84 [some (vr x0), some (vj x1), none, some (vi x3), some (vj x4), none] [vj t0] G Q := by
  refine wp_invS (pc := 84) (N := M_X12_held) (As := [vj _]) (rest := []) d_X12_sumValue_84 ml_X12_479 mk_X12_held ms_X12_held h0 (Nat.le_of_ble_eq_true rfl) ?_
  refine wpM.mono h (fun rr G2 hr => ?_)
  obtain ⟨r1, rfl, h⟩ := hr
  show wp E d M_X12_sumValue 87 [some (vr _), some (vj _), none, some (vi _), some (vj _), none] [vj _] G2 Q
  refine wp_lstore_n (pc := 87) (lv' := [some (vr _), some (vj _), none, some (vi _), some (vj _), none]) d_X12_sumValue_87 (by decide) rfl ?_
  refine wp_goto (pc := 88) (tgt := 5) d_X12_sumValue_88 (by decide) ?_
  refine wp_sub ?_ h
  exact ⟨rfl, ⟨rfl, trivial⟩⟩
theorem d_X12_termValue_0 : decode prog_14_method_69_code 0 = .ok (.aload_n 0, 1) := by decide +kernel
theorem d_X12_termValue_1 : decode prog_14_method_69_code 1 = .ok (.invokevirtual 483, 3) := by decide +kernel
theorem d_X12_termValue_4 : decode prog_14_method_69_code 4 = .ok (.lstore_n 1, 1) := by decide +kernel
theorem d_X12_termValue_5 : decode prog_14_method_69_code 5 = .ok (.aload_n 0, 1) := by decide +kernel
theorem d_X12_termValue_6 : decode prog_14_method_69_code 6 = .ok (.getfield 31, 3) := by decide +kernel
theorem d_X12_termValue_9 : decode prog_14_method_69_code 9 = .ok (.aload_n 0, 1) := by decide +kernel
theorem d_X12_termValue_10 : decode prog_14_method_69_code 10 = .ok (.getfield 472, 3) := by decide +kernel
theorem d_X12_termValue_13 : decode prog_14_method_69_code 13 = .ok (.iaload, 1) := by decide +kernel
theorem d_X12_termValue_14 : decode prog_14_method_69_code 14 = .ok (.bipush 42, 2) := by decide +kernel
theorem d_X12_termValue_16 : decode prog_14_method_69_code 16 = .ok (.if_icmp .ne 26, 3) := by decide +kernel
theorem d_X12_termValue_19 : decode prog_14_method_69_code 19 = .ok (.aload_n 0, 1) := by decide +kernel
theorem d_X12_termValue_20 : decode prog_14_method_69_code 20 = .ok (.dup, 1) := by decide +kernel
theorem d_X12_termValue_21 : decode prog_14_method_69_code 21 = .ok (.getfield 472, 3) := by decide +kernel
theorem d_X12_termValue_24 : decode prog_14_method_69_code 24 = .ok (.iconst 1, 1) := by decide +kernel
theorem d_X12_termValue_25 : decode prog_14_method_69_code 25 = .ok (.iadd, 1) := by decide +kernel
theorem d_X12_termValue_26 : decode prog_14_method_69_code 26 = .ok (.putfield 472, 3) := by decide +kernel
theorem d_X12_termValue_29 : decode prog_14_method_69_code 29 = .ok (.lload_n 1, 1) := by decide +kernel
theorem d_X12_termValue_30 : decode prog_14_method_69_code 30 = .ok (.aload_n 0, 1) := by decide +kernel
theorem d_X12_termValue_31 : decode prog_14_method_69_code 31 = .ok (.invokevirtual 483, 3) := by decide +kernel
theorem d_X12_termValue_34 : decode prog_14_method_69_code 34 = .ok (.lmul, 1) := by decide +kernel
theorem d_X12_termValue_35 : decode prog_14_method_69_code 35 = .ok (.invokestatic 479, 3) := by decide +kernel
theorem d_X12_termValue_38 : decode prog_14_method_69_code 38 = .ok (.lstore_n 1, 1) := by decide +kernel
theorem d_X12_termValue_39 : decode prog_14_method_69_code 39 = .ok (.goto (-34), 3) := by decide +kernel
theorem d_X12_termValue_42 : decode prog_14_method_69_code 42 = .ok (.lload_n 1, 1) := by decide +kernel
theorem d_X12_termValue_43 : decode prog_14_method_69_code 43 = .ok (.lreturn, 1) := by decide +kernel
theorem v_X12_termValue_0 {E : EE} {d : Nat} {Q : Option AV → AH → Prop} {x0 : Nat} {G : AH} (h0 : 0 < d) (h : isO E G x0 12 ∧ (wpJ E (d - 1) M_X12_factorValue [vr x0] G (fun r1 G2 => wp E d M_X12_termValue 5 [some (vr x0), some (vj r1), none] [] G2 Q))) : wp E d M_X12_termValue 0 [some (vr x0), none, none] [] G Q := by
  refine wp_aload_n (pc := 0) d_X12_termValue_0 rfl ?_
  obtain ⟨ho3, h⟩ := h
  refine wp_invV (pc := 1) (N := M_X12_factorValue) (As := []) (rest := []) (r := (cn_12, ct_12, 95)) d_X12_termValue_1 ml_X12_483 mk_X12_factorValue mv_X12_factorValue h0 ho3 rfl rfl (Nat.le_of_ble_eq_true rfl) ?_
  refine wpM.mono h (fun rr G2 hr => ?_)
  obtain ⟨r1, rfl, h⟩ := hr
  show wp E d M_X12_termValue 4 [some (vr _), none, none] [vj _] G2 Q
  refine wp_lstore_n (pc := 4) (lv' := [some (vr _), some (vj _), none]) d_X12_termValue_4 (by decide) rfl ?_
  refine wp_sub ?_ h
  exact ⟨rfl, ⟨rfl, trivial⟩⟩
theorem v_X12_termValue_5 {E : EE} {d : Nat} {Q : Option AV → AH → Prop} {x0 : Nat} {x1 : Int64} {G : AH} (h0 : 0 < d) (h : isO E G x0 12 ∧ (isO E G (gR G x0 8) 14 ∧ (vp_in (gI G x0 54) (gN G (gR G x0 8)) ∧ ((¬ (gI G (gR G x0 8) (Int32.toNatClampNeg (gI G x0 54))) = 42 → Q (some (vj x1)) G) ∧ ((gI G (gR G x0 8) (Int32.toNatClampNeg (gI G x0 54))) = 42 → wpJ E (d - 1) M_X12_factorValue [vr x0] (sI G x0 54 ((gI G x0 54) + 1)) (fun r4 G5 => wpJ E (d - 1) M_X12_held [vj (x1 * r4)] G5 (fun r6 G7 => wp E d M_X12_termValue 5 [some (vr x0), some (vj r6), none] [] G7 Q))))))) : wp E d M_X12_termValue 5 [some (vr x0), some (vj x1), none] [] G Q := by
  refine wp_aload_n (pc := 5) d_X12_termValue_5 rfl ?_
  obtain ⟨ho1, h⟩ := h
  refine wp_getR (pc := 6) d_X12_termValue_6 fl_X12_31 (fun _ _ _ => rfl) ho1 ?_
  refine wp_aload_n (pc := 9) d_X12_termValue_9 rfl ?_
  refine wp_getI (pc := 10) d_X12_termValue_10 fl_X12_472 (fun _ _ _ => rfl) ho1 ?_
  obtain ⟨ho2, h⟩ := h
  obtain ⟨hi3, h⟩ := h
  refine wp_iald (pc := 13) d_X12_termValue_13 ho2 hi3 ?_
  refine wp_bipush (pc := 14) (v := 42) d_X12_termValue_14 rfl ?_
  refine wp_icmp_ne (pc := 16) (tgt := 42) d_X12_termValue_16 (by decide) (fun hc => ?_) (fun hc => ?_)
  · have h := h.1 hc
    refine wp_lload_n (pc := 42) d_X12_termValue_42 rfl ?_
    exact wp_lret (pc := 43) d_X12_termValue_43 rfl h
  · have h := h.2 hc
    refine wp_aload_n (pc := 19) d_X12_termValue_19 rfl ?_
    refine wp_dup (pc := 20) d_X12_termValue_20 (c1_r _) ?_
    refine wp_getI (pc := 21) d_X12_termValue_21 fl_X12_472 (fun _ _ _ => rfl) ho1 ?_
    refine wp_iconst (pc := 24) (v := 1) d_X12_termValue_24 rfl ?_
    refine wp_iadd (pc := 25) d_X12_termValue_25 ?_
    refine wp_putI (pc := 26) d_X12_termValue_26 fl_X12_472 (fun _ _ _ => rfl) (Or.inl rfl) ho1 (okI_int _) ?_
    refine wp_lload_n (pc := 29) d_X12_termValue_29 rfl ?_
    refine wp_aload_n (pc := 30) d_X12_termValue_30 rfl ?_
    refine wp_invV (pc := 31) (N := M_X12_factorValue) (As := []) (rest := [vj _]) (r := (cn_12, ct_12, 95)) d_X12_termValue_31 ml_X12_483 mk_X12_factorValue mv_X12_factorValue h0 ho1 rfl rfl (Nat.le_of_ble_eq_true rfl) ?_
    refine wpM.mono h (fun rr G5 hr => ?_)
    obtain ⟨r4, rfl, h⟩ := hr
    show wp E d M_X12_termValue 34 [some (vr _), some (vj _), none] [vj _, vj _] G5 Q
    refine wp_lmul (pc := 34) d_X12_termValue_34 ?_
    refine wp_invS (pc := 35) (N := M_X12_held) (As := [vj _]) (rest := []) d_X12_termValue_35 ml_X12_479 mk_X12_held ms_X12_held h0 (Nat.le_of_ble_eq_true rfl) ?_
    refine wpM.mono h (fun rr G7 hr => ?_)
    obtain ⟨r6, rfl, h⟩ := hr
    show wp E d M_X12_termValue 38 [some (vr _), some (vj _), none] [vj _] G7 Q
    refine wp_lstore_n (pc := 38) (lv' := [some (vr _), some (vj _), none]) d_X12_termValue_38 (by decide) rfl ?_
    refine wp_goto (pc := 39) (tgt := 5) d_X12_termValue_39 (by decide) ?_
    refine wp_sub ?_ h
    exact ⟨rfl, ⟨rfl, trivial⟩⟩
