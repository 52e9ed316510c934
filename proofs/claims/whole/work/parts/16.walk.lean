/-! decode rows and regions (by program): X3_moveTo X3_regretIn X3_factsIn X3_sumOverFutures X3_allOdds X3_mostRobust X3_isLess X3_isFact X3_addFuture X3_firstBestWith X3_firstWorseRule X3_isRule X3_bestLacking X3_costTo X1_init X1_cheapest X1_lookAtSets X1_listRules X1_among X1_weightOf X1_isClash X1_byNumber X1_smallest X1_narrowed X1_alwaysBroken X1_workOut X1_dropUnsupported X1_isOfLeft X1_support X6_init X6_mayBe X6_seek X6_begin -/
theorem d_X3_moveTo_0 : decode prog_5_method_8_code 0 = .ok (.aload_n 0, 1) := by decide +kernel
theorem d_X3_moveTo_1 : decode prog_5_method_8_code 1 = .ok (.iload_n 1, 1) := by decide +kernel
theorem d_X3_moveTo_2 : decode prog_5_method_8_code 2 = .ok (.putfield 54, 3) := by decide +kernel
theorem d_X3_moveTo_5 : decode prog_5_method_8_code 5 = .ok (.iconst 1, 1) := by decide +kernel
theorem d_X3_moveTo_6 : decode prog_5_method_8_code 6 = .ok (.ireturn, 1) := by decide +kernel
theorem v_X3_moveTo_0 {E : EE} {d : Nat} {Q : Option AV → AH → Prop} {x0 : Nat} {x1 : Int32} {G : AH} (h : isO E G x0 3 ∧ (Q (some (vi 1)) (sI G x0 8 x1))) : wp E d M_X3_moveTo 0 [some (vr x0), some (vi x1)] [] G Q := by
  refine wp_aload_n (pc := 0) d_X3_moveTo_0 rfl ?_
  refine wp_iload_n (pc := 1) d_X3_moveTo_1 rfl ?_
  obtain ⟨ho1, h⟩ := h
  refine wp_putI (pc := 2) d_X3_moveTo_2 fl_X3_54 (fun _ _ _ => rfl) (Or.inl rfl) ho1 (okI_int _) ?_
  refine wp_iconst (pc := 5) (v := 1) d_X3_moveTo_5 rfl ?_
  exact wp_zret (pc := 6) d_X3_moveTo_6 rfl rfl h
theorem d_X3_regretIn_0 : decode prog_5_method_19_code 0 = .ok (.aload_n 0, 1) := by decide +kernel
theorem d_X3_regretIn_1 : decode prog_5_method_19_code 1 = .ok (.iload_n 1, 1) := by decide +kernel
theorem d_X3_regretIn_2 : decode prog_5_method_19_code 2 = .ok (.invokevirtual 174, 3) := by decide +kernel
theorem d_X3_regretIn_5 : decode prog_5_method_19_code 5 = .ok (.astore_n 3, 1) := by decide +kernel
theorem d_X3_regretIn_6 : decode prog_5_method_19_code 6 = .ok (.ldc2_w 186, 3) := by decide +kernel
theorem d_X3_regretIn_9 : decode prog_5_method_19_code 9 = .ok (.lstore 4, 2) := by decide +kernel
theorem d_X3_regretIn_11 : decode prog_5_method_19_code 11 = .ok (.aload_n 0, 1) := by decide +kernel
theorem d_X3_regretIn_12 : decode prog_5_method_19_code 12 = .ok (.getfield 33, 3) := by decide +kernel
theorem d_X3_regretIn_15 : decode prog_5_method_19_code 15 = .ok (.aload_n 0, 1) := by decide +kernel
theorem d_X3_regretIn_16 : decode prog_5_method_19_code 16 = .ok (.getfield 54, 3) := by decide +kernel
theorem d_X3_regretIn_19 : decode prog_5_method_19_code 19 = .ok (.aload_n 0, 1) := by decide +kernel
theorem d_X3_regretIn_20 : decode prog_5_method_19_code 20 = .ok (.getfield 58, 3) := by decide +kernel
theorem d_X3_regretIn_23 : decode prog_5_method_19_code 23 = .ok (.invokevirtual 137, 3) := by decide +kernel
theorem d_X3_regretIn_26 : decode prog_5_method_19_code 26 = .ok (.istore 6, 2) := by decide +kernel
theorem d_X3_regretIn_28 : decode prog_5_method_19_code 28 = .ok (.iconst 0, 1) := by decide +kernel
theorem d_X3_regretIn_29 : decode prog_5_method_19_code 29 = .ok (.istore 7, 2) := by decide +kernel
theorem d_X3_regretIn_31 : decode prog_5_method_19_code 31 = .ok (.iload 7, 2) := by decide +kernel
theorem d_X3_regretIn_33 : decode prog_5_method_19_code 33 = .ok (.aload_n 0, 1) := by decide +kernel
theorem d_X3_regretIn_34 : decode prog_5_method_19_code 34 = .ok (.getfield 33, 3) := by decide +kernel
theorem d_X3_regretIn_37 : decode prog_5_method_19_code 37 = .ok (.getfield 140, 3) := by decide +kernel
theorem d_X3_regretIn_40 : decode prog_5_method_19_code 40 = .ok (.if_icmp .ge 92, 3) := by decide +kernel
theorem d_X3_regretIn_43 : decode prog_5_method_19_code 43 = .ok (.iload 6, 2) := by decide +kernel
theorem d_X3_regretIn_45 : decode prog_5_method_19_code 45 = .ok (.ifCond .lt 87, 3) := by decide +kernel
theorem d_X3_regretIn_48 : decode prog_5_method_19_code 48 = .ok (.aload_n 0, 1) := by decide +kernel
theorem d_X3_regretIn_49 : decode prog_5_method_19_code 49 = .ok (.getfield 40, 3) := by decide +kernel
theorem d_X3_regretIn_52 : decode prog_5_method_19_code 52 = .ok (.aload_n 0, 1) := by decide +kernel
theorem d_X3_regretIn_53 : decode prog_5_method_19_code 53 = .ok (.getfield 33, 3) := by decide +kernel
theorem d_X3_regretIn_56 : decode prog_5_method_19_code 56 = .ok (.iload 6, 2) := by decide +kernel
theorem d_X3_regretIn_58 : decode prog_5_method_19_code 58 = .ok (.aload_n 3, 1) := by decide +kernel
theorem d_X3_regretIn_59 : decode prog_5_method_19_code 59 = .ok (.aload_n 0, 1) := by decide +kernel
theorem d_X3_regretIn_60 : decode prog_5_method_19_code 60 = .ok (.getfield 73, 3) := by decide +kernel
theorem d_X3_regretIn_63 : decode prog_5_method_19_code 63 = .ok (.iconst 0, 1) := by decide +kernel
theorem d_X3_regretIn_64 : decode prog_5_method_19_code 64 = .ok (.invokevirtual 178, 3) := by decide +kernel
theorem d_X3_regretIn_67 : decode prog_5_method_19_code 67 = .ok (.istore 8, 2) := by decide +kernel
theorem d_X3_regretIn_69 : decode prog_5_method_19_code 69 = .ok (.iload 8, 2) := by decide +kernel
theorem d_X3_regretIn_71 : decode prog_5_method_19_code 71 = .ok (.aload_n 0, 1) := by decide +kernel
theorem d_X3_regretIn_72 : decode prog_5_method_19_code 72 = .ok (.getfield 40, 3) := by decide +kernel
theorem d_X3_regretIn_75 : decode prog_5_method_19_code 75 = .ok (.getfield 134, 3) := by decide +kernel
theorem d_X3_regretIn_78 : decode prog_5_method_19_code 78 = .ok (.iand, 1) := by decide +kernel
theorem d_X3_regretIn_79 : decode prog_5_method_19_code 79 = .ok (.ifCond .ne 32, 3) := by decide +kernel
theorem d_X3_regretIn_82 : decode prog_5_method_19_code 82 = .ok (.lload 4, 2) := by decide +kernel
theorem d_X3_regretIn_84 : decode prog_5_method_19_code 84 = .ok (.ldc2_w 186, 3) := by decide +kernel
theorem d_X3_regretIn_87 : decode prog_5_method_19_code 87 = .ok (.lcmp, 1) := by decide +kernel
theorem d_X3_regretIn_88 : decode prog_5_method_19_code 88 = .ok (.ifCond .eq 15, 3) := by decide +kernel
theorem d_X3_regretIn_91 : decode prog_5_method_19_code 91 = .ok (.aload_n 0, 1) := by decide +kernel
theorem d_X3_regretIn_92 : decode prog_5_method_19_code 92 = .ok (.getfield 73, 3) := by decide +kernel
theorem d_X3_regretIn_95 : decode prog_5_method_19_code 95 = .ok (.iload_n 2, 1) := by decide +kernel
theorem d_X3_regretIn_96 : decode prog_5_method_19_code 96 = .ok (.laload, 1) := by decide +kernel
theorem d_X3_regretIn_97 : decode prog_5_method_19_code 97 = .ok (.lload 4, 2) := by decide +kernel
theorem d_X3_regretIn_99 : decode prog_5_method_19_code 99 = .ok (.lcmp, 1) := by decide +kernel
theorem d_X3_regretIn_100 : decode prog_5_method_19_code 100 = .ok (.ifCond .ge 11, 3) := by decide +kernel
theorem d_X3_regretIn_103 : decode prog_5_method_19_code 103 = .ok (.aload_n 0, 1) := by decide +kernel
theorem d_X3_regretIn_104 : decode prog_5_method_19_code 104 = .ok (.getfield 73, 3) := by decide +kernel
theorem d_X3_regretIn_107 : decode prog_5_method_19_code 107 = .ok (.iload_n 2, 1) := by decide +kernel
theorem d_X3_regretIn_108 : decode prog_5_method_19_code 108 = .ok (.laload, 1) := by decide +kernel
theorem d_X3_regretIn_109 : decode prog_5_method_19_code 109 = .ok (.lstore 4, 2) := by decide +kernel
theorem d_X3_regretIn_111 : decode prog_5_method_19_code 111 = .ok (.aload_n 0, 1) := by decide +kernel
theorem d_X3_regretIn_112 : decode prog_5_method_19_code 112 = .ok (.getfield 33, 3) := by decide +kernel
theorem d_X3_regretIn_115 : decode prog_5_method_19_code 115 = .ok (.iload 6, 2) := by decide +kernel
theorem d_X3_regretIn_117 : decode prog_5_method_19_code 117 = .ok (.aload_n 0, 1) := by decide +kernel
theorem d_X3_regretIn_118 : decode prog_5_method_19_code 118 = .ok (.getfield 58, 3) := by decide +kernel
theorem d_X3_regretIn_121 : decode prog_5_method_19_code 121 = .ok (.invokevirtual 167, 3) := by decide +kernel
theorem d_X3_regretIn_124 : decode prog_5_method_19_code 124 = .ok (.istore 6, 2) := by decide +kernel
theorem d_X3_regretIn_126 : decode prog_5_method_19_code 126 = .ok (.iinc 7 1, 3) := by decide +kernel
theorem d_X3_regretIn_129 : decode prog_5_method_19_code 129 = .ok (.goto (-98), 3) := by decide +kernel
theorem d_X3_regretIn_132 : decode prog_5_method_19_code 132 = .ok (.lload 4, 2) := by decide +kernel
theorem d_X3_regretIn_134 : decode prog_5_method_19_code 134 = .ok (.ldc2_w 186, 3) := by decide +kernel
theorem d_X3_regretIn_137 : decode prog_5_method_19_code 137 = .ok (.lcmp, 1) := by decide +kernel
theorem d_X3_regretIn_138 : decode prog_5_method_19_code 138 = .ok (.ifCond .ne 7, 3) := by decide +kernel
theorem d_X3_regretIn_141 : decode prog_5_method_19_code 141 = .ok (.ldc2_w 186, 3) := by decide +kernel
theorem d_X3_regretIn_144 : decode prog_5_method_19_code 144 = .ok (.lreturn, 1) := by decide +kernel
theorem d_X3_regretIn_145 : decode prog_5_method_19_code 145 = .ok (.aload_n 0, 1) := by decide +kernel
theorem d_X3_regretIn_146 : decode prog_5_method_19_code 146 = .ok (.getfield 40, 3) := by decide +kernel
theorem d_X3_regretIn_149 : decode prog_5_method_19_code 149 = .ok (.aload_n 0, 1) := by decide +kernel
theorem d_X3_regretIn_150 : decode prog_5_method_19_code 150 = .ok (.getfield 33, 3) := by decide +kernel
theorem d_X3_regretIn_153 : decode prog_5_method_19_code 153 = .ok (.aload_n 0, 1) := by decide +kernel
theorem d_X3_regretIn_154 : decode prog_5_method_19_code 154 = .ok (.getfield 54, 3) := by decide +kernel
theorem d_X3_regretIn_157 : decode prog_5_method_19_code 157 = .ok (.aload_n 3, 1) := by decide +kernel
theorem d_X3_regretIn_158 : decode prog_5_method_19_code 158 = .ok (.aload_n 0, 1) := by decide +kernel
theorem d_X3_regretIn_159 : decode prog_5_method_19_code 159 = .ok (.getfield 73, 3) := by decide +kernel
theorem d_X3_regretIn_162 : decode prog_5_method_19_code 162 = .ok (.iconst 0, 1) := by decide +kernel
theorem d_X3_regretIn_163 : decode prog_5_method_19_code 163 = .ok (.invokevirtual 178, 3) := by decide +kernel
theorem d_X3_regretIn_166 : decode prog_5_method_19_code 166 = .ok (.pop, 1) := by decide +kernel
theorem d_X3_regretIn_167 : decode prog_5_method_19_code 167 = .ok (.aload_n 0, 1) := by decide +kernel
theorem d_X3_regretIn_168 : decode prog_5_method_19_code 168 = .ok (.getfield 73, 3) := by decide +kernel
theorem d_X3_regretIn_171 : decode prog_5_method_19_code 171 = .ok (.iload_n 2, 1) := by decide +kernel
theorem d_X3_regretIn_172 : decode prog_5_method_19_code 172 = .ok (.laload, 1) := by decide +kernel
theorem d_X3_regretIn_173 : decode prog_5_method_19_code 173 = .ok (.lload 4, 2) := by decide +kernel
theorem d_X3_regretIn_175 : decode prog_5_method_19_code 175 = .ok (.lsub, 1) := by decide +kernel
theorem d_X3_regretIn_176 : decode prog_5_method_19_code 176 = .ok (.lreturn, 1) := by decide +kernel
theorem v_X3_regretIn_0 {E : EE} {d : Nat} {Q : Option AV → AH → Prop} {x0 : Nat} {x1 : Int32} {x2 : Int32} {G : AH} (h0 : 0 < d) (h : isO E G x0 3 ∧ (wpR E (d - 1) M_X3_factsIn [vr x0, vi x1] G (fun r1 G2 => isO E G2 x0 3 ∧ (isO E G2 (gR G2 x0 4) 7 ∧ (wpI E (d - 1) M_X7_lowest [vr (gR G2 x0 4), vi (gI G2 x0 8), vi (gI G2 x0 9)] G2 (fun r4 G5 => wp E d M_X3_regretIn 31 [some (vr x0), some (vi x1), some (vi x2), some (vr r1), some (vj (-9223372036854775808)), none, some (vi r4), some (vi 0), none] [] G5 Q)))))) : wp E d M_X3_regretIn 0 [some (vr x0), some (vi x1), some (vi x2), none, none, none, none, none, none] [] G Q := by
  refine wp_aload_n (pc := 0) d_X3_regretIn_0 rfl ?_
  refine wp_iload_n (pc := 1) d_X3_regretIn_1 rfl ?_
  obtain ⟨ho7, h⟩ := h
  refine wp_invV (pc := 2) (N := M_X3_factsIn) (As := [vi _]) (rest := []) (r := (cn_3, ct_3, 19)) d_X3_regretIn_2 ml_X3_174 mk_X3_factsIn mv_X3_factsIn h0 ho7 rfl rfl (Nat.le_of_ble_eq_true rfl) ?_
  refine wpM.mono h (fun rr G2 hr => ?_)
  obtain ⟨r1, rfl, h⟩ := hr
  show wp E d M_X3_regretIn 5 [some (vr _), some (vi _), some (vi _), none, none, none, none, none, none] [vr _] G2 Q
  refine wp_astore_n (pc := 5) (lv' := [some (vr _), some (vi _), some (vi _), some (vr _), none, none, none, none, none]) d_X3_regretIn_5 (by decide) rfl ?_
  refine wp_ldc2 (pc := 6) (v := (-9223372036854775808)) d_X3_regretIn_6 cj_X3_186 ?_
  refine wp_lstore (pc := 9) (lv' := [some (vr _), some (vi _), some (vi _), some (vr _), some (vj _), none, none, none, none]) d_X3_regretIn_9 (by decide) rfl ?_
  refine wp_aload_n (pc := 11) d_X3_regretIn_11 rfl ?_
  obtain ⟨ho3, h⟩ := h
  refine wp_getR (pc := 12) d_X3_regretIn_12 fl_X3_33 (fun _ _ _ => rfl) ho3 ?_
  refine wp_aload_n (pc := 15) d_X3_regretIn_15 rfl ?_
  refine wp_getI (pc := 16) d_X3_regretIn_16 fl_X3_54 (fun _ _ _ => rfl) ho3 ?_
  refine wp_aload_n (pc := 19) d_X3_regretIn_19 rfl ?_
  refine wp_getI (pc := 20) d_X3_regretIn_20 fl_X3_58 (fun _ _ _ => rfl) ho3 ?_
  obtain ⟨ho6, h⟩ := h
  refine wp_invV (pc := 23) (N := M_X7_lowest) (As := [vi _, vi _]) (rest := []) (r := (cn_7, ct_7, 5)) d_X3_regretIn_23 ml_X3_137 mk_X7_lowest mv_X7_lowest h0 ho6 rfl rfl (Nat.le_of_ble_eq_true rfl) ?_
  refine wpM.mono h (fun rr G5 hr => ?_)
  obtain ⟨r4, rfl, h⟩ := hr
  show wp E d M_X3_regretIn 26 [some (vr _), some (vi _), some (vi _), some (vr _), some (vj _), none, none, none, none] [vi _] G5 Q
  refine wp_istore (pc := 26) (lv' := [some (vr _), some (vi _), some (vi _), some (vr _), some (vj _), none, some (vi _), none, none]) d_X3_regretIn_26 (by decide) rfl ?_
  refine wp_iconst (pc := 28) (v := 0) d_X3_regretIn_28 rfl ?_
  refine wp_istore (pc := 29) (lv' := [some (vr _), some (vi _), some (vi _), some (vr _), some (vj _), none, some (vi _), some (vi _), none]) d_X3_regretIn_29 (by decide) rfl ?_
  refine wp_sub ?_ h
  exact ⟨rfl, ⟨rfl, ⟨rfl, ⟨rfl, ⟨rfl, ⟨rfl, ⟨rfl, trivial⟩⟩⟩⟩⟩⟩⟩
theorem v_X3_regretIn_31 {E : EE} {d : Nat} {Q : Option AV → AH → Prop} {x0 : Nat} {x1 : Int32} {x2 : Int32} {x3 : Nat} {x4 : Int64} {x6 : Int32} {x7 : Int32} {G : AH} (h0 : 0 < d) (h : isO E G x0 3 ∧ (isO E G (gR G x0 4) 7 ∧ (((gI G (gR G x0 4) 1) ≤ x7 → wp E d M_X3_regretIn 132 [some (vr x0), some (vi x1), some (vi x2), some (vr x3), some (vj x4), none, some (vi x6), some (vi x7), none] [] G Q) ∧ (¬ ((gI G (gR G x0 4) 1) ≤ x7) → (x6 < 0 → wp E d M_X3_regretIn 132 [some (vr x0), some (vi x1), some (vi x2), some (vr x3), some (vj x4), none, some (vi x6), some (vi x7), none] [] G Q) ∧ (¬ (x6 < 0) → isO E G (gR G x0 5) 2 ∧ (wpI E (d - 1) M_X2_weighAll [vr (gR G x0 5), vr (gR G x0 4), vi x6, vr x3, vr (gR G x0 14), vi 0] G (fun r3 G4 => isO E G4 x0 3 ∧ (isO E G4 (gR G4 x0 5) 2 ∧ ((¬ (r3 &&& (gI G4 (gR G4 x0 5) 0)) = 0 → wp E d M_X3_regretIn 111 [some (vr x0), some (vi x1), some (vi x2), some (vr x3), some (vj x4), none, some (vi x6), some (vi x7), some (vi r3)] [] G4 Q) ∧ ((r3 &&& (gI G4 (gR G4 x0 5) 0)) = 0 → (x4 = (-9223372036854775808) → wp E d M_X3_regretIn 103 [some (vr x0), some (vi x1), some (vi x2), some (vr x3), some (vj x4), none, some (vi x6), some (vi x7), some (vi r3)] [] G4 Q) ∧ (¬ (x4 = (-9223372036854775808)) → isO E G4 (gR G4 x0 14) 15 ∧ (vp_in x2 (gN G4 (gR G4 x0 14)) ∧ ((x4 ≤ (gJ G4 (gR G4 x0 14) (Int32.toNatClampNeg x2)) → wp E d M_X3_regretIn 111 [some (vr x0), some (vi x1), some (vi x2), some (vr x3), some (vj x4), none, some (vi x6), some (vi x7), some (vi r3)] [] G4 Q) ∧ (¬ (x4 ≤ (gJ G4 (gR G4 x0 14) (Int32.toNatClampNeg x2))) → wp E d M_X3_regretIn 103 [some (vr x0), some (vi x1), some (vi x2), some (vr x3), some (vj x4), none, some (vi x6), some (vi x7), some (vi r3)] [] G4 Q)))))))))))))) : wp E d M_X3_regretIn 31 [some (vr x0), some (vi x1), some (vi x2), some (vr x3), some (vj x4), none, some (vi x6), some (vi x7), none] [] G Q := by
  refine wp_iload (pc := 31) d_X3_regretIn_31 rfl ?_
  refine wp_aload_n (pc := 33) d_X3_regretIn_33 rfl ?_
  obtain ⟨ho1, h⟩ := h
  refine wp_getR (pc := 34) d_X3_regretIn_34 fl_X3_33 (fun _ _ _ => rfl) ho1 ?_
  obtain ⟨ho2, h⟩ := h
  refine wp_getI (pc := 37) d_X3_regretIn_37 fl_X3_140 (fun _ _ _ => rfl) ho2 ?_
  refine wp_icmp_ge (pc := 40) (tgt := 132) d_X3_regretIn_40 (by decide) (fun hc => ?_) (fun hc => ?_)
  · have h := h.1 hc
    refine wp_sub ?_ h
    exact ⟨rfl, ⟨rfl, ⟨rfl, ⟨rfl, ⟨rfl, ⟨rfl, ⟨rfl, trivial⟩⟩⟩⟩⟩⟩⟩
  · have h := h.2 hc
    refine wp_iload (pc := 43) d_X3_regretIn_43 rfl ?_
    refine wp_if_lt (pc := 45) (tgt := 132) d_X3_regretIn_45 (by decide) (fun hc => ?_) (fun hc => ?_)
    · have h := h.1 hc
      refine wp_sub ?_ h
      exact ⟨rfl, ⟨rfl, ⟨rfl, ⟨rfl, ⟨rfl, ⟨rfl, ⟨rfl, trivial⟩⟩⟩⟩⟩⟩⟩
    · have h := h.2 hc
      refine wp_aload_n (pc := 48) d_X3_regretIn_48 rfl ?_
      refine wp_getR (pc := 49) d_X3_regretIn_49 fl_X3_40 (fun _ _ _ => rfl) ho1 ?_
      refine wp_aload_n (pc := 52) d_X3_regretIn_52 rfl ?_
      refine wp_getR (pc := 53) d_X3_regretIn_53 fl_X3_33 (fun _ _ _ => rfl) ho1 ?_
      refine wp_iload (pc := 56) d_X3_regretIn_56 rfl ?_
      refine wp_aload_n (pc := 58) d_X3_regretIn_58 rfl ?_
      refine wp_aload_n (pc := 59) d_X3_regretIn_59 rfl ?_
      refine wp_getR (pc := 60) d_X3_regretIn_60 fl_X3_73 (fun _ _ _ => rfl) ho1 ?_
      refine wp_iconst (pc := 63) (v := 0) d_X3_regretIn_63 rfl ?_
      obtain ⟨ho9, h⟩ := h
      refine wp_invV (pc := 64) (N := M_X2_weighAll) (As := [vr _, vi _, vr _, vr _, vi _]) (rest := []) (r := (cn_2, ct_2, 15)) d_X3_regretIn_64 ml_X3_178 mk_X2_weighAll mv_X2_weighAll h0 ho9 rfl rfl (Nat.le_of_ble_eq_true rfl) ?_
      refine wpM.mono h (fun rr G4 hr => ?_)
      obtain ⟨r3, rfl, h⟩ := hr
      show wp E d M_X3_regretIn 67 [some (vr _), some (vi _), some (vi _), some (vr _), some (vj _), none, some (vi _), some (vi _), none] [vi _] G4 Q
      refine wp_istore (pc := 67) (lv' := [some (vr _), some (vi _), some (vi _), some (vr _), some (vj _), none, some (vi _), some (vi _), some (vi _)]) d_X3_regretIn_67 (by decide) rfl ?_
      refine wp_iload (pc := 69) d_X3_regretIn_69 rfl ?_
      refine wp_aload_n (pc := 71) d_X3_regretIn_71 rfl ?_
      obtain ⟨ho5, h⟩ := h
      refine wp_getR (pc := 72) d_X3_regretIn_72 fl_X3_40 (fun _ _ _ => rfl) ho5 ?_
      obtain ⟨ho6, h⟩ := h
      refine wp_getI (pc := 75) d_X3_regretIn_75 fl_X3_134 (fun _ _ _ => rfl) ho6 ?_
      refine wp_iand (pc := 78) d_X3_regretIn_78 ?_
      refine wp_if_ne (pc := 79) (tgt := 111) d_X3_regretIn_79 (by decide) (fun hc => ?_) (fun hc => ?_)
      · have h := h.1 hc
        refine wp_sub ?_ h
        exact ⟨rfl, ⟨rfl, ⟨rfl, ⟨rfl, ⟨rfl, ⟨rfl, ⟨rfl, ⟨rfl, trivial⟩⟩⟩⟩⟩⟩⟩⟩
      · have h := h.2 hc
        refine wp_lload (pc := 82) d_X3_regretIn_82 rfl ?_
        refine wp_ldc2 (pc := 84) (v := (-9223372036854775808)) d_X3_regretIn_84 cj_X3_186 ?_
        refine wp_lcmp_eq (pc := 87) (tgt := 103) d_X3_regretIn_87 d_X3_regretIn_88 (by decide) (fun hc => ?_) (fun hc => ?_)
        · have h := h.1 hc
          refine wp_sub ?_ h
          exact ⟨rfl, ⟨rfl, ⟨rfl, ⟨rfl, ⟨rfl, ⟨rfl, ⟨rfl, ⟨rfl, trivial⟩⟩⟩⟩⟩⟩⟩⟩
        · have h := h.2 hc
          refine wp_aload_n (pc := 91) d_X3_regretIn_91 rfl ?_
          refine wp_getR (pc := 92) d_X3_regretIn_92 fl_X3_73 (fun _ _ _ => rfl) ho5 ?_
          refine wp_iload_n (pc := 95) d_X3_regretIn_95 rfl ?_
          obtain ⟨ho7, h⟩ := h
          obtain ⟨hi8, h⟩ := h
          refine wp_lald (pc := 96) d_X3_regretIn_96 ho7 hi8 ?_
          refine wp_lload (pc := 97) d_X3_regretIn_97 rfl ?_
          refine wp_lcmp_ge (pc := 99) (tgt := 111) d_X3_regretIn_99 d_X3_regretIn_100 (by decide) (fun hc => ?_) (fun hc => ?_)
          · have h := h.1 hc
            refine wp_sub ?_ h
            exact ⟨rfl, ⟨rfl, ⟨rfl, ⟨rfl, ⟨rfl, ⟨rfl, ⟨rfl, ⟨rfl, trivial⟩⟩⟩⟩⟩⟩⟩⟩
          · have h := h.2 hc
            refine wp_sub ?_ h
            exact ⟨rfl, ⟨rfl, ⟨rfl, ⟨rfl, ⟨rfl, ⟨rfl, ⟨rfl, ⟨rfl, trivial⟩⟩⟩⟩⟩⟩⟩⟩
theorem v_X3_regretIn_103 {E : EE} {d : Nat} {Q : Option AV → AH → Prop} {x0 : Nat} {x1 : Int32} {x2 : Int32} {x3 : Nat} {x4 : Int64} {x6 : Int32} {x7 : Int32} {x8 : Int32} {G : AH} (h : isO E G x0 3 ∧ (isO E G (gR G x0 14) 15 ∧ (vp_in x2 (gN G (gR G x0 14)) ∧ (wp E d M_X3_regretIn 111 [some (vr x0), some (vi x1), some (vi x2), some (vr x3), some (vj (gJ G (gR G x0 14) (Int32.toNatClampNeg x2))), none, some (vi x6), some (vi x7), some (vi x8)] [] G Q)))) : wp E d M_X3_regretIn 103 [some (vr x0), some (vi x1), some (vi x2), some (vr x3), some (vj x4), none, some (vi x6), some (vi x7), some (vi x8)] [] G Q := by
  refine wp_aload_n (pc := 103) d_X3_regretIn_103 rfl ?_
  obtain ⟨ho1, h⟩ := h
  refine wp_getR (pc := 104) d_X3_regretIn_104 fl_X3_73 (fun _ _ _ => rfl) ho1 ?_
  refine wp_iload_n (pc := 107) d_X3_regretIn_107 rfl ?_
  obtain ⟨ho2, h⟩ := h
  obtain ⟨hi3, h⟩ := h
  refine wp_lald (pc := 108) d_X3_regretIn_108 ho2 hi3 ?_
  refine wp_lstore (pc := 109) (lv' := [some (vr _), some (vi _), some (vi _), some (vr _), some (vj _), none, some (vi _), some (vi _), some (vi _)]) d_X3_regretIn_109 (by decide) rfl ?_
  refine wp_sub ?_ h
  exact ⟨rfl, ⟨rfl, ⟨rfl, ⟨rfl, ⟨rfl, ⟨rfl, ⟨rfl, ⟨rfl, trivial⟩⟩⟩⟩⟩⟩⟩⟩
theorem v_X3_regretIn_111 {E : EE} {d : Nat} {Q : Option AV → AH → Prop} {x0 : Nat} {x1 : Int32} {x2 : Int32} {x3 : Nat} {x4 : Int64} {x6 : Int32} {x7 : Int32} {x8 : Int32} {G : AH} (h0 : 0 < d) (h : isO E G x0 3 ∧ (isO E G (gR G x0 4) 7 ∧ (wpI E (d - 1) M_X7_following [vr (gR G x0 4), vi x6, vi (gI G x0 9)] G (fun r2 G3 => wp E d M_X3_regretIn 31 [some (vr x0), some (vi x1), some (vi x2), some (vr x3), some (vj x4), none, some (vi r2), some (vi (x7 + 1)), none] [] G3 Q)))) : wp E d M_X3_regretIn 111 [some (vr x0), some (vi x1), some (vi x2), some (vr x3), some (vj x4), none, some (vi x6), some (vi x7), some (vi x8)] [] G Q := by
  refine wp_aload_n (pc := 111) d_X3_regretIn_111 rfl ?_
  obtain ⟨ho1, h⟩ := h
  refine wp_getR (pc := 112) d_X3_regretIn_112 fl_X3_33 (fun _ _ _ => rfl) ho1 ?_
  refine wp_iload (pc := 115) d_X3_regretIn_115 rfl ?_
  refine wp_aload_n (pc := 117) d_X3_regretIn_117 rfl ?_
  refine wp_getI (pc := 118) d_X3_regretIn_118 fl_X3_58 (fun _ _ _ => rfl) ho1 ?_
  obtain ⟨ho4, h⟩ := h
  refine wp_invV (pc := 121) (N := M_X7_following) (As := [vi _, vi _]) (rest := []) (r := (cn_7, ct_7, 5)) d_X3_regretIn_121 ml_X3_167 mk_X7_following mv_X7_following h0 ho4 rfl rfl (Nat.le_of_ble_eq_true rfl) ?_
  refine wpM.mono h (fun rr G3 hr => ?_)
  obtain ⟨r2, rfl, h⟩ := hr
  show wp E d M_X3_regretIn 124 [some (vr _), some (vi _), some (vi _), some (vr _), some (vj _), none, some (vi _), some (vi _), some (vi _)] [vi _] G3 Q
  refine wp_istore (pc := 124) (lv' := [some (vr _), some (vi _), some (vi _), some (vr _), some (vj _), none, some (vi _), some (vi _), some (vi _)]) d_X3_regretIn_124 (by decide) rfl ?_
  refine wp_iinc (pc := 126) (v := 1) (lv' := [some (vr _), some (vi _), some (vi _), some (vr _), some (vj _), none, some (vi _), some (vi _), some (vi _)]) d_X3_regretIn_126 (by decide) rfl rfl rfl ?_
  refine wp_goto (pc := 129) (tgt := 31) d_X3_regretIn_129 (by decide) ?_
  refine wp_sub ?_ h
  exact ⟨rfl, ⟨rfl, ⟨rfl, ⟨rfl, ⟨rfl, ⟨rfl, ⟨rfl, trivial⟩⟩⟩⟩⟩⟩⟩
theorem v_X3_regretIn_132 {E : EE} {d : Nat} {Q : Option AV → AH → Prop} {x0 : Nat} {x1 : Int32} {x2 : Int32} {x3 : Nat} {x4 : Int64} {x6 : Int32} {x7 : Int32} {G : AH} (h0 : 0 < d) (h : (¬ x4 = (-9223372036854775808) → isO E G x0 3 ∧ (isO E G (gR G x0 5) 2 ∧ (wpI E (d - 1) M_X2_weighAll [vr (gR G x0 5), vr (gR G x0 4), vi (gI G x0 8), vr x3, vr (gR G x0 14), vi 0] G (fun r2 G3 => isO E G3 x0 3 ∧ (isO E G3 (gR G3 x0 14) 15 ∧ (vp_in x2 (gN G3 (gR G3 x0 14)) ∧ (Q (some (vj ((gJ G3 (gR G3 x0 14) (Int32.toNatClampNeg x2)) - x4))) G3))))))) ∧ (x4 = (-9223372036854775808) → Q (some (vj (-9223372036854775808))) G)) : wp E d M_X3_regretIn 132 [some (vr x0), some (vi x1), some (vi x2), some (vr x3), some (vj x4), none, some (vi x6), some (vi x7), none] [] G Q := by
  refine wp_lload (pc := 132) d_X3_regretIn_132 rfl ?_
  refine wp_ldc2 (pc := 134) (v := (-9223372036854775808)) d_X3_regretIn_134 cj_X3_186 ?_
  refine wp_lcmp_ne (pc := 137) (tgt := 145) d_X3_regretIn_137 d_X3_regretIn_138 (by decide) (fun hc => ?_) (fun hc => ?_)
  · have h := h.1 hc
    refine wp_aload_n (pc := 145) d_X3_regretIn_145 rfl ?_
    obtain ⟨ho1, h⟩ := h
    refine wp_getR (pc := 146) d_X3_regretIn_146 fl_X3_40 (fun _ _ _ => rfl) ho1 ?_
    refine wp_aload_n (pc := 149) d_X3_regretIn_149 rfl ?_
    refine wp_getR (pc := 150) d_X3_regretIn_150 fl_X3_33 (fun _ _ _ => rfl) ho1 ?_
    refine wp_aload_n (pc := 153) d_X3_regretIn_153 rfl ?_
    refine wp_getI (pc := 154) d_X3_regretIn_154 fl_X3_54 (fun _ _ _ => rfl) ho1 ?_
    refine wp_aload_n (pc := 157) d_X3_regretIn_157 rfl ?_
    refine wp_aload_n (pc := 158) d_X3_regretIn_158 rfl ?_
    refine wp_getR (pc := 159) d_X3_regretIn_159 fl_X3_73 (fun _ _ _ => rfl) ho1 ?_
    refine wp_iconst (pc := 162) (v := 0) d_X3_regretIn_162 rfl ?_
    obtain ⟨ho7, h⟩ := h
    refine wp_invV (pc := 163) (N := M_X2_weighAll) (As := [vr _, vi _, vr _, vr _, vi _]) (rest := []) (r := (cn_2, ct_2, 15)) d_X3_regretIn_163 ml_X3_178 mk_X2_weighAll mv_X2_weighAll h0 ho7 rfl rfl (Nat.le_of_ble_eq_true rfl) ?_
    refine wpM.mono h (fun rr G3 hr => ?_)
    obtain ⟨r2, rfl, h⟩ := hr
    show wp E d M_X3_regretIn 166 [some (vr _), some (vi _), some (vi _), some (vr _), some (vj _), none, some (vi _), some (vi _), none] [vi _] G3 Q
    refine wp_pop (pc := 166) d_X3_regretIn_166 (c1_i _) ?_
    refine wp_aload_n (pc := 167) d_X3_regretIn_167 rfl ?_
    obtain ⟨ho4, h⟩ := h
    refine wp_getR (pc := 168) d_X3_regretIn_168 fl_X3_73 (fun _ _ _ => rfl) ho4 ?_
    refine wp_iload_n (pc := 171) d_X3_regretIn_171 rfl ?_
    obtain ⟨ho5, h⟩ := h
    obtain ⟨hi6, h⟩ := h
    refine wp_lald (pc := 172) d_X3_regretIn_172 ho5 hi6 ?_
    refine wp_lload (pc := 173) d_X3_regretIn_173 rfl ?_
    refine wp_lsub (pc := 175) d_X3_regretIn_175 ?_
    exact wp_lret (pc := 176) d_X3_regretIn_176 rfl h
  · have h := h.2 hc
    refine wp_ldc2 (pc := 141) (v := (-9223372036854775808)) d_X3_regretIn_141 cj_X3_186 ?_
    exact wp_lret (pc := 144) d_X3_regretIn_144 rfl h
theorem d_X3_factsIn_0 : decode prog_5_method_16_code 0 = .ok (.iconst 0, 1) := by decide +kernel
theorem d_X3_factsIn_1 : decode prog_5_method_16_code 1 = .ok (.istore_n 2, 1) := by decide +kernel
theorem d_X3_factsIn_2 : decode prog_5_method_16_code 2 = .ok (.iload_n 2, 1) := by decide +kernel
theorem d_X3_factsIn_3 : decode prog_5_method_16_code 3 = .ok (.aload_n 0, 1) := by decide +kernel
theorem d_X3_factsIn_4 : decode prog_5_method_16_code 4 = .ok (.getfield 26, 3) := by decide +kernel
theorem d_X3_factsIn_7 : decode prog_5_method_16_code 7 = .ok (.iconst 0, 1) := by decide +kernel
theorem d_X3_factsIn_8 : decode prog_5_method_16_code 8 = .ok (.iaload, 1) := by decide +kernel
theorem d_X3_factsIn_9 : decode prog_5_method_16_code 9 = .ok (.if_icmp .ge 58, 3) := by decide +kernel
theorem d_X3_factsIn_12 : decode prog_5_method_16_code 12 = .ok (.aload_n 0, 1) := by decide +kernel
theorem d_X3_factsIn_13 : decode prog_5_method_16_code 13 = .ok (.getfield 67, 3) := by decide +kernel
theorem d_X3_factsIn_16 : decode prog_5_method_16_code 16 = .ok (.iload_n 1, 1) := by decide +kernel
theorem d_X3_factsIn_17 : decode prog_5_method_16_code 17 = .ok (.iaload, 1) := by decide +kernel
theorem d_X3_factsIn_18 : decode prog_5_method_16_code 18 = .ok (.iload_n 2, 1) := by decide +kernel
theorem d_X3_factsIn_19 : decode prog_5_method_16_code 19 = .ok (.ishr, 1) := by decide +kernel
theorem d_X3_factsIn_20 : decode prog_5_method_16_code 20 = .ok (.iconst 1, 1) := by decide +kernel
theorem d_X3_factsIn_21 : decode prog_5_method_16_code 21 = .ok (.iand, 1) := by decide +kernel
theorem d_X3_factsIn_22 : decode prog_5_method_16_code 22 = .ok (.ifCond .eq 7, 3) := by decide +kernel
theorem d_X3_factsIn_25 : decode prog_5_method_16_code 25 = .ok (.iconst 1, 1) := by decide +kernel
theorem d_X3_factsIn_26 : decode prog_5_method_16_code 26 = .ok (.goto 4, 3) := by decide +kernel
theorem d_X3_factsIn_29 : decode prog_5_method_16_code 29 = .ok (.iconst 0, 1) := by decide +kernel
theorem d_X3_factsIn_30 : decode prog_5_method_16_code 30 = .ok (.istore_n 3, 1) := by decide +kernel
theorem d_X3_factsIn_31 : decode prog_5_method_16_code 31 = .ok (.aload_n 0, 1) := by decide +kernel
theorem d_X3_factsIn_32 : decode prog_5_method_16_code 32 = .ok (.getfield 82, 3) := by decide +kernel
theorem d_X3_factsIn_35 : decode prog_5_method_16_code 35 = .ok (.iload_n 2, 1) := by decide +kernel
theorem d_X3_factsIn_36 : decode prog_5_method_16_code 36 = .ok (.iload_n 3, 1) := by decide +kernel
theorem d_X3_factsIn_37 : decode prog_5_method_16_code 37 = .ok (.ifCond .eq 17, 3) := by decide +kernel
theorem d_X3_factsIn_40 : decode prog_5_method_16_code 40 = .ok (.aload_n 0, 1) := by decide +kernel
theorem d_X3_factsIn_41 : decode prog_5_method_16_code 41 = .ok (.getfield 70, 3) := by decide +kernel
theorem d_X3_factsIn_44 : decode prog_5_method_16_code 44 = .ok (.iload_n 1, 1) := by decide +kernel
theorem d_X3_factsIn_45 : decode prog_5_method_16_code 45 = .ok (.bipush 16, 2) := by decide +kernel
theorem d_X3_factsIn_47 : decode prog_5_method_16_code 47 = .ok (.imul, 1) := by decide +kernel
theorem d_X3_factsIn_48 : decode prog_5_method_16_code 48 = .ok (.iload_n 2, 1) := by decide +kernel
theorem d_X3_factsIn_49 : decode prog_5_method_16_code 49 = .ok (.iadd, 1) := by decide +kernel
theorem d_X3_factsIn_50 : decode prog_5_method_16_code 50 = .ok (.iaload, 1) := by decide +kernel
theorem d_X3_factsIn_51 : decode prog_5_method_16_code 51 = .ok (.goto 9, 3) := by decide +kernel
theorem d_X3_factsIn_54 : decode prog_5_method_16_code 54 = .ok (.aload_n 0, 1) := by decide +kernel
theorem d_X3_factsIn_55 : decode prog_5_method_16_code 55 = .ok (.getfield 51, 3) := by decide +kernel
theorem d_X3_factsIn_58 : decode prog_5_method_16_code 58 = .ok (.iload_n 2, 1) := by decide +kernel
theorem d_X3_factsIn_59 : decode prog_5_method_16_code 59 = .ok (.iaload, 1) := by decide +kernel
theorem d_X3_factsIn_60 : decode prog_5_method_16_code 60 = .ok (.iastore, 1) := by decide +kernel
theorem d_X3_factsIn_61 : decode prog_5_method_16_code 61 = .ok (.iinc 2 1, 3) := by decide +kernel
theorem d_X3_factsIn_64 : decode prog_5_method_16_code 64 = .ok (.goto (-62), 3) := by decide +kernel
theorem d_X3_factsIn_67 : decode prog_5_method_16_code 67 = .ok (.aload_n 0, 1) := by decide +kernel
theorem d_X3_factsIn_68 : decode prog_5_method_16_code 68 = .ok (.getfield 82, 3) := by decide +kernel
theorem d_X3_factsIn_71 : decode prog_5_method_16_code 71 = .ok (.areturn, 1) := by decide +kernel
theorem v_X3_factsIn_0 {E : EE} {d : Nat} {Q : Option AV → AH → Prop} {x0 : Nat} {x1 : Int32} {G : AH} (h : wp E d M_X3_factsIn 2 [some (vr x0), some (vi x1), some (vi 0), none] [] G Q) : wp E d M_X3_factsIn 0 [some (vr x0), some (vi x1), none, none] [] G Q := by
  refine wp_iconst (pc := 0) (v := 0) d_X3_factsIn_0 rfl ?_
  refine wp_istore_n (pc := 1) (lv' := [some (vr _), some (vi _), some (vi _), none]) d_X3_factsIn_1 (by decide) rfl ?_
  refine wp_sub ?_ h
  exact ⟨rfl, ⟨rfl, ⟨rfl, trivial⟩⟩⟩
theorem v_X3_factsIn_2 {E : EE} {d : Nat} {Q : Option AV → AH → Prop} {x0 : Nat} {x1 : Int32} {x2 : Int32} {G : AH} (h : isO E G x0 3 ∧ (isO E G (gR G x0 3) 14 ∧ (vp_in 0 (gN G (gR G x0 3)) ∧ (((gI G (gR G x0 3) (Int32.toNatClampNeg 0)) ≤ x2 → Q (some (vr (gR G x0 17))) G) ∧ (¬ ((gI G (gR G x0 3) (Int32.toNatClampNeg 0)) ≤ x2) → isO E G (gR G x0 12) 14 ∧ (vp_in x1 (gN G (gR G x0 12)) ∧ (((((gI G (gR G x0 12) (Int32.toNatClampNeg x1)) >>> (x2 &&& 31)) &&& 1) = 0 → wp E d M_X3_factsIn 30 [some (vr x0), some (vi x1), some (vi x2), none] [vi 0] G Q) ∧ (¬ ((((gI G (gR G x0 12) (Int32.toNatClampNeg x1)) >>> (x2 &&& 31)) &&& 1) = 0) → wp E d M_X3_factsIn 30 [some (vr x0), some (vi x1), some (vi x2), none] [vi 1] G Q)))))))) : wp E d M_X3_factsIn 2 [some (vr x0), some (vi x1), some (vi x2), none] [] G Q := by
  refine wp_iload_n (pc := 2) d_X3_factsIn_2 rfl ?_
  refine wp_aload_n (pc := 3) d_X3_factsIn_3 rfl ?_
  obtain ⟨ho1, h⟩ := h
  refine wp_getR (pc := 4) d_X3_factsIn_4 fl_X3_26 (fun _ _ _ => rfl) ho1 ?_
  refine wp_iconst (pc := 7) (v := 0) d_X3_factsIn_7 rfl ?_
  obtain ⟨ho2, h⟩ := h
  obtain ⟨hi3, h⟩ := h
  refine wp_iald (pc := 8) d_X3_factsIn_8 ho2 hi3 ?_
  refine wp_icmp_ge (pc := 9) (tgt := 67) d_X3_factsIn_9 (by decide) (fun hc => ?_) (fun hc => ?_)
  · have h := h.1 hc
    refine wp_aload_n (pc := 67) d_X3_factsIn_67 rfl ?_
    refine wp_getR (pc := 68) d_X3_factsIn_68 fl_X3_82 (fun _ _ _ => rfl) ho1 ?_
    exact wp_aret (pc := 71) d_X3_factsIn_71 rfl (Or.inr ⟨_, rfl⟩) h
  · have h := h.2 hc
    refine wp_aload_n (pc := 12) d_X3_factsIn_12 rfl ?_
    refine wp_getR (pc := 13) d_X3_factsIn_13 fl_X3_67 (fun _ _ _ => rfl) ho1 ?_
    refine wp_iload_n (pc := 16) d_X3_factsIn_16 rfl ?_
    obtain ⟨ho4, h⟩ := h
    obtain ⟨hi5, h⟩ := h
    refine wp_iald (pc := 17) d_X3_factsIn_17 ho4 hi5 ?_
    refine wp_iload_n (pc := 18) d_X3_factsIn_18 rfl ?_
    refine wp_ishr (pc := 19) d_X3_factsIn_19 ?_
    refine wp_iconst (pc := 20) (v := 1) d_X3_factsIn_20 rfl ?_
    refine wp_iand (pc := 21) d_X3_factsIn_21 ?_
    refine wp_if_eq (pc := 22) (tgt := 29) d_X3_factsIn_22 (by decide) (fun hc => ?_) (fun hc => ?_)
    · have h := h.1 hc
      refine wp_iconst (pc := 29) (v := 0) d_X3_factsIn_29 rfl ?_
      refine wp_sub ?_ h
      exact ⟨rfl, ⟨rfl, ⟨rfl, trivial⟩⟩⟩
    · have h := h.2 hc
      refine wp_iconst (pc := 25) (v := 1) d_X3_factsIn_25 rfl ?_
      refine wp_goto (pc := 26) (tgt := 30) d_X3_factsIn_26 (by decide) ?_
      refine wp_sub ?_ h
      exact ⟨rfl, ⟨rfl, ⟨rfl, trivial⟩⟩⟩
theorem v_X3_factsIn_30 {E : EE} {d : Nat} {Q : Option AV → AH → Prop} {x0 : Nat} {x1 : Int32} {x2 : Int32} {t0 : Int32} {G : AH} (h : isO E G x0 3 ∧ ((t0 = 0 → isO E G (gR G x0 7) 14 ∧ (vp_in x2 (gN G (gR G x0 7)) ∧ (wp E d M_X3_factsIn 60 [some (vr x0), some (vi x1), some (vi x2), some (vi t0)] [vi (gI G (gR G x0 7) (Int32.toNatClampNeg x2)), vi x2, vr (gR G x0 17)] G Q))) ∧ (¬ (t0 = 0) → isO E G (gR G x0 13) 14 ∧ (vp_in ((x1 * 16) + x2) (gN G (gR G x0 13)) ∧ (wp E d M_X3_factsIn 60 [some (vr x0), some (vi x1), some (vi x2), some (vi t0)] [vi (gI G (gR G x0 13) (Int32.toNatClampNeg ((x1 * 16) + x2))), vi x2, vr (gR G x0 17)] G Q))))) : wp E d M_X3_factsIn 30 [some (vr x0), some (vi x1), some (vi x2), none] [vi t0] G Q := by
  refine wp_istore_n (pc := 30) (lv' := [some (vr _), some (vi _), some (vi _), some (vi _)]) d_X3_factsIn_30 (by decide) rfl ?_
  refine wp_aload_n (pc := 31) d_X3_factsIn_31 rfl ?_
  obtain ⟨ho1, h⟩ := h
  refine wp_getR (pc := 32) d_X3_factsIn_32 fl_X3_82 (fun _ _ _ => rfl) ho1 ?_
  refine wp_iload_n (pc := 35) d_X3_factsIn_35 rfl ?_
  refine wp_iload_n (pc := 36) d_X3_factsIn_36 rfl ?_
  refine wp_if_eq (pc := 37) (tgt := 54) d_X3_factsIn_37 (by decide) (fun hc => ?_) (fun hc => ?_)
  · have h := h.1 hc
    refine wp_aload_n (pc := 54) d_X3_factsIn_54 rfl ?_
    refine wp_getR (pc := 55) d_X3_factsIn_55 fl_X3_51 (fun _ _ _ => rfl) ho1 ?_
    refine wp_iload_n (pc := 58) d_X3_factsIn_58 rfl ?_
    obtain ⟨ho2, h⟩ := h
    obtain ⟨hi3, h⟩ := h
    refine wp_iald (pc := 59) d_X3_factsIn_59 ho2 hi3 ?_
    refine wp_sub ?_ h
    exact ⟨rfl, ⟨rfl, ⟨rfl, ⟨rfl, trivial⟩⟩⟩⟩
  · have h := h.2 hc
    refine wp_aload_n (pc := 40) d_X3_factsIn_40 rfl ?_
    refine wp_getR (pc := 41) d_X3_factsIn_41 fl_X3_70 (fun _ _ _ => rfl) ho1 ?_
    refine wp_iload_n (pc := 44) d_X3_factsIn_44 rfl ?_
    refine wp_bipush (pc := 45) (v := 16) d_X3_factsIn_45 rfl ?_
    refine wp_imul (pc := 47) d_X3_factsIn_47 ?_
    refine wp_iload_n (pc := 48) d_X3_factsIn_48 rfl ?_
    refine wp_iadd (pc := 49) d_X3_factsIn_49 ?_
    obtain ⟨ho4, h⟩ := h
    obtain ⟨hi5, h⟩ := h
    refine wp_iald (pc := 50) d_X3_factsIn_50 ho4 hi5 ?_
    refine wp_goto (pc := 51) (tgt := 60) d_X3_factsIn_51 (by decide) ?_
    refine wp_sub ?_ h
    exact ⟨rfl, ⟨rfl, ⟨rfl, ⟨rfl, trivial⟩⟩⟩⟩
theorem v_X3_factsIn_60 {E : EE} {d : Nat} {Q : Option AV → AH → Prop} {x0 : Nat} {x1 : Int32} {x2 : Int32} {x3 : Int32} {t0 : Nat} {t1 : Int32} {t2 : Int32} {G : AH} (h : isO E G t0 14 ∧ (vp_in t1 (gN G t0) ∧ (wp E d M_X3_factsIn 2 [some (vr x0), some (vi x1), some (vi (x2 + 1)), none] [] (sI G t0 (Int32.toNatClampNeg t1) t2) Q))) : wp E d M_X3_factsIn 60 [some (vr x0), some (vi x1), some (vi x2), some (vi x3)] [vi t2, vi t1, vr t0] G Q := by
  obtain ⟨ho1, h⟩ := h
  obtain ⟨hi2, h⟩ := h
  refine wp_iast (pc := 60) d_X3_factsIn_60 ho1 hi2 ?_
  refine wp_iinc (pc := 61) (v := 1) (lv' := [some (vr _), some (vi _), some (vi _), some (vi _)]) d_X3_factsIn_61 (by decide) rfl rfl rfl ?_
  refine wp_goto (pc := 64) (tgt := 2) d_X3_factsIn_64 (by decide) ?_
  refine wp_sub ?_ h
  exact ⟨rfl, ⟨rfl, ⟨rfl, trivial⟩⟩⟩
theorem d_X3_sumOverFutures_0 : decode prog_5_method_17_code 0 = .ok (.aload_n 0, 1) := by decide +kernel
theorem d_X3_sumOverFutures_1 : decode prog_5_method_17_code 1 = .ok (.getfield 76, 3) := by decide +kernel
theorem d_X3_sumOverFutures_4 : decode prog_5_method_17_code 4 = .ok (.lconst 0, 1) := by decide +kernel
theorem d_X3_sumOverFutures_5 : decode prog_5_method_17_code 5 = .ok (.invokestatic 171, 3) := by decide +kernel
theorem d_X3_sumOverFutures_8 : decode prog_5_method_17_code 8 = .ok (.iconst 1, 1) := by decide +kernel
theorem d_X3_sumOverFutures_9 : decode prog_5_method_17_code 9 = .ok (.istore_n 2, 1) := by decide +kernel
theorem d_X3_sumOverFutures_10 : decode prog_5_method_17_code 10 = .ok (.iconst 0, 1) := by decide +kernel
theorem d_X3_sumOverFutures_11 : decode prog_5_method_17_code 11 = .ok (.istore_n 3, 1) := by decide +kernel
theorem d_X3_sumOverFutures_12 : decode prog_5_method_17_code 12 = .ok (.iload_n 3, 1) := by decide +kernel
theorem d_X3_sumOverFutures_13 : decode prog_5_method_17_code 13 = .ok (.aload_n 0, 1) := by decide +kernel
theorem d_X3_sumOverFutures_14 : decode prog_5_method_17_code 14 = .ok (.getfield 64, 3) := by decide +kernel
theorem d_X3_sumOverFutures_17 : decode prog_5_method_17_code 17 = .ok (.if_icmp .ge 88, 3) := by decide +kernel
theorem d_X3_sumOverFutures_20 : decode prog_5_method_17_code 20 = .ok (.aload_n 0, 1) := by decide +kernel
theorem d_X3_sumOverFutures_21 : decode prog_5_method_17_code 21 = .ok (.getfield 40, 3) := by decide +kernel
theorem d_X3_sumOverFutures_24 : decode prog_5_method_17_code 24 = .ok (.aload_n 0, 1) := by decide +kernel
theorem d_X3_sumOverFutures_25 : decode prog_5_method_17_code 25 = .ok (.getfield 33, 3) := by decide +kernel
theorem d_X3_sumOverFutures_28 : decode prog_5_method_17_code 28 = .ok (.iload_n 1, 1) := by decide +kernel
theorem d_X3_sumOverFutures_29 : decode prog_5_method_17_code 29 = .ok (.aload_n 0, 1) := by decide +kernel
theorem d_X3_sumOverFutures_30 : decode prog_5_method_17_code 30 = .ok (.iload_n 3, 1) := by decide +kernel
theorem d_X3_sumOverFutures_31 : decode prog_5_method_17_code 31 = .ok (.invokevirtual 174, 3) := by decide +kernel
theorem d_X3_sumOverFutures_34 : decode prog_5_method_17_code 34 = .ok (.aload_n 0, 1) := by decide +kernel
theorem d_X3_sumOverFutures_35 : decode prog_5_method_17_code 35 = .ok (.getfield 73, 3) := by decide +kernel
theorem d_X3_sumOverFutures_38 : decode prog_5_method_17_code 38 = .ok (.iconst 0, 1) := by decide +kernel
theorem d_X3_sumOverFutures_39 : decode prog_5_method_17_code 39 = .ok (.invokevirtual 178, 3) := by decide +kernel
theorem d_X3_sumOverFutures_42 : decode prog_5_method_17_code 42 = .ok (.istore 4, 2) := by decide +kernel
theorem d_X3_sumOverFutures_44 : decode prog_5_method_17_code 44 = .ok (.iload 4, 2) := by decide +kernel
theorem d_X3_sumOverFutures_46 : decode prog_5_method_17_code 46 = .ok (.aload_n 0, 1) := by decide +kernel
theorem d_X3_sumOverFutures_47 : decode prog_5_method_17_code 47 = .ok (.getfield 40, 3) := by decide +kernel
theorem d_X3_sumOverFutures_50 : decode prog_5_method_17_code 50 = .ok (.getfield 134, 3) := by decide +kernel
theorem d_X3_sumOverFutures_53 : decode prog_5_method_17_code 53 = .ok (.iand, 1) := by decide +kernel
theorem d_X3_sumOverFutures_54 : decode prog_5_method_17_code 54 = .ok (.ifCond .eq 5, 3) := by decide +kernel
theorem d_X3_sumOverFutures_57 : decode prog_5_method_17_code 57 = .ok (.iconst 0, 1) := by decide +kernel
theorem d_X3_sumOverFutures_58 : decode prog_5_method_17_code 58 = .ok (.istore_n 2, 1) := by decide +kernel
theorem d_X3_sumOverFutures_59 : decode prog_5_method_17_code 59 = .ok (.iconst 0, 1) := by decide +kernel
theorem d_X3_sumOverFutures_60 : decode prog_5_method_17_code 60 = .ok (.istore 5, 2) := by decide +kernel
theorem d_X3_sumOverFutures_62 : decode prog_5_method_17_code 62 = .ok (.iload 5, 2) := by decide +kernel
theorem d_X3_sumOverFutures_64 : decode prog_5_method_17_code 64 = .ok (.iconst 3, 1) := by decide +kernel
theorem d_X3_sumOverFutures_65 : decode prog_5_method_17_code 65 = .ok (.if_icmp .ge 34, 3) := by decide +kernel
theorem d_X3_sumOverFutures_68 : decode prog_5_method_17_code 68 = .ok (.aload_n 0, 1) := by decide +kernel
theorem d_X3_sumOverFutures_69 : decode prog_5_method_17_code 69 = .ok (.getfield 76, 3) := by decide +kernel
theorem d_X3_sumOverFutures_72 : decode prog_5_method_17_code 72 = .ok (.iload 5, 2) := by decide +kernel
theorem d_X3_sumOverFutures_74 : decode prog_5_method_17_code 74 = .ok (.dup2, 1) := by decide +kernel
theorem d_X3_sumOverFutures_75 : decode prog_5_method_17_code 75 = .ok (.laload, 1) := by decide +kernel
theorem d_X3_sumOverFutures_76 : decode prog_5_method_17_code 76 = .ok (.aload_n 0, 1) := by decide +kernel
theorem d_X3_sumOverFutures_77 : decode prog_5_method_17_code 77 = .ok (.getfield 79, 3) := by decide +kernel
theorem d_X3_sumOverFutures_80 : decode prog_5_method_17_code 80 = .ok (.iload_n 3, 1) := by decide +kernel
theorem d_X3_sumOverFutures_81 : decode prog_5_method_17_code 81 = .ok (.iaload, 1) := by decide +kernel
theorem d_X3_sumOverFutures_82 : decode prog_5_method_17_code 82 = .ok (.i2l, 1) := by decide +kernel
theorem d_X3_sumOverFutures_83 : decode prog_5_method_17_code 83 = .ok (.aload_n 0, 1) := by decide +kernel
theorem d_X3_sumOverFutures_84 : decode prog_5_method_17_code 84 = .ok (.getfield 73, 3) := by decide +kernel
theorem d_X3_sumOverFutures_87 : decode prog_5_method_17_code 87 = .ok (.iload 5, 2) := by decide +kernel
theorem d_X3_sumOverFutures_89 : decode prog_5_method_17_code 89 = .ok (.laload, 1) := by decide +kernel
theorem d_X3_sumOverFutures_90 : decode prog_5_method_17_code 90 = .ok (.lmul, 1) := by decide +kernel
theorem d_X3_sumOverFutures_91 : decode prog_5_method_17_code 91 = .ok (.ladd, 1) := by decide +kernel
theorem d_X3_sumOverFutures_92 : decode prog_5_method_17_code 92 = .ok (.lastore, 1) := by decide +kernel
theorem d_X3_sumOverFutures_93 : decode prog_5_method_17_code 93 = .ok (.iinc 5 1, 3) := by decide +kernel
theorem d_X3_sumOverFutures_96 : decode prog_5_method_17_code 96 = .ok (.goto (-34), 3) := by decide +kernel
theorem d_X3_sumOverFutures_99 : decode prog_5_method_17_code 99 = .ok (.iinc 3 1, 3) := by decide +kernel
theorem d_X3_sumOverFutures_102 : decode prog_5_method_17_code 102 = .ok (.goto (-90), 3) := by decide +kernel
theorem d_X3_sumOverFutures_105 : decode prog_5_method_17_code 105 = .ok (.iload_n 2, 1) := by decide +kernel
theorem d_X3_sumOverFutures_106 : decode prog_5_method_17_code 106 = .ok (.ireturn, 1) := by decide +kernel
theorem v_X3_sumOverFutures_0 {E : EE} {d : Nat} {Q : Option AV → AH → Prop} {x0 : Nat} {x1 : Int32} {G : AH} (h0 : 0 < d) (h : isO E G x0 3 ∧ (wpV E (d - 1) M_J7_fill_d0a16 [vr (gR G x0 15), vj 0] G (fun G2 => wp E d M_X3_sumOverFutures 12 [some (vr x0), some (vi x1), some (vi 1), some (vi 0), none, none] [] G2 Q))) : wp E d M_X3_sumOverFutures 0 [some (vr x0), some (vi x1), none, none, none, none] [] G Q := by
  refine wp_aload_n (pc := 0) d_X3_sumOverFutures_0 rfl ?_
  obtain ⟨ho1, h⟩ := h
  refine wp_getR (pc := 1) d_X3_sumOverFutures_1 fl_X3_76 (fun _ _ _ => rfl) ho1 ?_
  refine wp_lconst (pc := 4) (v := 0) d_X3_sumOverFutures_4 rfl ?_
  refine wp_invS (pc := 5) (N := M_J7_fill_d0a16) (As := [vr _, vj _]) (rest := []) d_X3_sumOverFutures_5 ml_X3_171 mk_J7_fill_d0a16 ms_J7_fill_d0a16 h0 (Nat.le_of_ble_eq_true rfl) ?_
  refine wpM.mono h (fun rr G2 hr => ?_)
  obtain ⟨rfl, h⟩ := hr
  show wp E d M_X3_sumOverFutures 8 [some (vr _), some (vi _), none, none, none, none] [] G2 Q
  refine wp_iconst (pc := 8) (v := 1) d_X3_sumOverFutures_8 rfl ?_
  refine wp_istore_n (pc := 9) (lv' := [some (vr _), some (vi _), some (vi _), none, none, none]) d_X3_sumOverFutures_9 (by decide) rfl ?_
  refine wp_iconst (pc := 10) (v := 0) d_X3_sumOverFutures_10 rfl ?_
  refine wp_istore_n (pc := 11) (lv' := [some (vr _), some (vi _), some (vi _), some (vi _), none, none]) d_X3_sumOverFutures_11 (by decide) rfl ?_
  refine wp_sub ?_ h
  exact ⟨rfl, ⟨rfl, ⟨rfl, ⟨rfl, trivial⟩⟩⟩⟩
theorem v_X3_sumOverFutures_12 {E : EE} {d : Nat} {Q : Option AV → AH → Prop} {x0 : Nat} {x1 : Int32} {x2 : Int32} {x3 : Int32} {G : AH} (h0 : 0 < d) (h : isO E G x0 3 ∧ (((gI G x0 11) ≤ x3 → okI .boolean x2 ∧ Q (some (vi x2)) G) ∧ (¬ ((gI G x0 11) ≤ x3) → wpR E (d - 1) M_X3_factsIn [vr x0, vi x3] G (fun r2 G3 => isO E G3 x0 3 ∧ (isO E G3 (gR G x0 5) 2 ∧ (wpI E (d - 1) M_X2_weighAll [vr (gR G x0 5), vr (gR G x0 4), vi x1, vr r2, vr (gR G3 x0 14), vi 0] G3 (fun r5 G6 => isO E G6 x0 3 ∧ (isO E G6 (gR G6 x0 5) 2 ∧ (((r5 &&& (gI G6 (gR G6 x0 5) 0)) = 0 → wp E d M_X3_sumOverFutures 59 [some (vr x0), some (vi x1), some (vi x2), some (vi x3), some (vi r5), none] [] G6 Q) ∧ (¬ ((r5 &&& (gI G6 (gR G6 x0 5) 0)) = 0) → wp E d M_X3_sumOverFutures 59 [some (vr x0), some (vi x1), some (vi 0), some (vi x3), some (vi r5), none] [] G6 Q)))))))))) : wp E d M_X3_sumOverFutures 12 [some (vr x0), some (vi x1), some (vi x2), some (vi x3), none, none] [] G Q := by
  refine wp_iload_n (pc := 12) d_X3_sumOverFutures_12 rfl ?_
  refine wp_aload_n (pc := 13) d_X3_sumOverFutures_13 rfl ?_
  obtain ⟨ho1, h⟩ := h
  refine wp_getI (pc := 14) d_X3_sumOverFutures_14 fl_X3_64 (fun _ _ _ => rfl) ho1 ?_
  refine wp_icmp_ge (pc := 17) (tgt := 105) d_X3_sumOverFutures_17 (by decide) (fun hc => ?_) (fun hc => ?_)
  · have h := h.1 hc
    refine wp_iload_n (pc := 105) d_X3_sumOverFutures_105 rfl ?_
    exact wp_zret (pc := 106) d_X3_sumOverFutures_106 rfl h.1.1 h.2
  · have h := h.2 hc
    refine wp_aload_n (pc := 20) d_X3_sumOverFutures_20 rfl ?_
    refine wp_getR (pc := 21) d_X3_sumOverFutures_21 fl_X3_40 (fun _ _ _ => rfl) ho1 ?_
    refine wp_aload_n (pc := 24) d_X3_sumOverFutures_24 rfl ?_
    refine wp_getR (pc := 25) d_X3_sumOverFutures_25 fl_X3_33 (fun _ _ _ => rfl) ho1 ?_
    refine wp_iload_n (pc := 28) d_X3_sumOverFutures_28 rfl ?_
    refine wp_aload_n (pc := 29) d_X3_sumOverFutures_29 rfl ?_
    refine wp_iload_n (pc := 30) d_X3_sumOverFutures_30 rfl ?_
    refine wp_invV (pc := 31) (N := M_X3_factsIn) (As := [vi _]) (rest := [vi _, vr _, vr _]) (r := (cn_3, ct_3, 19)) d_X3_sumOverFutures_31 ml_X3_174 mk_X3_factsIn mv_X3_factsIn h0 ho1 rfl rfl (Nat.le_of_ble_eq_true rfl) ?_
    refine wpM.mono h (fun rr G3 hr => ?_)
    obtain ⟨r2, rfl, h⟩ := hr
    show wp E d M_X3_sumOverFutures 34 [some (vr _), some (vi _), some (vi _), some (vi _), none, none] [vr _, vi _, vr _, vr _] G3 Q
    refine wp_aload_n (pc := 34) d_X3_sumOverFutures_34 rfl ?_
    obtain ⟨ho4, h⟩ := h
    refine wp_getR (pc := 35) d_X3_sumOverFutures_35 fl_X3_73 (fun _ _ _ => rfl) ho4 ?_
    refine wp_iconst (pc := 38) (v := 0) d_X3_sumOverFutures_38 rfl ?_
    obtain ⟨ho9, h⟩ := h
    refine wp_invV (pc := 39) (N := M_X2_weighAll) (As := [vr _, vi _, vr _, vr _, vi _]) (rest := []) (r := (cn_2, ct_2, 15)) d_X3_sumOverFutures_39 ml_X3_178 mk_X2_weighAll mv_X2_weighAll h0 ho9 rfl rfl (Nat.le_of_ble_eq_true rfl) ?_
    refine wpM.mono h (fun rr G6 hr => ?_)
    obtain ⟨r5, rfl, h⟩ := hr
    show wp E d M_X3_sumOverFutures 42 [some (vr _), some (vi _), some (vi _), some (vi _), none, none] [vi _] G6 Q
    refine wp_istore (pc := 42) (lv' := [some (vr _), some (vi _), some (vi _), some (vi _), some (vi _), none]) d_X3_sumOverFutures_42 (by decide) rfl ?_
    refine wp_iload (pc := 44) d_X3_sumOverFutures_44 rfl ?_
    refine wp_aload_n (pc := 46) d_X3_sumOverFutures_46 rfl ?_
    obtain ⟨ho7, h⟩ := h
    refine wp_getR (pc := 47) d_X3_sumOverFutures_47 fl_X3_40 (fun _ _ _ => rfl) ho7 ?_
    obtain ⟨ho8, h⟩ := h
    refine wp_getI (pc := 50) d_X3_sumOverFutures_50 fl_X3_134 (fun _ _ _ => rfl) ho8 ?_
    refine wp_iand (pc := 53) d_X3_sumOverFutures_53 ?_
    refine wp_if_eq (pc := 54) (tgt := 59) d_X3_sumOverFutures_54 (by decide) (fun hc => ?_) (fun hc => ?_)
    · have h := h.1 hc
      refine wp_sub ?_ h
      exact ⟨rfl, ⟨rfl, ⟨rfl, ⟨rfl, ⟨rfl, trivial⟩⟩⟩⟩⟩
    · have h := h.2 hc
      refine wp_iconst (pc := 57) (v := 0) d_X3_sumOverFutures_57 rfl ?_
      refine wp_istore_n (pc := 58) (lv' := [some (vr _), some (vi _), some (vi _), some (vi _), some (vi _), none]) d_X3_sumOverFutures_58 (by decide) rfl ?_
      refine wp_sub ?_ h
      exact ⟨rfl, ⟨rfl, ⟨rfl, ⟨rfl, ⟨rfl, trivial⟩⟩⟩⟩⟩
theorem v_X3_sumOverFutures_59 {E : EE} {d : Nat} {Q : Option AV → AH → Prop} {x0 : Nat} {x1 : Int32} {x2 : Int32} {x3 : Int32} {x4 : Int32} {G : AH} (h : wp E d M_X3_sumOverFutures 62 [some (vr x0), some (vi x1), some (vi x2), some (vi x3), some (vi x4), some (vi 0)] [] G Q) : wp E d M_X3_sumOverFutures 59 [some (vr x0), some (vi x1), some (vi x2), some (vi x3), some (vi x4), none] [] G Q := by
  refine wp_iconst (pc := 59) (v := 0) d_X3_sumOverFutures_59 rfl ?_
  refine wp_istore (pc := 60) (lv' := [some (vr _), some (vi _), some (vi _), some (vi _), some (vi _), some (vi _)]) d_X3_sumOverFutures_60 (by decide) rfl ?_
  refine wp_sub ?_ h
  exact ⟨rfl, ⟨rfl, ⟨rfl, ⟨rfl, ⟨rfl, ⟨rfl, trivial⟩⟩⟩⟩⟩⟩
theorem v_X3_sumOverFutures_62 {E : EE} {d : Nat} {Q : Option AV → AH → Prop} {x0 : Nat} {x1 : Int32} {x2 : Int32} {x3 : Int32} {x4 : Int32} {x5 : Int32} {G : AH} (h : (3 ≤ x5 → wp E d M_X3_sumOverFutures 12 [some (vr x0), some (vi x1), some (vi x2), some (vi (x3 + 1)), none, none] [] G Q) ∧ (¬ (3 ≤ x5) → isO E G x0 3 ∧ (isO E G (gR G x0 15) 15 ∧ (vp_in x5 (gN G (gR G x0 15)) ∧ (isO E G (gR G x0 16) 14 ∧ (vp_in x3 (gN G (gR G x0 16)) ∧ (isO E G (gR G x0 14) 15 ∧ (vp_in x5 (gN G (gR G x0 14)) ∧ (vp_in x5 (gN G (gR G x0 15)) ∧ (wp E d M_X3_sumOverFutures 62 [some (vr x0), some (vi x1), some (vi x2), some (vi x3), some (vi x4), some (vi (x5 + 1))] [] (sJ G (gR G x0 15) (Int32.toNatClampNeg x5) ((gJ G (gR G x0 15) (Int32.toNatClampNeg x5)) + ((Int32.toInt64 (gI G (gR G x0 16) (Int32.toNatClampNeg x3))) * (gJ G (gR G x0 14) (Int32.toNatClampNeg x5))))) Q)))))))))) : wp E d M_X3_sumOverFutures 62 [some (vr x0), some (vi x1), some (vi x2), some (vi x3), some (vi x4), some (vi x5)] [] G Q := by
  refine wp_iload (pc := 62) d_X3_sumOverFutures_62 rfl ?_
  refine wp_iconst (pc := 64) (v := 3) d_X3_sumOverFutures_64 rfl ?_
  refine wp_icmp_ge (pc := 65) (tgt := 99) d_X3_sumOverFutures_65 (by decide) (fun hc => ?_) (fun hc => ?_)
  · have h := h.1 hc
    refine wp_iinc (pc := 99) (v := 1) (lv' := [some (vr _), some (vi _), some (vi _), some (vi _), some (vi _), some (vi _)]) d_X3_sumOverFutures_99 (by decide) rfl rfl rfl ?_
    refine wp_goto (pc := 102) (tgt := 12) d_X3_sumOverFutures_102 (by decide) ?_
    refine wp_sub ?_ h
    exact ⟨rfl, ⟨rfl, ⟨rfl, ⟨rfl, trivial⟩⟩⟩⟩
  · have h := h.2 hc
    refine wp_aload_n (pc := 68) d_X3_sumOverFutures_68 rfl ?_
    obtain ⟨ho1, h⟩ := h
    refine wp_getR (pc := 69) d_X3_sumOverFutures_69 fl_X3_76 (fun _ _ _ => rfl) ho1 ?_
    refine wp_iload (pc := 72) d_X3_sumOverFutures_72 rfl ?_
    refine wp_dup2 (pc := 74) d_X3_sumOverFutures_74 (c1_i _) (c1_r _) ?_
    obtain ⟨ho2, h⟩ := h
    obtain ⟨hi3, h⟩ := h
    refine wp_lald (pc := 75) d_X3_sumOverFutures_75 ho2 hi3 ?_
    refine wp_aload_n (pc := 76) d_X3_sumOverFutures_76 rfl ?_
    refine wp_getR (pc := 77) d_X3_sumOverFutures_77 fl_X3_79 (fun _ _ _ => rfl) ho1 ?_
    refine wp_iload_n (pc := 80) d_X3_sumOverFutures_80 rfl ?_
    obtain ⟨ho4, h⟩ := h
    obtain ⟨hi5, h⟩ := h
    refine wp_iald (pc := 81) d_X3_sumOverFutures_81 ho4 hi5 ?_
    refine wp_i2l (pc := 82) d_X3_sumOverFutures_82 ?_
    refine wp_aload_n (pc := 83) d_X3_sumOverFutures_83 rfl ?_
    refine wp_getR (pc := 84) d_X3_sumOverFutures_84 fl_X3_73 (fun _ _ _ => rfl) ho1 ?_
    refine wp_iload (pc := 87) d_X3_sumOverFutures_87 rfl ?_
    obtain ⟨ho6, h⟩ := h
    obtain ⟨hi7, h⟩ := h
    refine wp_lald (pc := 89) d_X3_sumOverFutures_89 ho6 hi7 ?_
    refine wp_lmul (pc := 90) d_X3_sumOverFutures_90 ?_
    refine wp_ladd (pc := 91) d_X3_sumOverFutures_91 ?_
    obtain ⟨hi8, h⟩ := h
    refine wp_last (pc := 92) d_X3_sumOverFutures_92 ho2 hi8 ?_
    refine wp_iinc (pc := 93) (v := 1) (lv' := [some (vr _), some (vi _), some (vi _), some (vi _), some (vi _), some (vi _)]) d_X3_sumOverFutures_93 (by decide) rfl rfl rfl ?_
    refine wp_goto (pc := 96) (tgt := 62) d_X3_sumOverFutures_96 (by decide) ?_
    refine wp_sub ?_ h
    exact ⟨rfl, ⟨rfl, ⟨rfl, ⟨rfl, ⟨rfl, ⟨rfl, trivial⟩⟩⟩⟩⟩⟩
theorem d_X3_allOdds_0 : decode prog_5_method_15_code 0 = .ok (.iconst 0, 1) := by decide +kernel
theorem d_X3_allOdds_1 : decode prog_5_method_15_code 1 = .ok (.istore_n 1, 1) := by decide +kernel
theorem d_X3_allOdds_2 : decode prog_5_method_15_code 2 = .ok (.iconst 0, 1) := by decide +kernel
theorem d_X3_allOdds_3 : decode prog_5_method_15_code 3 = .ok (.istore_n 2, 1) := by decide +kernel
theorem d_X3_allOdds_4 : decode prog_5_method_15_code 4 = .ok (.iload_n 2, 1) := by decide +kernel
theorem d_X3_allOdds_5 : decode prog_5_method_15_code 5 = .ok (.aload_n 0, 1) := by decide +kernel
theorem d_X3_allOdds_6 : decode prog_5_method_15_code 6 = .ok (.getfield 64, 3) := by decide +kernel
theorem d_X3_allOdds_9 : decode prog_5_method_15_code 9 = .ok (.if_icmp .ge 18, 3) := by decide +kernel
theorem d_X3_allOdds_12 : decode prog_5_method_15_code 12 = .ok (.iload_n 1, 1) := by decide +kernel
theorem d_X3_allOdds_13 : decode prog_5_method_15_code 13 = .ok (.aload_n 0, 1) := by decide +kernel
theorem d_X3_allOdds_14 : decode prog_5_method_15_code 14 = .ok (.getfield 79, 3) := by decide +kernel
theorem d_X3_allOdds_17 : decode prog_5_method_15_code 17 = .ok (.iload_n 2, 1) := by decide +kernel
theorem d_X3_allOdds_18 : decode prog_5_method_15_code 18 = .ok (.iaload, 1) := by decide +kernel
theorem d_X3_allOdds_19 : decode prog_5_method_15_code 19 = .ok (.iadd, 1) := by decide +kernel
theorem d_X3_allOdds_20 : decode prog_5_method_15_code 20 = .ok (.istore_n 1, 1) := by decide +kernel
theorem d_X3_allOdds_21 : decode prog_5_method_15_code 21 = .ok (.iinc 2 1, 3) := by decide +kernel
theorem d_X3_allOdds_24 : decode prog_5_method_15_code 24 = .ok (.goto (-20), 3) := by decide +kernel
theorem d_X3_allOdds_27 : decode prog_5_method_15_code 27 = .ok (.iload_n 1, 1) := by decide +kernel
theorem d_X3_allOdds_28 : decode prog_5_method_15_code 28 = .ok (.ireturn, 1) := by decide +kernel
theorem v_X3_allOdds_0 {E : EE} {d : Nat} {Q : Option AV → AH → Prop} {x0 : Nat} {G : AH} (h : wp E d M_X3_allOdds 4 [some (vr x0), some (vi 0), some (vi 0)] [] G Q) : wp E d M_X3_allOdds 0 [some (vr x0), none, none] [] G Q := by
  refine wp_iconst (pc := 0) (v := 0) d_X3_allOdds_0 rfl ?_
  refine wp_istore_n (pc := 1) (lv' := [some (vr _), some (vi _), none]) d_X3_allOdds_1 (by decide) rfl ?_
  refine wp_iconst (pc := 2) (v := 0) d_X3_allOdds_2 rfl ?_
  refine wp_istore_n (pc := 3) (lv' := [some (vr _), some (vi _), some (vi _)]) d_X3_allOdds_3 (by decide) rfl ?_
  refine wp_sub ?_ h
  exact ⟨rfl, ⟨rfl, ⟨rfl, trivial⟩⟩⟩
theorem v_X3_allOdds_4 {E : EE} {d : Nat} {Q : Option AV → AH → Prop} {x0 : Nat} {x1 : Int32} {x2 : Int32} {G : AH} (h : isO E G x0 3 ∧ (((gI G x0 11) ≤ x2 → Q (some (vi x1)) G) ∧ (¬ ((gI G x0 11) ≤ x2) → isO E G (gR G x0 16) 14 ∧ (vp_in x2 (gN G (gR G x0 16)) ∧ (wp E d M_X3_allOdds 4 [some (vr x0), some (vi (x1 + (gI G (gR G x0 16) (Int32.toNatClampNeg x2)))), some (vi (x2 + 1))] [] G Q))))) : wp E d M_X3_allOdds 4 [some (vr x0), some (vi x1), some (vi x2)] [] G Q := by
  refine wp_iload_n (pc := 4) d_X3_allOdds_4 rfl ?_
  refine wp_aload_n (pc := 5) d_X3_allOdds_5 rfl ?_
  obtain ⟨ho1, h⟩ := h
  refine wp_getI (pc := 6) d_X3_allOdds_6 fl_X3_64 (fun _ _ _ => rfl) ho1 ?_
  refine wp_icmp_ge (pc := 9) (tgt := 27) d_X3_allOdds_9 (by decide) (fun hc => ?_) (fun hc => ?_)
  · have h := h.1 hc
    refine wp_iload_n (pc := 27) d_X3_allOdds_27 rfl ?_
    exact wp_iret (pc := 28) d_X3_allOdds_28 rfl h
  · have h := h.2 hc
    refine wp_iload_n (pc := 12) d_X3_allOdds_12 rfl ?_
    refine wp_aload_n (pc := 13) d_X3_allOdds_13 rfl ?_
    refine wp_getR (pc := 14) d_X3_allOdds_14 fl_X3_79 (fun _ _ _ => rfl) ho1 ?_
    refine wp_iload_n (pc := 17) d_X3_allOdds_17 rfl ?_
    obtain ⟨ho2, h⟩ := h
    obtain ⟨hi3, h⟩ := h
    refine wp_iald (pc := 18) d_X3_allOdds_18 ho2 hi3 ?_
    refine wp_iadd (pc := 19) d_X3_allOdds_19 ?_
    refine wp_istore_n (pc := 20) (lv' := [some (vr _), some (vi _), some (vi _)]) d_X3_allOdds_20 (by decide) rfl ?_
    refine wp_iinc (pc := 21) (v := 1) (lv' := [some (vr _), some (vi _), some (vi _)]) d_X3_allOdds_21 (by decide) rfl rfl rfl ?_
    refine wp_goto (pc := 24) (tgt := 4) d_X3_allOdds_24 (by decide) ?_
    refine wp_sub ?_ h
    exact ⟨rfl, ⟨rfl, ⟨rfl, trivial⟩⟩⟩
theorem d_X3_mostRobust_0 : decode prog_5_method_18_code 0 = .ok (.iconst (-1), 1) := by decide +kernel
theorem d_X3_mostRobust_1 : decode prog_5_method_18_code 1 = .ok (.istore_n 1, 1) := by decide +kernel
theorem d_X3_mostRobust_2 : decode prog_5_method_18_code 2 = .ok (.aload_n 0, 1) := by decide +kernel
theorem d_X3_mostRobust_3 : decode prog_5_method_18_code 3 = .ok (.getfield 33, 3) := by decide +kernel
theorem d_X3_mostRobust_6 : decode prog_5_method_18_code 6 = .ok (.aload_n 0, 1) := by decide +kernel
theorem d_X3_mostRobust_7 : decode prog_5_method_18_code 7 = .ok (.getfield 54, 3) := by decide +kernel
theorem d_X3_mostRobust_10 : decode prog_5_method_18_code 10 = .ok (.aload_n 0, 1) := by decide +kernel
theorem d_X3_mostRobust_11 : decode prog_5_method_18_code 11 = .ok (.getfield 58, 3) := by decide +kernel
theorem d_X3_mostRobust_14 : decode prog_5_method_18_code 14 = .ok (.invokevirtual 137, 3) := by decide +kernel
theorem d_X3_mostRobust_17 : decode prog_5_method_18_code 17 = .ok (.istore_n 2, 1) := by decide +kernel
theorem d_X3_mostRobust_18 : decode prog_5_method_18_code 18 = .ok (.iconst 0, 1) := by decide +kernel
theorem d_X3_mostRobust_19 : decode prog_5_method_18_code 19 = .ok (.istore_n 3, 1) := by decide +kernel
theorem d_X3_mostRobust_20 : decode prog_5_method_18_code 20 = .ok (.iload_n 3, 1) := by decide +kernel
theorem d_X3_mostRobust_21 : decode prog_5_method_18_code 21 = .ok (.aload_n 0, 1) := by decide +kernel
theorem d_X3_mostRobust_22 : decode prog_5_method_18_code 22 = .ok (.getfield 33, 3) := by decide +kernel
theorem d_X3_mostRobust_25 : decode prog_5_method_18_code 25 = .ok (.getfield 140, 3) := by decide +kernel
theorem d_X3_mostRobust_28 : decode prog_5_method_18_code 28 = .ok (.if_icmp .ge 68, 3) := by decide +kernel
theorem d_X3_mostRobust_31 : decode prog_5_method_18_code 31 = .ok (.iload_n 2, 1) := by decide +kernel
theorem d_X3_mostRobust_32 : decode prog_5_method_18_code 32 = .ok (.ifCond .lt 64, 3) := by decide +kernel
theorem d_X3_mostRobust_35 : decode prog_5_method_18_code 35 = .ok (.aload_n 0, 1) := by decide +kernel
theorem d_X3_mostRobust_36 : decode prog_5_method_18_code 36 = .ok (.iload_n 2, 1) := by decide +kernel
theorem d_X3_mostRobust_37 : decode prog_5_method_18_code 37 = .ok (.invokevirtual 182, 3) := by decide +kernel
theorem d_X3_mostRobust_40 : decode prog_5_method_18_code 40 = .ok (.ifCond .eq 37, 3) := by decide +kernel
theorem d_X3_mostRobust_43 : decode prog_5_method_18_code 43 = .ok (.iload_n 1, 1) := by decide +kernel
theorem d_X3_mostRobust_44 : decode prog_5_method_18_code 44 = .ok (.ifCond .lt 17, 3) := by decide +kernel
theorem d_X3_mostRobust_47 : decode prog_5_method_18_code 47 = .ok (.aload_n 0, 1) := by decide +kernel
theorem d_X3_mostRobust_48 : decode prog_5_method_18_code 48 = .ok (.getfield 76, 3) := by decide +kernel
theorem d_X3_mostRobust_51 : decode prog_5_method_18_code 51 = .ok (.aload_n 0, 1) := by decide +kernel
theorem d_X3_mostRobust_52 : decode prog_5_method_18_code 52 = .ok (.getfield 85, 3) := by decide +kernel
theorem d_X3_mostRobust_55 : decode prog_5_method_18_code 55 = .ok (.invokestatic 157, 3) := by decide +kernel
theorem d_X3_mostRobust_58 : decode prog_5_method_18_code 58 = .ok (.ifCond .eq 19, 3) := by decide +kernel
theorem d_X3_mostRobust_61 : decode prog_5_method_18_code 61 = .ok (.iload_n 2, 1) := by decide +kernel
theorem d_X3_mostRobust_62 : decode prog_5_method_18_code 62 = .ok (.istore_n 1, 1) := by decide +kernel
theorem d_X3_mostRobust_63 : decode prog_5_method_18_code 63 = .ok (.aload_n 0, 1) := by decide +kernel
theorem d_X3_mostRobust_64 : decode prog_5_method_18_code 64 = .ok (.getfield 76, 3) := by decide +kernel
theorem d_X3_mostRobust_67 : decode prog_5_method_18_code 67 = .ok (.iconst 0, 1) := by decide +kernel
theorem d_X3_mostRobust_68 : decode prog_5_method_18_code 68 = .ok (.aload_n 0, 1) := by decide +kernel
theorem d_X3_mostRobust_69 : decode prog_5_method_18_code 69 = .ok (.getfield 85, 3) := by decide +kernel
theorem d_X3_mostRobust_72 : decode prog_5_method_18_code 72 = .ok (.iconst 0, 1) := by decide +kernel
theorem d_X3_mostRobust_73 : decode prog_5_method_18_code 73 = .ok (.iconst 3, 1) := by decide +kernel
theorem d_X3_mostRobust_74 : decode prog_5_method_18_code 74 = .ok (.invokestatic 161, 3) := by decide +kernel
theorem d_X3_mostRobust_77 : decode prog_5_method_18_code 77 = .ok (.aload_n 0, 1) := by decide +kernel
theorem d_X3_mostRobust_78 : decode prog_5_method_18_code 78 = .ok (.getfield 33, 3) := by decide +kernel
theorem d_X3_mostRobust_81 : decode prog_5_method_18_code 81 = .ok (.iload_n 2, 1) := by decide +kernel
theorem d_X3_mostRobust_82 : decode prog_5_method_18_code 82 = .ok (.aload_n 0, 1) := by decide +kernel
theorem d_X3_mostRobust_83 : decode prog_5_method_18_code 83 = .ok (.getfield 58, 3) := by decide +kernel
theorem d_X3_mostRobust_86 : decode prog_5_method_18_code 86 = .ok (.invokevirtual 167, 3) := by decide +kernel
theorem d_X3_mostRobust_89 : decode prog_5_method_18_code 89 = .ok (.istore_n 2, 1) := by decide +kernel
theorem d_X3_mostRobust_90 : decode prog_5_method_18_code 90 = .ok (.iinc 3 1, 3) := by decide +kernel
theorem d_X3_mostRobust_93 : decode prog_5_method_18_code 93 = .ok (.goto (-73), 3) := by decide +kernel
theorem d_X3_mostRobust_96 : decode prog_5_method_18_code 96 = .ok (.iload_n 1, 1) := by decide +kernel
theorem d_X3_mostRobust_97 : decode prog_5_method_18_code 97 = .ok (.ireturn, 1) := by decide +kernel
theorem v_X3_mostRobust_0 {E : EE} {d : Nat} {Q : Option AV → AH → Prop} {x0 : Nat} {G : AH} (h0 : 0 < d) (h : isO E G x0 3 ∧ (isO E G (gR G x0 4) 7 ∧ (wpI E (d - 1) M_X7_lowest [vr (gR G x0 4), vi (gI G x0 8), vi (gI G x0 9)] G (fun r2 G3 => wp E d M_X3_mostRobust 20 [some (vr x0), some (vi (-1)), some (vi r2), some (vi 0)] [] G3 Q)))) : wp E d M_X3_mostRobust 0 [some (vr x0), none, none, none] [] G Q := by
  refine wp_iconst (pc := 0) (v := (-1)) d_X3_mostRobust_0 rfl ?_
  refine wp_istore_n (pc := 1) (lv' := [some (vr _), some (vi _), none, none]) d_X3_mostRobust_1 (by decide) rfl ?_
  refine wp_aload_n (pc := 2) d_X3_mostRobust_2 rfl ?_
  obtain ⟨ho1, h⟩ := h
  refine wp_getR (pc := 3) d_X3_mostRobust_3 fl_X3_33 (fun _ _ _ => rfl) ho1 ?_
  refine wp_aload_n (pc := 6) d_X3_mostRobust_6 rfl ?_
  refine wp_getI (pc := 7) d_X3_mostRobust_7 fl_X3_54 (fun _ _ _ => rfl) ho1 ?_
  refine wp_aload_n (pc := 10) d_X3_mostRobust_10 rfl ?_
  refine wp_getI (pc := 11) d_X3_mostRobust_11 fl_X3_58 (fun _ _ _ => rfl) ho1 ?_
  obtain ⟨ho4, h⟩ := h
  refine wp_invV (pc := 14) (N := M_X7_lowest) (As := [vi _, vi _]) (rest := []) (r := (cn_7, ct_7, 5)) d_X3_mostRobust_14 ml_X3_137 mk_X7_lowest mv_X7_lowest h0 ho4 rfl rfl (Nat.le_of_ble_eq_true rfl) ?_
  refine wpM.mono h (fun rr G3 hr => ?_)
  obtain ⟨r2, rfl, h⟩ := hr
  show wp E d M_X3_mostRobust 17 [some (vr _), some (vi _), none, none] [vi _] G3 Q
  refine wp_istore_n (pc := 17) (lv' := [some (vr _), some (vi _), some (vi _), none]) d_X3_mostRobust_17 (by decide) rfl ?_
  refine wp_iconst (pc := 18) (v := 0) d_X3_mostRobust_18 rfl ?_
  refine wp_istore_n (pc := 19) (lv' := [some (vr _), some (vi _), some (vi _), some (vi _)]) d_X3_mostRobust_19 (by decide) rfl ?_
  refine wp_sub ?_ h
  exact ⟨rfl, ⟨rfl, ⟨rfl, ⟨rfl, trivial⟩⟩⟩⟩
theorem v_X3_mostRobust_20 {E : EE} {d : Nat} {Q : Option AV → AH → Prop} {x0 : Nat} {x1 : Int32} {x2 : Int32} {x3 : Int32} {G : AH} (h0 : 0 < d) (h : isO E G x0 3 ∧ (isO E G (gR G x0 4) 7 ∧ (((gI G (gR G x0 4) 1) ≤ x3 → Q (some (vi x1)) G) ∧ (¬ ((gI G (gR G x0 4) 1) ≤ x3) → (x2 < 0 → Q (some (vi x1)) G) ∧ (¬ (x2 < 0) → wpI E (d - 1) M_X3_sumOverFutures [vr x0, vi x2] G (fun r3 G4 => (r3 = 0 → wp E d M_X3_mostRobust 77 [some (vr x0), some (vi x1), some (vi x2), some (vi x3)] [] G4 Q) ∧ (¬ (r3 = 0) → (x1 < 0 → wp E d M_X3_mostRobust 61 [some (vr x0), some (vi x1), some (vi x2), some (vi x3)] [] G4 Q) ∧ (¬ (x1 < 0) → isO E G4 x0 3 ∧ (wpI E (d - 1) M_X3_isLess [vr (gR G4 x0 15), vr (gR G4 x0 18)] G4 (fun r6 G7 => (r6 = 0 → wp E d M_X3_mostRobust 77 [some (vr x0), some (vi x1), some (vi x2), some (vi x3)] [] G7 Q) ∧ (¬ (r6 = 0) → wp E d M_X3_mostRobust 61 [some (vr x0), some (vi x1), some (vi x2), some (vi x3)] [] G7 Q))))))))))) : wp E d M_X3_mostRobust 20 [some (vr x0), some (vi x1), some (vi x2), some (vi x3)] [] G Q := by
  refine wp_iload_n (pc := 20) d_X3_mostRobust_20 rfl ?_
  refine wp_aload_n (pc := 21) d_X3_mostRobust_21 rfl ?_
  obtain ⟨ho1, h⟩ := h
  refine wp_getR (pc := 22) d_X3_mostRobust_22 fl_X3_33 (fun _ _ _ => rfl) ho1 ?_
  obtain ⟨ho2, h⟩ := h
  refine wp_getI (pc := 25) d_X3_mostRobust_25 fl_X3_140 (fun _ _ _ => rfl) ho2 ?_
  refine wp_icmp_ge (pc := 28) (tgt := 96) d_X3_mostRobust_28 (by decide) (fun hc => ?_) (fun hc => ?_)
  · have h := h.1 hc
    refine wp_iload_n (pc := 96) d_X3_mostRobust_96 rfl ?_
    exact wp_iret (pc := 97) d_X3_mostRobust_97 rfl h
  · have h := h.2 hc
    refine wp_iload_n (pc := 31) d_X3_mostRobust_31 rfl ?_
    refine wp_if_lt (pc := 32) (tgt := 96) d_X3_mostRobust_32 (by decide) (fun hc => ?_) (fun hc => ?_)
    · have h := h.1 hc
      refine wp_iload_n (pc := 96) d_X3_mostRobust_96 rfl ?_
      exact wp_iret (pc := 97) d_X3_mostRobust_97 rfl h
    · have h := h.2 hc
      refine wp_aload_n (pc := 35) d_X3_mostRobust_35 rfl ?_
      refine wp_iload_n (pc := 36) d_X3_mostRobust_36 rfl ?_
      refine wp_invV (pc := 37) (N := M_X3_sumOverFutures) (As := [vi _]) (rest := []) (r := (cn_3, ct_3, 19)) d_X3_mostRobust_37 ml_X3_182 mk_X3_sumOverFutures mv_X3_sumOverFutures h0 ho1 rfl rfl (Nat.le_of_ble_eq_true rfl) ?_
      refine wpM.mono h (fun rr G4 hr => ?_)
      obtain ⟨r3, rfl, h⟩ := hr
      show wp E d M_X3_mostRobust 40 [some (vr _), some (vi _), some (vi _), some (vi _)] [vi _] G4 Q
      refine wp_if_eq (pc := 40) (tgt := 77) d_X3_mostRobust_40 (by decide) (fun hc => ?_) (fun hc => ?_)
      · have h := h.1 hc
        refine wp_sub ?_ h
        exact ⟨rfl, ⟨rfl, ⟨rfl, ⟨rfl, trivial⟩⟩⟩⟩
      · have h := h.2 hc
        refine wp_iload_n (pc := 43) d_X3_mostRobust_43 rfl ?_
        refine wp_if_lt (pc := 44) (tgt := 61) d_X3_mostRobust_44 (by decide) (fun hc => ?_) (fun hc => ?_)
        · have h := h.1 hc
          refine wp_sub ?_ h
          exact ⟨rfl, ⟨rfl, ⟨rfl, ⟨rfl, trivial⟩⟩⟩⟩
        · have h := h.2 hc
          refine wp_aload_n (pc := 47) d_X3_mostRobust_47 rfl ?_
          obtain ⟨ho5, h⟩ := h
          refine wp_getR (pc := 48) d_X3_mostRobust_48 fl_X3_76 (fun _ _ _ => rfl) ho5 ?_
          refine wp_aload_n (pc := 51) d_X3_mostRobust_51 rfl ?_
          refine wp_getR (pc := 52) d_X3_mostRobust_52 fl_X3_85 (fun _ _ _ => rfl) ho5 ?_
          refine wp_invS (pc := 55) (N := M_X3_isLess) (As := [vr _, vr _]) (rest := []) d_X3_mostRobust_55 ml_X3_157 mk_X3_isLess ms_X3_isLess h0 (Nat.le_of_ble_eq_true rfl) ?_
          refine wpM.mono h (fun rr G7 hr => ?_)
          obtain ⟨r6, rfl, h⟩ := hr
          show wp E d M_X3_mostRobust 58 [some (vr _), some (vi _), some (vi _), some (vi _)] [vi _] G7 Q
          refine wp_if_eq (pc := 58) (tgt := 77) d_X3_mostRobust_58 (by decide) (fun hc => ?_) (fun hc => ?_)
          · have h := h.1 hc
            refine wp_sub ?_ h
            exact ⟨rfl, ⟨rfl, ⟨rfl, ⟨rfl, trivial⟩⟩⟩⟩
          · have h := h.2 hc
            refine wp_sub ?_ h
            exact ⟨rfl, ⟨rfl, ⟨rfl, ⟨rfl, trivial⟩⟩⟩⟩
theorem v_X3_mostRobust_61 {E : EE} {d : Nat} {Q : Option AV → AH → Prop} {x0 : Nat} {x1 : Int32} {x2 : Int32} {x3 : Int32} {G : AH} (h0 : 0 < d) (h : isO E G x0 3 ∧ (isO E G (gR G x0 15) 15 ∧ (isO E G (gR G x0 18) 15 ∧ (¬ (0 : Int32) < 0 ∧ (¬ (0 : Int32) < 0 ∧ (¬ (3 : Int32) < 0 ∧ ((Int32.toNatClampNeg 0) + (Int32.toNatClampNeg 3) ≤ gN G (gR G x0 15) ∧ ((Int32.toNatClampNeg 0) + (Int32.toNatClampNeg 3) ≤ gN G (gR G x0 18) ∧ (wp E d M_X3_mostRobust 77 [some (vr x0), some (vi x2), some (vi x2), some (vi x3)] [] (cpJ G (gR G x0 15) (gR G x0 18) (Int32.toNatClampNeg 0) (Int32.toNatClampNeg 0) (Int32.toNatClampNeg 3)) Q))))))))) : wp E d M_X3_mostRobust 61 [some (vr x0), some (vi x1), some (vi x2), some (vi x3)] [] G Q := by
  refine wp_iload_n (pc := 61) d_X3_mostRobust_61 rfl ?_
  refine wp_istore_n (pc := 62) (lv' := [some (vr _), some (vi _), some (vi _), some (vi _)]) d_X3_mostRobust_62 (by decide) rfl ?_
  refine wp_aload_n (pc := 63) d_X3_mostRobust_63 rfl ?_
  obtain ⟨ho1, h⟩ := h
  refine wp_getR (pc := 64) d_X3_mostRobust_64 fl_X3_76 (fun _ _ _ => rfl) ho1 ?_
  refine wp_iconst (pc := 67) (v := 0) d_X3_mostRobust_67 rfl ?_
  refine wp_aload_n (pc := 68) d_X3_mostRobust_68 rfl ?_
  refine wp_getR (pc := 69) d_X3_mostRobust_69 fl_X3_85 (fun _ _ _ => rfl) ho1 ?_
  refine wp_iconst (pc := 72) (v := 0) d_X3_mostRobust_72 rfl ?_
  refine wp_iconst (pc := 73) (v := 3) d_X3_mostRobust_73 rfl ?_
  obtain ⟨ho2, h⟩ := h
  obtain ⟨ho3, h⟩ := h
  obtain ⟨hc4, h⟩ := h
  obtain ⟨hc5, h⟩ := h
  obtain ⟨hc6, h⟩ := h
  obtain ⟨hc7, h⟩ := h
  obtain ⟨hc8, h⟩ := h
  refine wp_cpy (pc := 74) (c := 15) d_X3_mostRobust_74 ml_X3_161 nat_cpy st_cpy ii_sys h0 (by decide) rfl rfl ho2 ho3 hc4 hc5 hc6 hc7 hc8 (fun i _ => ⟨rfl, fun _ q => by cases q⟩) (Nat.le_of_ble_eq_true rfl) (pd_cpJ _ _ _ _ _ _) (cpy_vJ (E := E)) ?_
  refine wp_sub ?_ h
  exact ⟨rfl, ⟨rfl, ⟨rfl, ⟨rfl, trivial⟩⟩⟩⟩
theorem v_X3_mostRobust_77 {E : EE} {d : Nat} {Q : Option AV → AH → Prop} {x0 : Nat} {x1 : Int32} {x2 : Int32} {x3 : Int32} {G : AH} (h0 : 0 < d) (h : isO E G x0 3 ∧ (isO E G (gR G x0 4) 7 ∧ (wpI E (d - 1) M_X7_following [vr (gR G x0 4), vi x2, vi (gI G x0 9)] G (fun r2 G3 => wp E d M_X3_mostRobust 20 [some (vr x0), some (vi x1), some (vi r2), some (vi (x3 + 1))] [] G3 Q)))) : wp E d M_X3_mostRobust 77 [some (vr x0), some (vi x1), some (vi x2), some (vi x3)] [] G Q := by
  refine wp_aload_n (pc := 77) d_X3_mostRobust_77 rfl ?_
  obtain ⟨ho1, h⟩ := h
  refine wp_getR (pc := 78) d_X3_mostRobust_78 fl_X3_33 (fun _ _ _ => rfl) ho1 ?_
  refine wp_iload_n (pc := 81) d_X3_mostRobust_81 rfl ?_
  refine wp_aload_n (pc := 82) d_X3_mostRobust_82 rfl ?_
  refine wp_getI (pc := 83) d_X3_mostRobust_83 fl_X3_58 (fun _ _ _ => rfl) ho1 ?_
  obtain ⟨ho4, h⟩ := h
  refine wp_invV (pc := 86) (N := M_X7_following) (As := [vi _, vi _]) (rest := []) (r := (cn_7, ct_7, 5)) d_X3_mostRobust_86 ml_X3_167 mk_X7_following mv_X7_following h0 ho4 rfl rfl (Nat.le_of_ble_eq_true rfl) ?_
  refine wpM.mono h (fun rr G3 hr => ?_)
  obtain ⟨r2, rfl, h⟩ := hr
  show wp E d M_X3_mostRobust 89 [some (vr _), some (vi _), some (vi _), some (vi _)] [vi _] G3 Q
  refine wp_istore_n (pc := 89) (lv' := [some (vr _), some (vi _), some (vi _), some (vi _)]) d_X3_mostRobust_89 (by decide) rfl ?_
  refine wp_iinc (pc := 90) (v := 1) (lv' := [some (vr _), some (vi _), some (vi _), some (vi _)]) d_X3_mostRobust_90 (by decide) rfl rfl rfl ?_
  refine wp_goto (pc := 93) (tgt := 20) d_X3_mostRobust_93 (by decide) ?_
  refine wp_sub ?_ h
  exact ⟨rfl, ⟨rfl, ⟨rfl, ⟨rfl, trivial⟩⟩⟩⟩
theorem d_X3_isLess_0 : decode prog_5_method_13_code 0 = .ok (.iconst 0, 1) := by decide +kernel
theorem d_X3_isLess_1 : decode prog_5_method_13_code 1 = .ok (.istore_n 2, 1) := by decide +kernel
theorem d_X3_isLess_2 : decode prog_5_method_13_code 2 = .ok (.iload_n 2, 1) := by decide +kernel
theorem d_X3_isLess_3 : decode prog_5_method_13_code 3 = .ok (.iconst 3, 1) := by decide +kernel
theorem d_X3_isLess_4 : decode prog_5_method_13_code 4 = .ok (.if_icmp .ge 35, 3) := by decide +kernel
theorem d_X3_isLess_7 : decode prog_5_method_13_code 7 = .ok (.aload_n 0, 1) := by decide +kernel
theorem d_X3_isLess_8 : decode prog_5_method_13_code 8 = .ok (.iload_n 2, 1) := by decide +kernel
theorem d_X3_isLess_9 : decode prog_5_method_13_code 9 = .ok (.laload, 1) := by decide +kernel
theorem d_X3_isLess_10 : decode prog_5_method_13_code 10 = .ok (.aload_n 1, 1) := by decide +kernel
theorem d_X3_isLess_11 : decode prog_5_method_13_code 11 = .ok (.iload_n 2, 1) := by decide +kernel
theorem d_X3_isLess_12 : decode prog_5_method_13_code 12 = .ok (.laload, 1) := by decide +kernel
theorem d_X3_isLess_13 : decode prog_5_method_13_code 13 = .ok (.lcmp, 1) := by decide +kernel
theorem d_X3_isLess_14 : decode prog_5_method_13_code 14 = .ok (.ifCond .eq 19, 3) := by decide +kernel
theorem d_X3_isLess_17 : decode prog_5_method_13_code 17 = .ok (.aload_n 0, 1) := by decide +kernel
theorem d_X3_isLess_18 : decode prog_5_method_13_code 18 = .ok (.iload_n 2, 1) := by decide +kernel
theorem d_X3_isLess_19 : decode prog_5_method_13_code 19 = .ok (.laload, 1) := by decide +kernel
theorem d_X3_isLess_20 : decode prog_5_method_13_code 20 = .ok (.aload_n 1, 1) := by decide +kernel
theorem d_X3_isLess_21 : decode prog_5_method_13_code 21 = .ok (.iload_n 2, 1) := by decide +kernel
theorem d_X3_isLess_22 : decode prog_5_method_13_code 22 = .ok (.laload, 1) := by decide +kernel
theorem d_X3_isLess_23 : decode prog_5_method_13_code 23 = .ok (.lcmp, 1) := by decide +kernel
theorem d_X3_isLess_24 : decode prog_5_method_13_code 24 = .ok (.ifCond .ge 7, 3) := by decide +kernel
theorem d_X3_isLess_27 : decode prog_5_method_13_code 27 = .ok (.iconst 1, 1) := by decide +kernel
theorem d_X3_isLess_28 : decode prog_5_method_13_code 28 = .ok (.goto 4, 3) := by decide +kernel
theorem d_X3_isLess_31 : decode prog_5_method_13_code 31 = .ok (.iconst 0, 1) := by decide +kernel
theorem d_X3_isLess_32 : decode prog_5_method_13_code 32 = .ok (.ireturn, 1) := by decide +kernel
theorem d_X3_isLess_33 : decode prog_5_method_13_code 33 = .ok (.iinc 2 1, 3) := by decide +kernel
theorem d_X3_isLess_36 : decode prog_5_method_13_code 36 = .ok (.goto (-34), 3) := by decide +kernel
theorem d_X3_isLess_39 : decode prog_5_method_13_code 39 = .ok (.iconst 0, 1) := by decide +kernel
theorem d_X3_isLess_40 : decode prog_5_method_13_code 40 = .ok (.ireturn, 1) := by decide +kernel
theorem v_X3_isLess_0 {E : EE} {d : Nat} {Q : Option AV → AH → Prop} {x0 : Nat} {x1 : Nat} {G : AH} (h : wp E d M_X3_isLess 2 [some (vr x0), some (vr x1), some (vi 0)] [] G Q) : wp E d M_X3_isLess 0 [some (vr x0), some (vr x1), none] [] G Q := by
  refine wp_iconst (pc := 0) (v := 0) d_X3_isLess_0 rfl ?_
  refine wp_istore_n (pc := 1) (lv' := [some (vr _), some (vr _), some (vi _)]) d_X3_isLess_1 (by decide) rfl ?_
  refine wp_sub ?_ h
  exact ⟨rfl, ⟨rfl, ⟨rfl, trivial⟩⟩⟩
theorem v_X3_isLess_2 {E : EE} {d : Nat} {Q : Option AV → AH → Prop} {x0 : Nat} {x1 : Nat} {x2 : Int32} {G : AH} (h : (3 ≤ x2 → Q (some (vi 0)) G) ∧ (¬ (3 ≤ x2) → isO E G x0 15 ∧ (vp_in x2 (gN G x0) ∧ (isO E G x1 15 ∧ (vp_in x2 (gN G x1) ∧ (((gJ G x0 (Int32.toNatClampNeg x2)) = (gJ G x1 (Int32.toNatClampNeg x2)) → wp E d M_X3_isLess 2 [some (vr x0), some (vr x1), some (vi (x2 + 1))] [] G Q) ∧ (¬ ((gJ G x0 (Int32.toNatClampNeg x2)) = (gJ G x1 (Int32.toNatClampNeg x2))) → vp_in x2 (gN G x0) ∧ (vp_in x2 (gN G x1) ∧ (((gJ G x1 (Int32.toNatClampNeg x2)) ≤ (gJ G x0 (Int32.toNatClampNeg x2)) → Q (some (vi 0)) G) ∧ (¬ ((gJ G x1 (Int32.toNatClampNeg x2)) ≤ (gJ G x0 (Int32.toNatClampNeg x2))) → Q (some (vi 1)) G)))))))))) : wp E d M_X3_isLess 2 [some (vr x0), some (vr x1), some (vi x2)] [] G Q := by
  refine wp_iload_n (pc := 2) d_X3_isLess_2 rfl ?_
  refine wp_iconst (pc := 3) (v := 3) d_X3_isLess_3 rfl ?_
  refine wp_icmp_ge (pc := 4) (tgt := 39) d_X3_isLess_4 (by decide) (fun hc => ?_) (fun hc => ?_)
  · have h := h.1 hc
    refine wp_iconst (pc := 39) (v := 0) d_X3_isLess_39 rfl ?_
    exact wp_zret (pc := 40) d_X3_isLess_40 rfl rfl h
  · have h := h.2 hc
    refine wp_aload_n (pc := 7) d_X3_isLess_7 rfl ?_
    refine wp_iload_n (pc := 8) d_X3_isLess_8 rfl ?_
    obtain ⟨ho1, h⟩ := h
    obtain ⟨hi2, h⟩ := h
    refine wp_lald (pc := 9) d_X3_isLess_9 ho1 hi2 ?_
    refine wp_aload_n (pc := 10) d_X3_isLess_10 rfl ?_
    refine wp_iload_n (pc := 11) d_X3_isLess_11 rfl ?_
    obtain ⟨ho3, h⟩ := h
    obtain ⟨hi4, h⟩ := h
    refine wp_lald (pc := 12) d_X3_isLess_12 ho3 hi4 ?_
    refine wp_lcmp_eq (pc := 13) (tgt := 33) d_X3_isLess_13 d_X3_isLess_14 (by decide) (fun hc => ?_) (fun hc => ?_)
    · have h := h.1 hc
      refine wp_iinc (pc := 33) (v := 1) (lv' := [some (vr _), some (vr _), some (vi _)]) d_X3_isLess_33 (by decide) rfl rfl rfl ?_
      refine wp_goto (pc := 36) (tgt := 2) d_X3_isLess_36 (by decide) ?_
      refine wp_sub ?_ h
      exact ⟨rfl, ⟨rfl, ⟨rfl, trivial⟩⟩⟩
    · have h := h.2 hc
      refine wp_aload_n (pc := 17) d_X3_isLess_17 rfl ?_
      refine wp_iload_n (pc := 18) d_X3_isLess_18 rfl ?_
      obtain ⟨hi5, h⟩ := h
      refine wp_lald (pc := 19) d_X3_isLess_19 ho1 hi5 ?_
      refine wp_aload_n (pc := 20) d_X3_isLess_20 rfl ?_
      refine wp_iload_n (pc := 21) d_X3_isLess_21 rfl ?_
      obtain ⟨hi6, h⟩ := h
      refine wp_lald (pc := 22) d_X3_isLess_22 ho3 hi6 ?_
      refine wp_lcmp_ge (pc := 23) (tgt := 31) d_X3_isLess_23 d_X3_isLess_24 (by decide) (fun hc => ?_) (fun hc => ?_)
      · have h := h.1 hc
        refine wp_iconst (pc := 31) (v := 0) d_X3_isLess_31 rfl ?_
        exact wp_zret (pc := 32) d_X3_isLess_32 rfl rfl h
      · have h := h.2 hc
        refine wp_iconst (pc := 27) (v := 1) d_X3_isLess_27 rfl ?_
        refine wp_goto (pc := 28) (tgt := 32) d_X3_isLess_28 (by decide) ?_
        exact wp_zret (pc := 32) d_X3_isLess_32 rfl rfl h
theorem d_X3_isFact_0 : decode prog_5_method_6_code 0 = .ok (.iload_n 1, 1) := by decide +kernel
theorem d_X3_isFact_1 : decode prog_5_method_6_code 1 = .ok (.ifCond .lt 17, 3) := by decide +kernel
theorem d_X3_isFact_4 : decode prog_5_method_6_code 4 = .ok (.iload_n 1, 1) := by decide +kernel
theorem d_X3_isFact_5 : decode prog_5_method_6_code 5 = .ok (.aload_n 0, 1) := by decide +kernel
theorem d_X3_isFact_6 : decode prog_5_method_6_code 6 = .ok (.getfield 26, 3) := by decide +kernel
theorem d_X3_isFact_9 : decode prog_5_method_6_code 9 = .ok (.iconst 0, 1) := by decide +kernel
theorem d_X3_isFact_10 : decode prog_5_method_6_code 10 = .ok (.iaload, 1) := by decide +kernel
theorem d_X3_isFact_11 : decode prog_5_method_6_code 11 = .ok (.if_icmp .ge 7, 3) := by decide +kernel
theorem d_X3_isFact_14 : decode prog_5_method_6_code 14 = .ok (.iconst 1, 1) := by decide +kernel
theorem d_X3_isFact_15 : decode prog_5_method_6_code 15 = .ok (.goto 4, 3) := by decide +kernel
theorem d_X3_isFact_18 : decode prog_5_method_6_code 18 = .ok (.iconst 0, 1) := by decide +kernel
theorem d_X3_isFact_19 : decode prog_5_method_6_code 19 = .ok (.ireturn, 1) := by decide +kernel
theorem v_X3_isFact_0 {E : EE} {d : Nat} {Q : Option AV → AH → Prop} {x0 : Nat} {x1 : Int32} {G : AH} (h : (x1 < 0 → Q (some (vi 0)) G) ∧ (¬ (x1 < 0) → isO E G x0 3 ∧ (isO E G (gR G x0 3) 14 ∧ (vp_in 0 (gN G (gR G x0 3)) ∧ (((gI G (gR G x0 3) (Int32.toNatClampNeg 0)) ≤ x1 → Q (some (vi 0)) G) ∧ (¬ ((gI G (gR G x0 3) (Int32.toNatClampNeg 0)) ≤ x1) → Q (some (vi 1)) G)))))) : wp E d M_X3_isFact 0 [some (vr x0), some (vi x1)] [] G Q := by
  refine wp_iload_n (pc := 0) d_X3_isFact_0 rfl ?_
  refine wp_if_lt (pc := 1) (tgt := 18) d_X3_isFact_1 (by decide) (fun hc => ?_) (fun hc => ?_)
  · have h := h.1 hc
    refine wp_iconst (pc := 18) (v := 0) d_X3_isFact_18 rfl ?_
    exact wp_zret (pc := 19) d_X3_isFact_19 rfl rfl h
  · have h := h.2 hc
    refine wp_iload_n (pc := 4) d_X3_isFact_4 rfl ?_
    refine wp_aload_n (pc := 5) d_X3_isFact_5 rfl ?_
    obtain ⟨ho1, h⟩ := h
    refine wp_getR (pc := 6) d_X3_isFact_6 fl_X3_26 (fun _ _ _ => rfl) ho1 ?_
    refine wp_iconst (pc := 9) (v := 0) d_X3_isFact_9 rfl ?_
    obtain ⟨ho2, h⟩ := h
    obtain ⟨hi3, h⟩ := h
    refine wp_iald (pc := 10) d_X3_isFact_10 ho2 hi3 ?_
    refine wp_icmp_ge (pc := 11) (tgt := 18) d_X3_isFact_11 (by decide) (fun hc => ?_) (fun hc => ?_)
    · have h := h.1 hc
      refine wp_iconst (pc := 18) (v := 0) d_X3_isFact_18 rfl ?_
      exact wp_zret (pc := 19) d_X3_isFact_19 rfl rfl h
    · have h := h.2 hc
      refine wp_iconst (pc := 14) (v := 1) d_X3_isFact_14 rfl ?_
      refine wp_goto (pc := 15) (tgt := 19) d_X3_isFact_15 (by decide) ?_
      exact wp_zret (pc := 19) d_X3_isFact_19 rfl rfl h
theorem d_X3_addFuture_0 : decode prog_5_method_14_code 0 = .ok (.aload_n 0, 1) := by decide +kernel
theorem d_X3_addFuture_1 : decode prog_5_method_14_code 1 = .ok (.getfield 64, 3) := by decide +kernel
theorem d_X3_addFuture_4 : decode prog_5_method_14_code 4 = .ok (.bipush 6, 2) := by decide +kernel
theorem d_X3_addFuture_6 : decode prog_5_method_14_code 6 = .ok (.if_icmp .lt 6, 3) := by decide +kernel
theorem d_X3_addFuture_9 : decode prog_5_method_14_code 9 = .ok (.ldc 170, 2) := by decide +kernel
theorem d_X3_addFuture_11 : decode prog_5_method_14_code 11 = .ok (.ireturn, 1) := by decide +kernel
theorem d_X3_addFuture_12 : decode prog_5_method_14_code 12 = .ok (.aload_n 0, 1) := by decide +kernel
theorem d_X3_addFuture_13 : decode prog_5_method_14_code 13 = .ok (.getfield 79, 3) := by decide +kernel
theorem d_X3_addFuture_16 : decode prog_5_method_14_code 16 = .ok (.aload_n 0, 1) := by decide +kernel
theorem d_X3_addFuture_17 : decode prog_5_method_14_code 17 = .ok (.getfield 64, 3) := by decide +kernel
theorem d_X3_addFuture_20 : decode prog_5_method_14_code 20 = .ok (.iload_n 1, 1) := by decide +kernel
theorem d_X3_addFuture_21 : decode prog_5_method_14_code 21 = .ok (.iastore, 1) := by decide +kernel
theorem d_X3_addFuture_22 : decode prog_5_method_14_code 22 = .ok (.aload_n 0, 1) := by decide +kernel
theorem d_X3_addFuture_23 : decode prog_5_method_14_code 23 = .ok (.getfield 67, 3) := by decide +kernel
theorem d_X3_addFuture_26 : decode prog_5_method_14_code 26 = .ok (.aload_n 0, 1) := by decide +kernel
theorem d_X3_addFuture_27 : decode prog_5_method_14_code 27 = .ok (.getfield 64, 3) := by decide +kernel
theorem d_X3_addFuture_30 : decode prog_5_method_14_code 30 = .ok (.iconst 0, 1) := by decide +kernel
theorem d_X3_addFuture_31 : decode prog_5_method_14_code 31 = .ok (.iastore, 1) := by decide +kernel
theorem d_X3_addFuture_32 : decode prog_5_method_14_code 32 = .ok (.aload_n 0, 1) := by decide +kernel
theorem d_X3_addFuture_33 : decode prog_5_method_14_code 33 = .ok (.dup, 1) := by decide +kernel
theorem d_X3_addFuture_34 : decode prog_5_method_14_code 34 = .ok (.getfield 64, 3) := by decide +kernel
theorem d_X3_addFuture_37 : decode prog_5_method_14_code 37 = .ok (.dup_x1, 1) := by decide +kernel
theorem d_X3_addFuture_38 : decode prog_5_method_14_code 38 = .ok (.iconst 1, 1) := by decide +kernel
theorem d_X3_addFuture_39 : decode prog_5_method_14_code 39 = .ok (.iadd, 1) := by decide +kernel
theorem d_X3_addFuture_40 : decode prog_5_method_14_code 40 = .ok (.putfield 64, 3) := by decide +kernel
theorem d_X3_addFuture_43 : decode prog_5_method_14_code 43 = .ok (.ireturn, 1) := by decide +kernel
theorem v_X3_addFuture_0 {E : EE} {d : Nat} {Q : Option AV → AH → Prop} {x0 : Nat} {x1 : Int32} {G : AH} (h : isO E G x0 3 ∧ (((gI G x0 11) < 6 → isO E G (gR G x0 16) 14 ∧ (vp_in (gI G x0 11) (gN G (gR G x0 16)) ∧ (∀ G4 : AH, G4 = sI G (gR G x0 16) (Int32.toNatClampNeg (gI G x0 11)) x1 → isO E G4 (gR G4 x0 12) 14 ∧ (vp_in (gI G4 x0 11) (gN G4 (gR G4 x0 12)) ∧ (∀ G8 : AH, G8 = sI G4 (gR G4 x0 12) (Int32.toNatClampNeg (gI G4 x0 11)) 0 → ∀ G10 : AH, G10 = sI G8 x0 11 ((gI G8 x0 11) + 1) → Q (some (vi (gI G8 x0 11))) G10))))) ∧ (¬ ((gI G x0 11) < 6) → Q (some (vi (-100000))) G))) : wp E d M_X3_addFuture 0 [some (vr x0), some (vi x1)] [] G Q := by
  refine wp_aload_n (pc := 0) d_X3_addFuture_0 rfl ?_
  obtain ⟨ho1, h⟩ := h
  refine wp_getI (pc := 1) d_X3_addFuture_1 fl_X3_64 (fun _ _ _ => rfl) ho1 ?_
  refine wp_bipush (pc := 4) (v := 6) d_X3_addFuture_4 rfl ?_
  refine wp_icmp_lt (pc := 6) (tgt := 12) d_X3_addFuture_6 (by decide) (fun hc => ?_) (fun hc => ?_)
  · have h := h.1 hc
    refine wp_aload_n (pc := 12) d_X3_addFuture_12 rfl ?_
    refine wp_getR (pc := 13) d_X3_addFuture_13 fl_X3_79 (fun _ _ _ => rfl) ho1 ?_
    refine wp_aload_n (pc := 16) d_X3_addFuture_16 rfl ?_
    refine wp_getI (pc := 17) d_X3_addFuture_17 fl_X3_64 (fun _ _ _ => rfl) ho1 ?_
    refine wp_iload_n (pc := 20) d_X3_addFuture_20 rfl ?_
    obtain ⟨ho2, h⟩ := h
    obtain ⟨hi3, h⟩ := h
    refine wp_iast (pc := 21) d_X3_addFuture_21 ho2 hi3 ?_
    refine wp_nm (fun G4 eG4 => ?_)
    have h := h G4 eG4
    have ho5 := isO_sI eG4 ho1
    refine wp_aload_n (pc := 22) d_X3_addFuture_22 rfl ?_
    refine wp_getR (pc := 23) d_X3_addFuture_23 fl_X3_67 (fun _ _ _ => rfl) ho5 ?_
    refine wp_aload_n (pc := 26) d_X3_addFuture_26 rfl ?_
    refine wp_getI (pc := 27) d_X3_addFuture_27 fl_X3_64 (fun _ _ _ => rfl) ho5 ?_
    refine wp_iconst (pc := 30) (v := 0) d_X3_addFuture_30 rfl ?_
    obtain ⟨ho6, h⟩ := h
    obtain ⟨hi7, h⟩ := h
    refine wp_iast (pc := 31) d_X3_addFuture_31 ho6 hi7 ?_
    refine wp_nm (fun G8 eG8 => ?_)
    have h := h G8 eG8
    have ho9 := isO_sI eG8 ho5
    refine wp_aload_n (pc := 32) d_X3_addFuture_32 rfl ?_
    refine wp_dup (pc := 33) d_X3_addFuture_33 (c1_r _) ?_
    refine wp_getI (pc := 34) d_X3_addFuture_34 fl_X3_64 (fun _ _ _ => rfl) ho9 ?_
    refine wp_dup_x1 (pc := 37) d_X3_addFuture_37 (c1_i _) (c1_r _) ?_
    refine wp_iconst (pc := 38) (v := 1) d_X3_addFuture_38 rfl ?_
    refine wp_iadd (pc := 39) d_X3_addFuture_39 ?_
    refine wp_putI (pc := 40) d_X3_addFuture_40 fl_X3_64 (fun _ _ _ => rfl) (Or.inl rfl) ho9 (okI_int _) ?_
    refine wp_nm (fun G10 eG10 => ?_)
    have h := h G10 eG10
    have ho11 := isO_sI eG10 ho9
    exact wp_iret (pc := 43) d_X3_addFuture_43 rfl h
  · have h := h.2 hc
    refine wp_ldc (pc := 9) (v := (-100000)) d_X3_addFuture_9 ci_X3_170 ?_
    exact wp_iret (pc := 11) d_X3_addFuture_11 rfl h
theorem d_X3_firstBestWith_0 : decode prog_5_method_10_code 0 = .ok (.aload_n 0, 1) := by decide +kernel
theorem d_X3_firstBestWith_1 : decode prog_5_method_10_code 1 = .ok (.getfield 33, 3) := by decide +kernel
theorem d_X3_firstBestWith_4 : decode prog_5_method_10_code 4 = .ok (.iload_n 1, 1) := by decide +kernel
theorem d_X3_firstBestWith_5 : decode prog_5_method_10_code 5 = .ok (.iload_n 2, 1) := by decide +kernel
theorem d_X3_firstBestWith_6 : decode prog_5_method_10_code 6 = .ok (.invokevirtual 108, 3) := by decide +kernel
theorem d_X3_firstBestWith_9 : decode prog_5_method_10_code 9 = .ok (.istore_n 3, 1) := by decide +kernel
theorem d_X3_firstBestWith_10 : decode prog_5_method_10_code 10 = .ok (.iload_n 3, 1) := by decide +kernel
theorem d_X3_firstBestWith_11 : decode prog_5_method_10_code 11 = .ok (.ifCond .ge 5, 3) := by decide +kernel
theorem d_X3_firstBestWith_14 : decode prog_5_method_10_code 14 = .ok (.iconst (-1), 1) := by decide +kernel
theorem d_X3_firstBestWith_15 : decode prog_5_method_10_code 15 = .ok (.ireturn, 1) := by decide +kernel
theorem d_X3_firstBestWith_16 : decode prog_5_method_10_code 16 = .ok (.aload_n 0, 1) := by decide +kernel
theorem d_X3_firstBestWith_17 : decode prog_5_method_10_code 17 = .ok (.getfield 47, 3) := by decide +kernel
theorem d_X3_firstBestWith_20 : decode prog_5_method_10_code 20 = .ok (.aload_n 0, 1) := by decide +kernel
theorem d_X3_firstBestWith_21 : decode prog_5_method_10_code 21 = .ok (.aload_n 0, 1) := by decide +kernel
theorem d_X3_firstBestWith_22 : decode prog_5_method_10_code 22 = .ok (.getfield 58, 3) := by decide +kernel
theorem d_X3_firstBestWith_25 : decode prog_5_method_10_code 25 = .ok (.invokevirtual 111, 3) := by decide +kernel
theorem d_X3_firstBestWith_28 : decode prog_5_method_10_code 28 = .ok (.pop, 1) := by decide +kernel
theorem d_X3_firstBestWith_29 : decode prog_5_method_10_code 29 = .ok (.aload_n 0, 1) := by decide +kernel
theorem d_X3_firstBestWith_30 : decode prog_5_method_10_code 30 = .ok (.getfield 47, 3) := by decide +kernel
theorem d_X3_firstBestWith_33 : decode prog_5_method_10_code 33 = .ok (.aload_n 0, 1) := by decide +kernel
theorem d_X3_firstBestWith_34 : decode prog_5_method_10_code 34 = .ok (.getfield 33, 3) := by decide +kernel
theorem d_X3_firstBestWith_37 : decode prog_5_method_10_code 37 = .ok (.iload_n 1, 1) := by decide +kernel
theorem d_X3_firstBestWith_38 : decode prog_5_method_10_code 38 = .ok (.iload_n 3, 1) := by decide +kernel
theorem d_X3_firstBestWith_39 : decode prog_5_method_10_code 39 = .ok (.invokevirtual 115, 3) := by decide +kernel
theorem d_X3_firstBestWith_42 : decode prog_5_method_10_code 42 = .ok (.pop, 1) := by decide +kernel
theorem d_X3_firstBestWith_43 : decode prog_5_method_10_code 43 = .ok (.aload_n 0, 1) := by decide +kernel
theorem d_X3_firstBestWith_44 : decode prog_5_method_10_code 44 = .ok (.getfield 47, 3) := by decide +kernel
theorem d_X3_firstBestWith_47 : decode prog_5_method_10_code 47 = .ok (.invokevirtual 119, 3) := by decide +kernel
theorem d_X3_firstBestWith_50 : decode prog_5_method_10_code 50 = .ok (.ifCond .le 15, 3) := by decide +kernel
theorem d_X3_firstBestWith_53 : decode prog_5_method_10_code 53 = .ok (.aload_n 0, 1) := by decide +kernel
theorem d_X3_firstBestWith_54 : decode prog_5_method_10_code 54 = .ok (.getfield 47, 3) := by decide +kernel
theorem d_X3_firstBestWith_57 : decode prog_5_method_10_code 57 = .ok (.getfield 123, 3) := by decide +kernel
theorem d_X3_firstBestWith_60 : decode prog_5_method_10_code 60 = .ok (.iconst 0, 1) := by decide +kernel
theorem d_X3_firstBestWith_61 : decode prog_5_method_10_code 61 = .ok (.iaload, 1) := by decide +kernel
theorem d_X3_firstBestWith_62 : decode prog_5_method_10_code 62 = .ok (.goto 4, 3) := by decide +kernel
theorem d_X3_firstBestWith_65 : decode prog_5_method_10_code 65 = .ok (.iconst (-1), 1) := by decide +kernel
theorem d_X3_firstBestWith_66 : decode prog_5_method_10_code 66 = .ok (.ireturn, 1) := by decide +kernel
theorem v_X3_firstBestWith_0 {E : EE} {d : Nat} {Q : Option AV → AH → Prop} {x0 : Nat} {x1 : Int32} {x2 : Int32} {G : AH} (h0 : 0 < d) (h : isO E G x0 3 ∧ (isO E G (gR G x0 4) 7 ∧ (wpI E (d - 1) M_X7_placeOfValue [vr (gR G x0 4), vi x1, vi x2] G (fun r2 G3 => (0 ≤ r2 → isO E G3 x0 3 ∧ (isO E G3 (gR G3 x0 6) 9 ∧ (wpI E (d - 1) M_X9_gather [vr (gR G3 x0 6), vr x0, vi (gI G3 x0 9)] G3 (fun r5 G6 => isO E G6 x0 3 ∧ (isO E G6 (gR G6 x0 6) 9 ∧ (wpI E (d - 1) M_X9_keepValue [vr (gR G6 x0 6), vr (gR G6 x0 4), vi x1, vi r2] G6 (fun r8 G9 => isO E G9 x0 3 ∧ (isO E G9 (gR G9 x0 6) 9 ∧ (wpI E (d - 1) M_X9_keepBest [vr (gR G9 x0 6)] G9 (fun r11 G12 => (r11 ≤ 0 → Q (some (vi (-1))) G12) ∧ (¬ (r11 ≤ 0) → isO E G12 x0 3 ∧ (isO E G12 (gR G12 x0 6) 9 ∧ (isO E G12 (gR G12 (gR G12 x0 6) 2) 14 ∧ (vp_in 0 (gN G12 (gR G12 (gR G12 x0 6) 2)) ∧ (Q (some (vi (gI G12 (gR G12 (gR G12 x0 6) 2) (Int32.toNatClampNeg 0)))) G12))))))))))))))) ∧ (¬ (0 ≤ r2) → Q (some (vi (-1))) G3))))) : wp E d M_X3_firstBestWith 0 [some (vr x0), some (vi x1), some (vi x2), none] [] G Q := by
  refine wp_aload_n (pc := 0) d_X3_firstBestWith_0 rfl ?_
  obtain ⟨ho1, h⟩ := h
  refine wp_getR (pc := 1) d_X3_firstBestWith_1 fl_X3_33 (fun _ _ _ => rfl) ho1 ?_
  refine wp_iload_n (pc := 4) d_X3_firstBestWith_4 rfl ?_
  refine wp_iload_n (pc := 5) d_X3_firstBestWith_5 rfl ?_
  obtain ⟨ho20, h⟩ := h
  refine wp_invV (pc := 6) (N := M_X7_placeOfValue) (As := [vi _, vi _]) (rest := []) (r := (cn_7, ct_7, 5)) d_X3_firstBestWith_6 ml_X3_108 mk_X7_placeOfValue mv_X7_placeOfValue h0 ho20 rfl rfl (Nat.le_of_ble_eq_true rfl) ?_
  refine wpM.mono h (fun rr G3 hr => ?_)
  obtain ⟨r2, rfl, h⟩ := hr
  show wp E d M_X3_firstBestWith 9 [some (vr _), some (vi _), some (vi _), none] [vi _] G3 Q
  refine wp_istore_n (pc := 9) (lv' := [some (vr _), some (vi _), some (vi _), some (vi _)]) d_X3_firstBestWith_9 (by decide) rfl ?_
  refine wp_iload_n (pc := 10) d_X3_firstBestWith_10 rfl ?_
  refine wp_if_ge (pc := 11) (tgt := 16) d_X3_firstBestWith_11 (by decide) (fun hc => ?_) (fun hc => ?_)
  · have h := h.1 hc
    refine wp_aload_n (pc := 16) d_X3_firstBestWith_16 rfl ?_
    obtain ⟨ho4, h⟩ := h
    refine wp_getR (pc := 17) d_X3_firstBestWith_17 fl_X3_47 (fun _ _ _ => rfl) ho4 ?_
    refine wp_aload_n (pc := 20) d_X3_firstBestWith_20 rfl ?_
    refine wp_aload_n (pc := 21) d_X3_firstBestWith_21 rfl ?_
    refine wp_getI (pc := 22) d_X3_firstBestWith_22 fl_X3_58 (fun _ _ _ => rfl) ho4 ?_
    obtain ⟨ho19, h⟩ := h
    refine wp_invV (pc := 25) (N := M_X9_gather) (As := [vr _, vi _]) (rest := []) (r := (cn_9, ct_9, 8)) d_X3_firstBestWith_25 ml_X3_111 mk_X9_gather mv_X9_gather h0 ho19 rfl rfl (Nat.le_of_ble_eq_true rfl) ?_
    refine wpM.mono h (fun rr G6 hr => ?_)
    obtain ⟨r5, rfl, h⟩ := hr
    show wp E d M_X3_firstBestWith 28 [some (vr _), some (vi _), some (vi _), some (vi _)] [vi _] G6 Q
    refine wp_pop (pc := 28) d_X3_firstBestWith_28 (c1_i _) ?_
    refine wp_aload_n (pc := 29) d_X3_firstBestWith_29 rfl ?_
    obtain ⟨ho7, h⟩ := h
    refine wp_getR (pc := 30) d_X3_firstBestWith_30 fl_X3_47 (fun _ _ _ => rfl) ho7 ?_
    refine wp_aload_n (pc := 33) d_X3_firstBestWith_33 rfl ?_
    refine wp_getR (pc := 34) d_X3_firstBestWith_34 fl_X3_33 (fun _ _ _ => rfl) ho7 ?_
    refine wp_iload_n (pc := 37) d_X3_firstBestWith_37 rfl ?_
    refine wp_iload_n (pc := 38) d_X3_firstBestWith_38 rfl ?_
    obtain ⟨ho18, h⟩ := h
    refine wp_invV (pc := 39) (N := M_X9_keepValue) (As := [vr _, vi _, vi _]) (rest := []) (r := (cn_9, ct_9, 8)) d_X3_firstBestWith_39 ml_X3_115 mk_X9_keepValue mv_X9_keepValue h0 ho18 rfl rfl (Nat.le_of_ble_eq_true rfl) ?_
    refine wpM.mono h (fun rr G9 hr => ?_)
    obtain ⟨r8, rfl, h⟩ := hr
    show wp E d M_X3_firstBestWith 42 [some (vr _), some (vi _), some (vi _), some (vi _)] [vi _] G9 Q
    refine wp_pop (pc := 42) d_X3_firstBestWith_42 (c1_i _) ?_
    refine wp_aload_n (pc := 43) d_X3_firstBestWith_43 rfl ?_
    obtain ⟨ho10, h⟩ := h
    refine wp_getR (pc := 44) d_X3_firstBestWith_44 fl_X3_47 (fun _ _ _ => rfl) ho10 ?_
    obtain ⟨ho17, h⟩ := h
    refine wp_invV (pc := 47) (N := M_X9_keepBest) (As := []) (rest := []) (r := (cn_9, ct_9, 8)) d_X3_firstBestWith_47 ml_X3_119 mk_X9_keepBest mv_X9_keepBest h0 ho17 rfl rfl (Nat.le_of_ble_eq_true rfl) ?_
    refine wpM.mono h (fun rr G12 hr => ?_)
    obtain ⟨r11, rfl, h⟩ := hr
    show wp E d M_X3_firstBestWith 50 [some (vr _), some (vi _), some (vi _), some (vi _)] [vi _] G12 Q
    refine wp_if_le (pc := 50) (tgt := 65) d_X3_firstBestWith_50 (by decide) (fun hc => ?_) (fun hc => ?_)
    · have h := h.1 hc
      refine wp_iconst (pc := 65) (v := (-1)) d_X3_firstBestWith_65 rfl ?_
      exact wp_iret (pc := 66) d_X3_firstBestWith_66 rfl h
    · have h := h.2 hc
      refine wp_aload_n (pc := 53) d_X3_firstBestWith_53 rfl ?_
      obtain ⟨ho13, h⟩ := h
      refine wp_getR (pc := 54) d_X3_firstBestWith_54 fl_X3_47 (fun _ _ _ => rfl) ho13 ?_
      obtain ⟨ho14, h⟩ := h
      refine wp_getR (pc := 57) d_X3_firstBestWith_57 fl_X3_123 (fun _ _ _ => rfl) ho14 ?_
      refine wp_iconst (pc := 60) (v := 0) d_X3_firstBestWith_60 rfl ?_
      obtain ⟨ho15, h⟩ := h
      obtain ⟨hi16, h⟩ := h
      refine wp_iald (pc := 61) d_X3_firstBestWith_61 ho15 hi16 ?_
      refine wp_goto (pc := 62) (tgt := 66) d_X3_firstBestWith_62 (by decide) ?_
      exact wp_iret (pc := 66) d_X3_firstBestWith_66 rfl h
  · have h := h.2 hc
    refine wp_iconst (pc := 14) (v := (-1)) d_X3_firstBestWith_14 rfl ?_
    exact wp_iret (pc := 15) d_X3_firstBestWith_15 rfl h
theorem d_X3_firstWorseRule_0 : decode prog_5_method_11_code 0 = .ok (.iconst 0, 1) := by decide +kernel
theorem d_X3_firstWorseRule_1 : decode prog_5_method_11_code 1 = .ok (.istore_n 3, 1) := by decide +kernel
theorem d_X3_firstWorseRule_2 : decode prog_5_method_11_code 2 = .ok (.iload_n 3, 1) := by decide +kernel
theorem d_X3_firstWorseRule_3 : decode prog_5_method_11_code 3 = .ok (.aload_n 0, 1) := by decide +kernel
theorem d_X3_firstWorseRule_4 : decode prog_5_method_11_code 4 = .ok (.getfield 26, 3) := by decide +kernel
theorem d_X3_firstWorseRule_7 : decode prog_5_method_11_code 7 = .ok (.iconst 2, 1) := by decide +kernel
theorem d_X3_firstWorseRule_8 : decode prog_5_method_11_code 8 = .ok (.iaload, 1) := by decide +kernel
theorem d_X3_firstWorseRule_9 : decode prog_5_method_11_code 9 = .ok (.if_icmp .ge 66, 3) := by decide +kernel
theorem d_X3_firstWorseRule_12 : decode prog_5_method_11_code 12 = .ok (.aload_n 0, 1) := by decide +kernel
theorem d_X3_firstWorseRule_13 : decode prog_5_method_11_code 13 = .ok (.getfield 40, 3) := by decide +kernel
theorem d_X3_firstWorseRule_16 : decode prog_5_method_11_code 16 = .ok (.aload_n 0, 1) := by decide +kernel
theorem d_X3_firstWorseRule_17 : decode prog_5_method_11_code 17 = .ok (.getfield 33, 3) := by decide +kernel
theorem d_X3_firstWorseRule_20 : decode prog_5_method_11_code 20 = .ok (.iload_n 1, 1) := by decide +kernel
theorem d_X3_firstWorseRule_21 : decode prog_5_method_11_code 21 = .ok (.invokevirtual 126, 3) := by decide +kernel
theorem d_X3_firstWorseRule_24 : decode prog_5_method_11_code 24 = .ok (.aload_n 0, 1) := by decide +kernel
theorem d_X3_firstWorseRule_25 : decode prog_5_method_11_code 25 = .ok (.getfield 40, 3) := by decide +kernel
theorem d_X3_firstWorseRule_28 : decode prog_5_method_11_code 28 = .ok (.iload_n 3, 1) := by decide +kernel
theorem d_X3_firstWorseRule_29 : decode prog_5_method_11_code 29 = .ok (.aload_n 0, 1) := by decide +kernel
theorem d_X3_firstWorseRule_30 : decode prog_5_method_11_code 30 = .ok (.getfield 51, 3) := by decide +kernel
theorem d_X3_firstWorseRule_33 : decode prog_5_method_11_code 33 = .ok (.invokevirtual 130, 3) := by decide +kernel
theorem d_X3_firstWorseRule_36 : decode prog_5_method_11_code 36 = .ok (.istore 4, 2) := by decide +kernel
theorem d_X3_firstWorseRule_38 : decode prog_5_method_11_code 38 = .ok (.aload_n 0, 1) := by decide +kernel
theorem d_X3_firstWorseRule_39 : decode prog_5_method_11_code 39 = .ok (.getfield 40, 3) := by decide +kernel
theorem d_X3_firstWorseRule_42 : decode prog_5_method_11_code 42 = .ok (.aload_n 0, 1) := by decide +kernel
theorem d_X3_firstWorseRule_43 : decode prog_5_method_11_code 43 = .ok (.getfield 33, 3) := by decide +kernel
theorem d_X3_firstWorseRule_46 : decode prog_5_method_11_code 46 = .ok (.iload_n 2, 1) := by decide +kernel
theorem d_X3_firstWorseRule_47 : decode prog_5_method_11_code 47 = .ok (.invokevirtual 126, 3) := by decide +kernel
theorem d_X3_firstWorseRule_50 : decode prog_5_method_11_code 50 = .ok (.iload 4, 2) := by decide +kernel
theorem d_X3_firstWorseRule_52 : decode prog_5_method_11_code 52 = .ok (.aload_n 0, 1) := by decide +kernel
theorem d_X3_firstWorseRule_53 : decode prog_5_method_11_code 53 = .ok (.getfield 40, 3) := by decide +kernel
theorem d_X3_firstWorseRule_56 : decode prog_5_method_11_code 56 = .ok (.iload_n 3, 1) := by decide +kernel
theorem d_X3_firstWorseRule_57 : decode prog_5_method_11_code 57 = .ok (.aload_n 0, 1) := by decide +kernel
theorem d_X3_firstWorseRule_58 : decode prog_5_method_11_code 58 = .ok (.getfield 51, 3) := by decide +kernel
theorem d_X3_firstWorseRule_61 : decode prog_5_method_11_code 61 = .ok (.invokevirtual 130, 3) := by decide +kernel
theorem d_X3_firstWorseRule_64 : decode prog_5_method_11_code 64 = .ok (.if_icmp .le 5, 3) := by decide +kernel
theorem d_X3_firstWorseRule_67 : decode prog_5_method_11_code 67 = .ok (.iload_n 3, 1) := by decide +kernel
theorem d_X3_firstWorseRule_68 : decode prog_5_method_11_code 68 = .ok (.ireturn, 1) := by decide +kernel
theorem d_X3_firstWorseRule_69 : decode prog_5_method_11_code 69 = .ok (.iinc 3 1, 3) := by decide +kernel
theorem d_X3_firstWorseRule_72 : decode prog_5_method_11_code 72 = .ok (.goto (-70), 3) := by decide +kernel
theorem d_X3_firstWorseRule_75 : decode prog_5_method_11_code 75 = .ok (.iconst (-1), 1) := by decide +kernel
theorem d_X3_firstWorseRule_76 : decode prog_5_method_11_code 76 = .ok (.ireturn, 1) := by decide +kernel
theorem v_X3_firstWorseRule_0 {E : EE} {d : Nat} {Q : Option AV → AH → Prop} {x0 : Nat} {x1 : Int32} {x2 : Int32} {G : AH} (h : wp E d M_X3_firstWorseRule 2 [some (vr x0), some (vi x1), some (vi x2), some (vi 0), none] [] G Q) : wp E d M_X3_firstWorseRule 0 [some (vr x0), some (vi x1), some (vi x2), none, none] [] G Q := by
  refine wp_iconst (pc := 0) (v := 0) d_X3_firstWorseRule_0 rfl ?_
  refine wp_istore_n (pc := 1) (lv' := [some (vr _), some (vi _), some (vi _), some (vi _), none]) d_X3_firstWorseRule_1 (by decide) rfl ?_
  refine wp_sub ?_ h
  exact ⟨rfl, ⟨rfl, ⟨rfl, ⟨rfl, trivial⟩⟩⟩⟩
theorem v_X3_firstWorseRule_2 {E : EE} {d : Nat} {Q : Option AV → AH → Prop} {x0 : Nat} {x1 : Int32} {x2 : Int32} {x3 : Int32} {G : AH} (h0 : 0 < d) (h : isO E G x0 3 ∧ (isO E G (gR G x0 3) 14 ∧ (vp_in 2 (gN G (gR G x0 3)) ∧ (((gI G (gR G x0 3) (Int32.toNatClampNeg 2)) ≤ x3 → Q (some (vi (-1))) G) ∧ (¬ ((gI G (gR G x0 3) (Int32.toNatClampNeg 2)) ≤ x3) → isO E G (gR G x0 5) 2 ∧ (wpV E (d - 1) M_X2_look [vr (gR G x0 5), vr (gR G x0 4), vi x1] G (fun G4 => isO E G4 x0 3 ∧ (isO E G4 (gR G4 x0 5) 2 ∧ (wpI E (d - 1) M_X2_run [vr (gR G4 x0 5), vi x3, vr (gR G4 x0 7)] G4 (fun r6 G7 => isO E G7 x0 3 ∧ (isO E G7 (gR G7 x0 5) 2 ∧ (wpV E (d - 1) M_X2_look [vr (gR G7 x0 5), vr (gR G7 x0 4), vi x2] G7 (fun G9 => isO E G9 x0 3 ∧ (isO E G9 (gR G9 x0 5) 2 ∧ (wpI E (d - 1) M_X2_run [vr (gR G9 x0 5), vi x3, vr (gR G9 x0 7)] G9 (fun r11 G12 => (r6 ≤ r11 → wp E d M_X3_firstWorseRule 2 [some (vr x0), some (vi x1), some (vi x2), some (vi (x3 + 1)), none] [] G12 Q) ∧ (¬ (r6 ≤ r11) → Q (some (vi x3)) G12))))))))))))))))) : wp E d M_X3_firstWorseRule 2 [some (vr x0), some (vi x1), some (vi x2), some (vi x3), none] [] G Q := by
  refine wp_iload_n (pc := 2) d_X3_firstWorseRule_2 rfl ?_
  refine wp_aload_n (pc := 3) d_X3_firstWorseRule_3 rfl ?_
  obtain ⟨ho1, h⟩ := h
  refine wp_getR (pc := 4) d_X3_firstWorseRule_4 fl_X3_26 (fun _ _ _ => rfl) ho1 ?_
  refine wp_iconst (pc := 7) (v := 2) d_X3_firstWorseRule_7 rfl ?_
  obtain ⟨ho2, h⟩ := h
  obtain ⟨hi3, h⟩ := h
  refine wp_iald (pc := 8) d_X3_firstWorseRule_8 ho2 hi3 ?_
  refine wp_icmp_ge (pc := 9) (tgt := 75) d_X3_firstWorseRule_9 (by decide) (fun hc => ?_) (fun hc => ?_)
  · have h := h.1 hc
    refine wp_iconst (pc := 75) (v := (-1)) d_X3_firstWorseRule_75 rfl ?_
    exact wp_iret (pc := 76) d_X3_firstWorseRule_76 rfl h
  · have h := h.2 hc
    refine wp_aload_n (pc := 12) d_X3_firstWorseRule_12 rfl ?_
    refine wp_getR (pc := 13) d_X3_firstWorseRule_13 fl_X3_40 (fun _ _ _ => rfl) ho1 ?_
    refine wp_aload_n (pc := 16) d_X3_firstWorseRule_16 rfl ?_
    refine wp_getR (pc := 17) d_X3_firstWorseRule_17 fl_X3_33 (fun _ _ _ => rfl) ho1 ?_
    refine wp_iload_n (pc := 20) d_X3_firstWorseRule_20 rfl ?_
    obtain ⟨ho16, h⟩ := h
    refine wp_invV (pc := 21) (N := M_X2_look) (As := [vr _, vi _]) (rest := []) (r := (cn_2, ct_2, 15)) d_X3_firstWorseRule_21 ml_X3_126 mk_X2_look mv_X2_look h0 ho16 rfl rfl (Nat.le_of_ble_eq_true rfl) ?_
    refine wpM.mono h (fun rr G4 hr => ?_)
    obtain ⟨rfl, h⟩ := hr
    show wp E d M_X3_firstWorseRule 24 [some (vr _), some (vi _), some (vi _), some (vi _), none] [] G4 Q
    refine wp_aload_n (pc := 24) d_X3_firstWorseRule_24 rfl ?_
    obtain ⟨ho5, h⟩ := h
    refine wp_getR (pc := 25) d_X3_firstWorseRule_25 fl_X3_40 (fun _ _ _ => rfl) ho5 ?_
    refine wp_iload_n (pc := 28) d_X3_firstWorseRule_28 rfl ?_
    refine wp_aload_n (pc := 29) d_X3_firstWorseRule_29 rfl ?_
    refine wp_getR (pc := 30) d_X3_firstWorseRule_30 fl_X3_51 (fun _ _ _ => rfl) ho5 ?_
    obtain ⟨ho15, h⟩ := h
    refine wp_invV (pc := 33) (N := M_X2_run) (As := [vi _, vr _]) (rest := []) (r := (cn_2, ct_2, 15)) d_X3_firstWorseRule_33 ml_X3_130 mk_X2_run mv_X2_run h0 ho15 rfl rfl (Nat.le_of_ble_eq_true rfl) ?_
    refine wpM.mono h (fun rr G7 hr => ?_)
    obtain ⟨r6, rfl, h⟩ := hr
    show wp E d M_X3_firstWorseRule 36 [some (vr _), some (vi _), some (vi _), some (vi _), none] [vi _] G7 Q
    refine wp_istore (pc := 36) (lv' := [some (vr _), some (vi _), some (vi _), some (vi _), some (vi _)]) d_X3_firstWorseRule_36 (by decide) rfl ?_
    refine wp_aload_n (pc := 38) d_X3_firstWorseRule_38 rfl ?_
    obtain ⟨ho8, h⟩ := h
    refine wp_getR (pc := 39) d_X3_firstWorseRule_39 fl_X3_40 (fun _ _ _ => rfl) ho8 ?_
    refine wp_aload_n (pc := 42) d_X3_firstWorseRule_42 rfl ?_
    refine wp_getR (pc := 43) d_X3_firstWorseRule_43 fl_X3_33 (fun _ _ _ => rfl) ho8 ?_
    refine wp_iload_n (pc := 46) d_X3_firstWorseRule_46 rfl ?_
    obtain ⟨ho14, h⟩ := h
    refine wp_invV (pc := 47) (N := M_X2_look) (As := [vr _, vi _]) (rest := []) (r := (cn_2, ct_2, 15)) d_X3_firstWorseRule_47 ml_X3_126 mk_X2_look mv_X2_look h0 ho14 rfl rfl (Nat.le_of_ble_eq_true rfl) ?_
    refine wpM.mono h (fun rr G9 hr => ?_)
    obtain ⟨rfl, h⟩ := hr
    show wp E d M_X3_firstWorseRule 50 [some (vr _), some (vi _), some (vi _), some (vi _), some (vi _)] [] G9 Q
    refine wp_iload (pc := 50) d_X3_firstWorseRule_50 rfl ?_
    refine wp_aload_n (pc := 52) d_X3_firstWorseRule_52 rfl ?_
    obtain ⟨ho10, h⟩ := h
    refine wp_getR (pc := 53) d_X3_firstWorseRule_53 fl_X3_40 (fun _ _ _ => rfl) ho10 ?_
    refine wp_iload_n (pc := 56) d_X3_firstWorseRule_56 rfl ?_
    refine wp_aload_n (pc := 57) d_X3_firstWorseRule_57 rfl ?_
    refine wp_getR (pc := 58) d_X3_firstWorseRule_58 fl_X3_51 (fun _ _ _ => rfl) ho10 ?_
    obtain ⟨ho13, h⟩ := h
    refine wp_invV (pc := 61) (N := M_X2_run) (As := [vi _, vr _]) (rest := [vi _]) (r := (cn_2, ct_2, 15)) d_X3_firstWorseRule_61 ml_X3_130 mk_X2_run mv_X2_run h0 ho13 rfl rfl (Nat.le_of_ble_eq_true rfl) ?_
    refine wpM.mono h (fun rr G12 hr => ?_)
    obtain ⟨r11, rfl, h⟩ := hr
    show wp E d M_X3_firstWorseRule 64 [some (vr _), some (vi _), some (vi _), some (vi _), some (vi _)] [vi _, vi _] G12 Q
    refine wp_icmp_le (pc := 64) (tgt := 69) d_X3_firstWorseRule_64 (by decide) (fun hc => ?_) (fun hc => ?_)
    · have h := h.1 hc
      refine wp_iinc (pc := 69) (v := 1) (lv' := [some (vr _), some (vi _), some (vi _), some (vi _), some (vi _)]) d_X3_firstWorseRule_69 (by decide) rfl rfl rfl ?_
      refine wp_goto (pc := 72) (tgt := 2) d_X3_firstWorseRule_72 (by decide) ?_
      refine wp_sub ?_ h
      exact ⟨rfl, ⟨rfl, ⟨rfl, ⟨rfl, trivial⟩⟩⟩⟩
    · have h := h.2 hc
      refine wp_iload_n (pc := 67) d_X3_firstWorseRule_67 rfl ?_
      exact wp_iret (pc := 68) d_X3_firstWorseRule_68 rfl h
theorem d_X3_isRule_0 : decode prog_5_method_7_code 0 = .ok (.iload_n 1, 1) := by decide +kernel
theorem d_X3_isRule_1 : decode prog_5_method_7_code 1 = .ok (.ifCond .lt 17, 3) := by decide +kernel
theorem d_X3_isRule_4 : decode prog_5_method_7_code 4 = .ok (.iload_n 1, 1) := by decide +kernel
theorem d_X3_isRule_5 : decode prog_5_method_7_code 5 = .ok (.aload_n 0, 1) := by decide +kernel
theorem d_X3_isRule_6 : decode prog_5_method_7_code 6 = .ok (.getfield 26, 3) := by decide +kernel
theorem d_X3_isRule_9 : decode prog_5_method_7_code 9 = .ok (.iconst 2, 1) := by decide +kernel
theorem d_X3_isRule_10 : decode prog_5_method_7_code 10 = .ok (.iaload, 1) := by decide +kernel
theorem d_X3_isRule_11 : decode prog_5_method_7_code 11 = .ok (.if_icmp .ge 7, 3) := by decide +kernel
theorem d_X3_isRule_14 : decode prog_5_method_7_code 14 = .ok (.iconst 1, 1) := by decide +kernel
theorem d_X3_isRule_15 : decode prog_5_method_7_code 15 = .ok (.goto 4, 3) := by decide +kernel
theorem d_X3_isRule_18 : decode prog_5_method_7_code 18 = .ok (.iconst 0, 1) := by decide +kernel
theorem d_X3_isRule_19 : decode prog_5_method_7_code 19 = .ok (.ireturn, 1) := by decide +kernel
theorem v_X3_isRule_0 {E : EE} {d : Nat} {Q : Option AV → AH → Prop} {x0 : Nat} {x1 : Int32} {G : AH} (h : (x1 < 0 → Q (some (vi 0)) G) ∧ (¬ (x1 < 0) → isO E G x0 3 ∧ (isO E G (gR G x0 3) 14 ∧ (vp_in 2 (gN G (gR G x0 3)) ∧ (((gI G (gR G x0 3) (Int32.toNatClampNeg 2)) ≤ x1 → Q (some (vi 0)) G) ∧ (¬ ((gI G (gR G x0 3) (Int32.toNatClampNeg 2)) ≤ x1) → Q (some (vi 1)) G)))))) : wp E d M_X3_isRule 0 [some (vr x0), some (vi x1)] [] G Q := by
  refine wp_iload_n (pc := 0) d_X3_isRule_0 rfl ?_
  refine wp_if_lt (pc := 1) (tgt := 18) d_X3_isRule_1 (by decide) (fun hc => ?_) (fun hc => ?_)
  · have h := h.1 hc
    refine wp_iconst (pc := 18) (v := 0) d_X3_isRule_18 rfl ?_
    exact wp_zret (pc := 19) d_X3_isRule_19 rfl rfl h
  · have h := h.2 hc
    refine wp_iload_n (pc := 4) d_X3_isRule_4 rfl ?_
    refine wp_aload_n (pc := 5) d_X3_isRule_5 rfl ?_
    obtain ⟨ho1, h⟩ := h
    refine wp_getR (pc := 6) d_X3_isRule_6 fl_X3_26 (fun _ _ _ => rfl) ho1 ?_
    refine wp_iconst (pc := 9) (v := 2) d_X3_isRule_9 rfl ?_
    obtain ⟨ho2, h⟩ := h
    obtain ⟨hi3, h⟩ := h
    refine wp_iald (pc := 10) d_X3_isRule_10 ho2 hi3 ?_
    refine wp_icmp_ge (pc := 11) (tgt := 18) d_X3_isRule_11 (by decide) (fun hc => ?_) (fun hc => ?_)
    · have h := h.1 hc
      refine wp_iconst (pc := 18) (v := 0) d_X3_isRule_18 rfl ?_
      exact wp_zret (pc := 19) d_X3_isRule_19 rfl rfl h
    · have h := h.2 hc
      refine wp_iconst (pc := 14) (v := 1) d_X3_isRule_14 rfl ?_
      refine wp_goto (pc := 15) (tgt := 19) d_X3_isRule_15 (by decide) ?_
      exact wp_zret (pc := 19) d_X3_isRule_19 rfl rfl h
theorem d_X3_bestLacking_0 : decode prog_5_method_12_code 0 = .ok (.iconst 0, 1) := by decide +kernel
theorem d_X3_bestLacking_1 : decode prog_5_method_12_code 1 = .ok (.istore_n 2, 1) := by decide +kernel
theorem d_X3_bestLacking_2 : decode prog_5_method_12_code 2 = .ok (.aload_n 0, 1) := by decide +kernel
theorem d_X3_bestLacking_3 : decode prog_5_method_12_code 3 = .ok (.getfield 40, 3) := by decide +kernel
theorem d_X3_bestLacking_6 : decode prog_5_method_12_code 6 = .ok (.getfield 134, 3) := by decide +kernel
theorem d_X3_bestLacking_9 : decode prog_5_method_12_code 9 = .ok (.iconst 1, 1) := by decide +kernel
theorem d_X3_bestLacking_10 : decode prog_5_method_12_code 10 = .ok (.iload_n 1, 1) := by decide +kernel
theorem d_X3_bestLacking_11 : decode prog_5_method_12_code 11 = .ok (.ishl, 1) := by decide +kernel
theorem d_X3_bestLacking_12 : decode prog_5_method_12_code 12 = .ok (.iconst (-1), 1) := by decide +kernel
theorem d_X3_bestLacking_13 : decode prog_5_method_12_code 13 = .ok (.ixor, 1) := by decide +kernel
theorem d_X3_bestLacking_14 : decode prog_5_method_12_code 14 = .ok (.iand, 1) := by decide +kernel
theorem d_X3_bestLacking_15 : decode prog_5_method_12_code 15 = .ok (.istore_n 3, 1) := by decide +kernel
theorem d_X3_bestLacking_16 : decode prog_5_method_12_code 16 = .ok (.aload_n 0, 1) := by decide +kernel
theorem d_X3_bestLacking_17 : decode prog_5_method_12_code 17 = .ok (.getfield 33, 3) := by decide +kernel
theorem d_X3_bestLacking_20 : decode prog_5_method_12_code 20 = .ok (.aload_n 0, 1) := by decide +kernel
theorem d_X3_bestLacking_21 : decode prog_5_method_12_code 21 = .ok (.getfield 54, 3) := by decide +kernel
theorem d_X3_bestLacking_24 : decode prog_5_method_12_code 24 = .ok (.aload_n 0, 1) := by decide +kernel
theorem d_X3_bestLacking_25 : decode prog_5_method_12_code 25 = .ok (.getfield 58, 3) := by decide +kernel
theorem d_X3_bestLacking_28 : decode prog_5_method_12_code 28 = .ok (.invokevirtual 137, 3) := by decide +kernel
theorem d_X3_bestLacking_31 : decode prog_5_method_12_code 31 = .ok (.istore 4, 2) := by decide +kernel
theorem d_X3_bestLacking_33 : decode prog_5_method_12_code 33 = .ok (.iconst 0, 1) := by decide +kernel
theorem d_X3_bestLacking_34 : decode prog_5_method_12_code 34 = .ok (.istore 5, 2) := by decide +kernel
theorem d_X3_bestLacking_36 : decode prog_5_method_12_code 36 = .ok (.iload 5, 2) := by decide +kernel
theorem d_X3_bestLacking_38 : decode prog_5_method_12_code 38 = .ok (.aload_n 0, 1) := by decide +kernel
theorem d_X3_bestLacking_39 : decode prog_5_method_12_code 39 = .ok (.getfield 33, 3) := by decide +kernel
theorem d_X3_bestLacking_42 : decode prog_5_method_12_code 42 = .ok (.getfield 140, 3) := by decide +kernel
theorem d_X3_bestLacking_45 : decode prog_5_method_12_code 45 = .ok (.if_icmp .ge 164, 3) := by decide +kernel
theorem d_X3_bestLacking_48 : decode prog_5_method_12_code 48 = .ok (.iload 4, 2) := by decide +kernel
theorem d_X3_bestLacking_50 : decode prog_5_method_12_code 50 = .ok (.ifCond .lt 159, 3) := by decide +kernel
theorem d_X3_bestLacking_53 : decode prog_5_method_12_code 53 = .ok (.aload_n 0, 1) := by decide +kernel
theorem d_X3_bestLacking_54 : decode prog_5_method_12_code 54 = .ok (.getfield 47, 3) := by decide +kernel
theorem d_X3_bestLacking_57 : decode prog_5_method_12_code 57 = .ok (.iload 4, 2) := by decide +kernel
theorem d_X3_bestLacking_59 : decode prog_5_method_12_code 59 = .ok (.invokevirtual 143, 3) := by decide +kernel
theorem d_X3_bestLacking_62 : decode prog_5_method_12_code 62 = .ok (.iload_n 3, 1) := by decide +kernel
theorem d_X3_bestLacking_63 : decode prog_5_method_12_code 63 = .ok (.iand, 1) := by decide +kernel
theorem d_X3_bestLacking_64 : decode prog_5_method_12_code 64 = .ok (.ifCond .ne 124, 3) := by decide +kernel
theorem d_X3_bestLacking_67 : decode prog_5_method_12_code 67 = .ok (.iconst 0, 1) := by decide +kernel
theorem d_X3_bestLacking_68 : decode prog_5_method_12_code 68 = .ok (.istore 6, 2) := by decide +kernel
theorem d_X3_bestLacking_70 : decode prog_5_method_12_code 70 = .ok (.iload 6, 2) := by decide +kernel
theorem d_X3_bestLacking_72 : decode prog_5_method_12_code 72 = .ok (.iconst 3, 1) := by decide +kernel
theorem d_X3_bestLacking_73 : decode prog_5_method_12_code 73 = .ok (.if_icmp .ge 27, 3) := by decide +kernel
theorem d_X3_bestLacking_76 : decode prog_5_method_12_code 76 = .ok (.aload_n 0, 1) := by decide +kernel
theorem d_X3_bestLacking_77 : decode prog_5_method_12_code 77 = .ok (.getfield 85, 3) := by decide +kernel
theorem d_X3_bestLacking_80 : decode prog_5_method_12_code 80 = .ok (.iload 6, 2) := by decide +kernel
theorem d_X3_bestLacking_82 : decode prog_5_method_12_code 82 = .ok (.aload_n 0, 1) := by decide +kernel
theorem d_X3_bestLacking_83 : decode prog_5_method_12_code 83 = .ok (.getfield 47, 3) := by decide +kernel
theorem d_X3_bestLacking_86 : decode prog_5_method_12_code 86 = .ok (.iload 4, 2) := by decide +kernel
theorem d_X3_bestLacking_88 : decode prog_5_method_12_code 88 = .ok (.iload 6, 2) := by decide +kernel
theorem d_X3_bestLacking_90 : decode prog_5_method_12_code 90 = .ok (.invokevirtual 147, 3) := by decide +kernel
theorem d_X3_bestLacking_93 : decode prog_5_method_12_code 93 = .ok (.lastore, 1) := by decide +kernel
theorem d_X3_bestLacking_94 : decode prog_5_method_12_code 94 = .ok (.iinc 6 1, 3) := by decide +kernel
theorem d_X3_bestLacking_97 : decode prog_5_method_12_code 97 = .ok (.goto (-27), 3) := by decide +kernel
theorem d_X3_bestLacking_100 : decode prog_5_method_12_code 100 = .ok (.aload_n 0, 1) := by decide +kernel
theorem d_X3_bestLacking_101 : decode prog_5_method_12_code 101 = .ok (.getfield 40, 3) := by decide +kernel
theorem d_X3_bestLacking_104 : decode prog_5_method_12_code 104 = .ok (.aload_n 0, 1) := by decide +kernel
theorem d_X3_bestLacking_105 : decode prog_5_method_12_code 105 = .ok (.getfield 33, 3) := by decide +kernel
theorem d_X3_bestLacking_108 : decode prog_5_method_12_code 108 = .ok (.iload 4, 2) := by decide +kernel
theorem d_X3_bestLacking_110 : decode prog_5_method_12_code 110 = .ok (.invokevirtual 126, 3) := by decide +kernel
theorem d_X3_bestLacking_113 : decode prog_5_method_12_code 113 = .ok (.aload_n 0, 1) := by decide +kernel
theorem d_X3_bestLacking_114 : decode prog_5_method_12_code 114 = .ok (.getfield 85, 3) := by decide +kernel
theorem d_X3_bestLacking_117 : decode prog_5_method_12_code 117 = .ok (.aload_n 0, 1) := by decide +kernel
theorem d_X3_bestLacking_118 : decode prog_5_method_12_code 118 = .ok (.getfield 40, 3) := by decide +kernel
theorem d_X3_bestLacking_121 : decode prog_5_method_12_code 121 = .ok (.getfield 151, 3) := by decide +kernel
theorem d_X3_bestLacking_124 : decode prog_5_method_12_code 124 = .ok (.iload_n 1, 1) := by decide +kernel
theorem d_X3_bestLacking_125 : decode prog_5_method_12_code 125 = .ok (.iaload, 1) := by decide +kernel
theorem d_X3_bestLacking_126 : decode prog_5_method_12_code 126 = .ok (.dup2, 1) := by decide +kernel
theorem d_X3_bestLacking_127 : decode prog_5_method_12_code 127 = .ok (.laload, 1) := by decide +kernel
theorem d_X3_bestLacking_128 : decode prog_5_method_12_code 128 = .ok (.aload_n 0, 1) := by decide +kernel
theorem d_X3_bestLacking_129 : decode prog_5_method_12_code 129 = .ok (.getfield 40, 3) := by decide +kernel
theorem d_X3_bestLacking_132 : decode prog_5_method_12_code 132 = .ok (.getfield 154, 3) := by decide +kernel
theorem d_X3_bestLacking_135 : decode prog_5_method_12_code 135 = .ok (.iload_n 1, 1) := by decide +kernel
theorem d_X3_bestLacking_136 : decode prog_5_method_12_code 136 = .ok (.iaload, 1) := by decide +kernel
theorem d_X3_bestLacking_137 : decode prog_5_method_12_code 137 = .ok (.i2l, 1) := by decide +kernel
theorem d_X3_bestLacking_138 : decode prog_5_method_12_code 138 = .ok (.aload_n 0, 1) := by decide +kernel
theorem d_X3_bestLacking_139 : decode prog_5_method_12_code 139 = .ok (.getfield 40, 3) := by decide +kernel
theorem d_X3_bestLacking_142 : decode prog_5_method_12_code 142 = .ok (.iload_n 1, 1) := by decide +kernel
theorem d_X3_bestLacking_143 : decode prog_5_method_12_code 143 = .ok (.aload_n 0, 1) := by decide +kernel
theorem d_X3_bestLacking_144 : decode prog_5_method_12_code 144 = .ok (.getfield 51, 3) := by decide +kernel
theorem d_X3_bestLacking_147 : decode prog_5_method_12_code 147 = .ok (.invokevirtual 130, 3) := by decide +kernel
theorem d_X3_bestLacking_150 : decode prog_5_method_12_code 150 = .ok (.i2l, 1) := by decide +kernel
theorem d_X3_bestLacking_151 : decode prog_5_method_12_code 151 = .ok (.lmul, 1) := by decide +kernel
theorem d_X3_bestLacking_152 : decode prog_5_method_12_code 152 = .ok (.lsub, 1) := by decide +kernel
theorem d_X3_bestLacking_153 : decode prog_5_method_12_code 153 = .ok (.lastore, 1) := by decide +kernel
theorem d_X3_bestLacking_154 : decode prog_5_method_12_code 154 = .ok (.iload_n 2, 1) := by decide +kernel
theorem d_X3_bestLacking_155 : decode prog_5_method_12_code 155 = .ok (.ifCond .eq 17, 3) := by decide +kernel
theorem d_X3_bestLacking_158 : decode prog_5_method_12_code 158 = .ok (.aload_n 0, 1) := by decide +kernel
theorem d_X3_bestLacking_159 : decode prog_5_method_12_code 159 = .ok (.getfield 85, 3) := by decide +kernel
theorem d_X3_bestLacking_162 : decode prog_5_method_12_code 162 = .ok (.aload_n 0, 1) := by decide +kernel
theorem d_X3_bestLacking_163 : decode prog_5_method_12_code 163 = .ok (.getfield 76, 3) := by decide +kernel
theorem d_X3_bestLacking_166 : decode prog_5_method_12_code 166 = .ok (.invokestatic 157, 3) := by decide +kernel
theorem d_X3_bestLacking_169 : decode prog_5_method_12_code 169 = .ok (.ifCond .eq 17, 3) := by decide +kernel
theorem d_X3_bestLacking_172 : decode prog_5_method_12_code 172 = .ok (.aload_n 0, 1) := by decide +kernel
theorem d_X3_bestLacking_173 : decode prog_5_method_12_code 173 = .ok (.getfield 85, 3) := by decide +kernel
theorem d_X3_bestLacking_176 : decode prog_5_method_12_code 176 = .ok (.iconst 0, 1) := by decide +kernel
theorem d_X3_bestLacking_177 : decode prog_5_method_12_code 177 = .ok (.aload_n 0, 1) := by decide +kernel
theorem d_X3_bestLacking_178 : decode prog_5_method_12_code 178 = .ok (.getfield 76, 3) := by decide +kernel
theorem d_X3_bestLacking_181 : decode prog_5_method_12_code 181 = .ok (.iconst 0, 1) := by decide +kernel
theorem d_X3_bestLacking_182 : decode prog_5_method_12_code 182 = .ok (.iconst 3, 1) := by decide +kernel
theorem d_X3_bestLacking_183 : decode prog_5_method_12_code 183 = .ok (.invokestatic 161, 3) := by decide +kernel
theorem d_X3_bestLacking_186 : decode prog_5_method_12_code 186 = .ok (.iconst 1, 1) := by decide +kernel
theorem d_X3_bestLacking_187 : decode prog_5_method_12_code 187 = .ok (.istore_n 2, 1) := by decide +kernel
theorem d_X3_bestLacking_188 : decode prog_5_method_12_code 188 = .ok (.aload_n 0, 1) := by decide +kernel
theorem d_X3_bestLacking_189 : decode prog_5_method_12_code 189 = .ok (.getfield 33, 3) := by decide +kernel
theorem d_X3_bestLacking_192 : decode prog_5_method_12_code 192 = .ok (.iload 4, 2) := by decide +kernel
theorem d_X3_bestLacking_194 : decode prog_5_method_12_code 194 = .ok (.aload_n 0, 1) := by decide +kernel
theorem d_X3_bestLacking_195 : decode prog_5_method_12_code 195 = .ok (.getfield 58, 3) := by decide +kernel
theorem d_X3_bestLacking_198 : decode prog_5_method_12_code 198 = .ok (.invokevirtual 167, 3) := by decide +kernel
theorem d_X3_bestLacking_201 : decode prog_5_method_12_code 201 = .ok (.istore 4, 2) := by decide +kernel
theorem d_X3_bestLacking_203 : decode prog_5_method_12_code 203 = .ok (.iinc 5 1, 3) := by decide +kernel
theorem d_X3_bestLacking_206 : decode prog_5_method_12_code 206 = .ok (.goto (-170), 3) := by decide +kernel
theorem d_X3_bestLacking_209 : decode prog_5_method_12_code 209 = .ok (.iload_n 2, 1) := by decide +kernel
theorem d_X3_bestLacking_210 : decode prog_5_method_12_code 210 = .ok (.ireturn, 1) := by decide +kernel
theorem v_X3_bestLacking_0 {E : EE} {d : Nat} {Q : Option AV → AH → Prop} {x0 : Nat} {x1 : Int32} {G : AH} (h0 : 0 < d) (h : isO E G x0 3 ∧ (isO E G (gR G x0 5) 2 ∧ (isO E G (gR G x0 4) 7 ∧ (wpI E (d - 1) M_X7_lowest [vr (gR G x0 4), vi (gI G x0 8), vi (gI G x0 9)] G (fun r3 G4 => wp E d M_X3_bestLacking 36 [some (vr x0), some (vi x1), some (vi 0), some (vi ((gI G (gR G x0 5) 0) &&& ((1 <<< (x1 &&& 31)) ^^^ (-1)))), some (vi r3), some (vi 0), none] [] G4 Q))))) : wp E d M_X3_bestLacking 0 [some (vr x0), some (vi x1), none, none, none, none, none] [] G Q := by
  refine wp_iconst (pc := 0) (v := 0) d_X3_bestLacking_0 rfl ?_
  refine wp_istore_n (pc := 1) (lv' := [some (vr _), some (vi _), some (vi _), none, none, none, none]) d_X3_bestLacking_1 (by decide) rfl ?_
  refine wp_aload_n (pc := 2) d_X3_bestLacking_2 rfl ?_
  obtain ⟨ho1, h⟩ := h
  refine wp_getR (pc := 3) d_X3_bestLacking_3 fl_X3_40 (fun _ _ _ => rfl) ho1 ?_
  obtain ⟨ho2, h⟩ := h
  refine wp_getI (pc := 6) d_X3_bestLacking_6 fl_X3_134 (fun _ _ _ => rfl) ho2 ?_
  refine wp_iconst (pc := 9) (v := 1) d_X3_bestLacking_9 rfl ?_
  refine wp_iload_n (pc := 10) d_X3_bestLacking_10 rfl ?_
  refine wp_ishl (pc := 11) d_X3_bestLacking_11 ?_
  refine wp_iconst (pc := 12) (v := (-1)) d_X3_bestLacking_12 rfl ?_
  refine wp_ixor (pc := 13) d_X3_bestLacking_13 ?_
  refine wp_iand (pc := 14) d_X3_bestLacking_14 ?_
  refine wp_istore_n (pc := 15) (lv' := [some (vr _), some (vi _), some (vi _), some (vi _), none, none, none]) d_X3_bestLacking_15 (by decide) rfl ?_
  refine wp_aload_n (pc := 16) d_X3_bestLacking_16 rfl ?_
  refine wp_getR (pc := 17) d_X3_bestLacking_17 fl_X3_33 (fun _ _ _ => rfl) ho1 ?_
  refine wp_aload_n (pc := 20) d_X3_bestLacking_20 rfl ?_
  refine wp_getI (pc := 21) d_X3_bestLacking_21 fl_X3_54 (fun _ _ _ => rfl) ho1 ?_
  refine wp_aload_n (pc := 24) d_X3_bestLacking_24 rfl ?_
  refine wp_getI (pc := 25) d_X3_bestLacking_25 fl_X3_58 (fun _ _ _ => rfl) ho1 ?_
  obtain ⟨ho5, h⟩ := h
  refine wp_invV (pc := 28) (N := M_X7_lowest) (As := [vi _, vi _]) (rest := []) (r := (cn_7, ct_7, 5)) d_X3_bestLacking_28 ml_X3_137 mk_X7_lowest mv_X7_lowest h0 ho5 rfl rfl (Nat.le_of_ble_eq_true rfl) ?_
  refine wpM.mono h (fun rr G4 hr => ?_)
  obtain ⟨r3, rfl, h⟩ := hr
  show wp E d M_X3_bestLacking 31 [some (vr _), some (vi _), some (vi _), some (vi _), none, none, none] [vi _] G4 Q
  refine wp_istore (pc := 31) (lv' := [some (vr _), some (vi _), some (vi _), some (vi _), some (vi _), none, none]) d_X3_bestLacking_31 (by decide) rfl ?_
  refine wp_iconst (pc := 33) (v := 0) d_X3_bestLacking_33 rfl ?_
  refine wp_istore (pc := 34) (lv' := [some (vr _), some (vi _), some (vi _), some (vi _), some (vi _), some (vi _), none]) d_X3_bestLacking_34 (by decide) rfl ?_
  refine wp_sub ?_ h
  exact ⟨rfl, ⟨rfl, ⟨rfl, ⟨rfl, ⟨rfl, ⟨rfl, trivial⟩⟩⟩⟩⟩⟩
theorem v_X3_bestLacking_36 {E : EE} {d : Nat} {Q : Option AV → AH → Prop} {x0 : Nat} {x1 : Int32} {x2 : Int32} {x3 : Int32} {x4 : Int32} {x5 : Int32} {G : AH} (h0 : 0 < d) (h : isO E G x0 3 ∧ (isO E G (gR G x0 4) 7 ∧ (((gI G (gR G x0 4) 1) ≤ x5 → okI .boolean x2 ∧ Q (some (vi x2)) G) ∧ (¬ ((gI G (gR G x0 4) 1) ≤ x5) → (x4 < 0 → okI .boolean x2 ∧ Q (some (vi x2)) G) ∧ (¬ (x4 < 0) → isO E G (gR G x0 6) 9 ∧ (wpI E (d - 1) M_X9_setOf [vr (gR G x0 6), vi x4] G (fun r3 G4 => (¬ (r3 &&& x3) = 0 → wp E d M_X3_bestLacking 188 [some (vr x0), some (vi x1), some (vi x2), some (vi x3), some (vi x4), some (vi x5), none] [] G4 Q) ∧ ((r3 &&& x3) = 0 → wp E d M_X3_bestLacking 70 [some (vr x0), some (vi x1), some (vi x2), some (vi x3), some (vi x4), some (vi x5), some (vi 0)] [] G4 Q)))))))) : wp E d M_X3_bestLacking 36 [some (vr x0), some (vi x1), some (vi x2), some (vi x3), some (vi x4), some (vi x5), none] [] G Q := by
  refine wp_iload (pc := 36) d_X3_bestLacking_36 rfl ?_
  refine wp_aload_n (pc := 38) d_X3_bestLacking_38 rfl ?_
  obtain ⟨ho1, h⟩ := h
  refine wp_getR (pc := 39) d_X3_bestLacking_39 fl_X3_33 (fun _ _ _ => rfl) ho1 ?_
  obtain ⟨ho2, h⟩ := h
  refine wp_getI (pc := 42) d_X3_bestLacking_42 fl_X3_140 (fun _ _ _ => rfl) ho2 ?_
  refine wp_icmp_ge (pc := 45) (tgt := 209) d_X3_bestLacking_45 (by decide) (fun hc => ?_) (fun hc => ?_)
  · have h := h.1 hc
    refine wp_iload_n (pc := 209) d_X3_bestLacking_209 rfl ?_
    exact wp_zret (pc := 210) d_X3_bestLacking_210 rfl h.1.1 h.2
  · have h := h.2 hc
    refine wp_iload (pc := 48) d_X3_bestLacking_48 rfl ?_
    refine wp_if_lt (pc := 50) (tgt := 209) d_X3_bestLacking_50 (by decide) (fun hc => ?_) (fun hc => ?_)
    · have h := h.1 hc
      refine wp_iload_n (pc := 209) d_X3_bestLacking_209 rfl ?_
      exact wp_zret (pc := 210) d_X3_bestLacking_210 rfl h.1.1 h.2
    · have h := h.2 hc
      refine wp_aload_n (pc := 53) d_X3_bestLacking_53 rfl ?_
      refine wp_getR (pc := 54) d_X3_bestLacking_54 fl_X3_47 (fun _ _ _ => rfl) ho1 ?_
      refine wp_iload (pc := 57) d_X3_bestLacking_57 rfl ?_
      obtain ⟨ho5, h⟩ := h
      refine wp_invV (pc := 59) (N := M_X9_setOf) (As := [vi _]) (rest := []) (r := (cn_9, ct_9, 8)) d_X3_bestLacking_59 ml_X3_143 mk_X9_setOf mv_X9_setOf h0 ho5 rfl rfl (Nat.le_of_ble_eq_true rfl) ?_
      refine wpM.mono h (fun rr G4 hr => ?_)
      obtain ⟨r3, rfl, h⟩ := hr
      show wp E d M_X3_bestLacking 62 [some (vr _), some (vi _), some (vi _), some (vi _), some (vi _), some (vi _), none] [vi _] G4 Q
      refine wp_iload_n (pc := 62) d_X3_bestLacking_62 rfl ?_
      refine wp_iand (pc := 63) d_X3_bestLacking_63 ?_
      refine wp_if_ne (pc := 64) (tgt := 188) d_X3_bestLacking_64 (by decide) (fun hc => ?_) (fun hc => ?_)
      · have h := h.1 hc
        refine wp_sub ?_ h
        exact ⟨rfl, ⟨rfl, ⟨rfl, ⟨rfl, ⟨rfl, ⟨rfl, trivial⟩⟩⟩⟩⟩⟩
      · have h := h.2 hc
        refine wp_iconst (pc := 67) (v := 0) d_X3_bestLacking_67 rfl ?_
        refine wp_istore (pc := 68) (lv' := [some (vr _), some (vi _), some (vi _), some (vi _), some (vi _), some (vi _), some (vi _)]) d_X3_bestLacking_68 (by decide) rfl ?_
        refine wp_sub ?_ h
        exact ⟨rfl, ⟨rfl, ⟨rfl, ⟨rfl, ⟨rfl, ⟨rfl, ⟨rfl, trivial⟩⟩⟩⟩⟩⟩⟩
theorem v_X3_bestLacking_70 {E : EE} {d : Nat} {Q : Option AV → AH → Prop} {x0 : Nat} {x1 : Int32} {x2 : Int32} {x3 : Int32} {x4 : Int32} {x5 : Int32} {x6 : Int32} {G : AH} (h0 : 0 < d) (h : (3 ≤ x6 → isO E G x0 3 ∧ (isO E G (gR G x0 5) 2 ∧ (wpV E (d - 1) M_X2_look [vr (gR G x0 5), vr (gR G x0 4), vi x4] G (fun G2 => isO E G2 x0 3 ∧ (isO E G2 (gR G2 x0 5) 2 ∧ (isO E G2 (gR G2 (gR G2 x0 5) 4) 14 ∧ (vp_in x1 (gN G2 (gR G2 (gR G2 x0 5) 4)) ∧ (isO E G2 (gR G2 x0 18) 15 ∧ (vp_in (gI G2 (gR G2 (gR G2 x0 5) 4) (Int32.toNatClampNeg x1)) (gN G2 (gR G2 x0 18)) ∧ (isO E G2 (gR G2 (gR G2 x0 5) 5) 14 ∧ (vp_in x1 (gN G2 (gR G2 (gR G2 x0 5) 5)) ∧ (wpI E (d - 1) M_X2_run [vr (gR G2 x0 5), vi x1, vr (gR G2 x0 7)] G2 (fun r11 G12 => isO E G12 (gR G2 x0 18) 15 ∧ (vp_in (gI G2 (gR G2 (gR G2 x0 5) 4) (Int32.toNatClampNeg x1)) (gN G12 (gR G2 x0 18)) ∧ ((x2 = 0 → wp E d M_X3_bestLacking 172 [some (vr x0), some (vi x1), some (vi x2), some (vi x3), some (vi x4), some (vi x5), some (vi x6)] [] (sJ G12 (gR G2 x0 18) (Int32.toNatClampNeg (gI G2 (gR G2 (gR G2 x0 5) 4) (Int32.toNatClampNeg x1))) ((gJ G2 (gR G2 x0 18) (Int32.toNatClampNeg (gI G2 (gR G2 (gR G2 x0 5) 4) (Int32.toNatClampNeg x1)))) - ((Int32.toInt64 (gI G2 (gR G2 (gR G2 x0 5) 5) (Int32.toNatClampNeg x1))) * (Int32.toInt64 r11)))) Q) ∧ (¬ (x2 = 0) → isO E G12 x0 3 ∧ (wpI E (d - 1) M_X3_isLess [vr (gR G12 x0 18), vr (gR G12 x0 15)] (sJ G12 (gR G2 x0 18) (Int32.toNatClampNeg (gI G2 (gR G2 (gR G2 x0 5) 4) (Int32.toNatClampNeg x1))) ((gJ G2 (gR G2 x0 18) (Int32.toNatClampNeg (gI G2 (gR G2 (gR G2 x0 5) 4) (Int32.toNatClampNeg x1)))) - ((Int32.toInt64 (gI G2 (gR G2 (gR G2 x0 5) 5) (Int32.toNatClampNeg x1))) * (Int32.toInt64 r11)))) (fun r16 G17 => (r16 = 0 → wp E d M_X3_bestLacking 186 [some (vr x0), some (vi x1), some (vi x2), some (vi x3), some (vi x4), some (vi x5), some (vi x6)] [] G17 Q) ∧ (¬ (r16 = 0) → wp E d M_X3_bestLacking 172 [some (vr x0), some (vi x1), some (vi x2), some (vi x3), some (vi x4), some (vi x5), some (vi x6)] [] G17 Q))))))))))))))))))) ∧ (¬ (3 ≤ x6) → isO E G x0 3 ∧ (isO E G (gR G x0 6) 9 ∧ (wpJ E (d - 1) M_X9_scoreOf [vr (gR G x0 6), vi x4, vi x6] G (fun r20 G21 => isO E G21 (gR G x0 18) 15 ∧ (vp_in x6 (gN G21 (gR G x0 18)) ∧ (wp E d M_X3_bestLacking 70 [some (vr x0), some (vi x1), some (vi x2), some (vi x3), some (vi x4), some (vi x5), some (vi (x6 + 1))] [] (sJ G21 (gR G x0 18) (Int32.toNatClampNeg x6) r20) Q))))))) : wp E d M_X3_bestLacking 70 [some (vr x0), some (vi x1), some (vi x2), some (vi x3), some (vi x4), some (vi x5), some (vi x6)] [] G Q := by
  refine wp_iload (pc := 70) d_X3_bestLacking_70 rfl ?_
  refine wp_iconst (pc := 72) (v := 3) d_X3_bestLacking_72 rfl ?_
  refine wp_icmp_ge (pc := 73) (tgt := 100) d_X3_bestLacking_73 (by decide) (fun hc => ?_) (fun hc => ?_)
  · have h := h.1 hc
    refine wp_aload_n (pc := 100) d_X3_bestLacking_100 rfl ?_
    obtain ⟨ho1, h⟩ := h
    refine wp_getR (pc := 101) d_X3_bestLacking_101 fl_X3_40 (fun _ _ _ => rfl) ho1 ?_
    refine wp_aload_n (pc := 104) d_X3_bestLacking_104 rfl ?_
    refine wp_getR (pc := 105) d_X3_bestLacking_105 fl_X3_33 (fun _ _ _ => rfl) ho1 ?_
    refine wp_iload (pc := 108) d_X3_bestLacking_108 rfl ?_
    obtain ⟨ho18, h⟩ := h
    refine wp_invV (pc := 110) (N := M_X2_look) (As := [vr _, vi _]) (rest := []) (r := (cn_2, ct_2, 15)) d_X3_bestLacking_110 ml_X3_126 mk_X2_look mv_X2_look h0 ho18 rfl rfl (Nat.le_of_ble_eq_true rfl) ?_
    refine wpM.mono h (fun rr G2 hr => ?_)
    obtain ⟨rfl, h⟩ := hr
    show wp E d M_X3_bestLacking 113 [some (vr _), some (vi _), some (vi _), some (vi _), some (vi _), some (vi _), some (vi _)] [] G2 Q
    refine wp_aload_n (pc := 113) d_X3_bestLacking_113 rfl ?_
    obtain ⟨ho3, h⟩ := h
    refine wp_getR (pc := 114) d_X3_bestLacking_114 fl_X3_85 (fun _ _ _ => rfl) ho3 ?_
    refine wp_aload_n (pc := 117) d_X3_bestLacking_117 rfl ?_
    refine wp_getR (pc := 118) d_X3_bestLacking_118 fl_X3_40 (fun _ _ _ => rfl) ho3 ?_
    obtain ⟨ho4, h⟩ := h
    refine wp_getR (pc := 121) d_X3_bestLacking_121 fl_X3_151 (fun _ _ _ => rfl) ho4 ?_
    refine wp_iload_n (pc := 124) d_X3_bestLacking_124 rfl ?_
    obtain ⟨ho5, h⟩ := h
    obtain ⟨hi6, h⟩ := h
    refine wp_iald (pc := 125) d_X3_bestLacking_125 ho5 hi6 ?_
    refine wp_dup2 (pc := 126) d_X3_bestLacking_126 (c1_i _) (c1_r _) ?_
    obtain ⟨ho7, h⟩ := h
    obtain ⟨hi8, h⟩ := h
    refine wp_lald (pc := 127) d_X3_bestLacking_127 ho7 hi8 ?_
    refine wp_aload_n (pc := 128) d_X3_bestLacking_128 rfl ?_
    refine wp_getR (pc := 129) d_X3_bestLacking_129 fl_X3_40 (fun _ _ _ => rfl) ho3 ?_
    refine wp_getR (pc := 132) d_X3_bestLacking_132 fl_X3_154 (fun _ _ _ => rfl) ho4 ?_
    refine wp_iload_n (pc := 135) d_X3_bestLacking_135 rfl ?_
    obtain ⟨ho9, h⟩ := h
    obtain ⟨hi10, h⟩ := h
    refine wp_iald (pc := 136) d_X3_bestLacking_136 ho9 hi10 ?_
    refine wp_i2l (pc := 137) d_X3_bestLacking_137 ?_
    refine wp_aload_n (pc := 138) d_X3_bestLacking_138 rfl ?_
    refine wp_getR (pc := 139) d_X3_bestLacking_139 fl_X3_40 (fun _ _ _ => rfl) ho3 ?_
    refine wp_iload_n (pc := 142) d_X3_bestLacking_142 rfl ?_
    refine wp_aload_n (pc := 143) d_X3_bestLacking_143 rfl ?_
    refine wp_getR (pc := 144) d_X3_bestLacking_144 fl_X3_51 (fun _ _ _ => rfl) ho3 ?_
    refine wp_invV (pc := 147) (N := M_X2_run) (As := [vi _, vr _]) (rest := [vj _, vj _, vi _, vr _]) (r := (cn_2, ct_2, 15)) d_X3_bestLacking_147 ml_X3_130 mk_X2_run mv_X2_run h0 ho4 rfl rfl (Nat.le_of_ble_eq_true rfl) ?_
    refine wpM.mono h (fun rr G12 hr => ?_)
    obtain ⟨r11, rfl, h⟩ := hr
    show wp E d M_X3_bestLacking 150 [some (vr _), some (vi _), some (vi _), some (vi _), some (vi _), some (vi _), some (vi _)] [vi _, vj _, vj _, vi _, vr _] G12 Q
    refine wp_i2l (pc := 150) d_X3_bestLacking_150 ?_
    refine wp_lmul (pc := 151) d_X3_bestLacking_151 ?_
    refine wp_lsub (pc := 152) d_X3_bestLacking_152 ?_
    obtain ⟨ho13, h⟩ := h
    obtain ⟨hi14, h⟩ := h
    refine wp_last (pc := 153) d_X3_bestLacking_153 ho13 hi14 ?_
    refine wp_iload_n (pc := 154) d_X3_bestLacking_154 rfl ?_
    refine wp_if_eq (pc := 155) (tgt := 172) d_X3_bestLacking_155 (by decide) (fun hc => ?_) (fun hc => ?_)
    · have h := h.1 hc
      refine wp_sub ?_ h
      exact ⟨rfl, ⟨rfl, ⟨rfl, ⟨rfl, ⟨rfl, ⟨rfl, ⟨rfl, trivial⟩⟩⟩⟩⟩⟩⟩
    · have h := h.2 hc
      refine wp_aload_n (pc := 158) d_X3_bestLacking_158 rfl ?_
      obtain ⟨ho15, h⟩ := h
      refine wp_getR (pc := 159) d_X3_bestLacking_159 fl_X3_85 (fun _ _ _ => rfl) ho15 ?_
      show wp E d M_X3_bestLacking 162 [some (vr x0), some (vi x1), some (vi x2), some (vi x3), some (vi x4), some (vi x5), some (vi x6)] [vr (gR G12 x0 18)] (sJ G12 (gR G2 x0 18) (Int32.toNatClampNeg (gI G2 (gR G2 (gR G2 x0 5) 4) (Int32.toNatClampNeg x1))) ((gJ G2 (gR G2 x0 18) (Int32.toNatClampNeg (gI G2 (gR G2 (gR G2 x0 5) 4) (Int32.toNatClampNeg x1)))) - ((Int32.toInt64 (gI G2 (gR G2 (gR G2 x0 5) 5) (Int32.toNatClampNeg x1))) * (Int32.toInt64 r11)))) Q
      refine wp_aload_n (pc := 162) d_X3_bestLacking_162 rfl ?_
      refine wp_getR (pc := 163) d_X3_bestLacking_163 fl_X3_76 (fun _ _ _ => rfl) ho15 ?_
      show wp E d M_X3_bestLacking 166 [some (vr x0), some (vi x1), some (vi x2), some (vi x3), some (vi x4), some (vi x5), some (vi x6)] [vr (gR G12 x0 15), vr (gR G12 x0 18)] (sJ G12 (gR G2 x0 18) (Int32.toNatClampNeg (gI G2 (gR G2 (gR G2 x0 5) 4) (Int32.toNatClampNeg x1))) ((gJ G2 (gR G2 x0 18) (Int32.toNatClampNeg (gI G2 (gR G2 (gR G2 x0 5) 4) (Int32.toNatClampNeg x1)))) - ((Int32.toInt64 (gI G2 (gR G2 (gR G2 x0 5) 5) (Int32.toNatClampNeg x1))) * (Int32.toInt64 r11)))) Q
      refine wp_invS (pc := 166) (N := M_X3_isLess) (As := [vr _, vr _]) (rest := []) d_X3_bestLacking_166 ml_X3_157 mk_X3_isLess ms_X3_isLess h0 (Nat.le_of_ble_eq_true rfl) ?_
      refine wpM.mono h (fun rr G17 hr => ?_)
      obtain ⟨r16, rfl, h⟩ := hr
      show wp E d M_X3_bestLacking 169 [some (vr _), some (vi _), some (vi _), some (vi _), some (vi _), some (vi _), some (vi _)] [vi _] G17 Q
      refine wp_if_eq (pc := 169) (tgt := 186) d_X3_bestLacking_169 (by decide) (fun hc => ?_) (fun hc => ?_)
      · have h := h.1 hc
        refine wp_sub ?_ h
        exact ⟨rfl, ⟨rfl, ⟨rfl, ⟨rfl, ⟨rfl, ⟨rfl, ⟨rfl, trivial⟩⟩⟩⟩⟩⟩⟩
      · have h := h.2 hc
        refine wp_sub ?_ h
        exact ⟨rfl, ⟨rfl, ⟨rfl, ⟨rfl, ⟨rfl, ⟨rfl, ⟨rfl, trivial⟩⟩⟩⟩⟩⟩⟩
  · have h := h.2 hc
    refine wp_aload_n (pc := 76) d_X3_bestLacking_76 rfl ?_
    obtain ⟨ho19, h⟩ := h
    refine wp_getR (pc := 77) d_X3_bestLacking_77 fl_X3_85 (fun _ _ _ => rfl) ho19 ?_
    refine wp_iload (pc := 80) d_X3_bestLacking_80 rfl ?_
    refine wp_aload_n (pc := 82) d_X3_bestLacking_82 rfl ?_
    refine wp_getR (pc := 83) d_X3_bestLacking_83 fl_X3_47 (fun _ _ _ => rfl) ho19 ?_
    refine wp_iload (pc := 86) d_X3_bestLacking_86 rfl ?_
    refine wp_iload (pc := 88) d_X3_bestLacking_88 rfl ?_
    obtain ⟨ho24, h⟩ := h
    refine wp_invV (pc := 90) (N := M_X9_scoreOf) (As := [vi _, vi _]) (rest := [vi _, vr _]) (r := (cn_9, ct_9, 8)) d_X3_bestLacking_90 ml_X3_147 mk_X9_scoreOf mv_X9_scoreOf h0 ho24 rfl rfl (Nat.le_of_ble_eq_true rfl) ?_
    refine wpM.mono h (fun rr G21 hr => ?_)
    obtain ⟨r20, rfl, h⟩ := hr
    show wp E d M_X3_bestLacking 93 [some (vr _), some (vi _), some (vi _), some (vi _), some (vi _), some (vi _), some (vi _)] [vj _, vi _, vr _] G21 Q
    obtain ⟨ho22, h⟩ := h
    obtain ⟨hi23, h⟩ := h
    refine wp_last (pc := 93) d_X3_bestLacking_93 ho22 hi23 ?_
    refine wp_iinc (pc := 94) (v := 1) (lv' := [some (vr _), some (vi _), some (vi _), some (vi _), some (vi _), some (vi _), some (vi _)]) d_X3_bestLacking_94 (by decide) rfl rfl rfl ?_
    refine wp_goto (pc := 97) (tgt := 70) d_X3_bestLacking_97 (by decide) ?_
    refine wp_sub ?_ h
    exact ⟨rfl, ⟨rfl, ⟨rfl, ⟨rfl, ⟨rfl, ⟨rfl, ⟨rfl, trivial⟩⟩⟩⟩⟩⟩⟩
theorem v_X3_bestLacking_172 {E : EE} {d : Nat} {Q : Option AV → AH → Prop} {x0 : Nat} {x1 : Int32} {x2 : Int32} {x3 : Int32} {x4 : Int32} {x5 : Int32} {x6 : Int32} {G : AH} (h0 : 0 < d) (h : isO E G x0 3 ∧ (isO E G (gR G x0 18) 15 ∧ (isO E G (gR G x0 15) 15 ∧ (¬ (0 : Int32) < 0 ∧ (¬ (0 : Int32) < 0 ∧ (¬ (3 : Int32) < 0 ∧ ((Int32.toNatClampNeg 0) + (Int32.toNatClampNeg 3) ≤ gN G (gR G x0 18) ∧ ((Int32.toNatClampNeg 0) + (Int32.toNatClampNeg 3) ≤ gN G (gR G x0 15) ∧ (wp E d M_X3_bestLacking 186 [some (vr x0), some (vi x1), some (vi x2), some (vi x3), some (vi x4), some (vi x5), some (vi x6)] [] (cpJ G (gR G x0 18) (gR G x0 15) (Int32.toNatClampNeg 0) (Int32.toNatClampNeg 0) (Int32.toNatClampNeg 3)) Q))))))))) : wp E d M_X3_bestLacking 172 [some (vr x0), some (vi x1), some (vi x2), some (vi x3), some (vi x4), some (vi x5), some (vi x6)] [] G Q := by
  refine wp_aload_n (pc := 172) d_X3_bestLacking_172 rfl ?_
  obtain ⟨ho1, h⟩ := h
  refine wp_getR (pc := 173) d_X3_bestLacking_173 fl_X3_85 (fun _ _ _ => rfl) ho1 ?_
  refine wp_iconst (pc := 176) (v := 0) d_X3_bestLacking_176 rfl ?_
  refine wp_aload_n (pc := 177) d_X3_bestLacking_177 rfl ?_
  refine wp_getR (pc := 178) d_X3_bestLacking_178 fl_X3_76 (fun _ _ _ => rfl) ho1 ?_
  refine wp_iconst (pc := 181) (v := 0) d_X3_bestLacking_181 rfl ?_
  refine wp_iconst (pc := 182) (v := 3) d_X3_bestLacking_182 rfl ?_
  obtain ⟨ho2, h⟩ := h
  obtain ⟨ho3, h⟩ := h
  obtain ⟨hc4, h⟩ := h
  obtain ⟨hc5, h⟩ := h
  obtain ⟨hc6, h⟩ := h
  obtain ⟨hc7, h⟩ := h
  obtain ⟨hc8, h⟩ := h
  refine wp_cpy (pc := 183) (c := 15) d_X3_bestLacking_183 ml_X3_161 nat_cpy st_cpy ii_sys h0 (by decide) rfl rfl ho2 ho3 hc4 hc5 hc6 hc7 hc8 (fun i _ => ⟨rfl, fun _ q => by cases q⟩) (Nat.le_of_ble_eq_true rfl) (pd_cpJ _ _ _ _ _ _) (cpy_vJ (E := E)) ?_
  refine wp_sub ?_ h
  exact ⟨rfl, ⟨rfl, ⟨rfl, ⟨rfl, ⟨rfl, ⟨rfl, ⟨rfl, trivial⟩⟩⟩⟩⟩⟩⟩
theorem v_X3_bestLacking_186 {E : EE} {d : Nat} {Q : Option AV → AH → Prop} {x0 : Nat} {x1 : Int32} {x2 : Int32} {x3 : Int32} {x4 : Int32} {x5 : Int32} {x6 : Int32} {G : AH} (h : wp E d M_X3_bestLacking 188 [some (vr x0), some (vi x1), some (vi 1), some (vi x3), some (vi x4), some (vi x5), none] [] G Q) : wp E d M_X3_bestLacking 186 [some (vr x0), some (vi x1), some (vi x2), some (vi x3), some (vi x4), some (vi x5), some (vi x6)] [] G Q := by
  refine wp_iconst (pc := 186) (v := 1) d_X3_bestLacking_186 rfl ?_
  refine wp_istore_n (pc := 187) (lv' := [some (vr _), some (vi _), some (vi _), some (vi _), some (vi _), some (vi _), some (vi _)]) d_X3_bestLacking_187 (by decide) rfl ?_
  refine wp_sub ?_ h
  exact ⟨rfl, ⟨rfl, ⟨rfl, ⟨rfl, ⟨rfl, ⟨rfl, trivial⟩⟩⟩⟩⟩⟩
theorem v_X3_bestLacking_188 {E : EE} {d : Nat} {Q : Option AV → AH → Prop} {x0 : Nat} {x1 : Int32} {x2 : Int32} {x3 : Int32} {x4 : Int32} {x5 : Int32} {G : AH} (h0 : 0 < d) (h : isO E G x0 3 ∧ (isO E G (gR G x0 4) 7 ∧ (wpI E (d - 1) M_X7_following [vr (gR G x0 4), vi x4, vi (gI G x0 9)] G (fun r2 G3 => wp E d M_X3_bestLacking 36 [some (vr x0), some (vi x1), some (vi x2), some (vi x3), some (vi r2), some (vi (x5 + 1)), none] [] G3 Q)))) : wp E d M_X3_bestLacking 188 [some (vr x0), some (vi x1), some (vi x2), some (vi x3), some (vi x4), some (vi x5), none] [] G Q := by
  refine wp_aload_n (pc := 188) d_X3_bestLacking_188 rfl ?_
  obtain ⟨ho1, h⟩ := h
  refine wp_getR (pc := 189) d_X3_bestLacking_189 fl_X3_33 (fun _ _ _ => rfl) ho1 ?_
  refine wp_iload (pc := 192) d_X3_bestLacking_192 rfl ?_
  refine wp_aload_n (pc := 194) d_X3_bestLacking_194 rfl ?_
  refine wp_getI (pc := 195) d_X3_bestLacking_195 fl_X3_58 (fun _ _ _ => rfl) ho1 ?_
  obtain ⟨ho4, h⟩ := h
  refine wp_invV (pc := 198) (N := M_X7_following) (As := [vi _, vi _]) (rest := []) (r := (cn_7, ct_7, 5)) d_X3_bestLacking_198 ml_X3_167 mk_X7_following mv_X7_following h0 ho4 rfl rfl (Nat.le_of_ble_eq_true rfl) ?_
  refine wpM.mono h (fun rr G3 hr => ?_)
  obtain ⟨r2, rfl, h⟩ := hr
  show wp E d M_X3_bestLacking 201 [some (vr _), some (vi _), some (vi _), some (vi _), some (vi _), some (vi _), none] [vi _] G3 Q
  refine wp_istore (pc := 201) (lv' := [some (vr _), some (vi _), some (vi _), some (vi _), some (vi _), some (vi _), none]) d_X3_bestLacking_201 (by decide) rfl ?_
  refine wp_iinc (pc := 203) (v := 1) (lv' := [some (vr _), some (vi _), some (vi _), some (vi _), some (vi _), some (vi _), none]) d_X3_bestLacking_203 (by decide) rfl rfl rfl ?_
  refine wp_goto (pc := 206) (tgt := 36) d_X3_bestLacking_206 (by decide) ?_
  refine wp_sub ?_ h
  exact ⟨rfl, ⟨rfl, ⟨rfl, ⟨rfl, ⟨rfl, ⟨rfl, trivial⟩⟩⟩⟩⟩⟩
theorem d_X3_costTo_0 : decode prog_5_method_9_code 0 = .ok (.iconst 0, 1) := by decide +kernel
theorem d_X3_costTo_1 : decode prog_5_method_9_code 1 = .ok (.istore_n 2, 1) := by decide +kernel
theorem d_X3_costTo_2 : decode prog_5_method_9_code 2 = .ok (.iconst 0, 1) := by decide +kernel
theorem d_X3_costTo_3 : decode prog_5_method_9_code 3 = .ok (.istore_n 3, 1) := by decide +kernel
theorem d_X3_costTo_4 : decode prog_5_method_9_code 4 = .ok (.iload_n 3, 1) := by decide +kernel
theorem d_X3_costTo_5 : decode prog_5_method_9_code 5 = .ok (.aload_n 0, 1) := by decide +kernel
theorem d_X3_costTo_6 : decode prog_5_method_9_code 6 = .ok (.getfield 33, 3) := by decide +kernel
theorem d_X3_costTo_9 : decode prog_5_method_9_code 9 = .ok (.getfield 101, 3) := by decide +kernel
theorem d_X3_costTo_12 : decode prog_5_method_9_code 12 = .ok (.if_icmp .ge 42, 3) := by decide +kernel
theorem d_X3_costTo_15 : decode prog_5_method_9_code 15 = .ok (.aload_n 0, 1) := by decide +kernel
theorem d_X3_costTo_16 : decode prog_5_method_9_code 16 = .ok (.getfield 33, 3) := by decide +kernel
theorem d_X3_costTo_19 : decode prog_5_method_9_code 19 = .ok (.iload_n 1, 1) := by decide +kernel
theorem d_X3_costTo_20 : decode prog_5_method_9_code 20 = .ok (.iload_n 3, 1) := by decide +kernel
theorem d_X3_costTo_21 : decode prog_5_method_9_code 21 = .ok (.invokevirtual 104, 3) := by decide +kernel
theorem d_X3_costTo_24 : decode prog_5_method_9_code 24 = .ok (.aload_n 0, 1) := by decide +kernel
theorem d_X3_costTo_25 : decode prog_5_method_9_code 25 = .ok (.getfield 33, 3) := by decide +kernel
theorem d_X3_costTo_28 : decode prog_5_method_9_code 28 = .ok (.aload_n 0, 1) := by decide +kernel
theorem d_X3_costTo_29 : decode prog_5_method_9_code 29 = .ok (.getfield 54, 3) := by decide +kernel
theorem d_X3_costTo_32 : decode prog_5_method_9_code 32 = .ok (.iload_n 3, 1) := by decide +kernel
theorem d_X3_costTo_33 : decode prog_5_method_9_code 33 = .ok (.invokevirtual 104, 3) := by decide +kernel
theorem d_X3_costTo_36 : decode prog_5_method_9_code 36 = .ok (.if_icmp .eq 12, 3) := by decide +kernel
theorem d_X3_costTo_39 : decode prog_5_method_9_code 39 = .ok (.iload_n 2, 1) := by decide +kernel
theorem d_X3_costTo_40 : decode prog_5_method_9_code 40 = .ok (.aload_n 0, 1) := by decide +kernel
theorem d_X3_costTo_41 : decode prog_5_method_9_code 41 = .ok (.getfield 61, 3) := by decide +kernel
theorem d_X3_costTo_44 : decode prog_5_method_9_code 44 = .ok (.iload_n 3, 1) := by decide +kernel
theorem d_X3_costTo_45 : decode prog_5_method_9_code 45 = .ok (.iaload, 1) := by decide +kernel
theorem d_X3_costTo_46 : decode prog_5_method_9_code 46 = .ok (.iadd, 1) := by decide +kernel
theorem d_X3_costTo_47 : decode prog_5_method_9_code 47 = .ok (.istore_n 2, 1) := by decide +kernel
theorem d_X3_costTo_48 : decode prog_5_method_9_code 48 = .ok (.iinc 3 1, 3) := by decide +kernel
theorem d_X3_costTo_51 : decode prog_5_method_9_code 51 = .ok (.goto (-47), 3) := by decide +kernel
theorem d_X3_costTo_54 : decode prog_5_method_9_code 54 = .ok (.iload_n 2, 1) := by decide +kernel
theorem d_X3_costTo_55 : decode prog_5_method_9_code 55 = .ok (.ireturn, 1) := by decide +kernel
theorem v_X3_costTo_0 {E : EE} {d : Nat} {Q : Option AV → AH → Prop} {x0 : Nat} {x1 : Int32} {G : AH} (h : wp E d M_X3_costTo 4 [some (vr x0), some (vi x1), some (vi 0), some (vi 0)] [] G Q) : wp E d M_X3_costTo 0 [some (vr x0), some (vi x1), none, none] [] G Q := by
  refine wp_iconst (pc := 0) (v := 0) d_X3_costTo_0 rfl ?_
  refine wp_istore_n (pc := 1) (lv' := [some (vr _), some (vi _), some (vi _), none]) d_X3_costTo_1 (by decide) rfl ?_
  refine wp_iconst (pc := 2) (v := 0) d_X3_costTo_2 rfl ?_
  refine wp_istore_n (pc := 3) (lv' := [some (vr _), some (vi _), some (vi _), some (vi _)]) d_X3_costTo_3 (by decide) rfl ?_
  refine wp_sub ?_ h
  exact ⟨rfl, ⟨rfl, ⟨rfl, ⟨rfl, trivial⟩⟩⟩⟩
theorem v_X3_costTo_4 {E : EE} {d : Nat} {Q : Option AV → AH → Prop} {x0 : Nat} {x1 : Int32} {x2 : Int32} {x3 : Int32} {G : AH} (h0 : 0 < d) (h : isO E G x0 3 ∧ (isO E G (gR G x0 4) 7 ∧ (((gI G (gR G x0 4) 0) ≤ x3 → Q (some (vi x2)) G) ∧ (¬ ((gI G (gR G x0 4) 0) ≤ x3) → wpI E (d - 1) M_X7_placeOf [vr (gR G x0 4), vi x1, vi x3] G (fun r3 G4 => isO E G4 x0 3 ∧ (isO E G4 (gR G4 x0 4) 7 ∧ (wpI E (d - 1) M_X7_placeOf [vr (gR G4 x0 4), vi (gI G4 x0 8), vi x3] G4 (fun r6 G7 => (r3 = r6 → wp E d M_X3_costTo 48 [some (vr x0), some (vi x1), some (vi x2), some (vi x3)] [] G7 Q) ∧ (¬ (r3 = r6) → isO E G7 x0 3 ∧ (isO E G7 (gR G7 x0 10) 14 ∧ (vp_in x3 (gN G7 (gR G7 x0 10)) ∧ (wp E d M_X3_costTo 48 [some (vr x0), some (vi x1), some (vi (x2 + (gI G7 (gR G7 x0 10) (Int32.toNatClampNeg x3)))), some (vi x3)] [] G7 Q)))))))))))) : wp E d M_X3_costTo 4 [some (vr x0), some (vi x1), some (vi x2), some (vi x3)] [] G Q := by
  refine wp_iload_n (pc := 4) d_X3_costTo_4 rfl ?_
  refine wp_aload_n (pc := 5) d_X3_costTo_5 rfl ?_
  obtain ⟨ho1, h⟩ := h
  refine wp_getR (pc := 6) d_X3_costTo_6 fl_X3_33 (fun _ _ _ => rfl) ho1 ?_
  obtain ⟨ho2, h⟩ := h
  refine wp_getI (pc := 9) d_X3_costTo_9 fl_X3_101 (fun _ _ _ => rfl) ho2 ?_
  refine wp_icmp_ge (pc := 12) (tgt := 54) d_X3_costTo_12 (by decide) (fun hc => ?_) (fun hc => ?_)
  · have h := h.1 hc
    refine wp_iload_n (pc := 54) d_X3_costTo_54 rfl ?_
    exact wp_iret (pc := 55) d_X3_costTo_55 rfl h
  · have h := h.2 hc
    refine wp_aload_n (pc := 15) d_X3_costTo_15 rfl ?_
    refine wp_getR (pc := 16) d_X3_costTo_16 fl_X3_33 (fun _ _ _ => rfl) ho1 ?_
    refine wp_iload_n (pc := 19) d_X3_costTo_19 rfl ?_
    refine wp_iload_n (pc := 20) d_X3_costTo_20 rfl ?_
    refine wp_invV (pc := 21) (N := M_X7_placeOf) (As := [vi _, vi _]) (rest := []) (r := (cn_7, ct_7, 5)) d_X3_costTo_21 ml_X3_104 mk_X7_placeOf mv_X7_placeOf h0 ho2 rfl rfl (Nat.le_of_ble_eq_true rfl) ?_
    refine wpM.mono h (fun rr G4 hr => ?_)
    obtain ⟨r3, rfl, h⟩ := hr
    show wp E d M_X3_costTo 24 [some (vr _), some (vi _), some (vi _), some (vi _)] [vi _] G4 Q
    refine wp_aload_n (pc := 24) d_X3_costTo_24 rfl ?_
    obtain ⟨ho5, h⟩ := h
    refine wp_getR (pc := 25) d_X3_costTo_25 fl_X3_33 (fun _ _ _ => rfl) ho5 ?_
    refine wp_aload_n (pc := 28) d_X3_costTo_28 rfl ?_
    refine wp_getI (pc := 29) d_X3_costTo_29 fl_X3_54 (fun _ _ _ => rfl) ho5 ?_
    refine wp_iload_n (pc := 32) d_X3_costTo_32 rfl ?_
    obtain ⟨ho11, h⟩ := h
    refine wp_invV (pc := 33) (N := M_X7_placeOf) (As := [vi _, vi _]) (rest := [vi _]) (r := (cn_7, ct_7, 5)) d_X3_costTo_33 ml_X3_104 mk_X7_placeOf mv_X7_placeOf h0 ho11 rfl rfl (Nat.le_of_ble_eq_true rfl) ?_
    refine wpM.mono h (fun rr G7 hr => ?_)
    obtain ⟨r6, rfl, h⟩ := hr
    show wp E d M_X3_costTo 36 [some (vr _), some (vi _), some (vi _), some (vi _)] [vi _, vi _] G7 Q
    refine wp_icmp_eq (pc := 36) (tgt := 48) d_X3_costTo_36 (by decide) (fun hc => ?_) (fun hc => ?_)
    · have h := h.1 hc
      refine wp_sub ?_ h
      exact ⟨rfl, ⟨rfl, ⟨rfl, ⟨rfl, trivial⟩⟩⟩⟩
    · have h := h.2 hc
      refine wp_iload_n (pc := 39) d_X3_costTo_39 rfl ?_
      refine wp_aload_n (pc := 40) d_X3_costTo_40 rfl ?_
      obtain ⟨ho8, h⟩ := h
      refine wp_getR (pc := 41) d_X3_costTo_41 fl_X3_61 (fun _ _ _ => rfl) ho8 ?_
      refine wp_iload_n (pc := 44) d_X3_costTo_44 rfl ?_
      obtain ⟨ho9, h⟩ := h
      obtain ⟨hi10, h⟩ := h
      refine wp_iald (pc := 45) d_X3_costTo_45 ho9 hi10 ?_
      refine wp_iadd (pc := 46) d_X3_costTo_46 ?_
      refine wp_istore_n (pc := 47) (lv' := [some (vr _), some (vi _), some (vi _), some (vi _)]) d_X3_costTo_47 (by decide) rfl ?_
      refine wp_sub ?_ h
      exact ⟨rfl, ⟨rfl, ⟨rfl, ⟨rfl, trivial⟩⟩⟩⟩
theorem v_X3_costTo_48 {E : EE} {d : Nat} {Q : Option AV → AH → Prop} {x0 : Nat} {x1 : Int32} {x2 : Int32} {x3 : Int32} {G : AH} (h : wp E d M_X3_costTo 4 [some (vr x0), some (vi x1), some (vi x2), some (vi (x3 + 1))] [] G Q) : wp E d M_X3_costTo 48 [some (vr x0), some (vi x1), some (vi x2), some (vi x3)] [] G Q := by
  refine wp_iinc (pc := 48) (v := 1) (lv' := [some (vr _), some (vi _), some (vi _), some (vi _)]) d_X3_costTo_48 (by decide) rfl rfl rfl ?_
  refine wp_goto (pc := 51) (tgt := 4) d_X3_costTo_51 (by decide) ?_
  refine wp_sub ?_ h
  exact ⟨rfl, ⟨rfl, ⟨rfl, ⟨rfl, trivial⟩⟩⟩⟩
theorem d_X1_init_0 : decode prog_3_method_1_code 0 = .ok (.aload_n 0, 1) := by decide +kernel
theorem d_X1_init_1 : decode prog_3_method_1_code 1 = .ok (.invokespecial 3, 3) := by decide +kernel
theorem d_X1_init_4 : decode prog_3_method_1_code 4 = .ok (.aload_n 0, 1) := by decide +kernel
theorem d_X1_init_5 : decode prog_3_method_1_code 5 = .ok (.bipush 12, 2) := by decide +kernel
theorem d_X1_init_7 : decode prog_3_method_1_code 7 = .ok (.newarray .int, 2) := by decide +kernel
theorem d_X1_init_9 : decode prog_3_method_1_code 9 = .ok (.putfield 9, 3) := by decide +kernel
theorem d_X1_init_12 : decode prog_3_method_1_code 12 = .ok (.aload_n 0, 1) := by decide +kernel
theorem d_X1_init_13 : decode prog_3_method_1_code 13 = .ok (.sipush 288, 3) := by decide +kernel
theorem d_X1_init_16 : decode prog_3_method_1_code 16 = .ok (.newarray .int, 2) := by decide +kernel
theorem d_X1_init_18 : decode prog_3_method_1_code 18 = .ok (.putfield 15, 3) := by decide +kernel
theorem d_X1_init_21 : decode prog_3_method_1_code 21 = .ok (.aload_n 0, 1) := by decide +kernel
theorem d_X1_init_22 : decode prog_3_method_1_code 22 = .ok (.bipush 12, 2) := by decide +kernel
theorem d_X1_init_24 : decode prog_3_method_1_code 24 = .ok (.newarray .int, 2) := by decide +kernel
theorem d_X1_init_26 : decode prog_3_method_1_code 26 = .ok (.putfield 18, 3) := by decide +kernel
theorem d_X1_init_29 : decode prog_3_method_1_code 29 = .ok (.aload_n 0, 1) := by decide +kernel
theorem d_X1_init_30 : decode prog_3_method_1_code 30 = .ok (.bipush 12, 2) := by decide +kernel
theorem d_X1_init_32 : decode prog_3_method_1_code 32 = .ok (.newarray .int, 2) := by decide +kernel
theorem d_X1_init_34 : decode prog_3_method_1_code 34 = .ok (.putfield 21, 3) := by decide +kernel
theorem d_X1_init_37 : decode prog_3_method_1_code 37 = .ok (.aload_n 0, 1) := by decide +kernel
theorem d_X1_init_38 : decode prog_3_method_1_code 38 = .ok (.iconst 0, 1) := by decide +kernel
theorem d_X1_init_39 : decode prog_3_method_1_code 39 = .ok (.putfield 24, 3) := by decide +kernel
theorem d_X1_init_42 : decode prog_3_method_1_code 42 = .ok (.aload_n 0, 1) := by decide +kernel
theorem d_X1_init_43 : decode prog_3_method_1_code 43 = .ok (.iconst 0, 1) := by decide +kernel
theorem d_X1_init_44 : decode prog_3_method_1_code 44 = .ok (.newarray .boolean, 2) := by decide +kernel
theorem d_X1_init_46 : decode prog_3_method_1_code 46 = .ok (.putfield 28, 3) := by decide +kernel
theorem d_X1_init_49 : decode prog_3_method_1_code 49 = .ok (.return_, 1) := by decide +kernel
theorem v_X1_init_0 {E : EE} {d : Nat} {Q : Option AV → AH → Prop} {x0 : Nat} {G : AH} (h0 : 0 < d) (h : isO E G x0 1 ∧ (eB E ≤ gT G ∧ (∀ G6 : AH, G6 = nw G 14 (Int32.toNatClampNeg 12) (Int32.toNatClampNeg 12) → ∀ G10 : AH, G10 = sR G6 x0 0 (gT G) → ∀ G16 : AH, G16 = nw G10 14 (Int32.toNatClampNeg 288) (Int32.toNatClampNeg 288) → ∀ G20 : AH, G20 = sR G16 x0 1 (gT G10) → ∀ G26 : AH, G26 = nw G20 14 (Int32.toNatClampNeg 12) (Int32.toNatClampNeg 12) → ∀ G30 : AH, G30 = sR G26 x0 2 (gT G20) → ∀ G36 : AH, G36 = nw G30 14 (Int32.toNatClampNeg 12) (Int32.toNatClampNeg 12) → ∀ G40 : AH, G40 = sR G36 x0 3 (gT G30) → ∀ G43 : AH, G43 = sI G40 x0 4 0 → ∀ G49 : AH, G49 = nw G43 16 (Int32.toNatClampNeg 0) (Int32.toNatClampNeg 0) → ∀ G53 : AH, G53 = sR G49 x0 5 (gT G43) → Q none G53))) : wp E d M_X1_init 0 [some (vr x0)] [] G Q := by
  refine wp_aload_n (pc := 0) d_X1_init_0 rfl ?_
  obtain ⟨ho1, h⟩ := h
  refine wp_objI (pc := 1) d_X1_init_1 ml_X1_3 in_obj mc_obj h0 ho1 (Nat.le_of_ble_eq_true rfl) ?_
  refine wp_aload_n (pc := 4) d_X1_init_4 rfl ?_
  refine wp_bipush (pc := 5) (v := 12) d_X1_init_5 rfl ?_
  obtain ⟨hb2, h⟩ := h
  refine wp_newa (pc := 7) (t0 := 1) (kd := 14) d_X1_init_7 rfl (fun _ q => by cases q) ac_int (by decide) (fun _ => rfl) rfl (by decide) (by decide) (by decide) ?_
  refine wp_nm (fun G6 eG6 => ?_)
  have h := h G6 eG6
  have ho7 := isO_nwE eG6 ho1
  have hb8 := base_nwE eG6 hb2
  have ho9 := isO_newE eG6 hb2
  refine wp_putR (pc := 9) d_X1_init_9 fl_X1_9 (fun _ _ _ => rfl) (Or.inr ⟨_, rfl⟩) (Or.inr ⟨rfl, rfl, rfl⟩) ho7 ?_
  refine wp_nm (fun G10 eG10 => ?_)
  have h := h G10 eG10
  have ho11 := isO_sR eG10 ho7
  have hb12 := base_sR eG10 hb8
  refine wp_aload_n (pc := 12) d_X1_init_12 rfl ?_
  refine wp_sipush (pc := 13) (v := 288) d_X1_init_13 rfl ?_
  refine wp_newa (pc := 16) (t0 := 1) (kd := 14) d_X1_init_16 rfl (fun _ q => by cases q) ac_int (by decide) (fun _ => rfl) rfl (by decide) (by decide) (by decide) ?_
  refine wp_nm (fun G16 eG16 => ?_)
  have h := h G16 eG16
  have ho17 := isO_nwE eG16 ho11
  have hb18 := base_nwE eG16 hb12
  have ho19 := isO_newE eG16 hb12
  refine wp_putR (pc := 18) d_X1_init_18 fl_X1_15 (fun _ _ _ => rfl) (Or.inr ⟨_, rfl⟩) (Or.inr ⟨rfl, rfl, rfl⟩) ho17 ?_
  refine wp_nm (fun G20 eG20 => ?_)
  have h := h G20 eG20
  have ho21 := isO_sR eG20 ho17
  have hb22 := base_sR eG20 hb18
  refine wp_aload_n (pc := 21) d_X1_init_21 rfl ?_
  refine wp_bipush (pc := 22) (v := 12) d_X1_init_22 rfl ?_
  refine wp_newa (pc := 24) (t0 := 1) (kd := 14) d_X1_init_24 rfl (fun _ q => by cases q) ac_int (by decide) (fun _ => rfl) rfl (by decide) (by decide) (by decide) ?_
  refine wp_nm (fun G26 eG26 => ?_)
  have h := h G26 eG26
  have ho27 := isO_nwE eG26 ho21
  have hb28 := base_nwE eG26 hb22
  have ho29 := isO_newE eG26 hb22
  refine wp_putR (pc := 26) d_X1_init_26 fl_X1_18 (fun _ _ _ => rfl) (Or.inr ⟨_, rfl⟩) (Or.inr ⟨rfl, rfl, rfl⟩) ho27 ?_
  refine wp_nm (fun G30 eG30 => ?_)
  have h := h G30 eG30
  have ho31 := isO_sR eG30 ho27
  have hb32 := base_sR eG30 hb28
  refine wp_aload_n (pc := 29) d_X1_init_29 rfl ?_
  refine wp_bipush (pc := 30) (v := 12) d_X1_init_30 rfl ?_
  refine wp_newa (pc := 32) (t0 := 1) (kd := 14) d_X1_init_32 rfl (fun _ q => by cases q) ac_int (by decide) (fun _ => rfl) rfl (by decide) (by decide) (by decide) ?_
  refine wp_nm (fun G36 eG36 => ?_)
  have h := h G36 eG36
  have ho37 := isO_nwE eG36 ho31
  have hb38 := base_nwE eG36 hb32
  have ho39 := isO_newE eG36 hb32
  refine wp_putR (pc := 34) d_X1_init_34 fl_X1_21 (fun _ _ _ => rfl) (Or.inr ⟨_, rfl⟩) (Or.inr ⟨rfl, rfl, rfl⟩) ho37 ?_
  refine wp_nm (fun G40 eG40 => ?_)
  have h := h G40 eG40
  have ho41 := isO_sR eG40 ho37
  have hb42 := base_sR eG40 hb38
  refine wp_aload_n (pc := 37) d_X1_init_37 rfl ?_
  refine wp_iconst (pc := 38) (v := 0) d_X1_init_38 rfl ?_
  refine wp_putI (pc := 39) d_X1_init_39 fl_X1_24 (fun _ _ _ => rfl) (Or.inl rfl) ho41 (okI_int _) ?_
  refine wp_nm (fun G43 eG43 => ?_)
  have h := h G43 eG43
  have ho44 := isO_sI eG43 ho41
  have hb45 := base_sI eG43 hb42
  refine wp_aload_n (pc := 42) d_X1_init_42 rfl ?_
  refine wp_iconst (pc := 43) (v := 0) d_X1_init_43 rfl ?_
  refine wp_newa (pc := 44) (t0 := 3) (kd := 16) d_X1_init_44 rfl (fun _ q => by cases q) ac_boolean (by decide) (fun _ => rfl) rfl (by decide) (by decide) (by decide) ?_
  refine wp_nm (fun G49 eG49 => ?_)
  have h := h G49 eG49
  have ho50 := isO_nwE eG49 ho44
  have hb51 := base_nwE eG49 hb45
  have ho52 := isO_newE eG49 hb45
  refine wp_putR (pc := 46) d_X1_init_46 fl_X1_28 (fun _ _ _ => rfl) (Or.inr ⟨_, rfl⟩) (Or.inl rfl) ho50 ?_
  refine wp_nm (fun G53 eG53 => ?_)
  have h := h G53 eG53
  have ho54 := isO_sR eG53 ho50
  have hb55 := base_sR eG53 hb51
  exact wp_vret (pc := 49) d_X1_init_49 rfl h
theorem d_X1_cheapest_0 : decode prog_3_method_10_code 0 = .ok (.aload_n 0, 1) := by decide +kernel
theorem d_X1_cheapest_1 : decode prog_3_method_10_code 1 = .ok (.aload_n 1, 1) := by decide +kernel
theorem d_X1_cheapest_2 : decode prog_3_method_10_code 2 = .ok (.invokevirtual 114, 3) := by decide +kernel
theorem d_X1_cheapest_5 : decode prog_3_method_10_code 5 = .ok (.istore_n 2, 1) := by decide +kernel
theorem d_X1_cheapest_6 : decode prog_3_method_10_code 6 = .ok (.iconst 0, 1) := by decide +kernel
theorem d_X1_cheapest_7 : decode prog_3_method_10_code 7 = .ok (.istore_n 3, 1) := by decide +kernel
theorem d_X1_cheapest_8 : decode prog_3_method_10_code 8 = .ok (.ldc 125, 2) := by decide +kernel
theorem d_X1_cheapest_10 : decode prog_3_method_10_code 10 = .ok (.istore 4, 2) := by decide +kernel
theorem d_X1_cheapest_12 : decode prog_3_method_10_code 12 = .ok (.iconst 0, 1) := by decide +kernel
theorem d_X1_cheapest_13 : decode prog_3_method_10_code 13 = .ok (.istore 5, 2) := by decide +kernel
theorem d_X1_cheapest_15 : decode prog_3_method_10_code 15 = .ok (.iload 5, 2) := by decide +kernel
theorem d_X1_cheapest_17 : decode prog_3_method_10_code 17 = .ok (.iload_n 2, 1) := by decide +kernel
theorem d_X1_cheapest_18 : decode prog_3_method_10_code 18 = .ok (.if_icmp .gt 49, 3) := by decide +kernel
theorem d_X1_cheapest_21 : decode prog_3_method_10_code 21 = .ok (.aload_n 0, 1) := by decide +kernel
theorem d_X1_cheapest_22 : decode prog_3_method_10_code 22 = .ok (.aload_n 1, 1) := by decide +kernel
theorem d_X1_cheapest_23 : decode prog_3_method_10_code 23 = .ok (.iload 5, 2) := by decide +kernel
theorem d_X1_cheapest_25 : decode prog_3_method_10_code 25 = .ok (.invokevirtual 126, 3) := by decide +kernel
theorem d_X1_cheapest_28 : decode prog_3_method_10_code 28 = .ok (.istore 6, 2) := by decide +kernel
theorem d_X1_cheapest_30 : decode prog_3_method_10_code 30 = .ok (.iload 6, 2) := by decide +kernel
theorem d_X1_cheapest_32 : decode prog_3_method_10_code 32 = .ok (.iload 4, 2) := by decide +kernel
theorem d_X1_cheapest_34 : decode prog_3_method_10_code 34 = .ok (.if_icmp .ge 27, 3) := by decide +kernel
theorem d_X1_cheapest_37 : decode prog_3_method_10_code 37 = .ok (.aload_n 0, 1) := by decide +kernel
theorem d_X1_cheapest_38 : decode prog_3_method_10_code 38 = .ok (.iload_n 2, 1) := by decide +kernel
theorem d_X1_cheapest_39 : decode prog_3_method_10_code 39 = .ok (.iload 5, 2) := by decide +kernel
theorem d_X1_cheapest_41 : decode prog_3_method_10_code 41 = .ok (.iconst (-1), 1) := by decide +kernel
theorem d_X1_cheapest_42 : decode prog_3_method_10_code 42 = .ok (.ixor, 1) := by decide +kernel
theorem d_X1_cheapest_43 : decode prog_3_method_10_code 43 = .ok (.iand, 1) := by decide +kernel
theorem d_X1_cheapest_44 : decode prog_3_method_10_code 44 = .ok (.iload_n 2, 1) := by decide +kernel
theorem d_X1_cheapest_45 : decode prog_3_method_10_code 45 = .ok (.invokevirtual 118, 3) := by decide +kernel
theorem d_X1_cheapest_48 : decode prog_3_method_10_code 48 = .ok (.ifCond .eq 6, 3) := by decide +kernel
theorem d_X1_cheapest_51 : decode prog_3_method_10_code 51 = .ok (.goto 10, 3) := by decide +kernel
theorem d_X1_cheapest_54 : decode prog_3_method_10_code 54 = .ok (.iload 6, 2) := by decide +kernel
theorem d_X1_cheapest_56 : decode prog_3_method_10_code 56 = .ok (.istore 4, 2) := by decide +kernel
theorem d_X1_cheapest_58 : decode prog_3_method_10_code 58 = .ok (.iload 5, 2) := by decide +kernel
theorem d_X1_cheapest_60 : decode prog_3_method_10_code 60 = .ok (.istore_n 3, 1) := by decide +kernel
theorem d_X1_cheapest_61 : decode prog_3_method_10_code 61 = .ok (.iinc 5 1, 3) := by decide +kernel
theorem d_X1_cheapest_64 : decode prog_3_method_10_code 64 = .ok (.goto (-49), 3) := by decide +kernel
theorem d_X1_cheapest_67 : decode prog_3_method_10_code 67 = .ok (.aload_n 0, 1) := by decide +kernel
theorem d_X1_cheapest_68 : decode prog_3_method_10_code 68 = .ok (.iload_n 3, 1) := by decide +kernel
theorem d_X1_cheapest_69 : decode prog_3_method_10_code 69 = .ok (.invokevirtual 122, 3) := by decide +kernel
theorem d_X1_cheapest_72 : decode prog_3_method_10_code 72 = .ok (.ireturn, 1) := by decide +kernel
theorem v_X1_cheapest_0 {E : EE} {d : Nat} {Q : Option AV → AH → Prop} {x0 : Nat} {x1 : Nat} {G : AH} (h0 : 0 < d) (h : isO E G x0 1 ∧ (wpI E (d - 1) M_X1_lookAtSets [vr x0, vr x1] G (fun r1 G2 => wp E d M_X1_cheapest 15 [some (vr x0), some (vr x1), some (vi r1), some (vi 0), some (vi 2147483647), some (vi 0), none] [] G2 Q))) : wp E d M_X1_cheapest 0 [some (vr x0), some (vr x1), none, none, none, none, none] [] G Q := by
  refine wp_aload_n (pc := 0) d_X1_cheapest_0 rfl ?_
  refine wp_aload_n (pc := 1) d_X1_cheapest_1 rfl ?_
  obtain ⟨ho3, h⟩ := h
  refine wp_invV (pc := 2) (N := M_X1_lookAtSets) (As := [vr _]) (rest := []) (r := (cn_1, ct_1, 6)) d_X1_cheapest_2 ml_X1_114 mk_X1_lookAtSets mv_X1_lookAtSets h0 ho3 rfl rfl (Nat.le_of_ble_eq_true rfl) ?_
  refine wpM.mono h (fun rr G2 hr => ?_)
  obtain ⟨r1, rfl, h⟩ := hr
  show wp E d M_X1_cheapest 5 [some (vr _), some (vr _), none, none, none, none, none] [vi _] G2 Q
  refine wp_istore_n (pc := 5) (lv' := [some (vr _), some (vr _), some (vi _), none, none, none, none]) d_X1_cheapest_5 (by decide) rfl ?_
  refine wp_iconst (pc := 6) (v := 0) d_X1_cheapest_6 rfl ?_
  refine wp_istore_n (pc := 7) (lv' := [some (vr _), some (vr _), some (vi _), some (vi _), none, none, none]) d_X1_cheapest_7 (by decide) rfl ?_
  refine wp_ldc (pc := 8) (v := 2147483647) d_X1_cheapest_8 ci_X1_125 ?_
  refine wp_istore (pc := 10) (lv' := [some (vr _), some (vr _), some (vi _), some (vi _), some (vi _), none, none]) d_X1_cheapest_10 (by decide) rfl ?_
  refine wp_iconst (pc := 12) (v := 0) d_X1_cheapest_12 rfl ?_
  refine wp_istore (pc := 13) (lv' := [some (vr _), some (vr _), some (vi _), some (vi _), some (vi _), some (vi _), none]) d_X1_cheapest_13 (by decide) rfl ?_
  refine wp_sub ?_ h
  exact ⟨rfl, ⟨rfl, ⟨rfl, ⟨rfl, ⟨rfl, ⟨rfl, trivial⟩⟩⟩⟩⟩⟩
theorem v_X1_cheapest_15 {E : EE} {d : Nat} {Q : Option AV → AH → Prop} {x0 : Nat} {x1 : Nat} {x2 : Int32} {x3 : Int32} {x4 : Int32} {x5 : Int32} {G : AH} (h0 : 0 < d) (h : (x2 < x5 → isO E G x0 1 ∧ (wpI E (d - 1) M_X1_byNumber [vr x0, vi x3] G (fun r1 G2 => Q (some (vi r1)) G2))) ∧ (¬ (x2 < x5) → isO E G x0 1 ∧ (wpI E (d - 1) M_X1_weightOf [vr x0, vr x1, vi x5] G (fun r4 G5 => (x4 ≤ r4 → wp E d M_X1_cheapest 61 [some (vr x0), some (vr x1), some (vi x2), some (vi x3), some (vi x4), some (vi x5), some (vi r4)] [] G5 Q) ∧ (¬ (x4 ≤ r4) → isO E G5 x0 1 ∧ (wpI E (d - 1) M_X1_isClash [vr x0, vi (x2 &&& (x5 ^^^ (-1))), vi x2] G5 (fun r6 G7 => (r6 = 0 → wp E d M_X1_cheapest 61 [some (vr x0), some (vr x1), some (vi x2), some (vi x5), some (vi r4), some (vi x5), some (vi r4)] [] G7 Q) ∧ (¬ (r6 = 0) → wp E d M_X1_cheapest 61 [some (vr x0), some (vr x1), some (vi x2), some (vi x3), some (vi x4), some (vi x5), some (vi r4)] [] G7 Q)))))))) : wp E d M_X1_cheapest 15 [some (vr x0), some (vr x1), some (vi x2), some (vi x3), some (vi x4), some (vi x5), none] [] G Q := by
  refine wp_iload (pc := 15) d_X1_cheapest_15 rfl ?_
  refine wp_iload_n (pc := 17) d_X1_cheapest_17 rfl ?_
  refine wp_icmp_gt (pc := 18) (tgt := 67) d_X1_cheapest_18 (by decide) (fun hc => ?_) (fun hc => ?_)
  · have h := h.1 hc
    refine wp_aload_n (pc := 67) d_X1_cheapest_67 rfl ?_
    refine wp_iload_n (pc := 68) d_X1_cheapest_68 rfl ?_
    obtain ⟨ho3, h⟩ := h
    refine wp_invV (pc := 69) (N := M_X1_byNumber) (As := [vi _]) (rest := []) (r := (cn_1, ct_1, 6)) d_X1_cheapest_69 ml_X1_122 mk_X1_byNumber mv_X1_byNumber h0 ho3 rfl rfl (Nat.le_of_ble_eq_true rfl) ?_
    refine wpM.mono h (fun rr G2 hr => ?_)
    obtain ⟨r1, rfl, h⟩ := hr
    show wp E d M_X1_cheapest 72 [some (vr _), some (vr _), some (vi _), some (vi _), some (vi _), some (vi _), none] [vi _] G2 Q
    exact wp_iret (pc := 72) d_X1_cheapest_72 rfl h
  · have h := h.2 hc
    refine wp_aload_n (pc := 21) d_X1_cheapest_21 rfl ?_
    refine wp_aload_n (pc := 22) d_X1_cheapest_22 rfl ?_
    refine wp_iload (pc := 23) d_X1_cheapest_23 rfl ?_
    obtain ⟨ho9, h⟩ := h
    refine wp_invV (pc := 25) (N := M_X1_weightOf) (As := [vr _, vi _]) (rest := []) (r := (cn_1, ct_1, 6)) d_X1_cheapest_25 ml_X1_126 mk_X1_weightOf mv_X1_weightOf h0 ho9 rfl rfl (Nat.le_of_ble_eq_true rfl) ?_
    refine wpM.mono h (fun rr G5 hr => ?_)
    obtain ⟨r4, rfl, h⟩ := hr
    show wp E d M_X1_cheapest 28 [some (vr _), some (vr _), some (vi _), some (vi _), some (vi _), some (vi _), none] [vi _] G5 Q
    refine wp_istore (pc := 28) (lv' := [some (vr _), some (vr _), some (vi _), some (vi _), some (vi _), some (vi _), some (vi _)]) d_X1_cheapest_28 (by decide) rfl ?_
    refine wp_iload (pc := 30) d_X1_cheapest_30 rfl ?_
    refine wp_iload (pc := 32) d_X1_cheapest_32 rfl ?_
    refine wp_icmp_ge (pc := 34) (tgt := 61) d_X1_cheapest_34 (by decide) (fun hc => ?_) (fun hc => ?_)
    · have h := h.1 hc
      refine wp_sub ?_ h
      exact ⟨rfl, ⟨rfl, ⟨rfl, ⟨rfl, ⟨rfl, ⟨rfl, ⟨rfl, trivial⟩⟩⟩⟩⟩⟩⟩
    · have h := h.2 hc
      refine wp_aload_n (pc := 37) d_X1_cheapest_37 rfl ?_
      refine wp_iload_n (pc := 38) d_X1_cheapest_38 rfl ?_
      refine wp_iload (pc := 39) d_X1_cheapest_39 rfl ?_
      refine wp_iconst (pc := 41) (v := (-1)) d_X1_cheapest_41 rfl ?_
      refine wp_ixor (pc := 42) d_X1_cheapest_42 ?_
      refine wp_iand (pc := 43) d_X1_cheapest_43 ?_
      refine wp_iload_n (pc := 44) d_X1_cheapest_44 rfl ?_
      obtain ⟨ho8, h⟩ := h
      refine wp_invV (pc := 45) (N := M_X1_isClash) (As := [vi _, vi _]) (rest := []) (r := (cn_1, ct_1, 6)) d_X1_cheapest_45 ml_X1_118 mk_X1_isClash mv_X1_isClash h0 ho8 rfl rfl (Nat.le_of_ble_eq_true rfl) ?_
      refine wpM.mono h (fun rr G7 hr => ?_)
      obtain ⟨r6, rfl, h⟩ := hr
      show wp E d M_X1_cheapest 48 [some (vr _), some (vr _), some (vi _), some (vi _), some (vi _), some (vi _), some (vi _)] [vi _] G7 Q
      refine wp_if_eq (pc := 48) (tgt := 54) d_X1_cheapest_48 (by decide) (fun hc => ?_) (fun hc => ?_)
      · have h := h.1 hc
        refine wp_iload (pc := 54) d_X1_cheapest_54 rfl ?_
        refine wp_istore (pc := 56) (lv' := [some (vr _), some (vr _), some (vi _), some (vi _), some (vi _), some (vi _), some (vi _)]) d_X1_cheapest_56 (by decide) rfl ?_
        refine wp_iload (pc := 58) d_X1_cheapest_58 rfl ?_
        refine wp_istore_n (pc := 60) (lv' := [some (vr _), some (vr _), some (vi _), some (vi _), some (vi _), some (vi _), some (vi _)]) d_X1_cheapest_60 (by decide) rfl ?_
        refine wp_sub ?_ h
        exact ⟨rfl, ⟨rfl, ⟨rfl, ⟨rfl, ⟨rfl, ⟨rfl, ⟨rfl, trivial⟩⟩⟩⟩⟩⟩⟩
      · have h := h.2 hc
        refine wp_goto (pc := 51) (tgt := 61) d_X1_cheapest_51 (by decide) ?_
        refine wp_sub ?_ h
        exact ⟨rfl, ⟨rfl, ⟨rfl, ⟨rfl, ⟨rfl, ⟨rfl, ⟨rfl, trivial⟩⟩⟩⟩⟩⟩⟩
theorem v_X1_cheapest_61 {E : EE} {d : Nat} {Q : Option AV → AH → Prop} {x0 : Nat} {x1 : Nat} {x2 : Int32} {x3 : Int32} {x4 : Int32} {x5 : Int32} {x6 : Int32} {G : AH} (h : wp E d M_X1_cheapest 15 [some (vr x0), some (vr x1), some (vi x2), some (vi x3), some (vi x4), some (vi (x5 + 1)), none] [] G Q) : wp E d M_X1_cheapest 61 [some (vr x0), some (vr x1), some (vi x2), some (vi x3), some (vi x4), some (vi x5), some (vi x6)] [] G Q := by
  refine wp_iinc (pc := 61) (v := 1) (lv' := [some (vr _), some (vr _), some (vi _), some (vi _), some (vi _), some (vi _), some (vi _)]) d_X1_cheapest_61 (by decide) rfl rfl rfl ?_
  refine wp_goto (pc := 64) (tgt := 15) d_X1_cheapest_64 (by decide) ?_
  refine wp_sub ?_ h
  exact ⟨rfl, ⟨rfl, ⟨rfl, ⟨rfl, ⟨rfl, ⟨rfl, trivial⟩⟩⟩⟩⟩⟩
theorem d_X1_lookAtSets_0 : decode prog_3_method_11_code 0 = .ok (.aload_n 0, 1) := by decide +kernel
theorem d_X1_lookAtSets_1 : decode prog_3_method_11_code 1 = .ok (.aload_n 1, 1) := by decide +kernel
theorem d_X1_lookAtSets_2 : decode prog_3_method_11_code 2 = .ok (.invokevirtual 32, 3) := by decide +kernel
theorem d_X1_lookAtSets_5 : decode prog_3_method_11_code 5 = .ok (.aload_n 0, 1) := by decide +kernel
theorem d_X1_lookAtSets_6 : decode prog_3_method_11_code 6 = .ok (.getfield 28, 3) := by decide +kernel
theorem d_X1_lookAtSets_9 : decode prog_3_method_11_code 9 = .ok (.arraylength, 1) := by decide +kernel
theorem d_X1_lookAtSets_10 : decode prog_3_method_11_code 10 = .ok (.ifCond .ne 12, 3) := by decide +kernel
theorem d_X1_lookAtSets_13 : decode prog_3_method_11_code 13 = .ok (.aload_n 0, 1) := by decide +kernel
theorem d_X1_lookAtSets_14 : decode prog_3_method_11_code 14 = .ok (.sipush 4096, 3) := by decide +kernel
theorem d_X1_lookAtSets_17 : decode prog_3_method_11_code 17 = .ok (.newarray .boolean, 2) := by decide +kernel
theorem d_X1_lookAtSets_19 : decode prog_3_method_11_code 19 = .ok (.putfield 28, 3) := by decide +kernel
theorem d_X1_lookAtSets_22 : decode prog_3_method_11_code 22 = .ok (.iconst 1, 1) := by decide +kernel
theorem d_X1_lookAtSets_23 : decode prog_3_method_11_code 23 = .ok (.aload_n 0, 1) := by decide +kernel
theorem d_X1_lookAtSets_24 : decode prog_3_method_11_code 24 = .ok (.getfield 24, 3) := by decide +kernel
theorem d_X1_lookAtSets_27 : decode prog_3_method_11_code 27 = .ok (.ishl, 1) := by decide +kernel
theorem d_X1_lookAtSets_28 : decode prog_3_method_11_code 28 = .ok (.iconst 1, 1) := by decide +kernel
theorem d_X1_lookAtSets_29 : decode prog_3_method_11_code 29 = .ok (.isub, 1) := by decide +kernel
theorem d_X1_lookAtSets_30 : decode prog_3_method_11_code 30 = .ok (.istore_n 2, 1) := by decide +kernel
theorem d_X1_lookAtSets_31 : decode prog_3_method_11_code 31 = .ok (.iconst 0, 1) := by decide +kernel
theorem d_X1_lookAtSets_32 : decode prog_3_method_11_code 32 = .ok (.istore_n 3, 1) := by decide +kernel
theorem d_X1_lookAtSets_33 : decode prog_3_method_11_code 33 = .ok (.iload_n 3, 1) := by decide +kernel
theorem d_X1_lookAtSets_34 : decode prog_3_method_11_code 34 = .ok (.iload_n 2, 1) := by decide +kernel
theorem d_X1_lookAtSets_35 : decode prog_3_method_11_code 35 = .ok (.if_icmp .gt 16, 3) := by decide +kernel
theorem d_X1_lookAtSets_38 : decode prog_3_method_11_code 38 = .ok (.aload_n 0, 1) := by decide +kernel
theorem d_X1_lookAtSets_39 : decode prog_3_method_11_code 39 = .ok (.getfield 28, 3) := by decide +kernel
theorem d_X1_lookAtSets_42 : decode prog_3_method_11_code 42 = .ok (.iload_n 3, 1) := by decide +kernel
theorem d_X1_lookAtSets_43 : decode prog_3_method_11_code 43 = .ok (.iconst 0, 1) := by decide +kernel
theorem d_X1_lookAtSets_44 : decode prog_3_method_11_code 44 = .ok (.bastore, 1) := by decide +kernel
theorem d_X1_lookAtSets_45 : decode prog_3_method_11_code 45 = .ok (.iinc 3 1, 3) := by decide +kernel
theorem d_X1_lookAtSets_48 : decode prog_3_method_11_code 48 = .ok (.goto (-15), 3) := by decide +kernel
theorem d_X1_lookAtSets_51 : decode prog_3_method_11_code 51 = .ok (.aload_n 1, 1) := by decide +kernel
theorem d_X1_lookAtSets_52 : decode prog_3_method_11_code 52 = .ok (.getfield 36, 3) := by decide +kernel
theorem d_X1_lookAtSets_55 : decode prog_3_method_11_code 55 = .ok (.aload_n 1, 1) := by decide +kernel
theorem d_X1_lookAtSets_56 : decode prog_3_method_11_code 56 = .ok (.getfield 50, 3) := by decide +kernel
theorem d_X1_lookAtSets_59 : decode prog_3_method_11_code 59 = .ok (.aload_n 1, 1) := by decide +kernel
theorem d_X1_lookAtSets_60 : decode prog_3_method_11_code 60 = .ok (.getfield 47, 3) := by decide +kernel
theorem d_X1_lookAtSets_63 : decode prog_3_method_11_code 63 = .ok (.invokevirtual 85, 3) := by decide +kernel
theorem d_X1_lookAtSets_66 : decode prog_3_method_11_code 66 = .ok (.istore_n 3, 1) := by decide +kernel
theorem d_X1_lookAtSets_67 : decode prog_3_method_11_code 67 = .ok (.iconst 0, 1) := by decide +kernel
theorem d_X1_lookAtSets_68 : decode prog_3_method_11_code 68 = .ok (.istore 4, 2) := by decide +kernel
theorem d_X1_lookAtSets_70 : decode prog_3_method_11_code 70 = .ok (.iload 4, 2) := by decide +kernel
theorem d_X1_lookAtSets_72 : decode prog_3_method_11_code 72 = .ok (.aload_n 1, 1) := by decide +kernel
theorem d_X1_lookAtSets_73 : decode prog_3_method_11_code 73 = .ok (.getfield 36, 3) := by decide +kernel
theorem d_X1_lookAtSets_76 : decode prog_3_method_11_code 76 = .ok (.getfield 88, 3) := by decide +kernel
theorem d_X1_lookAtSets_79 : decode prog_3_method_11_code 79 = .ok (.if_icmp .ge 44, 3) := by decide +kernel
theorem d_X1_lookAtSets_82 : decode prog_3_method_11_code 82 = .ok (.iload_n 3, 1) := by decide +kernel
theorem d_X1_lookAtSets_83 : decode prog_3_method_11_code 83 = .ok (.ifCond .lt 40, 3) := by decide +kernel
theorem d_X1_lookAtSets_86 : decode prog_3_method_11_code 86 = .ok (.aload_n 0, 1) := by decide +kernel
theorem d_X1_lookAtSets_87 : decode prog_3_method_11_code 87 = .ok (.getfield 28, 3) := by decide +kernel
theorem d_X1_lookAtSets_90 : decode prog_3_method_11_code 90 = .ok (.aload_n 0, 1) := by decide +kernel
theorem d_X1_lookAtSets_91 : decode prog_3_method_11_code 91 = .ok (.aload_n 1, 1) := by decide +kernel
theorem d_X1_lookAtSets_92 : decode prog_3_method_11_code 92 = .ok (.getfield 95, 3) := by decide +kernel
theorem d_X1_lookAtSets_95 : decode prog_3_method_11_code 95 = .ok (.iload_n 3, 1) := by decide +kernel
theorem d_X1_lookAtSets_96 : decode prog_3_method_11_code 96 = .ok (.invokevirtual 99, 3) := by decide +kernel
theorem d_X1_lookAtSets_99 : decode prog_3_method_11_code 99 = .ok (.invokevirtual 130, 3) := by decide +kernel
theorem d_X1_lookAtSets_102 : decode prog_3_method_11_code 102 = .ok (.iconst 1, 1) := by decide +kernel
theorem d_X1_lookAtSets_103 : decode prog_3_method_11_code 103 = .ok (.bastore, 1) := by decide +kernel
theorem d_X1_lookAtSets_104 : decode prog_3_method_11_code 104 = .ok (.aload_n 1, 1) := by decide +kernel
theorem d_X1_lookAtSets_105 : decode prog_3_method_11_code 105 = .ok (.getfield 36, 3) := by decide +kernel
theorem d_X1_lookAtSets_108 : decode prog_3_method_11_code 108 = .ok (.iload_n 3, 1) := by decide +kernel
theorem d_X1_lookAtSets_109 : decode prog_3_method_11_code 109 = .ok (.aload_n 1, 1) := by decide +kernel
theorem d_X1_lookAtSets_110 : decode prog_3_method_11_code 110 = .ok (.getfield 47, 3) := by decide +kernel
theorem d_X1_lookAtSets_113 : decode prog_3_method_11_code 113 = .ok (.invokevirtual 108, 3) := by decide +kernel
theorem d_X1_lookAtSets_116 : decode prog_3_method_11_code 116 = .ok (.istore_n 3, 1) := by decide +kernel
theorem d_X1_lookAtSets_117 : decode prog_3_method_11_code 117 = .ok (.iinc 4 1, 3) := by decide +kernel
theorem d_X1_lookAtSets_120 : decode prog_3_method_11_code 120 = .ok (.goto (-50), 3) := by decide +kernel
theorem d_X1_lookAtSets_123 : decode prog_3_method_11_code 123 = .ok (.iconst 1, 1) := by decide +kernel
theorem d_X1_lookAtSets_124 : decode prog_3_method_11_code 124 = .ok (.istore 4, 2) := by decide +kernel
theorem d_X1_lookAtSets_126 : decode prog_3_method_11_code 126 = .ok (.iload 4, 2) := by decide +kernel
theorem d_X1_lookAtSets_128 : decode prog_3_method_11_code 128 = .ok (.iload_n 2, 1) := by decide +kernel
theorem d_X1_lookAtSets_129 : decode prog_3_method_11_code 129 = .ok (.if_icmp .gt 68, 3) := by decide +kernel
theorem d_X1_lookAtSets_132 : decode prog_3_method_11_code 132 = .ok (.iconst 0, 1) := by decide +kernel
theorem d_X1_lookAtSets_133 : decode prog_3_method_11_code 133 = .ok (.istore 5, 2) := by decide +kernel
theorem d_X1_lookAtSets_135 : decode prog_3_method_11_code 135 = .ok (.iload 5, 2) := by decide +kernel
theorem d_X1_lookAtSets_137 : decode prog_3_method_11_code 137 = .ok (.aload_n 0, 1) := by decide +kernel
theorem d_X1_lookAtSets_138 : decode prog_3_method_11_code 138 = .ok (.getfield 24, 3) := by decide +kernel
theorem d_X1_lookAtSets_141 : decode prog_3_method_11_code 141 = .ok (.if_icmp .ge 50, 3) := by decide +kernel
theorem d_X1_lookAtSets_144 : decode prog_3_method_11_code 144 = .ok (.aload_n 0, 1) := by decide +kernel
theorem d_X1_lookAtSets_145 : decode prog_3_method_11_code 145 = .ok (.getfield 28, 3) := by decide +kernel
theorem d_X1_lookAtSets_148 : decode prog_3_method_11_code 148 = .ok (.iload 4, 2) := by decide +kernel
theorem d_X1_lookAtSets_150 : decode prog_3_method_11_code 150 = .ok (.baload, 1) := by decide +kernel
theorem d_X1_lookAtSets_151 : decode prog_3_method_11_code 151 = .ok (.ifCond .ne 40, 3) := by decide +kernel
theorem d_X1_lookAtSets_154 : decode prog_3_method_11_code 154 = .ok (.iload 4, 2) := by decide +kernel
theorem d_X1_lookAtSets_156 : decode prog_3_method_11_code 156 = .ok (.iload 5, 2) := by decide +kernel
theorem d_X1_lookAtSets_158 : decode prog_3_method_11_code 158 = .ok (.ishr, 1) := by decide +kernel
theorem d_X1_lookAtSets_159 : decode prog_3_method_11_code 159 = .ok (.iconst 1, 1) := by decide +kernel
theorem d_X1_lookAtSets_160 : decode prog_3_method_11_code 160 = .ok (.iand, 1) := by decide +kernel
theorem d_X1_lookAtSets_161 : decode prog_3_method_11_code 161 = .ok (.ifCond .eq 24, 3) := by decide +kernel
theorem d_X1_lookAtSets_164 : decode prog_3_method_11_code 164 = .ok (.aload_n 0, 1) := by decide +kernel
theorem d_X1_lookAtSets_165 : decode prog_3_method_11_code 165 = .ok (.getfield 28, 3) := by decide +kernel
theorem d_X1_lookAtSets_168 : decode prog_3_method_11_code 168 = .ok (.iload 4, 2) := by decide +kernel
theorem d_X1_lookAtSets_170 : decode prog_3_method_11_code 170 = .ok (.aload_n 0, 1) := by decide +kernel
theorem d_X1_lookAtSets_171 : decode prog_3_method_11_code 171 = .ok (.getfield 28, 3) := by decide +kernel
theorem d_X1_lookAtSets_174 : decode prog_3_method_11_code 174 = .ok (.iload 4, 2) := by decide +kernel
theorem d_X1_lookAtSets_176 : decode prog_3_method_11_code 176 = .ok (.iconst 1, 1) := by decide +kernel
theorem d_X1_lookAtSets_177 : decode prog_3_method_11_code 177 = .ok (.iload 5, 2) := by decide +kernel
theorem d_X1_lookAtSets_179 : decode prog_3_method_11_code 179 = .ok (.ishl, 1) := by decide +kernel
theorem d_X1_lookAtSets_180 : decode prog_3_method_11_code 180 = .ok (.iconst (-1), 1) := by decide +kernel
theorem d_X1_lookAtSets_181 : decode prog_3_method_11_code 181 = .ok (.ixor, 1) := by decide +kernel
theorem d_X1_lookAtSets_182 : decode prog_3_method_11_code 182 = .ok (.iand, 1) := by decide +kernel
theorem d_X1_lookAtSets_183 : decode prog_3_method_11_code 183 = .ok (.baload, 1) := by decide +kernel
theorem d_X1_lookAtSets_184 : decode prog_3_method_11_code 184 = .ok (.bastore, 1) := by decide +kernel
theorem d_X1_lookAtSets_185 : decode prog_3_method_11_code 185 = .ok (.iinc 5 1, 3) := by decide +kernel
theorem d_X1_lookAtSets_188 : decode prog_3_method_11_code 188 = .ok (.goto (-53), 3) := by decide +kernel
theorem d_X1_lookAtSets_191 : decode prog_3_method_11_code 191 = .ok (.iinc 4 1, 3) := by decide +kernel
theorem d_X1_lookAtSets_194 : decode prog_3_method_11_code 194 = .ok (.goto (-68), 3) := by decide +kernel
theorem d_X1_lookAtSets_197 : decode prog_3_method_11_code 197 = .ok (.iload_n 2, 1) := by decide +kernel
theorem d_X1_lookAtSets_198 : decode prog_3_method_11_code 198 = .ok (.ireturn, 1) := by decide +kernel
theorem v_X1_lookAtSets_0 {E : EE} {d : Nat} {Q : Option AV → AH → Prop} {x0 : Nat} {x1 : Nat} {G : AH} (h0 : 0 < d) (h : isO E G x0 1 ∧ (wpV E (d - 1) M_X1_listRules [vr x0, vr x1] G (fun G1 => isO E G1 x0 1 ∧ (isO E G1 (gR G1 x0 5) 16 ∧ ((¬ (nI (gN G1 (gR G1 x0 5))) = 0 → wp E d M_X1_lookAtSets 22 [some (vr x0), some (vr x1), none, none, none, none] [] G1 Q) ∧ ((nI (gN G1 (gR G1 x0 5))) = 0 → eB E ≤ gT G1 ∧ (∀ G9 : AH, G9 = nw G1 16 (Int32.toNatClampNeg 4096) (Int32.toNatClampNeg 4096) → ∀ G13 : AH, G13 = sR G9 x0 5 (gT G1) → wp E d M_X1_lookAtSets 22 [some (vr x0), some (vr x1), none, none, none, none] [] G13 Q))))))) : wp E d M_X1_lookAtSets 0 [some (vr x0), some (vr x1), none, none, none, none] [] G Q := by
  refine wp_aload_n (pc := 0) d_X1_lookAtSets_0 rfl ?_
  refine wp_aload_n (pc := 1) d_X1_lookAtSets_1 rfl ?_
  obtain ⟨ho16, h⟩ := h
  refine wp_invV (pc := 2) (N := M_X1_listRules) (As := [vr _]) (rest := []) (r := (cn_1, ct_1, 6)) d_X1_lookAtSets_2 ml_X1_32 mk_X1_listRules mv_X1_listRules h0 ho16 rfl rfl (Nat.le_of_ble_eq_true rfl) ?_
  refine wpM.mono h (fun rr G1 hr => ?_)
  obtain ⟨rfl, h⟩ := hr
  show wp E d M_X1_lookAtSets 5 [some (vr _), some (vr _), none, none, none, none] [] G1 Q
  refine wp_aload_n (pc := 5) d_X1_lookAtSets_5 rfl ?_
  obtain ⟨ho2, h⟩ := h
  refine wp_getR (pc := 6) d_X1_lookAtSets_6 fl_X1_28 (fun _ _ _ => rfl) ho2 ?_
  obtain ⟨ho3, h⟩ := h
  refine wp_alen (pc := 9) d_X1_lookAtSets_9 ho3 (by decide) rfl ?_
  refine wp_if_ne (pc := 10) (tgt := 22) d_X1_lookAtSets_10 (by decide) (fun hc => ?_) (fun hc => ?_)
  · have h := h.1 hc
    refine wp_sub ?_ h
    exact ⟨rfl, ⟨rfl, trivial⟩⟩
  · have h := h.2 hc
    refine wp_aload_n (pc := 13) d_X1_lookAtSets_13 rfl ?_
    refine wp_sipush (pc := 14) (v := 4096) d_X1_lookAtSets_14 rfl ?_
    obtain ⟨hb4, h⟩ := h
    refine wp_newa (pc := 17) (t0 := 3) (kd := 16) d_X1_lookAtSets_17 rfl (fun _ q => by cases q) ac_boolean (by decide) (fun _ => rfl) rfl (by decide) (by decide) (by decide) ?_
    refine wp_nm (fun G9 eG9 => ?_)
    have h := h G9 eG9
    have ho10 := isO_nwE eG9 ho2
    have hb11 := base_nwE eG9 hb4
    have ho12 := isO_newE eG9 hb4
    refine wp_putR (pc := 19) d_X1_lookAtSets_19 fl_X1_28 (fun _ _ _ => rfl) (Or.inr ⟨_, rfl⟩) (Or.inl rfl) ho10 ?_
    refine wp_nm (fun G13 eG13 => ?_)
    have h := h G13 eG13
    have ho14 := isO_sR eG13 ho10
    have hb15 := base_sR eG13 hb11
    refine wp_sub ?_ h
    exact ⟨rfl, ⟨rfl, trivial⟩⟩
theorem v_X1_lookAtSets_22 {E : EE} {d : Nat} {Q : Option AV → AH → Prop} {x0 : Nat} {x1 : Nat} {G : AH} (h : isO E G x0 1 ∧ (wp E d M_X1_lookAtSets 33 [some (vr x0), some (vr x1), some (vi ((1 <<< ((gI G x0 4) &&& 31)) - 1)), some (vi 0), none, none] [] G Q)) : wp E d M_X1_lookAtSets 22 [some (vr x0), some (vr x1), none, none, none, none] [] G Q := by
  refine wp_iconst (pc := 22) (v := 1) d_X1_lookAtSets_22 rfl ?_
  refine wp_aload_n (pc := 23) d_X1_lookAtSets_23 rfl ?_
  obtain ⟨ho1, h⟩ := h
  refine wp_getI (pc := 24) d_X1_lookAtSets_24 fl_X1_24 (fun _ _ _ => rfl) ho1 ?_
  refine wp_ishl (pc := 27) d_X1_lookAtSets_27 ?_
  refine wp_iconst (pc := 28) (v := 1) d_X1_lookAtSets_28 rfl ?_
  refine wp_isub (pc := 29) d_X1_lookAtSets_29 ?_
  refine wp_istore_n (pc := 30) (lv' := [some (vr _), some (vr _), some (vi _), none, none, none]) d_X1_lookAtSets_30 (by decide) rfl ?_
  refine wp_iconst (pc := 31) (v := 0) d_X1_lookAtSets_31 rfl ?_
  refine wp_istore_n (pc := 32) (lv' := [some (vr _), some (vr _), some (vi _), some (vi _), none, none]) d_X1_lookAtSets_32 (by decide) rfl ?_
  refine wp_sub ?_ h
  exact ⟨rfl, ⟨rfl, ⟨rfl, ⟨rfl, trivial⟩⟩⟩⟩
theorem v_X1_lookAtSets_33 {E : EE} {d : Nat} {Q : Option AV → AH → Prop} {x0 : Nat} {x1 : Nat} {x2 : Int32} {x3 : Int32} {G : AH} (h0 : 0 < d) (h : (x2 < x3 → isO E G x1 3 ∧ (isO E G (gR G x1 4) 7 ∧ (wpI E (d - 1) M_X7_lowest [vr (gR G x1 4), vi (gI G x1 8), vi (gI G x1 9)] G (fun r2 G3 => wp E d M_X1_lookAtSets 70 [some (vr x0), some (vr x1), some (vi x2), some (vi r2), some (vi 0), none] [] G3 Q)))) ∧ (¬ (x2 < x3) → isO E G x0 1 ∧ (isO E G (gR G x0 5) 16 ∧ (vp_in x3 (gN G (gR G x0 5)) ∧ (wp E d M_X1_lookAtSets 33 [some (vr x0), some (vr x1), some (vi x2), some (vi (x3 + 1)), none, none] [] (sI G (gR G x0 5) (Int32.toNatClampNeg x3) (nz 0)) Q))))) : wp E d M_X1_lookAtSets 33 [some (vr x0), some (vr x1), some (vi x2), some (vi x3), none, none] [] G Q := by
  refine wp_iload_n (pc := 33) d_X1_lookAtSets_33 rfl ?_
  refine wp_iload_n (pc := 34) d_X1_lookAtSets_34 rfl ?_
  refine wp_icmp_gt (pc := 35) (tgt := 51) d_X1_lookAtSets_35 (by decide) (fun hc => ?_) (fun hc => ?_)
  · have h := h.1 hc
    refine wp_aload_n (pc := 51) d_X1_lookAtSets_51 rfl ?_
    obtain ⟨ho1, h⟩ := h
    refine wp_getR (pc := 52) d_X1_lookAtSets_52 fl_X1_36 (fun _ _ _ => rfl) ho1 ?_
    refine wp_aload_n (pc := 55) d_X1_lookAtSets_55 rfl ?_
    refine wp_getI (pc := 56) d_X1_lookAtSets_56 fl_X1_50 (fun _ _ _ => rfl) ho1 ?_
    refine wp_aload_n (pc := 59) d_X1_lookAtSets_59 rfl ?_
    refine wp_getI (pc := 60) d_X1_lookAtSets_60 fl_X1_47 (fun _ _ _ => rfl) ho1 ?_
    obtain ⟨ho4, h⟩ := h
    refine wp_invV (pc := 63) (N := M_X7_lowest) (As := [vi _, vi _]) (rest := []) (r := (cn_7, ct_7, 5)) d_X1_lookAtSets_63 ml_X1_85 mk_X7_lowest mv_X7_lowest h0 ho4 rfl rfl (Nat.le_of_ble_eq_true rfl) ?_
    refine wpM.mono h (fun rr G3 hr => ?_)
    obtain ⟨r2, rfl, h⟩ := hr
    show wp E d M_X1_lookAtSets 66 [some (vr _), some (vr _), some (vi _), some (vi _), none, none] [vi _] G3 Q
    refine wp_istore_n (pc := 66) (lv' := [some (vr _), some (vr _), some (vi _), some (vi _), none, none]) d_X1_lookAtSets_66 (by decide) rfl ?_
    refine wp_iconst (pc := 67) (v := 0) d_X1_lookAtSets_67 rfl ?_
    refine wp_istore (pc := 68) (lv' := [some (vr _), some (vr _), some (vi _), some (vi _), some (vi _), none]) d_X1_lookAtSets_68 (by decide) rfl ?_
    refine wp_sub ?_ h
    exact ⟨rfl, ⟨rfl, ⟨rfl, ⟨rfl, ⟨rfl, trivial⟩⟩⟩⟩⟩
  · have h := h.2 hc
    refine wp_aload_n (pc := 38) d_X1_lookAtSets_38 rfl ?_
    obtain ⟨ho5, h⟩ := h
    refine wp_getR (pc := 39) d_X1_lookAtSets_39 fl_X1_28 (fun _ _ _ => rfl) ho5 ?_
    refine wp_iload_n (pc := 42) d_X1_lookAtSets_42 rfl ?_
    refine wp_iconst (pc := 43) (v := 0) d_X1_lookAtSets_43 rfl ?_
    obtain ⟨ho6, h⟩ := h
    obtain ⟨hi7, h⟩ := h
    refine wp_zast (pc := 44) d_X1_lookAtSets_44 ho6 hi7 ?_
    refine wp_iinc (pc := 45) (v := 1) (lv' := [some (vr _), some (vr _), some (vi _), some (vi _), none, none]) d_X1_lookAtSets_45 (by decide) rfl rfl rfl ?_
    refine wp_goto (pc := 48) (tgt := 33) d_X1_lookAtSets_48 (by decide) ?_
    refine wp_sub ?_ h
    exact ⟨rfl, ⟨rfl, ⟨rfl, ⟨rfl, trivial⟩⟩⟩⟩
theorem v_X1_lookAtSets_70 {E : EE} {d : Nat} {Q : Option AV → AH → Prop} {x0 : Nat} {x1 : Nat} {x2 : Int32} {x3 : Int32} {x4 : Int32} {G : AH} (h0 : 0 < d) (h : isO E G x1 3 ∧ (isO E G (gR G x1 4) 7 ∧ (((gI G (gR G x1 4) 1) ≤ x4 → wp E d M_X1_lookAtSets 123 [some (vr x0), some (vr x1), some (vi x2), some (vi x3), some (vi x4), none] [] G Q) ∧ (¬ ((gI G (gR G x1 4) 1) ≤ x4) → (x3 < 0 → wp E d M_X1_lookAtSets 123 [some (vr x0), some (vr x1), some (vi x2), some (vi x3), some (vi x4), none] [] G Q) ∧ (¬ (x3 < 0) → isO E G x0 1 ∧ (isO E G (gR G x1 6) 9 ∧ (wpI E (d - 1) M_X9_setOf [vr (gR G x1 6), vi x3] G (fun r4 G5 => isO E G5 x0 1 ∧ (wpI E (d - 1) M_X1_among [vr x0, vi r4] G5 (fun r6 G7 => isO E G7 (gR G x0 5) 16 ∧ (vp_in r6 (gN G7 (gR G x0 5)) ∧ (isO E G7 x1 3 ∧ (isO E G7 (gR G7 x1 4) 7 ∧ (wpI E (d - 1) M_X7_following [vr (gR G7 x1 4), vi x3, vi (gI (sI G7 (gR G x0 5) (Int32.toNatClampNeg r6) (nz 1)) x1 9)] (sI G7 (gR G x0 5) (Int32.toNatClampNeg r6) (nz 1)) (fun r11 G12 => wp E d M_X1_lookAtSets 70 [some (vr x0), some (vr x1), some (vi x2), some (vi r11), some (vi (x4 + 1)), none] [] G12 Q))))))))))))))) : wp E d M_X1_lookAtSets 70 [some (vr x0), some (vr x1), some (vi x2), some (vi x3), some (vi x4), none] [] G Q := by
  refine wp_iload (pc := 70) d_X1_lookAtSets_70 rfl ?_
  refine wp_aload_n (pc := 72) d_X1_lookAtSets_72 rfl ?_
  obtain ⟨ho1, h⟩ := h
  refine wp_getR (pc := 73) d_X1_lookAtSets_73 fl_X1_36 (fun _ _ _ => rfl) ho1 ?_
  obtain ⟨ho2, h⟩ := h
  refine wp_getI (pc := 76) d_X1_lookAtSets_76 fl_X1_88 (fun _ _ _ => rfl) ho2 ?_
  refine wp_icmp_ge (pc := 79) (tgt := 123) d_X1_lookAtSets_79 (by decide) (fun hc => ?_) (fun hc => ?_)
  · have h := h.1 hc
    refine wp_sub ?_ h
    exact ⟨rfl, ⟨rfl, ⟨rfl, ⟨rfl, ⟨rfl, trivial⟩⟩⟩⟩⟩
  · have h := h.2 hc
    refine wp_iload_n (pc := 82) d_X1_lookAtSets_82 rfl ?_
    refine wp_if_lt (pc := 83) (tgt := 123) d_X1_lookAtSets_83 (by decide) (fun hc => ?_) (fun hc => ?_)
    · have h := h.1 hc
      refine wp_sub ?_ h
      exact ⟨rfl, ⟨rfl, ⟨rfl, ⟨rfl, ⟨rfl, trivial⟩⟩⟩⟩⟩
    · have h := h.2 hc
      refine wp_aload_n (pc := 86) d_X1_lookAtSets_86 rfl ?_
      obtain ⟨ho3, h⟩ := h
      refine wp_getR (pc := 87) d_X1_lookAtSets_87 fl_X1_28 (fun _ _ _ => rfl) ho3 ?_
      refine wp_aload_n (pc := 90) d_X1_lookAtSets_90 rfl ?_
      refine wp_aload_n (pc := 91) d_X1_lookAtSets_91 rfl ?_
      refine wp_getR (pc := 92) d_X1_lookAtSets_92 fl_X1_95 (fun _ _ _ => rfl) ho1 ?_
      refine wp_iload_n (pc := 95) d_X1_lookAtSets_95 rfl ?_
      obtain ⟨ho15, h⟩ := h
      refine wp_invV (pc := 96) (N := M_X9_setOf) (As := [vi _]) (rest := [vr _, vr _]) (r := (cn_9, ct_9, 8)) d_X1_lookAtSets_96 ml_X1_99 mk_X9_setOf mv_X9_setOf h0 ho15 rfl rfl (Nat.le_of_ble_eq_true rfl) ?_
      refine wpM.mono h (fun rr G5 hr => ?_)
      obtain ⟨r4, rfl, h⟩ := hr
      show wp E d M_X1_lookAtSets 99 [some (vr _), some (vr _), some (vi _), some (vi _), some (vi _), none] [vi _, vr _, vr _] G5 Q
      obtain ⟨ho14, h⟩ := h
      refine wp_invV (pc := 99) (N := M_X1_among) (As := [vi _]) (rest := [vr _]) (r := (cn_1, ct_1, 6)) d_X1_lookAtSets_99 ml_X1_130 mk_X1_among mv_X1_among h0 ho14 rfl rfl (Nat.le_of_ble_eq_true rfl) ?_
      refine wpM.mono h (fun rr G7 hr => ?_)
      obtain ⟨r6, rfl, h⟩ := hr
      show wp E d M_X1_lookAtSets 102 [some (vr _), some (vr _), some (vi _), some (vi _), some (vi _), none] [vi _, vr _] G7 Q
      refine wp_iconst (pc := 102) (v := 1) d_X1_lookAtSets_102 rfl ?_
      obtain ⟨ho8, h⟩ := h
      obtain ⟨hi9, h⟩ := h
      refine wp_zast (pc := 103) d_X1_lookAtSets_103 ho8 hi9 ?_
      refine wp_aload_n (pc := 104) d_X1_lookAtSets_104 rfl ?_
      obtain ⟨ho10, h⟩ := h
      refine wp_getR (pc := 105) d_X1_lookAtSets_105 fl_X1_36 (fun _ _ _ => rfl) ho10 ?_
      show wp E d M_X1_lookAtSets 108 [some (vr x0), some (vr x1), some (vi x2), some (vi x3), some (vi x4), none] [vr (gR G7 x1 4)] (sI G7 (gR G x0 5) (Int32.toNatClampNeg r6) (nz 1)) Q
      refine wp_iload_n (pc := 108) d_X1_lookAtSets_108 rfl ?_
      refine wp_aload_n (pc := 109) d_X1_lookAtSets_109 rfl ?_
      refine wp_getI (pc := 110) d_X1_lookAtSets_110 fl_X1_47 (fun _ _ _ => rfl) ho10 ?_
      obtain ⟨ho13, h⟩ := h
      refine wp_invV (pc := 113) (N := M_X7_following) (As := [vi _, vi _]) (rest := []) (r := (cn_7, ct_7, 5)) d_X1_lookAtSets_113 ml_X1_108 mk_X7_following mv_X7_following h0 ho13 rfl rfl (Nat.le_of_ble_eq_true rfl) ?_
      refine wpM.mono h (fun rr G12 hr => ?_)
      obtain ⟨r11, rfl, h⟩ := hr
      show wp E d M_X1_lookAtSets 116 [some (vr _), some (vr _), some (vi _), some (vi _), some (vi _), none] [vi _] G12 Q
      refine wp_istore_n (pc := 116) (lv' := [some (vr _), some (vr _), some (vi _), some (vi _), some (vi _), none]) d_X1_lookAtSets_116 (by decide) rfl ?_
      refine wp_iinc (pc := 117) (v := 1) (lv' := [some (vr _), some (vr _), some (vi _), some (vi _), some (vi _), none]) d_X1_lookAtSets_117 (by decide) rfl rfl rfl ?_
      refine wp_goto (pc := 120) (tgt := 70) d_X1_lookAtSets_120 (by decide) ?_
      refine wp_sub ?_ h
      exact ⟨rfl, ⟨rfl, ⟨rfl, ⟨rfl, ⟨rfl, trivial⟩⟩⟩⟩⟩
theorem v_X1_lookAtSets_123 {E : EE} {d : Nat} {Q : Option AV → AH → Prop} {x0 : Nat} {x1 : Nat} {x2 : Int32} {x3 : Int32} {x4 : Int32} {G : AH} (h : wp E d M_X1_lookAtSets 126 [some (vr x0), some (vr x1), some (vi x2), some (vi x3), some (vi 1), none] [] G Q) : wp E d M_X1_lookAtSets 123 [some (vr x0), some (vr x1), some (vi x2), some (vi x3), some (vi x4), none] [] G Q := by
  refine wp_iconst (pc := 123) (v := 1) d_X1_lookAtSets_123 rfl ?_
  refine wp_istore (pc := 124) (lv' := [some (vr _), some (vr _), some (vi _), some (vi _), some (vi _), none]) d_X1_lookAtSets_124 (by decide) rfl ?_
  refine wp_sub ?_ h
  exact ⟨rfl, ⟨rfl, ⟨rfl, ⟨rfl, ⟨rfl, trivial⟩⟩⟩⟩⟩
theorem v_X1_lookAtSets_126 {E : EE} {d : Nat} {Q : Option AV → AH → Prop} {x0 : Nat} {x1 : Nat} {x2 : Int32} {x3 : Int32} {x4 : Int32} {G : AH} (h : (x2 < x4 → Q (some (vi x2)) G) ∧ (¬ (x2 < x4) → wp E d M_X1_lookAtSets 135 [some (vr x0), some (vr x1), some (vi x2), some (vi x3), some (vi x4), some (vi 0)] [] G Q)) : wp E d M_X1_lookAtSets 126 [some (vr x0), some (vr x1), some (vi x2), some (vi x3), some (vi x4), none] [] G Q := by
  refine wp_iload (pc := 126) d_X1_lookAtSets_126 rfl ?_
  refine wp_iload_n (pc := 128) d_X1_lookAtSets_128 rfl ?_
  refine wp_icmp_gt (pc := 129) (tgt := 197) d_X1_lookAtSets_129 (by decide) (fun hc => ?_) (fun hc => ?_)
  · have h := h.1 hc
    refine wp_iload_n (pc := 197) d_X1_lookAtSets_197 rfl ?_
    exact wp_iret (pc := 198) d_X1_lookAtSets_198 rfl h
  · have h := h.2 hc
    refine wp_iconst (pc := 132) (v := 0) d_X1_lookAtSets_132 rfl ?_
    refine wp_istore (pc := 133) (lv' := [some (vr _), some (vr _), some (vi _), some (vi _), some (vi _), some (vi _)]) d_X1_lookAtSets_133 (by decide) rfl ?_
    refine wp_sub ?_ h
    exact ⟨rfl, ⟨rfl, ⟨rfl, ⟨rfl, ⟨rfl, ⟨rfl, trivial⟩⟩⟩⟩⟩⟩
theorem v_X1_lookAtSets_135 {E : EE} {d : Nat} {Q : Option AV → AH → Prop} {x0 : Nat} {x1 : Nat} {x2 : Int32} {x3 : Int32} {x4 : Int32} {x5 : Int32} {G : AH} (h : isO E G x0 1 ∧ (((gI G x0 4) ≤ x5 → wp E d M_X1_lookAtSets 191 [some (vr x0), some (vr x1), some (vi x2), some (vi x3), some (vi x4), some (vi x5)] [] G Q) ∧ (¬ ((gI G x0 4) ≤ x5) → isO E G (gR G x0 5) 16 ∧ (vp_in x4 (gN G (gR G x0 5)) ∧ ((¬ (gI G (gR G x0 5) (Int32.toNatClampNeg x4)) = 0 → wp E d M_X1_lookAtSets 191 [some (vr x0), some (vr x1), some (vi x2), some (vi x3), some (vi x4), some (vi x5)] [] G Q) ∧ ((gI G (gR G x0 5) (Int32.toNatClampNeg x4)) = 0 → (((x4 >>> (x5 &&& 31)) &&& 1) = 0 → wp E d M_X1_lookAtSets 185 [some (vr x0), some (vr x1), some (vi x2), some (vi x3), some (vi x4), some (vi x5)] [] G Q) ∧ (¬ (((x4 >>> (x5 &&& 31)) &&& 1) = 0) → vp_in (x4 &&& ((1 <<< (x5 &&& 31)) ^^^ (-1))) (gN G (gR G x0 5)) ∧ (vp_in x4 (gN G (gR G x0 5)) ∧ (wp E d M_X1_lookAtSets 185 [some (vr x0), some (vr x1), some (vi x2), some (vi x3), some (vi x4), some (vi x5)] [] (sI G (gR G x0 5) (Int32.toNatClampNeg x4) (nz (gI G (gR G x0 5) (Int32.toNatClampNeg (x4 &&& ((1 <<< (x5 &&& 31)) ^^^ (-1))))))) Q))))))))) : wp E d M_X1_lookAtSets 135 [some (vr x0), some (vr x1), some (vi x2), some (vi x3), some (vi x4), some (vi x5)] [] G Q := by
  refine wp_iload (pc := 135) d_X1_lookAtSets_135 rfl ?_
  refine wp_aload_n (pc := 137) d_X1_lookAtSets_137 rfl ?_
  obtain ⟨ho1, h⟩ := h
  refine wp_getI (pc := 138) d_X1_lookAtSets_138 fl_X1_24 (fun _ _ _ => rfl) ho1 ?_
  refine wp_icmp_ge (pc := 141) (tgt := 191) d_X1_lookAtSets_141 (by decide) (fun hc => ?_) (fun hc => ?_)
  · have h := h.1 hc
    refine wp_sub ?_ h
    exact ⟨rfl, ⟨rfl, ⟨rfl, ⟨rfl, ⟨rfl, ⟨rfl, trivial⟩⟩⟩⟩⟩⟩
  · have h := h.2 hc
    refine wp_aload_n (pc := 144) d_X1_lookAtSets_144 rfl ?_
    refine wp_getR (pc := 145) d_X1_lookAtSets_145 fl_X1_28 (fun _ _ _ => rfl) ho1 ?_
    refine wp_iload (pc := 148) d_X1_lookAtSets_148 rfl ?_
    obtain ⟨ho2, h⟩ := h
    obtain ⟨hi3, h⟩ := h
    refine wp_zald (pc := 150) d_X1_lookAtSets_150 ho2 hi3 ?_
    refine wp_if_ne (pc := 151) (tgt := 191) d_X1_lookAtSets_151 (by decide) (fun hc => ?_) (fun hc => ?_)
    · have h := h.1 hc
      refine wp_sub ?_ h
      exact ⟨rfl, ⟨rfl, ⟨rfl, ⟨rfl, ⟨rfl, ⟨rfl, trivial⟩⟩⟩⟩⟩⟩
    · have h := h.2 hc
      refine wp_iload (pc := 154) d_X1_lookAtSets_154 rfl ?_
      refine wp_iload (pc := 156) d_X1_lookAtSets_156 rfl ?_
      refine wp_ishr (pc := 158) d_X1_lookAtSets_158 ?_
      refine wp_iconst (pc := 159) (v := 1) d_X1_lookAtSets_159 rfl ?_
      refine wp_iand (pc := 160) d_X1_lookAtSets_160 ?_
      refine wp_if_eq (pc := 161) (tgt := 185) d_X1_lookAtSets_161 (by decide) (fun hc => ?_) (fun hc => ?_)
      · have h := h.1 hc
        refine wp_sub ?_ h
        exact ⟨rfl, ⟨rfl, ⟨rfl, ⟨rfl, ⟨rfl, ⟨rfl, trivial⟩⟩⟩⟩⟩⟩
      · have h := h.2 hc
        refine wp_aload_n (pc := 164) d_X1_lookAtSets_164 rfl ?_
        refine wp_getR (pc := 165) d_X1_lookAtSets_165 fl_X1_28 (fun _ _ _ => rfl) ho1 ?_
        refine wp_iload (pc := 168) d_X1_lookAtSets_168 rfl ?_
        refine wp_aload_n (pc := 170) d_X1_lookAtSets_170 rfl ?_
        refine wp_getR (pc := 171) d_X1_lookAtSets_171 fl_X1_28 (fun _ _ _ => rfl) ho1 ?_
        refine wp_iload (pc := 174) d_X1_lookAtSets_174 rfl ?_
        refine wp_iconst (pc := 176) (v := 1) d_X1_lookAtSets_176 rfl ?_
        refine wp_iload (pc := 177) d_X1_lookAtSets_177 rfl ?_
        refine wp_ishl (pc := 179) d_X1_lookAtSets_179 ?_
        refine wp_iconst (pc := 180) (v := (-1)) d_X1_lookAtSets_180 rfl ?_
        refine wp_ixor (pc := 181) d_X1_lookAtSets_181 ?_
        refine wp_iand (pc := 182) d_X1_lookAtSets_182 ?_
        obtain ⟨hi4, h⟩ := h
        refine wp_zald (pc := 183) d_X1_lookAtSets_183 ho2 hi4 ?_
        obtain ⟨hi5, h⟩ := h
        refine wp_zast (pc := 184) d_X1_lookAtSets_184 ho2 hi5 ?_
        refine wp_sub ?_ h
        exact ⟨rfl, ⟨rfl, ⟨rfl, ⟨rfl, ⟨rfl, ⟨rfl, trivial⟩⟩⟩⟩⟩⟩
theorem v_X1_lookAtSets_185 {E : EE} {d : Nat} {Q : Option AV → AH → Prop} {x0 : Nat} {x1 : Nat} {x2 : Int32} {x3 : Int32} {x4 : Int32} {x5 : Int32} {G : AH} (h : wp E d M_X1_lookAtSets 135 [some (vr x0), some (vr x1), some (vi x2), some (vi x3), some (vi x4), some (vi (x5 + 1))] [] G Q) : wp E d M_X1_lookAtSets 185 [some (vr x0), some (vr x1), some (vi x2), some (vi x3), some (vi x4), some (vi x5)] [] G Q := by
  refine wp_iinc (pc := 185) (v := 1) (lv' := [some (vr _), some (vr _), some (vi _), some (vi _), some (vi _), some (vi _)]) d_X1_lookAtSets_185 (by decide) rfl rfl rfl ?_
  refine wp_goto (pc := 188) (tgt := 135) d_X1_lookAtSets_188 (by decide) ?_
  refine wp_sub ?_ h
  exact ⟨rfl, ⟨rfl, ⟨rfl, ⟨rfl, ⟨rfl, ⟨rfl, trivial⟩⟩⟩⟩⟩⟩
theorem v_X1_lookAtSets_191 {E : EE} {d : Nat} {Q : Option AV → AH → Prop} {x0 : Nat} {x1 : Nat} {x2 : Int32} {x3 : Int32} {x4 : Int32} {x5 : Int32} {G : AH} (h : wp E d M_X1_lookAtSets 126 [some (vr x0), some (vr x1), some (vi x2), some (vi x3), some (vi (x4 + 1)), none] [] G Q) : wp E d M_X1_lookAtSets 191 [some (vr x0), some (vr x1), some (vi x2), some (vi x3), some (vi x4), some (vi x5)] [] G Q := by
  refine wp_iinc (pc := 191) (v := 1) (lv' := [some (vr _), some (vr _), some (vi _), some (vi _), some (vi _), some (vi _)]) d_X1_lookAtSets_191 (by decide) rfl rfl rfl ?_
  refine wp_goto (pc := 194) (tgt := 126) d_X1_lookAtSets_194 (by decide) ?_
  refine wp_sub ?_ h
  exact ⟨rfl, ⟨rfl, ⟨rfl, ⟨rfl, ⟨rfl, trivial⟩⟩⟩⟩⟩
theorem d_X1_listRules_0 : decode prog_3_method_3_code 0 = .ok (.aload_n 0, 1) := by decide +kernel
theorem d_X1_listRules_1 : decode prog_3_method_3_code 1 = .ok (.iconst 0, 1) := by decide +kernel
theorem d_X1_listRules_2 : decode prog_3_method_3_code 2 = .ok (.putfield 24, 3) := by decide +kernel
theorem d_X1_listRules_5 : decode prog_3_method_3_code 5 = .ok (.iconst 0, 1) := by decide +kernel
theorem d_X1_listRules_6 : decode prog_3_method_3_code 6 = .ok (.istore_n 2, 1) := by decide +kernel
theorem d_X1_listRules_7 : decode prog_3_method_3_code 7 = .ok (.iload_n 2, 1) := by decide +kernel
theorem d_X1_listRules_8 : decode prog_3_method_3_code 8 = .ok (.bipush 24, 2) := by decide +kernel
theorem d_X1_listRules_10 : decode prog_3_method_3_code 10 = .ok (.if_icmp .ge 49, 3) := by decide +kernel
theorem d_X1_listRules_13 : decode prog_3_method_3_code 13 = .ok (.aload_n 1, 1) := by decide +kernel
theorem d_X1_listRules_14 : decode prog_3_method_3_code 14 = .ok (.getfield 70, 3) := by decide +kernel
theorem d_X1_listRules_17 : decode prog_3_method_3_code 17 = .ok (.getfield 74, 3) := by decide +kernel
theorem d_X1_listRules_20 : decode prog_3_method_3_code 20 = .ok (.iload_n 2, 1) := by decide +kernel
theorem d_X1_listRules_21 : decode prog_3_method_3_code 21 = .ok (.ishr, 1) := by decide +kernel
theorem d_X1_listRules_22 : decode prog_3_method_3_code 22 = .ok (.iconst 1, 1) := by decide +kernel
theorem d_X1_listRules_23 : decode prog_3_method_3_code 23 = .ok (.iand, 1) := by decide +kernel
theorem d_X1_listRules_24 : decode prog_3_method_3_code 24 = .ok (.ifCond .eq 29, 3) := by decide +kernel
theorem d_X1_listRules_27 : decode prog_3_method_3_code 27 = .ok (.aload_n 0, 1) := by decide +kernel
theorem d_X1_listRules_28 : decode prog_3_method_3_code 28 = .ok (.getfield 24, 3) := by decide +kernel
theorem d_X1_listRules_31 : decode prog_3_method_3_code 31 = .ok (.bipush 12, 2) := by decide +kernel
theorem d_X1_listRules_33 : decode prog_3_method_3_code 33 = .ok (.if_icmp .ge 20, 3) := by decide +kernel
theorem d_X1_listRules_36 : decode prog_3_method_3_code 36 = .ok (.aload_n 0, 1) := by decide +kernel
theorem d_X1_listRules_37 : decode prog_3_method_3_code 37 = .ok (.getfield 21, 3) := by decide +kernel
theorem d_X1_listRules_40 : decode prog_3_method_3_code 40 = .ok (.aload_n 0, 1) := by decide +kernel
theorem d_X1_listRules_41 : decode prog_3_method_3_code 41 = .ok (.dup, 1) := by decide +kernel
theorem d_X1_listRules_42 : decode prog_3_method_3_code 42 = .ok (.getfield 24, 3) := by decide +kernel
theorem d_X1_listRules_45 : decode prog_3_method_3_code 45 = .ok (.dup_x1, 1) := by decide +kernel
theorem d_X1_listRules_46 : decode prog_3_method_3_code 46 = .ok (.iconst 1, 1) := by decide +kernel
theorem d_X1_listRules_47 : decode prog_3_method_3_code 47 = .ok (.iadd, 1) := by decide +kernel
theorem d_X1_listRules_48 : decode prog_3_method_3_code 48 = .ok (.putfield 24, 3) := by decide +kernel
theorem d_X1_listRules_51 : decode prog_3_method_3_code 51 = .ok (.iload_n 2, 1) := by decide +kernel
theorem d_X1_listRules_52 : decode prog_3_method_3_code 52 = .ok (.iastore, 1) := by decide +kernel
theorem d_X1_listRules_53 : decode prog_3_method_3_code 53 = .ok (.iinc 2 1, 3) := by decide +kernel
theorem d_X1_listRules_56 : decode prog_3_method_3_code 56 = .ok (.goto (-49), 3) := by decide +kernel
theorem d_X1_listRules_59 : decode prog_3_method_3_code 59 = .ok (.return_, 1) := by decide +kernel
theorem v_X1_listRules_0 {E : EE} {d : Nat} {Q : Option AV → AH → Prop} {x0 : Nat} {x1 : Nat} {G : AH} (h : isO E G x0 1 ∧ (wp E d M_X1_listRules 7 [some (vr x0), some (vr x1), some (vi 0)] [] (sI G x0 4 0) Q)) : wp E d M_X1_listRules 0 [some (vr x0), some (vr x1), none] [] G Q := by
  refine wp_aload_n (pc := 0) d_X1_listRules_0 rfl ?_
  refine wp_iconst (pc := 1) (v := 0) d_X1_listRules_1 rfl ?_
  obtain ⟨ho1, h⟩ := h
  refine wp_putI (pc := 2) d_X1_listRules_2 fl_X1_24 (fun _ _ _ => rfl) (Or.inl rfl) ho1 (okI_int _) ?_
  refine wp_iconst (pc := 5) (v := 0) d_X1_listRules_5 rfl ?_
  refine wp_istore_n (pc := 6) (lv' := [some (vr _), some (vr _), some (vi _)]) d_X1_listRules_6 (by decide) rfl ?_
  refine wp_sub ?_ h
  exact ⟨rfl, ⟨rfl, ⟨rfl, trivial⟩⟩⟩
theorem v_X1_listRules_7 {E : EE} {d : Nat} {Q : Option AV → AH → Prop} {x0 : Nat} {x1 : Nat} {x2 : Int32} {G : AH} (h : (24 ≤ x2 → Q none G) ∧ (¬ (24 ≤ x2) → isO E G x1 3 ∧ (isO E G (gR G x1 5) 2 ∧ (((((gI G (gR G x1 5) 0) >>> (x2 &&& 31)) &&& 1) = 0 → wp E d M_X1_listRules 53 [some (vr x0), some (vr x1), some (vi x2)] [] G Q) ∧ (¬ ((((gI G (gR G x1 5) 0) >>> (x2 &&& 31)) &&& 1) = 0) → isO E G x0 1 ∧ ((12 ≤ (gI G x0 4) → wp E d M_X1_listRules 53 [some (vr x0), some (vr x1), some (vi x2)] [] G Q) ∧ (¬ (12 ≤ (gI G x0 4)) → ∀ G4 : AH, G4 = sI G x0 4 ((gI G x0 4) + 1) → isO E G4 (gR G x0 3) 14 ∧ (vp_in (gI G x0 4) (gN G4 (gR G x0 3)) ∧ (∀ G9 : AH, G9 = sI G4 (gR G x0 3) (Int32.toNatClampNeg (gI G x0 4)) x2 → wp E d M_X1_listRules 53 [some (vr x0), some (vr x1), some (vi x2)] [] G9 Q))))))))) : wp E d M_X1_listRules 7 [some (vr x0), some (vr x1), some (vi x2)] [] G Q := by
  refine wp_iload_n (pc := 7) d_X1_listRules_7 rfl ?_
  refine wp_bipush (pc := 8) (v := 24) d_X1_listRules_8 rfl ?_
  refine wp_icmp_ge (pc := 10) (tgt := 59) d_X1_listRules_10 (by decide) (fun hc => ?_) (fun hc => ?_)
  · have h := h.1 hc
    exact wp_vret (pc := 59) d_X1_listRules_59 rfl h
  · have h := h.2 hc
    refine wp_aload_n (pc := 13) d_X1_listRules_13 rfl ?_
    obtain ⟨ho1, h⟩ := h
    refine wp_getR (pc := 14) d_X1_listRules_14 fl_X1_70 (fun _ _ _ => rfl) ho1 ?_
    obtain ⟨ho2, h⟩ := h
    refine wp_getI (pc := 17) d_X1_listRules_17 fl_X1_74 (fun _ _ _ => rfl) ho2 ?_
    refine wp_iload_n (pc := 20) d_X1_listRules_20 rfl ?_
    refine wp_ishr (pc := 21) d_X1_listRules_21 ?_
    refine wp_iconst (pc := 22) (v := 1) d_X1_listRules_22 rfl ?_
    refine wp_iand (pc := 23) d_X1_listRules_23 ?_
    refine wp_if_eq (pc := 24) (tgt := 53) d_X1_listRules_24 (by decide) (fun hc => ?_) (fun hc => ?_)
    · have h := h.1 hc
      refine wp_sub ?_ h
      exact ⟨rfl, ⟨rfl, ⟨rfl, trivial⟩⟩⟩
    · have h := h.2 hc
      refine wp_aload_n (pc := 27) d_X1_listRules_27 rfl ?_
      obtain ⟨ho3, h⟩ := h
      refine wp_getI (pc := 28) d_X1_listRules_28 fl_X1_24 (fun _ _ _ => rfl) ho3 ?_
      refine wp_bipush (pc := 31) (v := 12) d_X1_listRules_31 rfl ?_
      refine wp_icmp_ge (pc := 33) (tgt := 53) d_X1_listRules_33 (by decide) (fun hc => ?_) (fun hc => ?_)
      · have h := h.1 hc
        refine wp_sub ?_ h
        exact ⟨rfl, ⟨rfl, ⟨rfl, trivial⟩⟩⟩
      · have h := h.2 hc
        refine wp_aload_n (pc := 36) d_X1_listRules_36 rfl ?_
        refine wp_getR (pc := 37) d_X1_listRules_37 fl_X1_21 (fun _ _ _ => rfl) ho3 ?_
        refine wp_aload_n (pc := 40) d_X1_listRules_40 rfl ?_
        refine wp_dup (pc := 41) d_X1_listRules_41 (c1_r _) ?_
        refine wp_getI (pc := 42) d_X1_listRules_42 fl_X1_24 (fun _ _ _ => rfl) ho3 ?_
        refine wp_dup_x1 (pc := 45) d_X1_listRules_45 (c1_i _) (c1_r _) ?_
        refine wp_iconst (pc := 46) (v := 1) d_X1_listRules_46 rfl ?_
        refine wp_iadd (pc := 47) d_X1_listRules_47 ?_
        refine wp_putI (pc := 48) d_X1_listRules_48 fl_X1_24 (fun _ _ _ => rfl) (Or.inl rfl) ho3 (okI_int _) ?_
        refine wp_nm (fun G4 eG4 => ?_)
        have h := h G4 eG4
        have ho5 := isO_sI eG4 ho1
        have ho6 := isO_sI eG4 ho3
        refine wp_iload_n (pc := 51) d_X1_listRules_51 rfl ?_
        obtain ⟨ho7, h⟩ := h
        obtain ⟨hi8, h⟩ := h
        refine wp_iast (pc := 52) d_X1_listRules_52 ho7 hi8 ?_
        refine wp_nm (fun G9 eG9 => ?_)
        have h := h G9 eG9
        have ho10 := isO_sI eG9 ho5
        have ho11 := isO_sI eG9 ho6
        refine wp_sub ?_ h
        exact ⟨rfl, ⟨rfl, ⟨rfl, trivial⟩⟩⟩
theorem v_X1_listRules_53 {E : EE} {d : Nat} {Q : Option AV → AH → Prop} {x0 : Nat} {x1 : Nat} {x2 : Int32} {G : AH} (h : wp E d M_X1_listRules 7 [some (vr x0), some (vr x1), some (vi (x2 + 1))] [] G Q) : wp E d M_X1_listRules 53 [some (vr x0), some (vr x1), some (vi x2)] [] G Q := by
  refine wp_iinc (pc := 53) (v := 1) (lv' := [some (vr _), some (vr _), some (vi _)]) d_X1_listRules_53 (by decide) rfl rfl rfl ?_
  refine wp_goto (pc := 56) (tgt := 7) d_X1_listRules_56 (by decide) ?_
  refine wp_sub ?_ h
  exact ⟨rfl, ⟨rfl, ⟨rfl, trivial⟩⟩⟩
theorem d_X1_among_0 : decode prog_3_method_13_code 0 = .ok (.iconst 0, 1) := by decide +kernel
theorem d_X1_among_1 : decode prog_3_method_13_code 1 = .ok (.istore_n 2, 1) := by decide +kernel
theorem d_X1_among_2 : decode prog_3_method_13_code 2 = .ok (.iconst 0, 1) := by decide +kernel
theorem d_X1_among_3 : decode prog_3_method_13_code 3 = .ok (.istore_n 3, 1) := by decide +kernel
theorem d_X1_among_4 : decode prog_3_method_13_code 4 = .ok (.iload_n 3, 1) := by decide +kernel
theorem d_X1_among_5 : decode prog_3_method_13_code 5 = .ok (.aload_n 0, 1) := by decide +kernel
theorem d_X1_among_6 : decode prog_3_method_13_code 6 = .ok (.getfield 24, 3) := by decide +kernel
theorem d_X1_among_9 : decode prog_3_method_13_code 9 = .ok (.if_icmp .ge 24, 3) := by decide +kernel
theorem d_X1_among_12 : decode prog_3_method_13_code 12 = .ok (.iload_n 2, 1) := by decide +kernel
theorem d_X1_among_13 : decode prog_3_method_13_code 13 = .ok (.iload_n 1, 1) := by decide +kernel
theorem d_X1_among_14 : decode prog_3_method_13_code 14 = .ok (.aload_n 0, 1) := by decide +kernel
theorem d_X1_among_15 : decode prog_3_method_13_code 15 = .ok (.getfield 21, 3) := by decide +kernel
theorem d_X1_among_18 : decode prog_3_method_13_code 18 = .ok (.iload_n 3, 1) := by decide +kernel
theorem d_X1_among_19 : decode prog_3_method_13_code 19 = .ok (.iaload, 1) := by decide +kernel
theorem d_X1_among_20 : decode prog_3_method_13_code 20 = .ok (.ishr, 1) := by decide +kernel
theorem d_X1_among_21 : decode prog_3_method_13_code 21 = .ok (.iconst 1, 1) := by decide +kernel
theorem d_X1_among_22 : decode prog_3_method_13_code 22 = .ok (.iand, 1) := by decide +kernel
theorem d_X1_among_23 : decode prog_3_method_13_code 23 = .ok (.iload_n 3, 1) := by decide +kernel
theorem d_X1_among_24 : decode prog_3_method_13_code 24 = .ok (.ishl, 1) := by decide +kernel
theorem d_X1_among_25 : decode prog_3_method_13_code 25 = .ok (.ior, 1) := by decide +kernel
theorem d_X1_among_26 : decode prog_3_method_13_code 26 = .ok (.istore_n 2, 1) := by decide +kernel
theorem d_X1_among_27 : decode prog_3_method_13_code 27 = .ok (.iinc 3 1, 3) := by decide +kernel
theorem d_X1_among_30 : decode prog_3_method_13_code 30 = .ok (.goto (-26), 3) := by decide +kernel
theorem d_X1_among_33 : decode prog_3_method_13_code 33 = .ok (.iload_n 2, 1) := by decide +kernel
theorem d_X1_among_34 : decode prog_3_method_13_code 34 = .ok (.ireturn, 1) := by decide +kernel
theorem v_X1_among_0 {E : EE} {d : Nat} {Q : Option AV → AH → Prop} {x0 : Nat} {x1 : Int32} {G : AH} (h : wp E d M_X1_among 4 [some (vr x0), some (vi x1), some (vi 0), some (vi 0)] [] G Q) : wp E d M_X1_among 0 [some (vr x0), some (vi x1), none, none] [] G Q := by
  refine wp_iconst (pc := 0) (v := 0) d_X1_among_0 rfl ?_
  refine wp_istore_n (pc := 1) (lv' := [some (vr _), some (vi _), some (vi _), none]) d_X1_among_1 (by decide) rfl ?_
  refine wp_iconst (pc := 2) (v := 0) d_X1_among_2 rfl ?_
  refine wp_istore_n (pc := 3) (lv' := [some (vr _), some (vi _), some (vi _), some (vi _)]) d_X1_among_3 (by decide) rfl ?_
  refine wp_sub ?_ h
  exact ⟨rfl, ⟨rfl, ⟨rfl, ⟨rfl, trivial⟩⟩⟩⟩
theorem v_X1_among_4 {E : EE} {d : Nat} {Q : Option AV → AH → Prop} {x0 : Nat} {x1 : Int32} {x2 : Int32} {x3 : Int32} {G : AH} (h : isO E G x0 1 ∧ (((gI G x0 4) ≤ x3 → Q (some (vi x2)) G) ∧ (¬ ((gI G x0 4) ≤ x3) → isO E G (gR G x0 3) 14 ∧ (vp_in x3 (gN G (gR G x0 3)) ∧ (wp E d M_X1_among 4 [some (vr x0), some (vi x1), some (vi (x2 ||| (((x1 >>> ((gI G (gR G x0 3) (Int32.toNatClampNeg x3)) &&& 31)) &&& 1) <<< (x3 &&& 31)))), some (vi (x3 + 1))] [] G Q))))) : wp E d M_X1_among 4 [some (vr x0), some (vi x1), some (vi x2), some (vi x3)] [] G Q := by
  refine wp_iload_n (pc := 4) d_X1_among_4 rfl ?_
  refine wp_aload_n (pc := 5) d_X1_among_5 rfl ?_
  obtain ⟨ho1, h⟩ := h
  refine wp_getI (pc := 6) d_X1_among_6 fl_X1_24 (fun _ _ _ => rfl) ho1 ?_
  refine wp_icmp_ge (pc := 9) (tgt := 33) d_X1_among_9 (by decide) (fun hc => ?_) (fun hc => ?_)
  · have h := h.1 hc
    refine wp_iload_n (pc := 33) d_X1_among_33 rfl ?_
    exact wp_iret (pc := 34) d_X1_among_34 rfl h
  · have h := h.2 hc
    refine wp_iload_n (pc := 12) d_X1_among_12 rfl ?_
    refine wp_iload_n (pc := 13) d_X1_among_13 rfl ?_
    refine wp_aload_n (pc := 14) d_X1_among_14 rfl ?_
    refine wp_getR (pc := 15) d_X1_among_15 fl_X1_21 (fun _ _ _ => rfl) ho1 ?_
    refine wp_iload_n (pc := 18) d_X1_among_18 rfl ?_
    obtain ⟨ho2, h⟩ := h
    obtain ⟨hi3, h⟩ := h
    refine wp_iald (pc := 19) d_X1_among_19 ho2 hi3 ?_
    refine wp_ishr (pc := 20) d_X1_among_20 ?_
    refine wp_iconst (pc := 21) (v := 1) d_X1_among_21 rfl ?_
    refine wp_iand (pc := 22) d_X1_among_22 ?_
    refine wp_iload_n (pc := 23) d_X1_among_23 rfl ?_
    refine wp_ishl (pc := 24) d_X1_among_24 ?_
    refine wp_ior (pc := 25) d_X1_among_25 ?_
    refine wp_istore_n (pc := 26) (lv' := [some (vr _), some (vi _), some (vi _), some (vi _)]) d_X1_among_26 (by decide) rfl ?_
    refine wp_iinc (pc := 27) (v := 1) (lv' := [some (vr _), some (vi _), some (vi _), some (vi _)]) d_X1_among_27 (by decide) rfl rfl rfl ?_
    refine wp_goto (pc := 30) (tgt := 4) d_X1_among_30 (by decide) ?_
    refine wp_sub ?_ h
    exact ⟨rfl, ⟨rfl, ⟨rfl, ⟨rfl, trivial⟩⟩⟩⟩
theorem d_X1_weightOf_0 : decode prog_3_method_15_code 0 = .ok (.iconst 0, 1) := by decide +kernel
theorem d_X1_weightOf_1 : decode prog_3_method_15_code 1 = .ok (.istore_n 3, 1) := by decide +kernel
theorem d_X1_weightOf_2 : decode prog_3_method_15_code 2 = .ok (.iconst 0, 1) := by decide +kernel
theorem d_X1_weightOf_3 : decode prog_3_method_15_code 3 = .ok (.istore 4, 2) := by decide +kernel
theorem d_X1_weightOf_5 : decode prog_3_method_15_code 5 = .ok (.iload 4, 2) := by decide +kernel
theorem d_X1_weightOf_7 : decode prog_3_method_15_code 7 = .ok (.aload_n 0, 1) := by decide +kernel
theorem d_X1_weightOf_8 : decode prog_3_method_15_code 8 = .ok (.getfield 24, 3) := by decide +kernel
theorem d_X1_weightOf_11 : decode prog_3_method_15_code 11 = .ok (.if_icmp .ge 34, 3) := by decide +kernel
theorem d_X1_weightOf_14 : decode prog_3_method_15_code 14 = .ok (.iload_n 3, 1) := by decide +kernel
theorem d_X1_weightOf_15 : decode prog_3_method_15_code 15 = .ok (.iload_n 2, 1) := by decide +kernel
theorem d_X1_weightOf_16 : decode prog_3_method_15_code 16 = .ok (.iload 4, 2) := by decide +kernel
theorem d_X1_weightOf_18 : decode prog_3_method_15_code 18 = .ok (.ishr, 1) := by decide +kernel
theorem d_X1_weightOf_19 : decode prog_3_method_15_code 19 = .ok (.iconst 1, 1) := by decide +kernel
theorem d_X1_weightOf_20 : decode prog_3_method_15_code 20 = .ok (.iand, 1) := by decide +kernel
theorem d_X1_weightOf_21 : decode prog_3_method_15_code 21 = .ok (.aload_n 1, 1) := by decide +kernel
theorem d_X1_weightOf_22 : decode prog_3_method_15_code 22 = .ok (.getfield 70, 3) := by decide +kernel
theorem d_X1_weightOf_25 : decode prog_3_method_15_code 25 = .ok (.getfield 133, 3) := by decide +kernel
theorem d_X1_weightOf_28 : decode prog_3_method_15_code 28 = .ok (.aload_n 0, 1) := by decide +kernel
theorem d_X1_weightOf_29 : decode prog_3_method_15_code 29 = .ok (.getfield 21, 3) := by decide +kernel
theorem d_X1_weightOf_32 : decode prog_3_method_15_code 32 = .ok (.iload 4, 2) := by decide +kernel
theorem d_X1_weightOf_34 : decode prog_3_method_15_code 34 = .ok (.iaload, 1) := by decide +kernel
theorem d_X1_weightOf_35 : decode prog_3_method_15_code 35 = .ok (.iaload, 1) := by decide +kernel
theorem d_X1_weightOf_36 : decode prog_3_method_15_code 36 = .ok (.imul, 1) := by decide +kernel
theorem d_X1_weightOf_37 : decode prog_3_method_15_code 37 = .ok (.iadd, 1) := by decide +kernel
theorem d_X1_weightOf_38 : decode prog_3_method_15_code 38 = .ok (.istore_n 3, 1) := by decide +kernel
theorem d_X1_weightOf_39 : decode prog_3_method_15_code 39 = .ok (.iinc 4 1, 3) := by decide +kernel
theorem d_X1_weightOf_42 : decode prog_3_method_15_code 42 = .ok (.goto (-37), 3) := by decide +kernel
theorem d_X1_weightOf_45 : decode prog_3_method_15_code 45 = .ok (.iload_n 3, 1) := by decide +kernel
theorem d_X1_weightOf_46 : decode prog_3_method_15_code 46 = .ok (.ireturn, 1) := by decide +kernel
theorem v_X1_weightOf_0 {E : EE} {d : Nat} {Q : Option AV → AH → Prop} {x0 : Nat} {x1 : Nat} {x2 : Int32} {G : AH} (h : wp E d M_X1_weightOf 5 [some (vr x0), some (vr x1), some (vi x2), some (vi 0), some (vi 0)] [] G Q) : wp E d M_X1_weightOf 0 [some (vr x0), some (vr x1), some (vi x2), none, none] [] G Q := by
  refine wp_iconst (pc := 0) (v := 0) d_X1_weightOf_0 rfl ?_
  refine wp_istore_n (pc := 1) (lv' := [some (vr _), some (vr _), some (vi _), some (vi _), none]) d_X1_weightOf_1 (by decide) rfl ?_
  refine wp_iconst (pc := 2) (v := 0) d_X1_weightOf_2 rfl ?_
  refine wp_istore (pc := 3) (lv' := [some (vr _), some (vr _), some (vi _), some (vi _), some (vi _)]) d_X1_weightOf_3 (by decide) rfl ?_
  refine wp_sub ?_ h
  exact ⟨rfl, ⟨rfl, ⟨rfl, ⟨rfl, ⟨rfl, trivial⟩⟩⟩⟩⟩
theorem v_X1_weightOf_5 {E : EE} {d : Nat} {Q : Option AV → AH → Prop} {x0 : Nat} {x1 : Nat} {x2 : Int32} {x3 : Int32} {x4 : Int32} {G : AH} (h : isO E G x0 1 ∧ (((gI G x0 4) ≤ x4 → Q (some (vi x3)) G) ∧ (¬ ((gI G x0 4) ≤ x4) → isO E G x1 3 ∧ (isO E G (gR G x1 5) 2 ∧ (isO E G (gR G x0 3) 14 ∧ (vp_in x4 (gN G (gR G x0 3)) ∧ (isO E G (gR G (gR G x1 5) 5) 14 ∧ (vp_in (gI G (gR G x0 3) (Int32.toNatClampNeg x4)) (gN G (gR G (gR G x1 5) 5)) ∧ (wp E d M_X1_weightOf 5 [some (vr x0), some (vr x1), some (vi x2), some (vi (x3 + (((x2 >>> (x4 &&& 31)) &&& 1) * (gI G (gR G (gR G x1 5) 5) (Int32.toNatClampNeg (gI G (gR G x0 3) (Int32.toNatClampNeg x4))))))), some (vi (x4 + 1))] [] G Q))))))))) : wp E d M_X1_weightOf 5 [some (vr x0), some (vr x1), some (vi x2), some (vi x3), some (vi x4)] [] G Q := by
  refine wp_iload (pc := 5) d_X1_weightOf_5 rfl ?_
  refine wp_aload_n (pc := 7) d_X1_weightOf_7 rfl ?_
  obtain ⟨ho1, h⟩ := h
  refine wp_getI (pc := 8) d_X1_weightOf_8 fl_X1_24 (fun _ _ _ => rfl) ho1 ?_
  refine wp_icmp_ge (pc := 11) (tgt := 45) d_X1_weightOf_11 (by decide) (fun hc => ?_) (fun hc => ?_)
  · have h := h.1 hc
    refine wp_iload_n (pc := 45) d_X1_weightOf_45 rfl ?_
    exact wp_iret (pc := 46) d_X1_weightOf_46 rfl h
  · have h := h.2 hc
    refine wp_iload_n (pc := 14) d_X1_weightOf_14 rfl ?_
    refine wp_iload_n (pc := 15) d_X1_weightOf_15 rfl ?_
    refine wp_iload (pc := 16) d_X1_weightOf_16 rfl ?_
    refine wp_ishr (pc := 18) d_X1_weightOf_18 ?_
    refine wp_iconst (pc := 19) (v := 1) d_X1_weightOf_19 rfl ?_
    refine wp_iand (pc := 20) d_X1_weightOf_20 ?_
    refine wp_aload_n (pc := 21) d_X1_weightOf_21 rfl ?_
    obtain ⟨ho2, h⟩ := h
    refine wp_getR (pc := 22) d_X1_weightOf_22 fl_X1_70 (fun _ _ _ => rfl) ho2 ?_
    obtain ⟨ho3, h⟩ := h
    refine wp_getR (pc := 25) d_X1_weightOf_25 fl_X1_133 (fun _ _ _ => rfl) ho3 ?_
    refine wp_aload_n (pc := 28) d_X1_weightOf_28 rfl ?_
    refine wp_getR (pc := 29) d_X1_weightOf_29 fl_X1_21 (fun _ _ _ => rfl) ho1 ?_
    refine wp_iload (pc := 32) d_X1_weightOf_32 rfl ?_
    obtain ⟨ho4, h⟩ := h
    obtain ⟨hi5, h⟩ := h
    refine wp_iald (pc := 34) d_X1_weightOf_34 ho4 hi5 ?_
    obtain ⟨ho6, h⟩ := h
    obtain ⟨hi7, h⟩ := h
    refine wp_iald (pc := 35) d_X1_weightOf_35 ho6 hi7 ?_
    refine wp_imul (pc := 36) d_X1_weightOf_36 ?_
    refine wp_iadd (pc := 37) d_X1_weightOf_37 ?_
    refine wp_istore_n (pc := 38) (lv' := [some (vr _), some (vr _), some (vi _), some (vi _), some (vi _)]) d_X1_weightOf_38 (by decide) rfl ?_
    refine wp_iinc (pc := 39) (v := 1) (lv' := [some (vr _), some (vr _), some (vi _), some (vi _), some (vi _)]) d_X1_weightOf_39 (by decide) rfl rfl rfl ?_
    refine wp_goto (pc := 42) (tgt := 5) d_X1_weightOf_42 (by decide) ?_
    refine wp_sub ?_ h
    exact ⟨rfl, ⟨rfl, ⟨rfl, ⟨rfl, ⟨rfl, trivial⟩⟩⟩⟩⟩
theorem d_X1_isClash_0 : decode prog_3_method_12_code 0 = .ok (.iload_n 2, 1) := by decide +kernel
theorem d_X1_isClash_1 : decode prog_3_method_12_code 1 = .ok (.iload_n 1, 1) := by decide +kernel
theorem d_X1_isClash_2 : decode prog_3_method_12_code 2 = .ok (.iconst (-1), 1) := by decide +kernel
theorem d_X1_isClash_3 : decode prog_3_method_12_code 3 = .ok (.ixor, 1) := by decide +kernel
theorem d_X1_isClash_4 : decode prog_3_method_12_code 4 = .ok (.iand, 1) := by decide +kernel
theorem d_X1_isClash_5 : decode prog_3_method_12_code 5 = .ok (.istore_n 3, 1) := by decide +kernel
theorem d_X1_isClash_6 : decode prog_3_method_12_code 6 = .ok (.iload_n 3, 1) := by decide +kernel
theorem d_X1_isClash_7 : decode prog_3_method_12_code 7 = .ok (.ifCond .lt 21, 3) := by decide +kernel
theorem d_X1_isClash_10 : decode prog_3_method_12_code 10 = .ok (.iload_n 3, 1) := by decide +kernel
theorem d_X1_isClash_11 : decode prog_3_method_12_code 11 = .ok (.aload_n 0, 1) := by decide +kernel
theorem d_X1_isClash_12 : decode prog_3_method_12_code 12 = .ok (.getfield 28, 3) := by decide +kernel
theorem d_X1_isClash_15 : decode prog_3_method_12_code 15 = .ok (.arraylength, 1) := by decide +kernel
theorem d_X1_isClash_16 : decode prog_3_method_12_code 16 = .ok (.if_icmp .ge 12, 3) := by decide +kernel
theorem d_X1_isClash_19 : decode prog_3_method_12_code 19 = .ok (.aload_n 0, 1) := by decide +kernel
theorem d_X1_isClash_20 : decode prog_3_method_12_code 20 = .ok (.getfield 28, 3) := by decide +kernel
theorem d_X1_isClash_23 : decode prog_3_method_12_code 23 = .ok (.iload_n 3, 1) := by decide +kernel
theorem d_X1_isClash_24 : decode prog_3_method_12_code 24 = .ok (.baload, 1) := by decide +kernel
theorem d_X1_isClash_25 : decode prog_3_method_12_code 25 = .ok (.ifCond .ne 7, 3) := by decide +kernel
theorem d_X1_isClash_28 : decode prog_3_method_12_code 28 = .ok (.iconst 1, 1) := by decide +kernel
theorem d_X1_isClash_29 : decode prog_3_method_12_code 29 = .ok (.goto 4, 3) := by decide +kernel
theorem d_X1_isClash_32 : decode prog_3_method_12_code 32 = .ok (.iconst 0, 1) := by decide +kernel
theorem d_X1_isClash_33 : decode prog_3_method_12_code 33 = .ok (.ireturn, 1) := by decide +kernel
theorem v_X1_isClash_0 {E : EE} {d : Nat} {Q : Option AV → AH → Prop} {x0 : Nat} {x1 : Int32} {x2 : Int32} {G : AH} (h : ((x2 &&& (x1 ^^^ (-1))) < 0 → wp E d M_X1_isClash 28 [some (vr x0), some (vi x1), some (vi x2), some (vi (x2 &&& (x1 ^^^ (-1))))] [] G Q) ∧ (¬ ((x2 &&& (x1 ^^^ (-1))) < 0) → isO E G x0 1 ∧ (isO E G (gR G x0 5) 16 ∧ (((nI (gN G (gR G x0 5))) ≤ (x2 &&& (x1 ^^^ (-1))) → wp E d M_X1_isClash 28 [some (vr x0), some (vi x1), some (vi x2), some (vi (x2 &&& (x1 ^^^ (-1))))] [] G Q) ∧ (¬ ((nI (gN G (gR G x0 5))) ≤ (x2 &&& (x1 ^^^ (-1)))) → vp_in (x2 &&& (x1 ^^^ (-1))) (gN G (gR G x0 5)) ∧ ((¬ (gI G (gR G x0 5) (Int32.toNatClampNeg (x2 &&& (x1 ^^^ (-1))))) = 0 → Q (some (vi 0)) G) ∧ ((gI G (gR G x0 5) (Int32.toNatClampNeg (x2 &&& (x1 ^^^ (-1))))) = 0 → wp E d M_X1_isClash 28 [some (vr x0), some (vi x1), some (vi x2), some (vi (x2 &&& (x1 ^^^ (-1))))] [] G Q))))))) : wp E d M_X1_isClash 0 [some (vr x0), some (vi x1), some (vi x2), none] [] G Q := by
  refine wp_iload_n (pc := 0) d_X1_isClash_0 rfl ?_
  refine wp_iload_n (pc := 1) d_X1_isClash_1 rfl ?_
  refine wp_iconst (pc := 2) (v := (-1)) d_X1_isClash_2 rfl ?_
  refine wp_ixor (pc := 3) d_X1_isClash_3 ?_
  refine wp_iand (pc := 4) d_X1_isClash_4 ?_
  refine wp_istore_n (pc := 5) (lv' := [some (vr _), some (vi _), some (vi _), some (vi _)]) d_X1_isClash_5 (by decide) rfl ?_
  refine wp_iload_n (pc := 6) d_X1_isClash_6 rfl ?_
  refine wp_if_lt (pc := 7) (tgt := 28) d_X1_isClash_7 (by decide) (fun hc => ?_) (fun hc => ?_)
  · have h := h.1 hc
    refine wp_sub ?_ h
    exact ⟨rfl, ⟨rfl, ⟨rfl, ⟨rfl, trivial⟩⟩⟩⟩
  · have h := h.2 hc
    refine wp_iload_n (pc := 10) d_X1_isClash_10 rfl ?_
    refine wp_aload_n (pc := 11) d_X1_isClash_11 rfl ?_
    obtain ⟨ho1, h⟩ := h
    refine wp_getR (pc := 12) d_X1_isClash_12 fl_X1_28 (fun _ _ _ => rfl) ho1 ?_
    obtain ⟨ho2, h⟩ := h
    refine wp_alen (pc := 15) d_X1_isClash_15 ho2 (by decide) rfl ?_
    refine wp_icmp_ge (pc := 16) (tgt := 28) d_X1_isClash_16 (by decide) (fun hc => ?_) (fun hc => ?_)
    · have h := h.1 hc
      refine wp_sub ?_ h
      exact ⟨rfl, ⟨rfl, ⟨rfl, ⟨rfl, trivial⟩⟩⟩⟩
    · have h := h.2 hc
      refine wp_aload_n (pc := 19) d_X1_isClash_19 rfl ?_
      refine wp_getR (pc := 20) d_X1_isClash_20 fl_X1_28 (fun _ _ _ => rfl) ho1 ?_
      refine wp_iload_n (pc := 23) d_X1_isClash_23 rfl ?_
      obtain ⟨hi3, h⟩ := h
      refine wp_zald (pc := 24) d_X1_isClash_24 ho2 hi3 ?_
      refine wp_if_ne (pc := 25) (tgt := 32) d_X1_isClash_25 (by decide) (fun hc => ?_) (fun hc => ?_)
      · have h := h.1 hc
        refine wp_iconst (pc := 32) (v := 0) d_X1_isClash_32 rfl ?_
        exact wp_zret (pc := 33) d_X1_isClash_33 rfl rfl h
      · have h := h.2 hc
        refine wp_sub ?_ h
        exact ⟨rfl, ⟨rfl, ⟨rfl, ⟨rfl, trivial⟩⟩⟩⟩
theorem v_X1_isClash_28 {E : EE} {d : Nat} {Q : Option AV → AH → Prop} {x0 : Nat} {x1 : Int32} {x2 : Int32} {x3 : Int32} {G : AH} (h : Q (some (vi 1)) G) : wp E d M_X1_isClash 28 [some (vr x0), some (vi x1), some (vi x2), some (vi x3)] [] G Q := by
  refine wp_iconst (pc := 28) (v := 1) d_X1_isClash_28 rfl ?_
  refine wp_goto (pc := 29) (tgt := 33) d_X1_isClash_29 (by decide) ?_
  exact wp_zret (pc := 33) d_X1_isClash_33 rfl rfl h
theorem d_X1_byNumber_0 : decode prog_3_method_14_code 0 = .ok (.iconst 0, 1) := by decide +kernel
theorem d_X1_byNumber_1 : decode prog_3_method_14_code 1 = .ok (.istore_n 2, 1) := by decide +kernel
theorem d_X1_byNumber_2 : decode prog_3_method_14_code 2 = .ok (.iconst 0, 1) := by decide +kernel
theorem d_X1_byNumber_3 : decode prog_3_method_14_code 3 = .ok (.istore_n 3, 1) := by decide +kernel
theorem d_X1_byNumber_4 : decode prog_3_method_14_code 4 = .ok (.iload_n 3, 1) := by decide +kernel
theorem d_X1_byNumber_5 : decode prog_3_method_14_code 5 = .ok (.aload_n 0, 1) := by decide +kernel
theorem d_X1_byNumber_6 : decode prog_3_method_14_code 6 = .ok (.getfield 24, 3) := by decide +kernel
theorem d_X1_byNumber_9 : decode prog_3_method_14_code 9 = .ok (.if_icmp .ge 24, 3) := by decide +kernel
theorem d_X1_byNumber_12 : decode prog_3_method_14_code 12 = .ok (.iload_n 2, 1) := by decide +kernel
theorem d_X1_byNumber_13 : decode prog_3_method_14_code 13 = .ok (.iload_n 1, 1) := by decide +kernel
theorem d_X1_byNumber_14 : decode prog_3_method_14_code 14 = .ok (.iload_n 3, 1) := by decide +kernel
theorem d_X1_byNumber_15 : decode prog_3_method_14_code 15 = .ok (.ishr, 1) := by decide +kernel
theorem d_X1_byNumber_16 : decode prog_3_method_14_code 16 = .ok (.iconst 1, 1) := by decide +kernel
theorem d_X1_byNumber_17 : decode prog_3_method_14_code 17 = .ok (.iand, 1) := by decide +kernel
theorem d_X1_byNumber_18 : decode prog_3_method_14_code 18 = .ok (.aload_n 0, 1) := by decide +kernel
theorem d_X1_byNumber_19 : decode prog_3_method_14_code 19 = .ok (.getfield 21, 3) := by decide +kernel
theorem d_X1_byNumber_22 : decode prog_3_method_14_code 22 = .ok (.iload_n 3, 1) := by decide +kernel
theorem d_X1_byNumber_23 : decode prog_3_method_14_code 23 = .ok (.iaload, 1) := by decide +kernel
theorem d_X1_byNumber_24 : decode prog_3_method_14_code 24 = .ok (.ishl, 1) := by decide +kernel
theorem d_X1_byNumber_25 : decode prog_3_method_14_code 25 = .ok (.ior, 1) := by decide +kernel
theorem d_X1_byNumber_26 : decode prog_3_method_14_code 26 = .ok (.istore_n 2, 1) := by decide +kernel
theorem d_X1_byNumber_27 : decode prog_3_method_14_code 27 = .ok (.iinc 3 1, 3) := by decide +kernel
theorem d_X1_byNumber_30 : decode prog_3_method_14_code 30 = .ok (.goto (-26), 3) := by decide +kernel
theorem d_X1_byNumber_33 : decode prog_3_method_14_code 33 = .ok (.iload_n 2, 1) := by decide +kernel
theorem d_X1_byNumber_34 : decode prog_3_method_14_code 34 = .ok (.ireturn, 1) := by decide +kernel
theorem v_X1_byNumber_0 {E : EE} {d : Nat} {Q : Option AV → AH → Prop} {x0 : Nat} {x1 : Int32} {G : AH} (h : wp E d M_X1_byNumber 4 [some (vr x0), some (vi x1), some (vi 0), some (vi 0)] [] G Q) : wp E d M_X1_byNumber 0 [some (vr x0), some (vi x1), none, none] [] G Q := by
  refine wp_iconst (pc := 0) (v := 0) d_X1_byNumber_0 rfl ?_
  refine wp_istore_n (pc := 1) (lv' := [some (vr _), some (vi _), some (vi _), none]) d_X1_byNumber_1 (by decide) rfl ?_
  refine wp_iconst (pc := 2) (v := 0) d_X1_byNumber_2 rfl ?_
  refine wp_istore_n (pc := 3) (lv' := [some (vr _), some (vi _), some (vi _), some (vi _)]) d_X1_byNumber_3 (by decide) rfl ?_
  refine wp_sub ?_ h
  exact ⟨rfl, ⟨rfl, ⟨rfl, ⟨rfl, trivial⟩⟩⟩⟩
theorem v_X1_byNumber_4 {E : EE} {d : Nat} {Q : Option AV → AH → Prop} {x0 : Nat} {x1 : Int32} {x2 : Int32} {x3 : Int32} {G : AH} (h : isO E G x0 1 ∧ (((gI G x0 4) ≤ x3 → Q (some (vi x2)) G) ∧ (¬ ((gI G x0 4) ≤ x3) → isO E G (gR G x0 3) 14 ∧ (vp_in x3 (gN G (gR G x0 3)) ∧ (wp E d M_X1_byNumber 4 [some (vr x0), some (vi x1), some (vi (x2 ||| (((x1 >>> (x3 &&& 31)) &&& 1) <<< ((gI G (gR G x0 3) (Int32.toNatClampNeg x3)) &&& 31)))), some (vi (x3 + 1))] [] G Q))))) : wp E d M_X1_byNumber 4 [some (vr x0), some (vi x1), some (vi x2), some (vi x3)] [] G Q := by
  refine wp_iload_n (pc := 4) d_X1_byNumber_4 rfl ?_
  refine wp_aload_n (pc := 5) d_X1_byNumber_5 rfl ?_
  obtain ⟨ho1, h⟩ := h
  refine wp_getI (pc := 6) d_X1_byNumber_6 fl_X1_24 (fun _ _ _ => rfl) ho1 ?_
  refine wp_icmp_ge (pc := 9) (tgt := 33) d_X1_byNumber_9 (by decide) (fun hc => ?_) (fun hc => ?_)
  · have h := h.1 hc
    refine wp_iload_n (pc := 33) d_X1_byNumber_33 rfl ?_
    exact wp_iret (pc := 34) d_X1_byNumber_34 rfl h
  · have h := h.2 hc
    refine wp_iload_n (pc := 12) d_X1_byNumber_12 rfl ?_
    refine wp_iload_n (pc := 13) d_X1_byNumber_13 rfl ?_
    refine wp_iload_n (pc := 14) d_X1_byNumber_14 rfl ?_
    refine wp_ishr (pc := 15) d_X1_byNumber_15 ?_
    refine wp_iconst (pc := 16) (v := 1) d_X1_byNumber_16 rfl ?_
    refine wp_iand (pc := 17) d_X1_byNumber_17 ?_
    refine wp_aload_n (pc := 18) d_X1_byNumber_18 rfl ?_
    refine wp_getR (pc := 19) d_X1_byNumber_19 fl_X1_21 (fun _ _ _ => rfl) ho1 ?_
    refine wp_iload_n (pc := 22) d_X1_byNumber_22 rfl ?_
    obtain ⟨ho2, h⟩ := h
    obtain ⟨hi3, h⟩ := h
    refine wp_iald (pc := 23) d_X1_byNumber_23 ho2 hi3 ?_
    refine wp_ishl (pc := 24) d_X1_byNumber_24 ?_
    refine wp_ior (pc := 25) d_X1_byNumber_25 ?_
    refine wp_istore_n (pc := 26) (lv' := [some (vr _), some (vi _), some (vi _), some (vi _)]) d_X1_byNumber_26 (by decide) rfl ?_
    refine wp_iinc (pc := 27) (v := 1) (lv' := [some (vr _), some (vi _), some (vi _), some (vi _)]) d_X1_byNumber_27 (by decide) rfl rfl rfl ?_
    refine wp_goto (pc := 30) (tgt := 4) d_X1_byNumber_30 (by decide) ?_
    refine wp_sub ?_ h
    exact ⟨rfl, ⟨rfl, ⟨rfl, ⟨rfl, trivial⟩⟩⟩⟩
theorem d_X1_smallest_0 : decode prog_3_method_9_code 0 = .ok (.aload_n 0, 1) := by decide +kernel
theorem d_X1_smallest_1 : decode prog_3_method_9_code 1 = .ok (.aload_n 1, 1) := by decide +kernel
theorem d_X1_smallest_2 : decode prog_3_method_9_code 2 = .ok (.invokevirtual 114, 3) := by decide +kernel
theorem d_X1_smallest_5 : decode prog_3_method_9_code 5 = .ok (.istore_n 2, 1) := by decide +kernel
theorem d_X1_smallest_6 : decode prog_3_method_9_code 6 = .ok (.iconst 0, 1) := by decide +kernel
theorem d_X1_smallest_7 : decode prog_3_method_9_code 7 = .ok (.istore_n 3, 1) := by decide +kernel
theorem d_X1_smallest_8 : decode prog_3_method_9_code 8 = .ok (.bipush 13, 2) := by decide +kernel
theorem d_X1_smallest_10 : decode prog_3_method_9_code 10 = .ok (.istore 4, 2) := by decide +kernel
theorem d_X1_smallest_12 : decode prog_3_method_9_code 12 = .ok (.iconst 1, 1) := by decide +kernel
theorem d_X1_smallest_13 : decode prog_3_method_9_code 13 = .ok (.istore 5, 2) := by decide +kernel
theorem d_X1_smallest_15 : decode prog_3_method_9_code 15 = .ok (.iload 5, 2) := by decide +kernel
theorem d_X1_smallest_17 : decode prog_3_method_9_code 17 = .ok (.iload_n 2, 1) := by decide +kernel
theorem d_X1_smallest_18 : decode prog_3_method_9_code 18 = .ok (.if_icmp .gt 43, 3) := by decide +kernel
theorem d_X1_smallest_21 : decode prog_3_method_9_code 21 = .ok (.iload 5, 2) := by decide +kernel
theorem d_X1_smallest_23 : decode prog_3_method_9_code 23 = .ok (.invokestatic 64, 3) := by decide +kernel
theorem d_X1_smallest_26 : decode prog_3_method_9_code 26 = .ok (.istore 6, 2) := by decide +kernel
theorem d_X1_smallest_28 : decode prog_3_method_9_code 28 = .ok (.iload 6, 2) := by decide +kernel
theorem d_X1_smallest_30 : decode prog_3_method_9_code 30 = .ok (.iload 4, 2) := by decide +kernel
theorem d_X1_smallest_32 : decode prog_3_method_9_code 32 = .ok (.if_icmp .ge 23, 3) := by decide +kernel
theorem d_X1_smallest_35 : decode prog_3_method_9_code 35 = .ok (.aload_n 0, 1) := by decide +kernel
theorem d_X1_smallest_36 : decode prog_3_method_9_code 36 = .ok (.iload 5, 2) := by decide +kernel
theorem d_X1_smallest_38 : decode prog_3_method_9_code 38 = .ok (.iload_n 2, 1) := by decide +kernel
theorem d_X1_smallest_39 : decode prog_3_method_9_code 39 = .ok (.invokevirtual 118, 3) := by decide +kernel
theorem d_X1_smallest_42 : decode prog_3_method_9_code 42 = .ok (.ifCond .ne 6, 3) := by decide +kernel
theorem d_X1_smallest_45 : decode prog_3_method_9_code 45 = .ok (.goto 10, 3) := by decide +kernel
theorem d_X1_smallest_48 : decode prog_3_method_9_code 48 = .ok (.iload 6, 2) := by decide +kernel
theorem d_X1_smallest_50 : decode prog_3_method_9_code 50 = .ok (.istore 4, 2) := by decide +kernel
theorem d_X1_smallest_52 : decode prog_3_method_9_code 52 = .ok (.iload 5, 2) := by decide +kernel
theorem d_X1_smallest_54 : decode prog_3_method_9_code 54 = .ok (.istore_n 3, 1) := by decide +kernel
theorem d_X1_smallest_55 : decode prog_3_method_9_code 55 = .ok (.iinc 5 1, 3) := by decide +kernel
theorem d_X1_smallest_58 : decode prog_3_method_9_code 58 = .ok (.goto (-43), 3) := by decide +kernel
theorem d_X1_smallest_61 : decode prog_3_method_9_code 61 = .ok (.aload_n 0, 1) := by decide +kernel
theorem d_X1_smallest_62 : decode prog_3_method_9_code 62 = .ok (.iload_n 3, 1) := by decide +kernel
theorem d_X1_smallest_63 : decode prog_3_method_9_code 63 = .ok (.invokevirtual 122, 3) := by decide +kernel
theorem d_X1_smallest_66 : decode prog_3_method_9_code 66 = .ok (.ireturn, 1) := by decide +kernel
theorem v_X1_smallest_0 {E : EE} {d : Nat} {Q : Option AV → AH → Prop} {x0 : Nat} {x1 : Nat} {G : AH} (h0 : 0 < d) (h : isO E G x0 1 ∧ (wpI E (d - 1) M_X1_lookAtSets [vr x0, vr x1] G (fun r1 G2 => wp E d M_X1_smallest 15 [some (vr x0), some (vr x1), some (vi r1), some (vi 0), some (vi 13), some (vi 1), none] [] G2 Q))) : wp E d M_X1_smallest 0 [some (vr x0), some (vr x1), none, none, none, none, none] [] G Q := by
  refine wp_aload_n (pc := 0) d_X1_smallest_0 rfl ?_
  refine wp_aload_n (pc := 1) d_X1_smallest_1 rfl ?_
  obtain ⟨ho3, h⟩ := h
  refine wp_invV (pc := 2) (N := M_X1_lookAtSets) (As := [vr _]) (rest := []) (r := (cn_1, ct_1, 6)) d_X1_smallest_2 ml_X1_114 mk_X1_lookAtSets mv_X1_lookAtSets h0 ho3 rfl rfl (Nat.le_of_ble_eq_true rfl) ?_
  refine wpM.mono h (fun rr G2 hr => ?_)
  obtain ⟨r1, rfl, h⟩ := hr
  show wp E d M_X1_smallest 5 [some (vr _), some (vr _), none, none, none, none, none] [vi _] G2 Q
  refine wp_istore_n (pc := 5) (lv' := [some (vr _), some (vr _), some (vi _), none, none, none, none]) d_X1_smallest_5 (by decide) rfl ?_
  refine wp_iconst (pc := 6) (v := 0) d_X1_smallest_6 rfl ?_
  refine wp_istore_n (pc := 7) (lv' := [some (vr _), some (vr _), some (vi _), some (vi _), none, none, none]) d_X1_smallest_7 (by decide) rfl ?_
  refine wp_bipush (pc := 8) (v := 13) d_X1_smallest_8 rfl ?_
  refine wp_istore (pc := 10) (lv' := [some (vr _), some (vr _), some (vi _), some (vi _), some (vi _), none, none]) d_X1_smallest_10 (by decide) rfl ?_
  refine wp_iconst (pc := 12) (v := 1) d_X1_smallest_12 rfl ?_
  refine wp_istore (pc := 13) (lv' := [some (vr _), some (vr _), some (vi _), some (vi _), some (vi _), some (vi _), none]) d_X1_smallest_13 (by decide) rfl ?_
  refine wp_sub ?_ h
  exact ⟨rfl, ⟨rfl, ⟨rfl, ⟨rfl, ⟨rfl, ⟨rfl, trivial⟩⟩⟩⟩⟩⟩
theorem v_X1_smallest_15 {E : EE} {d : Nat} {Q : Option AV → AH → Prop} {x0 : Nat} {x1 : Nat} {x2 : Int32} {x3 : Int32} {x4 : Int32} {x5 : Int32} {G : AH} (h0 : 0 < d) (h : (x2 < x5 → isO E G x0 1 ∧ (wpI E (d - 1) M_X1_byNumber [vr x0, vi x3] G (fun r1 G2 => Q (some (vi r1)) G2))) ∧ (¬ (x2 < x5) → wpI E (d - 1) M_J6_bitCount_0f7a4 [vi x5] G (fun r4 G5 => (x4 ≤ r4 → wp E d M_X1_smallest 55 [some (vr x0), some (vr x1), some (vi x2), some (vi x3), some (vi x4), some (vi x5), some (vi r4)] [] G5 Q) ∧ (¬ (x4 ≤ r4) → isO E G5 x0 1 ∧ (wpI E (d - 1) M_X1_isClash [vr x0, vi x5, vi x2] G5 (fun r6 G7 => (¬ r6 = 0 → wp E d M_X1_smallest 55 [some (vr x0), some (vr x1), some (vi x2), some (vi x5), some (vi r4), some (vi x5), some (vi r4)] [] G7 Q) ∧ (r6 = 0 → wp E d M_X1_smallest 55 [some (vr x0), some (vr x1), some (vi x2), some (vi x3), some (vi x4), some (vi x5), some (vi r4)] [] G7 Q))))))) : wp E d M_X1_smallest 15 [some (vr x0), some (vr x1), some (vi x2), some (vi x3), some (vi x4), some (vi x5), none] [] G Q := by
  refine wp_iload (pc := 15) d_X1_smallest_15 rfl ?_
  refine wp_iload_n (pc := 17) d_X1_smallest_17 rfl ?_
  refine wp_icmp_gt (pc := 18) (tgt := 61) d_X1_smallest_18 (by decide) (fun hc => ?_) (fun hc => ?_)
  · have h := h.1 hc
    refine wp_aload_n (pc := 61) d_X1_smallest_61 rfl ?_
    refine wp_iload_n (pc := 62) d_X1_smallest_62 rfl ?_
    obtain ⟨ho3, h⟩ := h
    refine wp_invV (pc := 63) (N := M_X1_byNumber) (As := [vi _]) (rest := []) (r := (cn_1, ct_1, 6)) d_X1_smallest_63 ml_X1_122 mk_X1_byNumber mv_X1_byNumber h0 ho3 rfl rfl (Nat.le_of_ble_eq_true rfl) ?_
    refine wpM.mono h (fun rr G2 hr => ?_)
    obtain ⟨r1, rfl, h⟩ := hr
    show wp E d M_X1_smallest 66 [some (vr _), some (vr _), some (vi _), some (vi _), some (vi _), some (vi _), none] [vi _] G2 Q
    exact wp_iret (pc := 66) d_X1_smallest_66 rfl h
  · have h := h.2 hc
    refine wp_iload (pc := 21) d_X1_smallest_21 rfl ?_
    refine wp_invS (pc := 23) (N := M_J6_bitCount_0f7a4) (As := [vi _]) (rest := []) d_X1_smallest_23 ml_X1_64 mk_J6_bitCount_0f7a4 ms_J6_bitCount_0f7a4 h0 (Nat.le_of_ble_eq_true rfl) ?_
    refine wpM.mono h (fun rr G5 hr => ?_)
    obtain ⟨r4, rfl, h⟩ := hr
    show wp E d M_X1_smallest 26 [some (vr _), some (vr _), some (vi _), some (vi _), some (vi _), some (vi _), none] [vi _] G5 Q
    refine wp_istore (pc := 26) (lv' := [some (vr _), some (vr _), some (vi _), some (vi _), some (vi _), some (vi _), some (vi _)]) d_X1_smallest_26 (by decide) rfl ?_
    refine wp_iload (pc := 28) d_X1_smallest_28 rfl ?_
    refine wp_iload (pc := 30) d_X1_smallest_30 rfl ?_
    refine wp_icmp_ge (pc := 32) (tgt := 55) d_X1_smallest_32 (by decide) (fun hc => ?_) (fun hc => ?_)
    · have h := h.1 hc
      refine wp_sub ?_ h
      exact ⟨rfl, ⟨rfl, ⟨rfl, ⟨rfl, ⟨rfl, ⟨rfl, ⟨rfl, trivial⟩⟩⟩⟩⟩⟩⟩
    · have h := h.2 hc
      refine wp_aload_n (pc := 35) d_X1_smallest_35 rfl ?_
      refine wp_iload (pc := 36) d_X1_smallest_36 rfl ?_
      refine wp_iload_n (pc := 38) d_X1_smallest_38 rfl ?_
      obtain ⟨ho8, h⟩ := h
      refine wp_invV (pc := 39) (N := M_X1_isClash) (As := [vi _, vi _]) (rest := []) (r := (cn_1, ct_1, 6)) d_X1_smallest_39 ml_X1_118 mk_X1_isClash mv_X1_isClash h0 ho8 rfl rfl (Nat.le_of_ble_eq_true rfl) ?_
      refine wpM.mono h (fun rr G7 hr => ?_)
      obtain ⟨r6, rfl, h⟩ := hr
      show wp E d M_X1_smallest 42 [some (vr _), some (vr _), some (vi _), some (vi _), some (vi _), some (vi _), some (vi _)] [vi _] G7 Q
      refine wp_if_ne (pc := 42) (tgt := 48) d_X1_smallest_42 (by decide) (fun hc => ?_) (fun hc => ?_)
      · have h := h.1 hc
        refine wp_iload (pc := 48) d_X1_smallest_48 rfl ?_
        refine wp_istore (pc := 50) (lv' := [some (vr _), some (vr _), some (vi _), some (vi _), some (vi _), some (vi _), some (vi _)]) d_X1_smallest_50 (by decide) rfl ?_
        refine wp_iload (pc := 52) d_X1_smallest_52 rfl ?_
        refine wp_istore_n (pc := 54) (lv' := [some (vr _), some (vr _), some (vi _), some (vi _), some (vi _), some (vi _), some (vi _)]) d_X1_smallest_54 (by decide) rfl ?_
        refine wp_sub ?_ h
        exact ⟨rfl, ⟨rfl, ⟨rfl, ⟨rfl, ⟨rfl, ⟨rfl, ⟨rfl, trivial⟩⟩⟩⟩⟩⟩⟩
      · have h := h.2 hc
        refine wp_goto (pc := 45) (tgt := 55) d_X1_smallest_45 (by decide) ?_
        refine wp_sub ?_ h
        exact ⟨rfl, ⟨rfl, ⟨rfl, ⟨rfl, ⟨rfl, ⟨rfl, ⟨rfl, trivial⟩⟩⟩⟩⟩⟩⟩
theorem v_X1_smallest_55 {E : EE} {d : Nat} {Q : Option AV → AH → Prop} {x0 : Nat} {x1 : Nat} {x2 : Int32} {x3 : Int32} {x4 : Int32} {x5 : Int32} {x6 : Int32} {G : AH} (h : wp E d M_X1_smallest 15 [some (vr x0), some (vr x1), some (vi x2), some (vi x3), some (vi x4), some (vi (x5 + 1)), none] [] G Q) : wp E d M_X1_smallest 55 [some (vr x0), some (vr x1), some (vi x2), some (vi x3), some (vi x4), some (vi x5), some (vi x6)] [] G Q := by
  refine wp_iinc (pc := 55) (v := 1) (lv' := [some (vr _), some (vr _), some (vi _), some (vi _), some (vi _), some (vi _), some (vi _)]) d_X1_smallest_55 (by decide) rfl rfl rfl ?_
  refine wp_goto (pc := 58) (tgt := 15) d_X1_smallest_58 (by decide) ?_
  refine wp_sub ?_ h
  exact ⟨rfl, ⟨rfl, ⟨rfl, ⟨rfl, ⟨rfl, ⟨rfl, trivial⟩⟩⟩⟩⟩⟩
theorem d_X1_narrowed_0 : decode prog_3_method_8_code 0 = .ok (.aload_n 0, 1) := by decide +kernel
theorem d_X1_narrowed_1 : decode prog_3_method_8_code 1 = .ok (.aload_n 1, 1) := by decide +kernel
theorem d_X1_narrowed_2 : decode prog_3_method_8_code 2 = .ok (.invokevirtual 114, 3) := by decide +kernel
theorem d_X1_narrowed_5 : decode prog_3_method_8_code 5 = .ok (.istore_n 2, 1) := by decide +kernel
theorem d_X1_narrowed_6 : decode prog_3_method_8_code 6 = .ok (.aload_n 0, 1) := by decide +kernel
theorem d_X1_narrowed_7 : decode prog_3_method_8_code 7 = .ok (.iload_n 2, 1) := by decide +kernel
theorem d_X1_narrowed_8 : decode prog_3_method_8_code 8 = .ok (.iload_n 2, 1) := by decide +kernel
theorem d_X1_narrowed_9 : decode prog_3_method_8_code 9 = .ok (.invokevirtual 118, 3) := by decide +kernel
theorem d_X1_narrowed_12 : decode prog_3_method_8_code 12 = .ok (.ifCond .ne 5, 3) := by decide +kernel
theorem d_X1_narrowed_15 : decode prog_3_method_8_code 15 = .ok (.iconst 0, 1) := by decide +kernel
theorem d_X1_narrowed_16 : decode prog_3_method_8_code 16 = .ok (.ireturn, 1) := by decide +kernel
theorem d_X1_narrowed_17 : decode prog_3_method_8_code 17 = .ok (.iload_n 2, 1) := by decide +kernel
theorem d_X1_narrowed_18 : decode prog_3_method_8_code 18 = .ok (.istore_n 3, 1) := by decide +kernel
theorem d_X1_narrowed_19 : decode prog_3_method_8_code 19 = .ok (.iconst 0, 1) := by decide +kernel
theorem d_X1_narrowed_20 : decode prog_3_method_8_code 20 = .ok (.istore 4, 2) := by decide +kernel
theorem d_X1_narrowed_22 : decode prog_3_method_8_code 22 = .ok (.iload 4, 2) := by decide +kernel
theorem d_X1_narrowed_24 : decode prog_3_method_8_code 24 = .ok (.aload_n 0, 1) := by decide +kernel
theorem d_X1_narrowed_25 : decode prog_3_method_8_code 25 = .ok (.getfield 24, 3) := by decide +kernel
theorem d_X1_narrowed_28 : decode prog_3_method_8_code 28 = .ok (.if_icmp .ge 32, 3) := by decide +kernel
theorem d_X1_narrowed_31 : decode prog_3_method_8_code 31 = .ok (.iload_n 3, 1) := by decide +kernel
theorem d_X1_narrowed_32 : decode prog_3_method_8_code 32 = .ok (.iconst 1, 1) := by decide +kernel
theorem d_X1_narrowed_33 : decode prog_3_method_8_code 33 = .ok (.iload 4, 2) := by decide +kernel
theorem d_X1_narrowed_35 : decode prog_3_method_8_code 35 = .ok (.ishl, 1) := by decide +kernel
theorem d_X1_narrowed_36 : decode prog_3_method_8_code 36 = .ok (.iconst (-1), 1) := by decide +kernel
theorem d_X1_narrowed_37 : decode prog_3_method_8_code 37 = .ok (.ixor, 1) := by decide +kernel
theorem d_X1_narrowed_38 : decode prog_3_method_8_code 38 = .ok (.iand, 1) := by decide +kernel
theorem d_X1_narrowed_39 : decode prog_3_method_8_code 39 = .ok (.istore 5, 2) := by decide +kernel
theorem d_X1_narrowed_41 : decode prog_3_method_8_code 41 = .ok (.aload_n 0, 1) := by decide +kernel
theorem d_X1_narrowed_42 : decode prog_3_method_8_code 42 = .ok (.iload 5, 2) := by decide +kernel
theorem d_X1_narrowed_44 : decode prog_3_method_8_code 44 = .ok (.iload_n 2, 1) := by decide +kernel
theorem d_X1_narrowed_45 : decode prog_3_method_8_code 45 = .ok (.invokevirtual 118, 3) := by decide +kernel
theorem d_X1_narrowed_48 : decode prog_3_method_8_code 48 = .ok (.ifCond .eq 6, 3) := by decide +kernel
theorem d_X1_narrowed_51 : decode prog_3_method_8_code 51 = .ok (.iload 5, 2) := by decide +kernel
theorem d_X1_narrowed_53 : decode prog_3_method_8_code 53 = .ok (.istore_n 3, 1) := by decide +kernel
theorem d_X1_narrowed_54 : decode prog_3_method_8_code 54 = .ok (.iinc 4 1, 3) := by decide +kernel
theorem d_X1_narrowed_57 : decode prog_3_method_8_code 57 = .ok (.goto (-35), 3) := by decide +kernel
theorem d_X1_narrowed_60 : decode prog_3_method_8_code 60 = .ok (.aload_n 0, 1) := by decide +kernel
theorem d_X1_narrowed_61 : decode prog_3_method_8_code 61 = .ok (.iload_n 3, 1) := by decide +kernel
theorem d_X1_narrowed_62 : decode prog_3_method_8_code 62 = .ok (.invokevirtual 122, 3) := by decide +kernel
theorem d_X1_narrowed_65 : decode prog_3_method_8_code 65 = .ok (.ireturn, 1) := by decide +kernel
theorem v_X1_narrowed_0 {E : EE} {d : Nat} {Q : Option AV → AH → Prop} {x0 : Nat} {x1 : Nat} {G : AH} (h0 : 0 < d) (h : isO E G x0 1 ∧ (wpI E (d - 1) M_X1_lookAtSets [vr x0, vr x1] G (fun r1 G2 => isO E G2 x0 1 ∧ (wpI E (d - 1) M_X1_isClash [vr x0, vi r1, vi r1] G2 (fun r3 G4 => (¬ r3 = 0 → wp E d M_X1_narrowed 22 [some (vr x0), some (vr x1), some (vi r1), some (vi r1), some (vi 0), none] [] G4 Q) ∧ (r3 = 0 → Q (some (vi 0)) G4)))))) : wp E d M_X1_narrowed 0 [some (vr x0), some (vr x1), none, none, none, none] [] G Q := by
  refine wp_aload_n (pc := 0) d_X1_narrowed_0 rfl ?_
  refine wp_aload_n (pc := 1) d_X1_narrowed_1 rfl ?_
  obtain ⟨ho6, h⟩ := h
  refine wp_invV (pc := 2) (N := M_X1_lookAtSets) (As := [vr _]) (rest := []) (r := (cn_1, ct_1, 6)) d_X1_narrowed_2 ml_X1_114 mk_X1_lookAtSets mv_X1_lookAtSets h0 ho6 rfl rfl (Nat.le_of_ble_eq_true rfl) ?_
  refine wpM.mono h (fun rr G2 hr => ?_)
  obtain ⟨r1, rfl, h⟩ := hr
  show wp E d M_X1_narrowed 5 [some (vr _), some (vr _), none, none, none, none] [vi _] G2 Q
  refine wp_istore_n (pc := 5) (lv' := [some (vr _), some (vr _), some (vi _), none, none, none]) d_X1_narrowed_5 (by decide) rfl ?_
  refine wp_aload_n (pc := 6) d_X1_narrowed_6 rfl ?_
  refine wp_iload_n (pc := 7) d_X1_narrowed_7 rfl ?_
  refine wp_iload_n (pc := 8) d_X1_narrowed_8 rfl ?_
  obtain ⟨ho5, h⟩ := h
  refine wp_invV (pc := 9) (N := M_X1_isClash) (As := [vi _, vi _]) (rest := []) (r := (cn_1, ct_1, 6)) d_X1_narrowed_9 ml_X1_118 mk_X1_isClash mv_X1_isClash h0 ho5 rfl rfl (Nat.le_of_ble_eq_true rfl) ?_
  refine wpM.mono h (fun rr G4 hr => ?_)
  obtain ⟨r3, rfl, h⟩ := hr
  show wp E d M_X1_narrowed 12 [some (vr _), some (vr _), some (vi _), none, none, none] [vi _] G4 Q
  refine wp_if_ne (pc := 12) (tgt := 17) d_X1_narrowed_12 (by decide) (fun hc => ?_) (fun hc => ?_)
  · have h := h.1 hc
    refine wp_iload_n (pc := 17) d_X1_narrowed_17 rfl ?_
    refine wp_istore_n (pc := 18) (lv' := [some (vr _), some (vr _), some (vi _), some (vi _), none, none]) d_X1_narrowed_18 (by decide) rfl ?_
    refine wp_iconst (pc := 19) (v := 0) d_X1_narrowed_19 rfl ?_
    refine wp_istore (pc := 20) (lv' := [some (vr _), some (vr _), some (vi _), some (vi _), some (vi _), none]) d_X1_narrowed_20 (by decide) rfl ?_
    refine wp_sub ?_ h
    exact ⟨rfl, ⟨rfl, ⟨rfl, ⟨rfl, ⟨rfl, trivial⟩⟩⟩⟩⟩
  · have h := h.2 hc
    refine wp_iconst (pc := 15) (v := 0) d_X1_narrowed_15 rfl ?_
    exact wp_iret (pc := 16) d_X1_narrowed_16 rfl h
theorem v_X1_narrowed_22 {E : EE} {d : Nat} {Q : Option AV → AH → Prop} {x0 : Nat} {x1 : Nat} {x2 : Int32} {x3 : Int32} {x4 : Int32} {G : AH} (h0 : 0 < d) (h : isO E G x0 1 ∧ (((gI G x0 4) ≤ x4 → wpI E (d - 1) M_X1_byNumber [vr x0, vi x3] G (fun r2 G3 => Q (some (vi r2)) G3)) ∧ (¬ ((gI G x0 4) ≤ x4) → wpI E (d - 1) M_X1_isClash [vr x0, vi (x3 &&& ((1 <<< (x4 &&& 31)) ^^^ (-1))), vi x2] G (fun r4 G5 => (r4 = 0 → wp E d M_X1_narrowed 54 [some (vr x0), some (vr x1), some (vi x2), some (vi x3), some (vi x4), some (vi (x3 &&& ((1 <<< (x4 &&& 31)) ^^^ (-1))))] [] G5 Q) ∧ (¬ (r4 = 0) → wp E d M_X1_narrowed 54 [some (vr x0), some (vr x1), some (vi x2), some (vi (x3 &&& ((1 <<< (x4 &&& 31)) ^^^ (-1)))), some (vi x4), some (vi (x3 &&& ((1 <<< (x4 &&& 31)) ^^^ (-1))))] [] G5 Q))))) : wp E d M_X1_narrowed 22 [some (vr x0), some (vr x1), some (vi x2), some (vi x3), some (vi x4), none] [] G Q := by
  refine wp_iload (pc := 22) d_X1_narrowed_22 rfl ?_
  refine wp_aload_n (pc := 24) d_X1_narrowed_24 rfl ?_
  obtain ⟨ho1, h⟩ := h
  refine wp_getI (pc := 25) d_X1_narrowed_25 fl_X1_24 (fun _ _ _ => rfl) ho1 ?_
  refine wp_icmp_ge (pc := 28) (tgt := 60) d_X1_narrowed_28 (by decide) (fun hc => ?_) (fun hc => ?_)
  · have h := h.1 hc
    refine wp_aload_n (pc := 60) d_X1_narrowed_60 rfl ?_
    refine wp_iload_n (pc := 61) d_X1_narrowed_61 rfl ?_
    refine wp_invV (pc := 62) (N := M_X1_byNumber) (As := [vi _]) (rest := []) (r := (cn_1, ct_1, 6)) d_X1_narrowed_62 ml_X1_122 mk_X1_byNumber mv_X1_byNumber h0 ho1 rfl rfl (Nat.le_of_ble_eq_true rfl) ?_
    refine wpM.mono h (fun rr G3 hr => ?_)
    obtain ⟨r2, rfl, h⟩ := hr
    show wp E d M_X1_narrowed 65 [some (vr _), some (vr _), some (vi _), some (vi _), some (vi _), none] [vi _] G3 Q
    exact wp_iret (pc := 65) d_X1_narrowed_65 rfl h
  · have h := h.2 hc
    refine wp_iload_n (pc := 31) d_X1_narrowed_31 rfl ?_
    refine wp_iconst (pc := 32) (v := 1) d_X1_narrowed_32 rfl ?_
    refine wp_iload (pc := 33) d_X1_narrowed_33 rfl ?_
    refine wp_ishl (pc := 35) d_X1_narrowed_35 ?_
    refine wp_iconst (pc := 36) (v := (-1)) d_X1_narrowed_36 rfl ?_
    refine wp_ixor (pc := 37) d_X1_narrowed_37 ?_
    refine wp_iand (pc := 38) d_X1_narrowed_38 ?_
    refine wp_istore (pc := 39) (lv' := [some (vr _), some (vr _), some (vi _), some (vi _), some (vi _), some (vi _)]) d_X1_narrowed_39 (by decide) rfl ?_
    refine wp_aload_n (pc := 41) d_X1_narrowed_41 rfl ?_
    refine wp_iload (pc := 42) d_X1_narrowed_42 rfl ?_
    refine wp_iload_n (pc := 44) d_X1_narrowed_44 rfl ?_
    refine wp_invV (pc := 45) (N := M_X1_isClash) (As := [vi _, vi _]) (rest := []) (r := (cn_1, ct_1, 6)) d_X1_narrowed_45 ml_X1_118 mk_X1_isClash mv_X1_isClash h0 ho1 rfl rfl (Nat.le_of_ble_eq_true rfl) ?_
    refine wpM.mono h (fun rr G5 hr => ?_)
    obtain ⟨r4, rfl, h⟩ := hr
    show wp E d M_X1_narrowed 48 [some (vr _), some (vr _), some (vi _), some (vi _), some (vi _), some (vi _)] [vi _] G5 Q
    refine wp_if_eq (pc := 48) (tgt := 54) d_X1_narrowed_48 (by decide) (fun hc => ?_) (fun hc => ?_)
    · have h := h.1 hc
      refine wp_sub ?_ h
      exact ⟨rfl, ⟨rfl, ⟨rfl, ⟨rfl, ⟨rfl, ⟨rfl, trivial⟩⟩⟩⟩⟩⟩
    · have h := h.2 hc
      refine wp_iload (pc := 51) d_X1_narrowed_51 rfl ?_
      refine wp_istore_n (pc := 53) (lv' := [some (vr _), some (vr _), some (vi _), some (vi _), some (vi _), some (vi _)]) d_X1_narrowed_53 (by decide) rfl ?_
      refine wp_sub ?_ h
      exact ⟨rfl, ⟨rfl, ⟨rfl, ⟨rfl, ⟨rfl, ⟨rfl, trivial⟩⟩⟩⟩⟩⟩
theorem v_X1_narrowed_54 {E : EE} {d : Nat} {Q : Option AV → AH → Prop} {x0 : Nat} {x1 : Nat} {x2 : Int32} {x3 : Int32} {x4 : Int32} {x5 : Int32} {G : AH} (h : wp E d M_X1_narrowed 22 [some (vr x0), some (vr x1), some (vi x2), some (vi x3), some (vi (x4 + 1)), none] [] G Q) : wp E d M_X1_narrowed 54 [some (vr x0), some (vr x1), some (vi x2), some (vi x3), some (vi x4), some (vi x5)] [] G Q := by
  refine wp_iinc (pc := 54) (v := 1) (lv' := [some (vr _), some (vr _), some (vi _), some (vi _), some (vi _), some (vi _)]) d_X1_narrowed_54 (by decide) rfl rfl rfl ?_
  refine wp_goto (pc := 57) (tgt := 22) d_X1_narrowed_57 (by decide) ?_
  refine wp_sub ?_ h
  exact ⟨rfl, ⟨rfl, ⟨rfl, ⟨rfl, ⟨rfl, trivial⟩⟩⟩⟩⟩
theorem d_X1_alwaysBroken_0 : decode prog_3_method_7_code 0 = .ok (.aload_n 1, 1) := by decide +kernel
theorem d_X1_alwaysBroken_1 : decode prog_3_method_7_code 1 = .ok (.getfield 70, 3) := by decide +kernel
theorem d_X1_alwaysBroken_4 : decode prog_3_method_7_code 4 = .ok (.getfield 74, 3) := by decide +kernel
theorem d_X1_alwaysBroken_7 : decode prog_3_method_7_code 7 = .ok (.istore_n 2, 1) := by decide +kernel
theorem d_X1_alwaysBroken_8 : decode prog_3_method_7_code 8 = .ok (.aload_n 1, 1) := by decide +kernel
theorem d_X1_alwaysBroken_9 : decode prog_3_method_7_code 9 = .ok (.getfield 36, 3) := by decide +kernel
theorem d_X1_alwaysBroken_12 : decode prog_3_method_7_code 12 = .ok (.aload_n 1, 1) := by decide +kernel
theorem d_X1_alwaysBroken_13 : decode prog_3_method_7_code 13 = .ok (.getfield 50, 3) := by decide +kernel
theorem d_X1_alwaysBroken_16 : decode prog_3_method_7_code 16 = .ok (.aload_n 1, 1) := by decide +kernel
theorem d_X1_alwaysBroken_17 : decode prog_3_method_7_code 17 = .ok (.getfield 47, 3) := by decide +kernel
theorem d_X1_alwaysBroken_20 : decode prog_3_method_7_code 20 = .ok (.invokevirtual 85, 3) := by decide +kernel
theorem d_X1_alwaysBroken_23 : decode prog_3_method_7_code 23 = .ok (.istore_n 3, 1) := by decide +kernel
theorem d_X1_alwaysBroken_24 : decode prog_3_method_7_code 24 = .ok (.iconst 0, 1) := by decide +kernel
theorem d_X1_alwaysBroken_25 : decode prog_3_method_7_code 25 = .ok (.istore 4, 2) := by decide +kernel
theorem d_X1_alwaysBroken_27 : decode prog_3_method_7_code 27 = .ok (.iload 4, 2) := by decide +kernel
theorem d_X1_alwaysBroken_29 : decode prog_3_method_7_code 29 = .ok (.aload_n 1, 1) := by decide +kernel
theorem d_X1_alwaysBroken_30 : decode prog_3_method_7_code 30 = .ok (.getfield 36, 3) := by decide +kernel
theorem d_X1_alwaysBroken_33 : decode prog_3_method_7_code 33 = .ok (.getfield 88, 3) := by decide +kernel
theorem d_X1_alwaysBroken_36 : decode prog_3_method_7_code 36 = .ok (.if_icmp .ge 37, 3) := by decide +kernel
theorem d_X1_alwaysBroken_39 : decode prog_3_method_7_code 39 = .ok (.iload_n 3, 1) := by decide +kernel
theorem d_X1_alwaysBroken_40 : decode prog_3_method_7_code 40 = .ok (.ifCond .lt 33, 3) := by decide +kernel
theorem d_X1_alwaysBroken_43 : decode prog_3_method_7_code 43 = .ok (.iload_n 2, 1) := by decide +kernel
theorem d_X1_alwaysBroken_44 : decode prog_3_method_7_code 44 = .ok (.aload_n 1, 1) := by decide +kernel
theorem d_X1_alwaysBroken_45 : decode prog_3_method_7_code 45 = .ok (.getfield 95, 3) := by decide +kernel
theorem d_X1_alwaysBroken_48 : decode prog_3_method_7_code 48 = .ok (.iload_n 3, 1) := by decide +kernel
theorem d_X1_alwaysBroken_49 : decode prog_3_method_7_code 49 = .ok (.invokevirtual 99, 3) := by decide +kernel
theorem d_X1_alwaysBroken_52 : decode prog_3_method_7_code 52 = .ok (.iand, 1) := by decide +kernel
theorem d_X1_alwaysBroken_53 : decode prog_3_method_7_code 53 = .ok (.istore_n 2, 1) := by decide +kernel
theorem d_X1_alwaysBroken_54 : decode prog_3_method_7_code 54 = .ok (.aload_n 1, 1) := by decide +kernel
theorem d_X1_alwaysBroken_55 : decode prog_3_method_7_code 55 = .ok (.getfield 36, 3) := by decide +kernel
theorem d_X1_alwaysBroken_58 : decode prog_3_method_7_code 58 = .ok (.iload_n 3, 1) := by decide +kernel
theorem d_X1_alwaysBroken_59 : decode prog_3_method_7_code 59 = .ok (.aload_n 1, 1) := by decide +kernel
theorem d_X1_alwaysBroken_60 : decode prog_3_method_7_code 60 = .ok (.getfield 47, 3) := by decide +kernel
theorem d_X1_alwaysBroken_63 : decode prog_3_method_7_code 63 = .ok (.invokevirtual 108, 3) := by decide +kernel
theorem d_X1_alwaysBroken_66 : decode prog_3_method_7_code 66 = .ok (.istore_n 3, 1) := by decide +kernel
theorem d_X1_alwaysBroken_67 : decode prog_3_method_7_code 67 = .ok (.iinc 4 1, 3) := by decide +kernel
theorem d_X1_alwaysBroken_70 : decode prog_3_method_7_code 70 = .ok (.goto (-43), 3) := by decide +kernel
theorem d_X1_alwaysBroken_73 : decode prog_3_method_7_code 73 = .ok (.iload_n 2, 1) := by decide +kernel
theorem d_X1_alwaysBroken_74 : decode prog_3_method_7_code 74 = .ok (.ifCond .ne 7, 3) := by decide +kernel
theorem d_X1_alwaysBroken_77 : decode prog_3_method_7_code 77 = .ok (.iconst (-1), 1) := by decide +kernel
theorem d_X1_alwaysBroken_78 : decode prog_3_method_7_code 78 = .ok (.goto 7, 3) := by decide +kernel
theorem d_X1_alwaysBroken_81 : decode prog_3_method_7_code 81 = .ok (.iload_n 2, 1) := by decide +kernel
theorem d_X1_alwaysBroken_82 : decode prog_3_method_7_code 82 = .ok (.invokestatic 111, 3) := by decide +kernel
theorem d_X1_alwaysBroken_85 : decode prog_3_method_7_code 85 = .ok (.ireturn, 1) := by decide +kernel
theorem v_X1_alwaysBroken_0 {E : EE} {d : Nat} {Q : Option AV → AH → Prop} {x0 : Nat} {x1 : Nat} {G : AH} (h0 : 0 < d) (h : isO E G x1 3 ∧ (isO E G (gR G x1 5) 2 ∧ (isO E G (gR G x1 4) 7 ∧ (wpI E (d - 1) M_X7_lowest [vr (gR G x1 4), vi (gI G x1 8), vi (gI G x1 9)] G (fun r3 G4 => wp E d M_X1_alwaysBroken 27 [some (vr x0), some (vr x1), some (vi (gI G (gR G x1 5) 0)), some (vi r3), some (vi 0)] [] G4 Q))))) : wp E d M_X1_alwaysBroken 0 [some (vr x0), some (vr x1), none, none, none] [] G Q := by
  refine wp_aload_n (pc := 0) d_X1_alwaysBroken_0 rfl ?_
  obtain ⟨ho1, h⟩ := h
  refine wp_getR (pc := 1) d_X1_alwaysBroken_1 fl_X1_70 (fun _ _ _ => rfl) ho1 ?_
  obtain ⟨ho2, h⟩ := h
  refine wp_getI (pc := 4) d_X1_alwaysBroken_4 fl_X1_74 (fun _ _ _ => rfl) ho2 ?_
  refine wp_istore_n (pc := 7) (lv' := [some (vr _), some (vr _), some (vi _), none, none]) d_X1_alwaysBroken_7 (by decide) rfl ?_
  refine wp_aload_n (pc := 8) d_X1_alwaysBroken_8 rfl ?_
  refine wp_getR (pc := 9) d_X1_alwaysBroken_9 fl_X1_36 (fun _ _ _ => rfl) ho1 ?_
  refine wp_aload_n (pc := 12) d_X1_alwaysBroken_12 rfl ?_
  refine wp_getI (pc := 13) d_X1_alwaysBroken_13 fl_X1_50 (fun _ _ _ => rfl) ho1 ?_
  refine wp_aload_n (pc := 16) d_X1_alwaysBroken_16 rfl ?_
  refine wp_getI (pc := 17) d_X1_alwaysBroken_17 fl_X1_47 (fun _ _ _ => rfl) ho1 ?_
  obtain ⟨ho5, h⟩ := h
  refine wp_invV (pc := 20) (N := M_X7_lowest) (As := [vi _, vi _]) (rest := []) (r := (cn_7, ct_7, 5)) d_X1_alwaysBroken_20 ml_X1_85 mk_X7_lowest mv_X7_lowest h0 ho5 rfl rfl (Nat.le_of_ble_eq_true rfl) ?_
  refine wpM.mono h (fun rr G4 hr => ?_)
  obtain ⟨r3, rfl, h⟩ := hr
  show wp E d M_X1_alwaysBroken 23 [some (vr _), some (vr _), some (vi _), none, none] [vi _] G4 Q
  refine wp_istore_n (pc := 23) (lv' := [some (vr _), some (vr _), some (vi _), some (vi _), none]) d_X1_alwaysBroken_23 (by decide) rfl ?_
  refine wp_iconst (pc := 24) (v := 0) d_X1_alwaysBroken_24 rfl ?_
  refine wp_istore (pc := 25) (lv' := [some (vr _), some (vr _), some (vi _), some (vi _), some (vi _)]) d_X1_alwaysBroken_25 (by decide) rfl ?_
  refine wp_sub ?_ h
  exact ⟨rfl, ⟨rfl, ⟨rfl, ⟨rfl, ⟨rfl, trivial⟩⟩⟩⟩⟩
theorem v_X1_alwaysBroken_27 {E : EE} {d : Nat} {Q : Option AV → AH → Prop} {x0 : Nat} {x1 : Nat} {x2 : Int32} {x3 : Int32} {x4 : Int32} {G : AH} (h0 : 0 < d) (h : isO E G x1 3 ∧ (isO E G (gR G x1 4) 7 ∧ (((gI G (gR G x1 4) 1) ≤ x4 → wp E d M_X1_alwaysBroken 73 [some (vr x0), some (vr x1), some (vi x2), some (vi x3), some (vi x4)] [] G Q) ∧ (¬ ((gI G (gR G x1 4) 1) ≤ x4) → (x3 < 0 → wp E d M_X1_alwaysBroken 73 [some (vr x0), some (vr x1), some (vi x2), some (vi x3), some (vi x4)] [] G Q) ∧ (¬ (x3 < 0) → isO E G (gR G x1 6) 9 ∧ (wpI E (d - 1) M_X9_setOf [vr (gR G x1 6), vi x3] G (fun r3 G4 => isO E G4 x1 3 ∧ (isO E G4 (gR G4 x1 4) 7 ∧ (wpI E (d - 1) M_X7_following [vr (gR G4 x1 4), vi x3, vi (gI G4 x1 9)] G4 (fun r6 G7 => wp E d M_X1_alwaysBroken 27 [some (vr x0), some (vr x1), some (vi (x2 &&& r3)), some (vi r6), some (vi (x4 + 1))] [] G7 Q)))))))))) : wp E d M_X1_alwaysBroken 27 [some (vr x0), some (vr x1), some (vi x2), some (vi x3), some (vi x4)] [] G Q := by
  refine wp_iload (pc := 27) d_X1_alwaysBroken_27 rfl ?_
  refine wp_aload_n (pc := 29) d_X1_alwaysBroken_29 rfl ?_
  obtain ⟨ho1, h⟩ := h
  refine wp_getR (pc := 30) d_X1_alwaysBroken_30 fl_X1_36 (fun _ _ _ => rfl) ho1 ?_
  obtain ⟨ho2, h⟩ := h
  refine wp_getI (pc := 33) d_X1_alwaysBroken_33 fl_X1_88 (fun _ _ _ => rfl) ho2 ?_
  refine wp_icmp_ge (pc := 36) (tgt := 73) d_X1_alwaysBroken_36 (by decide) (fun hc => ?_) (fun hc => ?_)
  · have h := h.1 hc
    refine wp_sub ?_ h
    exact ⟨rfl, ⟨rfl, ⟨rfl, ⟨rfl, ⟨rfl, trivial⟩⟩⟩⟩⟩
  · have h := h.2 hc
    refine wp_iload_n (pc := 39) d_X1_alwaysBroken_39 rfl ?_
    refine wp_if_lt (pc := 40) (tgt := 73) d_X1_alwaysBroken_40 (by decide) (fun hc => ?_) (fun hc => ?_)
    · have h := h.1 hc
      refine wp_sub ?_ h
      exact ⟨rfl, ⟨rfl, ⟨rfl, ⟨rfl, ⟨rfl, trivial⟩⟩⟩⟩⟩
    · have h := h.2 hc
      refine wp_iload_n (pc := 43) d_X1_alwaysBroken_43 rfl ?_
      refine wp_aload_n (pc := 44) d_X1_alwaysBroken_44 rfl ?_
      refine wp_getR (pc := 45) d_X1_alwaysBroken_45 fl_X1_95 (fun _ _ _ => rfl) ho1 ?_
      refine wp_iload_n (pc := 48) d_X1_alwaysBroken_48 rfl ?_
      obtain ⟨ho9, h⟩ := h
      refine wp_invV (pc := 49) (N := M_X9_setOf) (As := [vi _]) (rest := [vi _]) (r := (cn_9, ct_9, 8)) d_X1_alwaysBroken_49 ml_X1_99 mk_X9_setOf mv_X9_setOf h0 ho9 rfl rfl (Nat.le_of_ble_eq_true rfl) ?_
      refine wpM.mono h (fun rr G4 hr => ?_)
      obtain ⟨r3, rfl, h⟩ := hr
      show wp E d M_X1_alwaysBroken 52 [some (vr _), some (vr _), some (vi _), some (vi _), some (vi _)] [vi _, vi _] G4 Q
      refine wp_iand (pc := 52) d_X1_alwaysBroken_52 ?_
      refine wp_istore_n (pc := 53) (lv' := [some (vr _), some (vr _), some (vi _), some (vi _), some (vi _)]) d_X1_alwaysBroken_53 (by decide) rfl ?_
      refine wp_aload_n (pc := 54) d_X1_alwaysBroken_54 rfl ?_
      obtain ⟨ho5, h⟩ := h
      refine wp_getR (pc := 55) d_X1_alwaysBroken_55 fl_X1_36 (fun _ _ _ => rfl) ho5 ?_
      refine wp_iload_n (pc := 58) d_X1_alwaysBroken_58 rfl ?_
      refine wp_aload_n (pc := 59) d_X1_alwaysBroken_59 rfl ?_
      refine wp_getI (pc := 60) d_X1_alwaysBroken_60 fl_X1_47 (fun _ _ _ => rfl) ho5 ?_
      obtain ⟨ho8, h⟩ := h
      refine wp_invV (pc := 63) (N := M_X7_following) (As := [vi _, vi _]) (rest := []) (r := (cn_7, ct_7, 5)) d_X1_alwaysBroken_63 ml_X1_108 mk_X7_following mv_X7_following h0 ho8 rfl rfl (Nat.le_of_ble_eq_true rfl) ?_
      refine wpM.mono h (fun rr G7 hr => ?_)
      obtain ⟨r6, rfl, h⟩ := hr
      show wp E d M_X1_alwaysBroken 66 [some (vr _), some (vr _), some (vi _), some (vi _), some (vi _)] [vi _] G7 Q
      refine wp_istore_n (pc := 66) (lv' := [some (vr _), some (vr _), some (vi _), some (vi _), some (vi _)]) d_X1_alwaysBroken_66 (by decide) rfl ?_
      refine wp_iinc (pc := 67) (v := 1) (lv' := [some (vr _), some (vr _), some (vi _), some (vi _), some (vi _)]) d_X1_alwaysBroken_67 (by decide) rfl rfl rfl ?_
      refine wp_goto (pc := 70) (tgt := 27) d_X1_alwaysBroken_70 (by decide) ?_
      refine wp_sub ?_ h
      exact ⟨rfl, ⟨rfl, ⟨rfl, ⟨rfl, ⟨rfl, trivial⟩⟩⟩⟩⟩
theorem v_X1_alwaysBroken_73 {E : EE} {d : Nat} {Q : Option AV → AH → Prop} {x0 : Nat} {x1 : Nat} {x2 : Int32} {x3 : Int32} {x4 : Int32} {G : AH} (h0 : 0 < d) (h : (¬ x2 = 0 → wpI E (d - 1) M_J6_numberOfTrailingZeros_0f7a4 [vi x2] G (fun r1 G2 => Q (some (vi r1)) G2)) ∧ (x2 = 0 → Q (some (vi (-1))) G)) : wp E d M_X1_alwaysBroken 73 [some (vr x0), some (vr x1), some (vi x2), some (vi x3), some (vi x4)] [] G Q := by
  refine wp_iload_n (pc := 73) d_X1_alwaysBroken_73 rfl ?_
  refine wp_if_ne (pc := 74) (tgt := 81) d_X1_alwaysBroken_74 (by decide) (fun hc => ?_) (fun hc => ?_)
  · have h := h.1 hc
    refine wp_iload_n (pc := 81) d_X1_alwaysBroken_81 rfl ?_
    refine wp_invS (pc := 82) (N := M_J6_numberOfTrailingZeros_0f7a4) (As := [vi _]) (rest := []) d_X1_alwaysBroken_82 ml_X1_111 mk_J6_numberOfTrailingZeros_0f7a4 ms_J6_numberOfTrailingZeros_0f7a4 h0 (Nat.le_of_ble_eq_true rfl) ?_
    refine wpM.mono h (fun rr G2 hr => ?_)
    obtain ⟨r1, rfl, h⟩ := hr
    show wp E d M_X1_alwaysBroken 85 [some (vr _), some (vr _), some (vi _), some (vi _), some (vi _)] [vi _] G2 Q
    exact wp_iret (pc := 85) d_X1_alwaysBroken_85 rfl h
  · have h := h.2 hc
    refine wp_iconst (pc := 77) (v := (-1)) d_X1_alwaysBroken_77 rfl ?_
    refine wp_goto (pc := 78) (tgt := 85) d_X1_alwaysBroken_78 (by decide) ?_
    exact wp_iret (pc := 85) d_X1_alwaysBroken_85 rfl h
theorem d_X1_workOut_0 : decode prog_3_method_2_code 0 = .ok (.aload_n 0, 1) := by decide +kernel
theorem d_X1_workOut_1 : decode prog_3_method_2_code 1 = .ok (.aload_n 1, 1) := by decide +kernel
theorem d_X1_workOut_2 : decode prog_3_method_2_code 2 = .ok (.invokevirtual 32, 3) := by decide +kernel
theorem d_X1_workOut_5 : decode prog_3_method_2_code 5 = .ok (.iconst 0, 1) := by decide +kernel
theorem d_X1_workOut_6 : decode prog_3_method_2_code 6 = .ok (.istore_n 2, 1) := by decide +kernel
theorem d_X1_workOut_7 : decode prog_3_method_2_code 7 = .ok (.iload_n 2, 1) := by decide +kernel
theorem d_X1_workOut_8 : decode prog_3_method_2_code 8 = .ok (.aload_n 1, 1) := by decide +kernel
theorem d_X1_workOut_9 : decode prog_3_method_2_code 9 = .ok (.getfield 36, 3) := by decide +kernel
theorem d_X1_workOut_12 : decode prog_3_method_2_code 12 = .ok (.getfield 42, 3) := by decide +kernel
theorem d_X1_workOut_15 : decode prog_3_method_2_code 15 = .ok (.if_icmp .ge 66, 3) := by decide +kernel
theorem d_X1_workOut_18 : decode prog_3_method_2_code 18 = .ok (.aload_n 1, 1) := by decide +kernel
theorem d_X1_workOut_19 : decode prog_3_method_2_code 19 = .ok (.getfield 47, 3) := by decide +kernel
theorem d_X1_workOut_22 : decode prog_3_method_2_code 22 = .ok (.iload_n 2, 1) := by decide +kernel
theorem d_X1_workOut_23 : decode prog_3_method_2_code 23 = .ok (.ishr, 1) := by decide +kernel
theorem d_X1_workOut_24 : decode prog_3_method_2_code 24 = .ok (.iconst 1, 1) := by decide +kernel
theorem d_X1_workOut_25 : decode prog_3_method_2_code 25 = .ok (.iand, 1) := by decide +kernel
theorem d_X1_workOut_26 : decode prog_3_method_2_code 26 = .ok (.ifCond .eq 7, 3) := by decide +kernel
theorem d_X1_workOut_29 : decode prog_3_method_2_code 29 = .ok (.iconst 1, 1) := by decide +kernel
theorem d_X1_workOut_30 : decode prog_3_method_2_code 30 = .ok (.goto 4, 3) := by decide +kernel
theorem d_X1_workOut_33 : decode prog_3_method_2_code 33 = .ok (.iconst 0, 1) := by decide +kernel
theorem d_X1_workOut_34 : decode prog_3_method_2_code 34 = .ok (.istore_n 3, 1) := by decide +kernel
theorem d_X1_workOut_35 : decode prog_3_method_2_code 35 = .ok (.aload_n 0, 1) := by decide +kernel
theorem d_X1_workOut_36 : decode prog_3_method_2_code 36 = .ok (.getfield 9, 3) := by decide +kernel
theorem d_X1_workOut_39 : decode prog_3_method_2_code 39 = .ok (.iload_n 2, 1) := by decide +kernel
theorem d_X1_workOut_40 : decode prog_3_method_2_code 40 = .ok (.iload_n 3, 1) := by decide +kernel
theorem d_X1_workOut_41 : decode prog_3_method_2_code 41 = .ok (.ifCond .eq 20, 3) := by decide +kernel
theorem d_X1_workOut_44 : decode prog_3_method_2_code 44 = .ok (.iconst 1, 1) := by decide +kernel
theorem d_X1_workOut_45 : decode prog_3_method_2_code 45 = .ok (.aload_n 1, 1) := by decide +kernel
theorem d_X1_workOut_46 : decode prog_3_method_2_code 46 = .ok (.getfield 36, 3) := by decide +kernel
theorem d_X1_workOut_49 : decode prog_3_method_2_code 49 = .ok (.aload_n 1, 1) := by decide +kernel
theorem d_X1_workOut_50 : decode prog_3_method_2_code 50 = .ok (.getfield 50, 3) := by decide +kernel
theorem d_X1_workOut_53 : decode prog_3_method_2_code 53 = .ok (.iload_n 2, 1) := by decide +kernel
theorem d_X1_workOut_54 : decode prog_3_method_2_code 54 = .ok (.invokevirtual 53, 3) := by decide +kernel
theorem d_X1_workOut_57 : decode prog_3_method_2_code 57 = .ok (.ishl, 1) := by decide +kernel
theorem d_X1_workOut_58 : decode prog_3_method_2_code 58 = .ok (.goto 16, 3) := by decide +kernel
theorem d_X1_workOut_61 : decode prog_3_method_2_code 61 = .ok (.iconst 1, 1) := by decide +kernel
theorem d_X1_workOut_62 : decode prog_3_method_2_code 62 = .ok (.aload_n 1, 1) := by decide +kernel
theorem d_X1_workOut_63 : decode prog_3_method_2_code 63 = .ok (.getfield 36, 3) := by decide +kernel
theorem d_X1_workOut_66 : decode prog_3_method_2_code 66 = .ok (.getfield 57, 3) := by decide +kernel
theorem d_X1_workOut_69 : decode prog_3_method_2_code 69 = .ok (.iload_n 2, 1) := by decide +kernel
theorem d_X1_workOut_70 : decode prog_3_method_2_code 70 = .ok (.iaload, 1) := by decide +kernel
theorem d_X1_workOut_71 : decode prog_3_method_2_code 71 = .ok (.ishl, 1) := by decide +kernel
theorem d_X1_workOut_72 : decode prog_3_method_2_code 72 = .ok (.iconst 1, 1) := by decide +kernel
theorem d_X1_workOut_73 : decode prog_3_method_2_code 73 = .ok (.isub, 1) := by decide +kernel
theorem d_X1_workOut_74 : decode prog_3_method_2_code 74 = .ok (.iastore, 1) := by decide +kernel
theorem d_X1_workOut_75 : decode prog_3_method_2_code 75 = .ok (.iinc 2 1, 3) := by decide +kernel
theorem d_X1_workOut_78 : decode prog_3_method_2_code 78 = .ok (.goto (-71), 3) := by decide +kernel
theorem d_X1_workOut_81 : decode prog_3_method_2_code 81 = .ok (.iconst 1, 1) := by decide +kernel
theorem d_X1_workOut_82 : decode prog_3_method_2_code 82 = .ok (.istore_n 2, 1) := by decide +kernel
theorem d_X1_workOut_83 : decode prog_3_method_2_code 83 = .ok (.iconst 0, 1) := by decide +kernel
theorem d_X1_workOut_84 : decode prog_3_method_2_code 84 = .ok (.istore_n 3, 1) := by decide +kernel
theorem d_X1_workOut_85 : decode prog_3_method_2_code 85 = .ok (.iload_n 3, 1) := by decide +kernel
theorem d_X1_workOut_86 : decode prog_3_method_2_code 86 = .ok (.sipush 240, 3) := by decide +kernel
theorem d_X1_workOut_89 : decode prog_3_method_2_code 89 = .ok (.if_icmp .gt 19, 3) := by decide +kernel
theorem d_X1_workOut_92 : decode prog_3_method_2_code 92 = .ok (.iload_n 2, 1) := by decide +kernel
theorem d_X1_workOut_93 : decode prog_3_method_2_code 93 = .ok (.ifCond .eq 15, 3) := by decide +kernel
theorem d_X1_workOut_96 : decode prog_3_method_2_code 96 = .ok (.aload_n 0, 1) := by decide +kernel
theorem d_X1_workOut_97 : decode prog_3_method_2_code 97 = .ok (.aload_n 1, 1) := by decide +kernel
theorem d_X1_workOut_98 : decode prog_3_method_2_code 98 = .ok (.invokevirtual 60, 3) := by decide +kernel
theorem d_X1_workOut_101 : decode prog_3_method_2_code 101 = .ok (.istore_n 2, 1) := by decide +kernel
theorem d_X1_workOut_102 : decode prog_3_method_2_code 102 = .ok (.iinc 3 1, 3) := by decide +kernel
theorem d_X1_workOut_105 : decode prog_3_method_2_code 105 = .ok (.goto (-20), 3) := by decide +kernel
theorem d_X1_workOut_108 : decode prog_3_method_2_code 108 = .ok (.iconst 0, 1) := by decide +kernel
theorem d_X1_workOut_109 : decode prog_3_method_2_code 109 = .ok (.istore_n 3, 1) := by decide +kernel
theorem d_X1_workOut_110 : decode prog_3_method_2_code 110 = .ok (.iconst 0, 1) := by decide +kernel
theorem d_X1_workOut_111 : decode prog_3_method_2_code 111 = .ok (.istore 4, 2) := by decide +kernel
theorem d_X1_workOut_113 : decode prog_3_method_2_code 113 = .ok (.iload 4, 2) := by decide +kernel
theorem d_X1_workOut_115 : decode prog_3_method_2_code 115 = .ok (.aload_n 1, 1) := by decide +kernel
theorem d_X1_workOut_116 : decode prog_3_method_2_code 116 = .ok (.getfield 36, 3) := by decide +kernel
theorem d_X1_workOut_119 : decode prog_3_method_2_code 119 = .ok (.getfield 42, 3) := by decide +kernel
theorem d_X1_workOut_122 : decode prog_3_method_2_code 122 = .ok (.if_icmp .ge 22, 3) := by decide +kernel
theorem d_X1_workOut_125 : decode prog_3_method_2_code 125 = .ok (.iload_n 3, 1) := by decide +kernel
theorem d_X1_workOut_126 : decode prog_3_method_2_code 126 = .ok (.aload_n 0, 1) := by decide +kernel
theorem d_X1_workOut_127 : decode prog_3_method_2_code 127 = .ok (.getfield 9, 3) := by decide +kernel
theorem d_X1_workOut_130 : decode prog_3_method_2_code 130 = .ok (.iload 4, 2) := by decide +kernel
theorem d_X1_workOut_132 : decode prog_3_method_2_code 132 = .ok (.iaload, 1) := by decide +kernel
theorem d_X1_workOut_133 : decode prog_3_method_2_code 133 = .ok (.invokestatic 64, 3) := by decide +kernel
theorem d_X1_workOut_136 : decode prog_3_method_2_code 136 = .ok (.iadd, 1) := by decide +kernel
theorem d_X1_workOut_137 : decode prog_3_method_2_code 137 = .ok (.istore_n 3, 1) := by decide +kernel
theorem d_X1_workOut_138 : decode prog_3_method_2_code 138 = .ok (.iinc 4 1, 3) := by decide +kernel
theorem d_X1_workOut_141 : decode prog_3_method_2_code 141 = .ok (.goto (-28), 3) := by decide +kernel
theorem d_X1_workOut_144 : decode prog_3_method_2_code 144 = .ok (.iload_n 3, 1) := by decide +kernel
theorem d_X1_workOut_145 : decode prog_3_method_2_code 145 = .ok (.ireturn, 1) := by decide +kernel
theorem v_X1_workOut_0 {E : EE} {d : Nat} {Q : Option AV → AH → Prop} {x0 : Nat} {x1 : Nat} {G : AH} (h0 : 0 < d) (h : isO E G x0 1 ∧ (wpV E (d - 1) M_X1_listRules [vr x0, vr x1] G (fun G1 => wp E d M_X1_workOut 7 [some (vr x0), some (vr x1), some (vi 0), none, none] [] G1 Q))) : wp E d M_X1_workOut 0 [some (vr x0), some (vr x1), none, none, none] [] G Q := by
  refine wp_aload_n (pc := 0) d_X1_workOut_0 rfl ?_
  refine wp_aload_n (pc := 1) d_X1_workOut_1 rfl ?_
  obtain ⟨ho2, h⟩ := h
  refine wp_invV (pc := 2) (N := M_X1_listRules) (As := [vr _]) (rest := []) (r := (cn_1, ct_1, 6)) d_X1_workOut_2 ml_X1_32 mk_X1_listRules mv_X1_listRules h0 ho2 rfl rfl (Nat.le_of_ble_eq_true rfl) ?_
  refine wpM.mono h (fun rr G1 hr => ?_)
  obtain ⟨rfl, h⟩ := hr
  show wp E d M_X1_workOut 5 [some (vr _), some (vr _), none, none, none] [] G1 Q
  refine wp_iconst (pc := 5) (v := 0) d_X1_workOut_5 rfl ?_
  refine wp_istore_n (pc := 6) (lv' := [some (vr _), some (vr _), some (vi _), none, none]) d_X1_workOut_6 (by decide) rfl ?_
  refine wp_sub ?_ h
  exact ⟨rfl, ⟨rfl, ⟨rfl, trivial⟩⟩⟩
theorem v_X1_workOut_7 {E : EE} {d : Nat} {Q : Option AV → AH → Prop} {x0 : Nat} {x1 : Nat} {x2 : Int32} {G : AH} (h : isO E G x1 3 ∧ (isO E G (gR G x1 4) 7 ∧ (((gI G (gR G x1 4) 0) ≤ x2 → wp E d M_X1_workOut 85 [some (vr x0), some (vr x1), some (vi 1), some (vi 0), none] [] G Q) ∧ (¬ ((gI G (gR G x1 4) 0) ≤ x2) → ((((gI G x1 9) >>> (x2 &&& 31)) &&& 1) = 0 → wp E d M_X1_workOut 34 [some (vr x0), some (vr x1), some (vi x2), none, none] [vi 0] G Q) ∧ (¬ ((((gI G x1 9) >>> (x2 &&& 31)) &&& 1) = 0) → wp E d M_X1_workOut 34 [some (vr x0), some (vr x1), some (vi x2), none, none] [vi 1] G Q))))) : wp E d M_X1_workOut 7 [some (vr x0), some (vr x1), some (vi x2), none, none] [] G Q := by
  refine wp_iload_n (pc := 7) d_X1_workOut_7 rfl ?_
  refine wp_aload_n (pc := 8) d_X1_workOut_8 rfl ?_
  obtain ⟨ho1, h⟩ := h
  refine wp_getR (pc := 9) d_X1_workOut_9 fl_X1_36 (fun _ _ _ => rfl) ho1 ?_
  obtain ⟨ho2, h⟩ := h
  refine wp_getI (pc := 12) d_X1_workOut_12 fl_X1_42 (fun _ _ _ => rfl) ho2 ?_
  refine wp_icmp_ge (pc := 15) (tgt := 81) d_X1_workOut_15 (by decide) (fun hc => ?_) (fun hc => ?_)
  · have h := h.1 hc
    refine wp_iconst (pc := 81) (v := 1) d_X1_workOut_81 rfl ?_
    refine wp_istore_n (pc := 82) (lv' := [some (vr _), some (vr _), some (vi _), none, none]) d_X1_workOut_82 (by decide) rfl ?_
    refine wp_iconst (pc := 83) (v := 0) d_X1_workOut_83 rfl ?_
    refine wp_istore_n (pc := 84) (lv' := [some (vr _), some (vr _), some (vi _), some (vi _), none]) d_X1_workOut_84 (by decide) rfl ?_
    refine wp_sub ?_ h
    exact ⟨rfl, ⟨rfl, ⟨rfl, ⟨rfl, trivial⟩⟩⟩⟩
  · have h := h.2 hc
    refine wp_aload_n (pc := 18) d_X1_workOut_18 rfl ?_
    refine wp_getI (pc := 19) d_X1_workOut_19 fl_X1_47 (fun _ _ _ => rfl) ho1 ?_
    refine wp_iload_n (pc := 22) d_X1_workOut_22 rfl ?_
    refine wp_ishr (pc := 23) d_X1_workOut_23 ?_
    refine wp_iconst (pc := 24) (v := 1) d_X1_workOut_24 rfl ?_
    refine wp_iand (pc := 25) d_X1_workOut_25 ?_
    refine wp_if_eq (pc := 26) (tgt := 33) d_X1_workOut_26 (by decide) (fun hc => ?_) (fun hc => ?_)
    · have h := h.1 hc
      refine wp_iconst (pc := 33) (v := 0) d_X1_workOut_33 rfl ?_
      refine wp_sub ?_ h
      exact ⟨rfl, ⟨rfl, ⟨rfl, trivial⟩⟩⟩
    · have h := h.2 hc
      refine wp_iconst (pc := 29) (v := 1) d_X1_workOut_29 rfl ?_
      refine wp_goto (pc := 30) (tgt := 34) d_X1_workOut_30 (by decide) ?_
      refine wp_sub ?_ h
      exact ⟨rfl, ⟨rfl, ⟨rfl, trivial⟩⟩⟩
theorem v_X1_workOut_34 {E : EE} {d : Nat} {Q : Option AV → AH → Prop} {x0 : Nat} {x1 : Nat} {x2 : Int32} {t0 : Int32} {G : AH} (h0 : 0 < d) (h : isO E G x0 1 ∧ ((t0 = 0 → isO E G x1 3 ∧ (isO E G (gR G x1 4) 7 ∧ (isO E G (gR G (gR G x1 4) 2) 14 ∧ (vp_in x2 (gN G (gR G (gR G x1 4) 2)) ∧ (wp E d M_X1_workOut 74 [some (vr x0), some (vr x1), some (vi x2), some (vi t0), none] [vi ((1 <<< ((gI G (gR G (gR G x1 4) 2) (Int32.toNatClampNeg x2)) &&& 31)) - 1), vi x2, vr (gR G x0 0)] G Q))))) ∧ (¬ (t0 = 0) → isO E G x1 3 ∧ (isO E G (gR G x1 4) 7 ∧ (wpI E (d - 1) M_X7_placeOf [vr (gR G x1 4), vi (gI G x1 8), vi x2] G (fun r7 G8 => wp E d M_X1_workOut 74 [some (vr x0), some (vr x1), some (vi x2), some (vi t0), none] [vi (1 <<< (r7 &&& 31)), vi x2, vr (gR G x0 0)] G8 Q)))))) : wp E d M_X1_workOut 34 [some (vr x0), some (vr x1), some (vi x2), none, none] [vi t0] G Q := by
  refine wp_istore_n (pc := 34) (lv' := [some (vr _), some (vr _), some (vi _), some (vi _), none]) d_X1_workOut_34 (by decide) rfl ?_
  refine wp_aload_n (pc := 35) d_X1_workOut_35 rfl ?_
  obtain ⟨ho1, h⟩ := h
  refine wp_getR (pc := 36) d_X1_workOut_36 fl_X1_9 (fun _ _ _ => rfl) ho1 ?_
  refine wp_iload_n (pc := 39) d_X1_workOut_39 rfl ?_
  refine wp_iload_n (pc := 40) d_X1_workOut_40 rfl ?_
  refine wp_if_eq (pc := 41) (tgt := 61) d_X1_workOut_41 (by decide) (fun hc => ?_) (fun hc => ?_)
  · have h := h.1 hc
    refine wp_iconst (pc := 61) (v := 1) d_X1_workOut_61 rfl ?_
    refine wp_aload_n (pc := 62) d_X1_workOut_62 rfl ?_
    obtain ⟨ho2, h⟩ := h
    refine wp_getR (pc := 63) d_X1_workOut_63 fl_X1_36 (fun _ _ _ => rfl) ho2 ?_
    obtain ⟨ho3, h⟩ := h
    refine wp_getR (pc := 66) d_X1_workOut_66 fl_X1_57 (fun _ _ _ => rfl) ho3 ?_
    refine wp_iload_n (pc := 69) d_X1_workOut_69 rfl ?_
    obtain ⟨ho4, h⟩ := h
    obtain ⟨hi5, h⟩ := h
    refine wp_iald (pc := 70) d_X1_workOut_70 ho4 hi5 ?_
    refine wp_ishl (pc := 71) d_X1_workOut_71 ?_
    refine wp_iconst (pc := 72) (v := 1) d_X1_workOut_72 rfl ?_
    refine wp_isub (pc := 73) d_X1_workOut_73 ?_
    refine wp_sub ?_ h
    exact ⟨rfl, ⟨rfl, ⟨rfl, ⟨rfl, trivial⟩⟩⟩⟩
  · have h := h.2 hc
    refine wp_iconst (pc := 44) (v := 1) d_X1_workOut_44 rfl ?_
    refine wp_aload_n (pc := 45) d_X1_workOut_45 rfl ?_
    obtain ⟨ho6, h⟩ := h
    refine wp_getR (pc := 46) d_X1_workOut_46 fl_X1_36 (fun _ _ _ => rfl) ho6 ?_
    refine wp_aload_n (pc := 49) d_X1_workOut_49 rfl ?_
    refine wp_getI (pc := 50) d_X1_workOut_50 fl_X1_50 (fun _ _ _ => rfl) ho6 ?_
    refine wp_iload_n (pc := 53) d_X1_workOut_53 rfl ?_
    obtain ⟨ho9, h⟩ := h
    refine wp_invV (pc := 54) (N := M_X7_placeOf) (As := [vi _, vi _]) (rest := [vi _, vi _, vr _]) (r := (cn_7, ct_7, 5)) d_X1_workOut_54 ml_X1_53 mk_X7_placeOf mv_X7_placeOf h0 ho9 rfl rfl (Nat.le_of_ble_eq_true rfl) ?_
    refine wpM.mono h (fun rr G8 hr => ?_)
    obtain ⟨r7, rfl, h⟩ := hr
    show wp E d M_X1_workOut 57 [some (vr _), some (vr _), some (vi _), some (vi _), none] [vi _, vi _, vi _, vr _] G8 Q
    refine wp_ishl (pc := 57) d_X1_workOut_57 ?_
    refine wp_goto (pc := 58) (tgt := 74) d_X1_workOut_58 (by decide) ?_
    refine wp_sub ?_ h
    exact ⟨rfl, ⟨rfl, ⟨rfl, ⟨rfl, trivial⟩⟩⟩⟩
theorem v_X1_workOut_74 {E : EE} {d : Nat} {Q : Option AV → AH → Prop} {x0 : Nat} {x1 : Nat} {x2 : Int32} {x3 : Int32} {t0 : Nat} {t1 : Int32} {t2 : Int32} {G : AH} (h : isO E G t0 14 ∧ (vp_in t1 (gN G t0) ∧ (wp E d M_X1_workOut 7 [some (vr x0), some (vr x1), some (vi (x2 + 1)), none, none] [] (sI G t0 (Int32.toNatClampNeg t1) t2) Q))) : wp E d M_X1_workOut 74 [some (vr x0), some (vr x1), some (vi x2), some (vi x3), none] [vi t2, vi t1, vr t0] G Q := by
  obtain ⟨ho1, h⟩ := h
  obtain ⟨hi2, h⟩ := h
  refine wp_iast (pc := 74) d_X1_workOut_74 ho1 hi2 ?_
  refine wp_iinc (pc := 75) (v := 1) (lv' := [some (vr _), some (vr _), some (vi _), some (vi _), none]) d_X1_workOut_75 (by decide) rfl rfl rfl ?_
  refine wp_goto (pc := 78) (tgt := 7) d_X1_workOut_78 (by decide) ?_
  refine wp_sub ?_ h
  exact ⟨rfl, ⟨rfl, ⟨rfl, trivial⟩⟩⟩
theorem v_X1_workOut_85 {E : EE} {d : Nat} {Q : Option AV → AH → Prop} {x0 : Nat} {x1 : Nat} {x2 : Int32} {x3 : Int32} {G : AH} (h0 : 0 < d) (h : (240 < x3 → wp E d M_X1_workOut 108 [some (vr x0), some (vr x1), some (vi x2), some (vi x3), none] [] G Q) ∧ (¬ (240 < x3) → (x2 = 0 → wp E d M_X1_workOut 108 [some (vr x0), some (vr x1), some (vi x2), some (vi x3), none] [] G Q) ∧ (¬ (x2 = 0) → isO E G x0 1 ∧ (wpI E (d - 1) M_X1_dropUnsupported [vr x0, vr x1] G (fun r1 G2 => wp E d M_X1_workOut 85 [some (vr x0), some (vr x1), some (vi r1), some (vi (x3 + 1)), none] [] G2 Q))))) : wp E d M_X1_workOut 85 [some (vr x0), some (vr x1), some (vi x2), some (vi x3), none] [] G Q := by
  refine wp_iload_n (pc := 85) d_X1_workOut_85 rfl ?_
  refine wp_sipush (pc := 86) (v := 240) d_X1_workOut_86 rfl ?_
  refine wp_icmp_gt (pc := 89) (tgt := 108) d_X1_workOut_89 (by decide) (fun hc => ?_) (fun hc => ?_)
  · have h := h.1 hc
    refine wp_sub ?_ h
    exact ⟨rfl, ⟨rfl, ⟨rfl, ⟨rfl, trivial⟩⟩⟩⟩
  · have h := h.2 hc
    refine wp_iload_n (pc := 92) d_X1_workOut_92 rfl ?_
    refine wp_if_eq (pc := 93) (tgt := 108) d_X1_workOut_93 (by decide) (fun hc => ?_) (fun hc => ?_)
    · have h := h.1 hc
      refine wp_sub ?_ h
      exact ⟨rfl, ⟨rfl, ⟨rfl, ⟨rfl, trivial⟩⟩⟩⟩
    · have h := h.2 hc
      refine wp_aload_n (pc := 96) d_X1_workOut_96 rfl ?_
      refine wp_aload_n (pc := 97) d_X1_workOut_97 rfl ?_
      obtain ⟨ho3, h⟩ := h
      refine wp_invV (pc := 98) (N := M_X1_dropUnsupported) (As := [vr _]) (rest := []) (r := (cn_1, ct_1, 6)) d_X1_workOut_98 ml_X1_60 mk_X1_dropUnsupported mv_X1_dropUnsupported h0 ho3 rfl rfl (Nat.le_of_ble_eq_true rfl) ?_
      refine wpM.mono h (fun rr G2 hr => ?_)
      obtain ⟨r1, rfl, h⟩ := hr
      show wp E d M_X1_workOut 101 [some (vr _), some (vr _), some (vi _), some (vi _), none] [vi _] G2 Q
      refine wp_istore_n (pc := 101) (lv' := [some (vr _), some (vr _), some (vi _), some (vi _), none]) d_X1_workOut_101 (by decide) rfl ?_
      refine wp_iinc (pc := 102) (v := 1) (lv' := [some (vr _), some (vr _), some (vi _), some (vi _), none]) d_X1_workOut_102 (by decide) rfl rfl rfl ?_
      refine wp_goto (pc := 105) (tgt := 85) d_X1_workOut_105 (by decide) ?_
      refine wp_sub ?_ h
      exact ⟨rfl, ⟨rfl, ⟨rfl, ⟨rfl, trivial⟩⟩⟩⟩
theorem v_X1_workOut_108 {E : EE} {d : Nat} {Q : Option AV → AH → Prop} {x0 : Nat} {x1 : Nat} {x2 : Int32} {x3 : Int32} {G : AH} (h : wp E d M_X1_workOut 113 [some (vr x0), some (vr x1), some (vi x2), some (vi 0), some (vi 0)] [] G Q) : wp E d M_X1_workOut 108 [some (vr x0), some (vr x1), some (vi x2), some (vi x3), none] [] G Q := by
  refine wp_iconst (pc := 108) (v := 0) d_X1_workOut_108 rfl ?_
  refine wp_istore_n (pc := 109) (lv' := [some (vr _), some (vr _), some (vi _), some (vi _), none]) d_X1_workOut_109 (by decide) rfl ?_
  refine wp_iconst (pc := 110) (v := 0) d_X1_workOut_110 rfl ?_
  refine wp_istore (pc := 111) (lv' := [some (vr _), some (vr _), some (vi _), some (vi _), some (vi _)]) d_X1_workOut_111 (by decide) rfl ?_
  refine wp_sub ?_ h
  exact ⟨rfl, ⟨rfl, ⟨rfl, ⟨rfl, ⟨rfl, trivial⟩⟩⟩⟩⟩
theorem v_X1_workOut_113 {E : EE} {d : Nat} {Q : Option AV → AH → Prop} {x0 : Nat} {x1 : Nat} {x2 : Int32} {x3 : Int32} {x4 : Int32} {G : AH} (h0 : 0 < d) (h : isO E G x1 3 ∧ (isO E G (gR G x1 4) 7 ∧ (((gI G (gR G x1 4) 0) ≤ x4 → Q (some (vi x3)) G) ∧ (¬ ((gI G (gR G x1 4) 0) ≤ x4) → isO E G x0 1 ∧ (isO E G (gR G x0 0) 14 ∧ (vp_in x4 (gN G (gR G x0 0)) ∧ (wpI E (d - 1) M_J6_bitCount_0f7a4 [vi (gI G (gR G x0 0) (Int32.toNatClampNeg x4))] G (fun r6 G7 => wp E d M_X1_workOut 113 [some (vr x0), some (vr x1), some (vi x2), some (vi (x3 + r6)), some (vi (x4 + 1))] [] G7 Q)))))))) : wp E d M_X1_workOut 113 [some (vr x0), some (vr x1), some (vi x2), some (vi x3), some (vi x4)] [] G Q := by
  refine wp_iload (pc := 113) d_X1_workOut_113 rfl ?_
  refine wp_aload_n (pc := 115) d_X1_workOut_115 rfl ?_
  obtain ⟨ho1, h⟩ := h
  refine wp_getR (pc := 116) d_X1_workOut_116 fl_X1_36 (fun _ _ _ => rfl) ho1 ?_
  obtain ⟨ho2, h⟩ := h
  refine wp_getI (pc := 119) d_X1_workOut_119 fl_X1_42 (fun _ _ _ => rfl) ho2 ?_
  refine wp_icmp_ge (pc := 122) (tgt := 144) d_X1_workOut_122 (by decide) (fun hc => ?_) (fun hc => ?_)
  · have h := h.1 hc
    refine wp_iload_n (pc := 144) d_X1_workOut_144 rfl ?_
    exact wp_iret (pc := 145) d_X1_workOut_145 rfl h
  · have h := h.2 hc
    refine wp_iload_n (pc := 125) d_X1_workOut_125 rfl ?_
    refine wp_aload_n (pc := 126) d_X1_workOut_126 rfl ?_
    obtain ⟨ho3, h⟩ := h
    refine wp_getR (pc := 127) d_X1_workOut_127 fl_X1_9 (fun _ _ _ => rfl) ho3 ?_
    refine wp_iload (pc := 130) d_X1_workOut_130 rfl ?_
    obtain ⟨ho4, h⟩ := h
    obtain ⟨hi5, h⟩ := h
    refine wp_iald (pc := 132) d_X1_workOut_132 ho4 hi5 ?_
    refine wp_invS (pc := 133) (N := M_J6_bitCount_0f7a4) (As := [vi _]) (rest := [vi _]) d_X1_workOut_133 ml_X1_64 mk_J6_bitCount_0f7a4 ms_J6_bitCount_0f7a4 h0 (Nat.le_of_ble_eq_true rfl) ?_
    refine wpM.mono h (fun rr G7 hr => ?_)
    obtain ⟨r6, rfl, h⟩ := hr
    show wp E d M_X1_workOut 136 [some (vr _), some (vr _), some (vi _), some (vi _), some (vi _)] [vi _, vi _] G7 Q
    refine wp_iadd (pc := 136) d_X1_workOut_136 ?_
    refine wp_istore_n (pc := 137) (lv' := [some (vr _), some (vr _), some (vi _), some (vi _), some (vi _)]) d_X1_workOut_137 (by decide) rfl ?_
    refine wp_iinc (pc := 138) (v := 1) (lv' := [some (vr _), some (vr _), some (vi _), some (vi _), some (vi _)]) d_X1_workOut_138 (by decide) rfl rfl rfl ?_
    refine wp_goto (pc := 141) (tgt := 113) d_X1_workOut_141 (by decide) ?_
    refine wp_sub ?_ h
    exact ⟨rfl, ⟨rfl, ⟨rfl, ⟨rfl, ⟨rfl, trivial⟩⟩⟩⟩⟩
theorem d_X1_dropUnsupported_0 : decode prog_3_method_4_code 0 = .ok (.aload_n 0, 1) := by decide +kernel
theorem d_X1_dropUnsupported_1 : decode prog_3_method_4_code 1 = .ok (.getfield 15, 3) := by decide +kernel
theorem d_X1_dropUnsupported_4 : decode prog_3_method_4_code 4 = .ok (.iconst 0, 1) := by decide +kernel
theorem d_X1_dropUnsupported_5 : decode prog_3_method_4_code 5 = .ok (.invokestatic 79, 3) := by decide +kernel
theorem d_X1_dropUnsupported_8 : decode prog_3_method_4_code 8 = .ok (.aload_n 1, 1) := by decide +kernel
theorem d_X1_dropUnsupported_9 : decode prog_3_method_4_code 9 = .ok (.getfield 36, 3) := by decide +kernel
theorem d_X1_dropUnsupported_12 : decode prog_3_method_4_code 12 = .ok (.aload_n 1, 1) := by decide +kernel
theorem d_X1_dropUnsupported_13 : decode prog_3_method_4_code 13 = .ok (.getfield 50, 3) := by decide +kernel
theorem d_X1_dropUnsupported_16 : decode prog_3_method_4_code 16 = .ok (.aload_n 1, 1) := by decide +kernel
theorem d_X1_dropUnsupported_17 : decode prog_3_method_4_code 17 = .ok (.getfield 47, 3) := by decide +kernel
theorem d_X1_dropUnsupported_20 : decode prog_3_method_4_code 20 = .ok (.invokevirtual 85, 3) := by decide +kernel
theorem d_X1_dropUnsupported_23 : decode prog_3_method_4_code 23 = .ok (.istore_n 2, 1) := by decide +kernel
theorem d_X1_dropUnsupported_24 : decode prog_3_method_4_code 24 = .ok (.iconst 0, 1) := by decide +kernel
theorem d_X1_dropUnsupported_25 : decode prog_3_method_4_code 25 = .ok (.istore_n 3, 1) := by decide +kernel
theorem d_X1_dropUnsupported_26 : decode prog_3_method_4_code 26 = .ok (.iload_n 3, 1) := by decide +kernel
theorem d_X1_dropUnsupported_27 : decode prog_3_method_4_code 27 = .ok (.aload_n 1, 1) := by decide +kernel
theorem d_X1_dropUnsupported_28 : decode prog_3_method_4_code 28 = .ok (.getfield 36, 3) := by decide +kernel
theorem d_X1_dropUnsupported_31 : decode prog_3_method_4_code 31 = .ok (.getfield 88, 3) := by decide +kernel
theorem d_X1_dropUnsupported_34 : decode prog_3_method_4_code 34 = .ok (.if_icmp .ge 57, 3) := by decide +kernel
theorem d_X1_dropUnsupported_37 : decode prog_3_method_4_code 37 = .ok (.iload_n 2, 1) := by decide +kernel
theorem d_X1_dropUnsupported_38 : decode prog_3_method_4_code 38 = .ok (.ifCond .lt 53, 3) := by decide +kernel
theorem d_X1_dropUnsupported_41 : decode prog_3_method_4_code 41 = .ok (.aload_n 0, 1) := by decide +kernel
theorem d_X1_dropUnsupported_42 : decode prog_3_method_4_code 42 = .ok (.aload_n 1, 1) := by decide +kernel
theorem d_X1_dropUnsupported_43 : decode prog_3_method_4_code 43 = .ok (.getfield 36, 3) := by decide +kernel
theorem d_X1_dropUnsupported_46 : decode prog_3_method_4_code 46 = .ok (.iload_n 2, 1) := by decide +kernel
theorem d_X1_dropUnsupported_47 : decode prog_3_method_4_code 47 = .ok (.invokevirtual 91, 3) := by decide +kernel
theorem d_X1_dropUnsupported_50 : decode prog_3_method_4_code 50 = .ok (.ifCond .eq 22, 3) := by decide +kernel
theorem d_X1_dropUnsupported_53 : decode prog_3_method_4_code 53 = .ok (.aload_n 0, 1) := by decide +kernel
theorem d_X1_dropUnsupported_54 : decode prog_3_method_4_code 54 = .ok (.aload_n 1, 1) := by decide +kernel
theorem d_X1_dropUnsupported_55 : decode prog_3_method_4_code 55 = .ok (.getfield 36, 3) := by decide +kernel
theorem d_X1_dropUnsupported_58 : decode prog_3_method_4_code 58 = .ok (.getfield 42, 3) := by decide +kernel
theorem d_X1_dropUnsupported_61 : decode prog_3_method_4_code 61 = .ok (.aload_n 1, 1) := by decide +kernel
theorem d_X1_dropUnsupported_62 : decode prog_3_method_4_code 62 = .ok (.getfield 95, 3) := by decide +kernel
theorem d_X1_dropUnsupported_65 : decode prog_3_method_4_code 65 = .ok (.iload_n 2, 1) := by decide +kernel
theorem d_X1_dropUnsupported_66 : decode prog_3_method_4_code 66 = .ok (.invokevirtual 99, 3) := by decide +kernel
theorem d_X1_dropUnsupported_69 : decode prog_3_method_4_code 69 = .ok (.invokevirtual 104, 3) := by decide +kernel
theorem d_X1_dropUnsupported_72 : decode prog_3_method_4_code 72 = .ok (.aload_n 1, 1) := by decide +kernel
theorem d_X1_dropUnsupported_73 : decode prog_3_method_4_code 73 = .ok (.getfield 36, 3) := by decide +kernel
theorem d_X1_dropUnsupported_76 : decode prog_3_method_4_code 76 = .ok (.iload_n 2, 1) := by decide +kernel
theorem d_X1_dropUnsupported_77 : decode prog_3_method_4_code 77 = .ok (.aload_n 1, 1) := by decide +kernel
theorem d_X1_dropUnsupported_78 : decode prog_3_method_4_code 78 = .ok (.getfield 47, 3) := by decide +kernel
theorem d_X1_dropUnsupported_81 : decode prog_3_method_4_code 81 = .ok (.invokevirtual 108, 3) := by decide +kernel
theorem d_X1_dropUnsupported_84 : decode prog_3_method_4_code 84 = .ok (.istore_n 2, 1) := by decide +kernel
theorem d_X1_dropUnsupported_85 : decode prog_3_method_4_code 85 = .ok (.iinc 3 1, 3) := by decide +kernel
theorem d_X1_dropUnsupported_88 : decode prog_3_method_4_code 88 = .ok (.goto (-62), 3) := by decide +kernel
theorem d_X1_dropUnsupported_91 : decode prog_3_method_4_code 91 = .ok (.iconst 0, 1) := by decide +kernel
theorem d_X1_dropUnsupported_92 : decode prog_3_method_4_code 92 = .ok (.istore_n 3, 1) := by decide +kernel
theorem d_X1_dropUnsupported_93 : decode prog_3_method_4_code 93 = .ok (.iconst 0, 1) := by decide +kernel
theorem d_X1_dropUnsupported_94 : decode prog_3_method_4_code 94 = .ok (.istore 4, 2) := by decide +kernel
theorem d_X1_dropUnsupported_96 : decode prog_3_method_4_code 96 = .ok (.iload 4, 2) := by decide +kernel
theorem d_X1_dropUnsupported_98 : decode prog_3_method_4_code 98 = .ok (.aload_n 1, 1) := by decide +kernel
theorem d_X1_dropUnsupported_99 : decode prog_3_method_4_code 99 = .ok (.getfield 36, 3) := by decide +kernel
theorem d_X1_dropUnsupported_102 : decode prog_3_method_4_code 102 = .ok (.getfield 42, 3) := by decide +kernel
theorem d_X1_dropUnsupported_105 : decode prog_3_method_4_code 105 = .ok (.if_icmp .ge 82, 3) := by decide +kernel
theorem d_X1_dropUnsupported_108 : decode prog_3_method_4_code 108 = .ok (.aload_n 0, 1) := by decide +kernel
theorem d_X1_dropUnsupported_109 : decode prog_3_method_4_code 109 = .ok (.getfield 9, 3) := by decide +kernel
theorem d_X1_dropUnsupported_112 : decode prog_3_method_4_code 112 = .ok (.iload 4, 2) := by decide +kernel
theorem d_X1_dropUnsupported_114 : decode prog_3_method_4_code 114 = .ok (.iaload, 1) := by decide +kernel
theorem d_X1_dropUnsupported_115 : decode prog_3_method_4_code 115 = .ok (.istore 5, 2) := by decide +kernel
theorem d_X1_dropUnsupported_117 : decode prog_3_method_4_code 117 = .ok (.iconst 0, 1) := by decide +kernel
theorem d_X1_dropUnsupported_118 : decode prog_3_method_4_code 118 = .ok (.istore 6, 2) := by decide +kernel
theorem d_X1_dropUnsupported_120 : decode prog_3_method_4_code 120 = .ok (.iload 6, 2) := by decide +kernel
theorem d_X1_dropUnsupported_122 : decode prog_3_method_4_code 122 = .ok (.aload_n 0, 1) := by decide +kernel
theorem d_X1_dropUnsupported_123 : decode prog_3_method_4_code 123 = .ok (.getfield 24, 3) := by decide +kernel
theorem d_X1_dropUnsupported_126 : decode prog_3_method_4_code 126 = .ok (.if_icmp .ge 32, 3) := by decide +kernel
theorem d_X1_dropUnsupported_129 : decode prog_3_method_4_code 129 = .ok (.iload 5, 2) := by decide +kernel
theorem d_X1_dropUnsupported_131 : decode prog_3_method_4_code 131 = .ok (.aload_n 0, 1) := by decide +kernel
theorem d_X1_dropUnsupported_132 : decode prog_3_method_4_code 132 = .ok (.getfield 15, 3) := by decide +kernel
theorem d_X1_dropUnsupported_135 : decode prog_3_method_4_code 135 = .ok (.aload_n 0, 1) := by decide +kernel
theorem d_X1_dropUnsupported_136 : decode prog_3_method_4_code 136 = .ok (.getfield 21, 3) := by decide +kernel
theorem d_X1_dropUnsupported_139 : decode prog_3_method_4_code 139 = .ok (.iload 6, 2) := by decide +kernel
theorem d_X1_dropUnsupported_141 : decode prog_3_method_4_code 141 = .ok (.iaload, 1) := by decide +kernel
theorem d_X1_dropUnsupported_142 : decode prog_3_method_4_code 142 = .ok (.bipush 12, 2) := by decide +kernel
theorem d_X1_dropUnsupported_144 : decode prog_3_method_4_code 144 = .ok (.imul, 1) := by decide +kernel
theorem d_X1_dropUnsupported_145 : decode prog_3_method_4_code 145 = .ok (.iload 4, 2) := by decide +kernel
theorem d_X1_dropUnsupported_147 : decode prog_3_method_4_code 147 = .ok (.iadd, 1) := by decide +kernel
theorem d_X1_dropUnsupported_148 : decode prog_3_method_4_code 148 = .ok (.iaload, 1) := by decide +kernel
theorem d_X1_dropUnsupported_149 : decode prog_3_method_4_code 149 = .ok (.iand, 1) := by decide +kernel
theorem d_X1_dropUnsupported_150 : decode prog_3_method_4_code 150 = .ok (.istore 5, 2) := by decide +kernel
theorem d_X1_dropUnsupported_152 : decode prog_3_method_4_code 152 = .ok (.iinc 6 1, 3) := by decide +kernel
theorem d_X1_dropUnsupported_155 : decode prog_3_method_4_code 155 = .ok (.goto (-35), 3) := by decide +kernel
theorem d_X1_dropUnsupported_158 : decode prog_3_method_4_code 158 = .ok (.iload 5, 2) := by decide +kernel
theorem d_X1_dropUnsupported_160 : decode prog_3_method_4_code 160 = .ok (.aload_n 0, 1) := by decide +kernel
theorem d_X1_dropUnsupported_161 : decode prog_3_method_4_code 161 = .ok (.getfield 9, 3) := by decide +kernel
theorem d_X1_dropUnsupported_164 : decode prog_3_method_4_code 164 = .ok (.iload 4, 2) := by decide +kernel
theorem d_X1_dropUnsupported_166 : decode prog_3_method_4_code 166 = .ok (.iaload, 1) := by decide +kernel
theorem d_X1_dropUnsupported_167 : decode prog_3_method_4_code 167 = .ok (.if_icmp .eq 5, 3) := by decide +kernel
theorem d_X1_dropUnsupported_170 : decode prog_3_method_4_code 170 = .ok (.iconst 1, 1) := by decide +kernel
theorem d_X1_dropUnsupported_171 : decode prog_3_method_4_code 171 = .ok (.istore_n 3, 1) := by decide +kernel
theorem d_X1_dropUnsupported_172 : decode prog_3_method_4_code 172 = .ok (.aload_n 0, 1) := by decide +kernel
theorem d_X1_dropUnsupported_173 : decode prog_3_method_4_code 173 = .ok (.getfield 9, 3) := by decide +kernel
theorem d_X1_dropUnsupported_176 : decode prog_3_method_4_code 176 = .ok (.iload 4, 2) := by decide +kernel
theorem d_X1_dropUnsupported_178 : decode prog_3_method_4_code 178 = .ok (.iload 5, 2) := by decide +kernel
theorem d_X1_dropUnsupported_180 : decode prog_3_method_4_code 180 = .ok (.iastore, 1) := by decide +kernel
theorem d_X1_dropUnsupported_181 : decode prog_3_method_4_code 181 = .ok (.iinc 4 1, 3) := by decide +kernel
theorem d_X1_dropUnsupported_184 : decode prog_3_method_4_code 184 = .ok (.goto (-88), 3) := by decide +kernel
theorem d_X1_dropUnsupported_187 : decode prog_3_method_4_code 187 = .ok (.iload_n 3, 1) := by decide +kernel
theorem d_X1_dropUnsupported_188 : decode prog_3_method_4_code 188 = .ok (.ireturn, 1) := by decide +kernel
theorem v_X1_dropUnsupported_0 {E : EE} {d : Nat} {Q : Option AV → AH → Prop} {x0 : Nat} {x1 : Nat} {G : AH} (h0 : 0 < d) (h : isO E G x0 1 ∧ (wpV E (d - 1) M_J7_fill_53178 [vr (gR G x0 1), vi 0] G (fun G2 => isO E G2 x1 3 ∧ (isO E G2 (gR G2 x1 4) 7 ∧ (wpI E (d - 1) M_X7_lowest [vr (gR G2 x1 4), vi (gI G2 x1 8), vi (gI G2 x1 9)] G2 (fun r4 G5 => wp E d M_X1_dropUnsupported 26 [some (vr x0), some (vr x1), some (vi r4), some (vi 0), none, none, none] [] G5 Q)))))) : wp E d M_X1_dropUnsupported 0 [some (vr x0), some (vr x1), none, none, none, none, none] [] G Q := by
  refine wp_aload_n (pc := 0) d_X1_dropUnsupported_0 rfl ?_
  obtain ⟨ho1, h⟩ := h
  refine wp_getR (pc := 1) d_X1_dropUnsupported_1 fl_X1_15 (fun _ _ _ => rfl) ho1 ?_
  refine wp_iconst (pc := 4) (v := 0) d_X1_dropUnsupported_4 rfl ?_
  refine wp_invS (pc := 5) (N := M_J7_fill_53178) (As := [vr _, vi _]) (rest := []) d_X1_dropUnsupported_5 ml_X1_79 mk_J7_fill_53178 ms_J7_fill_53178 h0 (Nat.le_of_ble_eq_true rfl) ?_
  refine wpM.mono h (fun rr G2 hr => ?_)
  obtain ⟨rfl, h⟩ := hr
  show wp E d M_X1_dropUnsupported 8 [some (vr _), some (vr _), none, none, none, none, none] [] G2 Q
  refine wp_aload_n (pc := 8) d_X1_dropUnsupported_8 rfl ?_
  obtain ⟨ho3, h⟩ := h
  refine wp_getR (pc := 9) d_X1_dropUnsupported_9 fl_X1_36 (fun _ _ _ => rfl) ho3 ?_
  refine wp_aload_n (pc := 12) d_X1_dropUnsupported_12 rfl ?_
  refine wp_getI (pc := 13) d_X1_dropUnsupported_13 fl_X1_50 (fun _ _ _ => rfl) ho3 ?_
  refine wp_aload_n (pc := 16) d_X1_dropUnsupported_16 rfl ?_
  refine wp_getI (pc := 17) d_X1_dropUnsupported_17 fl_X1_47 (fun _ _ _ => rfl) ho3 ?_
  obtain ⟨ho6, h⟩ := h
  refine wp_invV (pc := 20) (N := M_X7_lowest) (As := [vi _, vi _]) (rest := []) (r := (cn_7, ct_7, 5)) d_X1_dropUnsupported_20 ml_X1_85 mk_X7_lowest mv_X7_lowest h0 ho6 rfl rfl (Nat.le_of_ble_eq_true rfl) ?_
  refine wpM.mono h (fun rr G5 hr => ?_)
  obtain ⟨r4, rfl, h⟩ := hr
  show wp E d M_X1_dropUnsupported 23 [some (vr _), some (vr _), none, none, none, none, none] [vi _] G5 Q
  refine wp_istore_n (pc := 23) (lv' := [some (vr _), some (vr _), some (vi _), none, none, none, none]) d_X1_dropUnsupported_23 (by decide) rfl ?_
  refine wp_iconst (pc := 24) (v := 0) d_X1_dropUnsupported_24 rfl ?_
  refine wp_istore_n (pc := 25) (lv' := [some (vr _), some (vr _), some (vi _), some (vi _), none, none, none]) d_X1_dropUnsupported_25 (by decide) rfl ?_
  refine wp_sub ?_ h
  exact ⟨rfl, ⟨rfl, ⟨rfl, ⟨rfl, trivial⟩⟩⟩⟩
theorem v_X1_dropUnsupported_26 {E : EE} {d : Nat} {Q : Option AV → AH → Prop} {x0 : Nat} {x1 : Nat} {x2 : Int32} {x3 : Int32} {G : AH} (h0 : 0 < d) (h : isO E G x1 3 ∧ (isO E G (gR G x1 4) 7 ∧ (((gI G (gR G x1 4) 1) ≤ x3 → wp E d M_X1_dropUnsupported 91 [some (vr x0), some (vr x1), some (vi x2), some (vi x3), none, none, none] [] G Q) ∧ (¬ ((gI G (gR G x1 4) 1) ≤ x3) → (x2 < 0 → wp E d M_X1_dropUnsupported 91 [some (vr x0), some (vr x1), some (vi x2), some (vi x3), none, none, none] [] G Q) ∧ (¬ (x2 < 0) → isO E G x0 1 ∧ (wpI E (d - 1) M_X1_isOfLeft [vr x0, vr (gR G x1 4), vi x2] G (fun r3 G4 => (r3 = 0 → wp E d M_X1_dropUnsupported 72 [some (vr x0), some (vr x1), some (vi x2), some (vi x3), none, none, none] [] G4 Q) ∧ (¬ (r3 = 0) → isO E G4 x1 3 ∧ (isO E G4 (gR G4 x1 4) 7 ∧ (isO E G4 (gR G4 x1 6) 9 ∧ (wpI E (d - 1) M_X9_setOf [vr (gR G4 x1 6), vi x2] G4 (fun r7 G8 => isO E G8 x0 1 ∧ (wpV E (d - 1) M_X1_support [vr x0, vi (gI G4 (gR G4 x1 4) 0), vi r7] G8 (fun G9 => wp E d M_X1_dropUnsupported 72 [some (vr x0), some (vr x1), some (vi x2), some (vi x3), none, none, none] [] G9 Q)))))))))))))) : wp E d M_X1_dropUnsupported 26 [some (vr x0), some (vr x1), some (vi x2), some (vi x3), none, none, none] [] G Q := by
  refine wp_iload_n (pc := 26) d_X1_dropUnsupported_26 rfl ?_
  refine wp_aload_n (pc := 27) d_X1_dropUnsupported_27 rfl ?_
  obtain ⟨ho1, h⟩ := h
  refine wp_getR (pc := 28) d_X1_dropUnsupported_28 fl_X1_36 (fun _ _ _ => rfl) ho1 ?_
  obtain ⟨ho2, h⟩ := h
  refine wp_getI (pc := 31) d_X1_dropUnsupported_31 fl_X1_88 (fun _ _ _ => rfl) ho2 ?_
  refine wp_icmp_ge (pc := 34) (tgt := 91) d_X1_dropUnsupported_34 (by decide) (fun hc => ?_) (fun hc => ?_)
  · have h := h.1 hc
    refine wp_sub ?_ h
    exact ⟨rfl, ⟨rfl, ⟨rfl, ⟨rfl, trivial⟩⟩⟩⟩
  · have h := h.2 hc
    refine wp_iload_n (pc := 37) d_X1_dropUnsupported_37 rfl ?_
    refine wp_if_lt (pc := 38) (tgt := 91) d_X1_dropUnsupported_38 (by decide) (fun hc => ?_) (fun hc => ?_)
    · have h := h.1 hc
      refine wp_sub ?_ h
      exact ⟨rfl, ⟨rfl, ⟨rfl, ⟨rfl, trivial⟩⟩⟩⟩
    · have h := h.2 hc
      refine wp_aload_n (pc := 41) d_X1_dropUnsupported_41 rfl ?_
      refine wp_aload_n (pc := 42) d_X1_dropUnsupported_42 rfl ?_
      refine wp_getR (pc := 43) d_X1_dropUnsupported_43 fl_X1_36 (fun _ _ _ => rfl) ho1 ?_
      refine wp_iload_n (pc := 46) d_X1_dropUnsupported_46 rfl ?_
      obtain ⟨ho12, h⟩ := h
      refine wp_invV (pc := 47) (N := M_X1_isOfLeft) (As := [vr _, vi _]) (rest := []) (r := (cn_1, ct_1, 6)) d_X1_dropUnsupported_47 ml_X1_91 mk_X1_isOfLeft mv_X1_isOfLeft h0 ho12 rfl rfl (Nat.le_of_ble_eq_true rfl) ?_
      refine wpM.mono h (fun rr G4 hr => ?_)
      obtain ⟨r3, rfl, h⟩ := hr
      show wp E d M_X1_dropUnsupported 50 [some (vr _), some (vr _), some (vi _), some (vi _), none, none, none] [vi _] G4 Q
      refine wp_if_eq (pc := 50) (tgt := 72) d_X1_dropUnsupported_50 (by decide) (fun hc => ?_) (fun hc => ?_)
      · have h := h.1 hc
        refine wp_sub ?_ h
        exact ⟨rfl, ⟨rfl, ⟨rfl, ⟨rfl, trivial⟩⟩⟩⟩
      · have h := h.2 hc
        refine wp_aload_n (pc := 53) d_X1_dropUnsupported_53 rfl ?_
        refine wp_aload_n (pc := 54) d_X1_dropUnsupported_54 rfl ?_
        obtain ⟨ho5, h⟩ := h
        refine wp_getR (pc := 55) d_X1_dropUnsupported_55 fl_X1_36 (fun _ _ _ => rfl) ho5 ?_
        obtain ⟨ho6, h⟩ := h
        refine wp_getI (pc := 58) d_X1_dropUnsupported_58 fl_X1_42 (fun _ _ _ => rfl) ho6 ?_
        refine wp_aload_n (pc := 61) d_X1_dropUnsupported_61 rfl ?_
        refine wp_getR (pc := 62) d_X1_dropUnsupported_62 fl_X1_95 (fun _ _ _ => rfl) ho5 ?_
        refine wp_iload_n (pc := 65) d_X1_dropUnsupported_65 rfl ?_
        obtain ⟨ho11, h⟩ := h
        refine wp_invV (pc := 66) (N := M_X9_setOf) (As := [vi _]) (rest := [vi _, vr _]) (r := (cn_9, ct_9, 8)) d_X1_dropUnsupported_66 ml_X1_99 mk_X9_setOf mv_X9_setOf h0 ho11 rfl rfl (Nat.le_of_ble_eq_true rfl) ?_
        refine wpM.mono h (fun rr G8 hr => ?_)
        obtain ⟨r7, rfl, h⟩ := hr
        show wp E d M_X1_dropUnsupported 69 [some (vr _), some (vr _), some (vi _), some (vi _), none, none, none] [vi _, vi _, vr _] G8 Q
        obtain ⟨ho10, h⟩ := h
        refine wp_invV (pc := 69) (N := M_X1_support) (As := [vi _, vi _]) (rest := []) (r := (cn_1, ct_1, 6)) d_X1_dropUnsupported_69 ml_X1_104 mk_X1_support mv_X1_support h0 ho10 rfl rfl (Nat.le_of_ble_eq_true rfl) ?_
        refine wpM.mono h (fun rr G9 hr => ?_)
        obtain ⟨rfl, h⟩ := hr
        show wp E d M_X1_dropUnsupported 72 [some (vr _), some (vr _), some (vi _), some (vi _), none, none, none] [] G9 Q
        refine wp_sub ?_ h
        exact ⟨rfl, ⟨rfl, ⟨rfl, ⟨rfl, trivial⟩⟩⟩⟩
theorem v_X1_dropUnsupported_72 {E : EE} {d : Nat} {Q : Option AV → AH → Prop} {x0 : Nat} {x1 : Nat} {x2 : Int32} {x3 : Int32} {G : AH} (h0 : 0 < d) (h : isO E G x1 3 ∧ (isO E G (gR G x1 4) 7 ∧ (wpI E (d - 1) M_X7_following [vr (gR G x1 4), vi x2, vi (gI G x1 9)] G (fun r2 G3 => wp E d M_X1_dropUnsupported 26 [some (vr x0), some (vr x1), some (vi r2), some (vi (x3 + 1)), none, none, none] [] G3 Q)))) : wp E d M_X1_dropUnsupported 72 [some (vr x0), some (vr x1), some (vi x2), some (vi x3), none, none, none] [] G Q := by
  refine wp_aload_n (pc := 72) d_X1_dropUnsupported_72 rfl ?_
  obtain ⟨ho1, h⟩ := h
  refine wp_getR (pc := 73) d_X1_dropUnsupported_73 fl_X1_36 (fun _ _ _ => rfl) ho1 ?_
  refine wp_iload_n (pc := 76) d_X1_dropUnsupported_76 rfl ?_
  refine wp_aload_n (pc := 77) d_X1_dropUnsupported_77 rfl ?_
  refine wp_getI (pc := 78) d_X1_dropUnsupported_78 fl_X1_47 (fun _ _ _ => rfl) ho1 ?_
  obtain ⟨ho4, h⟩ := h
  refine wp_invV (pc := 81) (N := M_X7_following) (As := [vi _, vi _]) (rest := []) (r := (cn_7, ct_7, 5)) d_X1_dropUnsupported_81 ml_X1_108 mk_X7_following mv_X7_following h0 ho4 rfl rfl (Nat.le_of_ble_eq_true rfl) ?_
  refine wpM.mono h (fun rr G3 hr => ?_)
  obtain ⟨r2, rfl, h⟩ := hr
  show wp E d M_X1_dropUnsupported 84 [some (vr _), some (vr _), some (vi _), some (vi _), none, none, none] [vi _] G3 Q
  refine wp_istore_n (pc := 84) (lv' := [some (vr _), some (vr _), some (vi _), some (vi _), none, none, none]) d_X1_dropUnsupported_84 (by decide) rfl ?_
  refine wp_iinc (pc := 85) (v := 1) (lv' := [some (vr _), some (vr _), some (vi _), some (vi _), none, none, none]) d_X1_dropUnsupported_85 (by decide) rfl rfl rfl ?_
  refine wp_goto (pc := 88) (tgt := 26) d_X1_dropUnsupported_88 (by decide) ?_
  refine wp_sub ?_ h
  exact ⟨rfl, ⟨rfl, ⟨rfl, ⟨rfl, trivial⟩⟩⟩⟩
theorem v_X1_dropUnsupported_91 {E : EE} {d : Nat} {Q : Option AV → AH → Prop} {x0 : Nat} {x1 : Nat} {x2 : Int32} {x3 : Int32} {G : AH} (h : wp E d M_X1_dropUnsupported 96 [some (vr x0), some (vr x1), some (vi x2), some (vi 0), some (vi 0), none, none] [] G Q) : wp E d M_X1_dropUnsupported 91 [some (vr x0), some (vr x1), some (vi x2), some (vi x3), none, none, none] [] G Q := by
  refine wp_iconst (pc := 91) (v := 0) d_X1_dropUnsupported_91 rfl ?_
  refine wp_istore_n (pc := 92) (lv' := [some (vr _), some (vr _), some (vi _), some (vi _), none, none, none]) d_X1_dropUnsupported_92 (by decide) rfl ?_
  refine wp_iconst (pc := 93) (v := 0) d_X1_dropUnsupported_93 rfl ?_
  refine wp_istore (pc := 94) (lv' := [some (vr _), some (vr _), some (vi _), some (vi _), some (vi _), none, none]) d_X1_dropUnsupported_94 (by decide) rfl ?_
  refine wp_sub ?_ h
  exact ⟨rfl, ⟨rfl, ⟨rfl, ⟨rfl, ⟨rfl, trivial⟩⟩⟩⟩⟩
theorem v_X1_dropUnsupported_96 {E : EE} {d : Nat} {Q : Option AV → AH → Prop} {x0 : Nat} {x1 : Nat} {x2 : Int32} {x3 : Int32} {x4 : Int32} {G : AH} (h : isO E G x1 3 ∧ (isO E G (gR G x1 4) 7 ∧ (((gI G (gR G x1 4) 0) ≤ x4 → okI .boolean x3 ∧ Q (some (vi x3)) G) ∧ (¬ ((gI G (gR G x1 4) 0) ≤ x4) → isO E G x0 1 ∧ (isO E G (gR G x0 0) 14 ∧ (vp_in x4 (gN G (gR G x0 0)) ∧ (wp E d M_X1_dropUnsupported 120 [some (vr x0), some (vr x1), some (vi x2), some (vi x3), some (vi x4), some (vi (gI G (gR G x0 0) (Int32.toNatClampNeg x4))), some (vi 0)] [] G Q))))))) : wp E d M_X1_dropUnsupported 96 [some (vr x0), some (vr x1), some (vi x2), some (vi x3), some (vi x4), none, none] [] G Q := by
  refine wp_iload (pc := 96) d_X1_dropUnsupported_96 rfl ?_
  refine wp_aload_n (pc := 98) d_X1_dropUnsupported_98 rfl ?_
  obtain ⟨ho1, h⟩ := h
  refine wp_getR (pc := 99) d_X1_dropUnsupported_99 fl_X1_36 (fun _ _ _ => rfl) ho1 ?_
  obtain ⟨ho2, h⟩ := h
  refine wp_getI (pc := 102) d_X1_dropUnsupported_102 fl_X1_42 (fun _ _ _ => rfl) ho2 ?_
  refine wp_icmp_ge (pc := 105) (tgt := 187) d_X1_dropUnsupported_105 (by decide) (fun hc => ?_) (fun hc => ?_)
  · have h := h.1 hc
    refine wp_iload_n (pc := 187) d_X1_dropUnsupported_187 rfl ?_
    exact wp_zret (pc := 188) d_X1_dropUnsupported_188 rfl h.1.1 h.2
  · have h := h.2 hc
    refine wp_aload_n (pc := 108) d_X1_dropUnsupported_108 rfl ?_
    obtain ⟨ho3, h⟩ := h
    refine wp_getR (pc := 109) d_X1_dropUnsupported_109 fl_X1_9 (fun _ _ _ => rfl) ho3 ?_
    refine wp_iload (pc := 112) d_X1_dropUnsupported_112 rfl ?_
    obtain ⟨ho4, h⟩ := h
    obtain ⟨hi5, h⟩ := h
    refine wp_iald (pc := 114) d_X1_dropUnsupported_114 ho4 hi5 ?_
    refine wp_istore (pc := 115) (lv' := [some (vr _), some (vr _), some (vi _), some (vi _), some (vi _), some (vi _), none]) d_X1_dropUnsupported_115 (by decide) rfl ?_
    refine wp_iconst (pc := 117) (v := 0) d_X1_dropUnsupported_117 rfl ?_
    refine wp_istore (pc := 118) (lv' := [some (vr _), some (vr _), some (vi _), some (vi _), some (vi _), some (vi _), some (vi _)]) d_X1_dropUnsupported_118 (by decide) rfl ?_
    refine wp_sub ?_ h
    exact ⟨rfl, ⟨rfl, ⟨rfl, ⟨rfl, ⟨rfl, ⟨rfl, ⟨rfl, trivial⟩⟩⟩⟩⟩⟩⟩
theorem v_X1_dropUnsupported_120 {E : EE} {d : Nat} {Q : Option AV → AH → Prop} {x0 : Nat} {x1 : Nat} {x2 : Int32} {x3 : Int32} {x4 : Int32} {x5 : Int32} {x6 : Int32} {G : AH} (h : isO E G x0 1 ∧ (((gI G x0 4) ≤ x6 → isO E G (gR G x0 0) 14 ∧ (vp_in x4 (gN G (gR G x0 0)) ∧ ((x5 = (gI G (gR G x0 0) (Int32.toNatClampNeg x4)) → wp E d M_X1_dropUnsupported 172 [some (vr x0), some (vr x1), some (vi x2), some (vi x3), some (vi x4), some (vi x5), some (vi x6)] [] G Q) ∧ (¬ (x5 = (gI G (gR G x0 0) (Int32.toNatClampNeg x4))) → wp E d M_X1_dropUnsupported 172 [some (vr x0), some (vr x1), some (vi x2), some (vi 1), some (vi x4), some (vi x5), some (vi x6)] [] G Q)))) ∧ (¬ ((gI G x0 4) ≤ x6) → isO E G (gR G x0 3) 14 ∧ (vp_in x6 (gN G (gR G x0 3)) ∧ (isO E G (gR G x0 1) 14 ∧ (vp_in (((gI G (gR G x0 3) (Int32.toNatClampNeg x6)) * 12) + x4) (gN G (gR G x0 1)) ∧ (wp E d M_X1_dropUnsupported 120 [some (vr x0), some (vr x1), some (vi x2), some (vi x3), some (vi x4), some (vi (x5 &&& (gI G (gR G x0 1) (Int32.toNatClampNeg (((gI G (gR G x0 3) (Int32.toNatClampNeg x6)) * 12) + x4))))), some (vi (x6 + 1))] [] G Q))))))) : wp E d M_X1_dropUnsupported 120 [some (vr x0), some (vr x1), some (vi x2), some (vi x3), some (vi x4), some (vi x5), some (vi x6)] [] G Q := by
  refine wp_iload (pc := 120) d_X1_dropUnsupported_120 rfl ?_
  refine wp_aload_n (pc := 122) d_X1_dropUnsupported_122 rfl ?_
  obtain ⟨ho1, h⟩ := h
  refine wp_getI (pc := 123) d_X1_dropUnsupported_123 fl_X1_24 (fun _ _ _ => rfl) ho1 ?_
  refine wp_icmp_ge (pc := 126) (tgt := 158) d_X1_dropUnsupported_126 (by decide) (fun hc => ?_) (fun hc => ?_)
  · have h := h.1 hc
    refine wp_iload (pc := 158) d_X1_dropUnsupported_158 rfl ?_
    refine wp_aload_n (pc := 160) d_X1_dropUnsupported_160 rfl ?_
    refine wp_getR (pc := 161) d_X1_dropUnsupported_161 fl_X1_9 (fun _ _ _ => rfl) ho1 ?_
    refine wp_iload (pc := 164) d_X1_dropUnsupported_164 rfl ?_
    obtain ⟨ho2, h⟩ := h
    obtain ⟨hi3, h⟩ := h
    refine wp_iald (pc := 166) d_X1_dropUnsupported_166 ho2 hi3 ?_
    refine wp_icmp_eq (pc := 167) (tgt := 172) d_X1_dropUnsupported_167 (by decide) (fun hc => ?_) (fun hc => ?_)
    · have h := h.1 hc
      refine wp_sub ?_ h
      exact ⟨rfl, ⟨rfl, ⟨rfl, ⟨rfl, ⟨rfl, ⟨rfl, ⟨rfl, trivial⟩⟩⟩⟩⟩⟩⟩
    · have h := h.2 hc
      refine wp_iconst (pc := 170) (v := 1) d_X1_dropUnsupported_170 rfl ?_
      refine wp_istore_n (pc := 171) (lv' := [some (vr _), some (vr _), some (vi _), some (vi _), some (vi _), some (vi _), some (vi _)]) d_X1_dropUnsupported_171 (by decide) rfl ?_
      refine wp_sub ?_ h
      exact ⟨rfl, ⟨rfl, ⟨rfl, ⟨rfl, ⟨rfl, ⟨rfl, ⟨rfl, trivial⟩⟩⟩⟩⟩⟩⟩
  · have h := h.2 hc
    refine wp_iload (pc := 129) d_X1_dropUnsupported_129 rfl ?_
    refine wp_aload_n (pc := 131) d_X1_dropUnsupported_131 rfl ?_
    refine wp_getR (pc := 132) d_X1_dropUnsupported_132 fl_X1_15 (fun _ _ _ => rfl) ho1 ?_
    refine wp_aload_n (pc := 135) d_X1_dropUnsupported_135 rfl ?_
    refine wp_getR (pc := 136) d_X1_dropUnsupported_136 fl_X1_21 (fun _ _ _ => rfl) ho1 ?_
    refine wp_iload (pc := 139) d_X1_dropUnsupported_139 rfl ?_
    obtain ⟨ho4, h⟩ := h
    obtain ⟨hi5, h⟩ := h
    refine wp_iald (pc := 141) d_X1_dropUnsupported_141 ho4 hi5 ?_
    refine wp_bipush (pc := 142) (v := 12) d_X1_dropUnsupported_142 rfl ?_
    refine wp_imul (pc := 144) d_X1_dropUnsupported_144 ?_
    refine wp_iload (pc := 145) d_X1_dropUnsupported_145 rfl ?_
    refine wp_iadd (pc := 147) d_X1_dropUnsupported_147 ?_
    obtain ⟨ho6, h⟩ := h
    obtain ⟨hi7, h⟩ := h
    refine wp_iald (pc := 148) d_X1_dropUnsupported_148 ho6 hi7 ?_
    refine wp_iand (pc := 149) d_X1_dropUnsupported_149 ?_
    refine wp_istore (pc := 150) (lv' := [some (vr _), some (vr _), some (vi _), some (vi _), some (vi _), some (vi _), some (vi _)]) d_X1_dropUnsupported_150 (by decide) rfl ?_
    refine wp_iinc (pc := 152) (v := 1) (lv' := [some (vr _), some (vr _), some (vi _), some (vi _), some (vi _), some (vi _), some (vi _)]) d_X1_dropUnsupported_152 (by decide) rfl rfl rfl ?_
    refine wp_goto (pc := 155) (tgt := 120) d_X1_dropUnsupported_155 (by decide) ?_
    refine wp_sub ?_ h
    exact ⟨rfl, ⟨rfl, ⟨rfl, ⟨rfl, ⟨rfl, ⟨rfl, ⟨rfl, trivial⟩⟩⟩⟩⟩⟩⟩
theorem v_X1_dropUnsupported_172 {E : EE} {d : Nat} {Q : Option AV → AH → Prop} {x0 : Nat} {x1 : Nat} {x2 : Int32} {x3 : Int32} {x4 : Int32} {x5 : Int32} {x6 : Int32} {G : AH} (h : isO E G x0 1 ∧ (isO E G (gR G x0 0) 14 ∧ (vp_in x4 (gN G (gR G x0 0)) ∧ (wp E d M_X1_dropUnsupported 96 [some (vr x0), some (vr x1), some (vi x2), some (vi x3), some (vi (x4 + 1)), none, none] [] (sI G (gR G x0 0) (Int32.toNatClampNeg x4) x5) Q)))) : wp E d M_X1_dropUnsupported 172 [some (vr x0), some (vr x1), some (vi x2), some (vi x3), some (vi x4), some (vi x5), some (vi x6)] [] G Q := by
  refine wp_aload_n (pc := 172) d_X1_dropUnsupported_172 rfl ?_
  obtain ⟨ho1, h⟩ := h
  refine wp_getR (pc := 173) d_X1_dropUnsupported_173 fl_X1_9 (fun _ _ _ => rfl) ho1 ?_
  refine wp_iload (pc := 176) d_X1_dropUnsupported_176 rfl ?_
  refine wp_iload (pc := 178) d_X1_dropUnsupported_178 rfl ?_
  obtain ⟨ho2, h⟩ := h
  obtain ⟨hi3, h⟩ := h
  refine wp_iast (pc := 180) d_X1_dropUnsupported_180 ho2 hi3 ?_
  refine wp_iinc (pc := 181) (v := 1) (lv' := [some (vr _), some (vr _), some (vi _), some (vi _), some (vi _), some (vi _), some (vi _)]) d_X1_dropUnsupported_181 (by decide) rfl rfl rfl ?_
  refine wp_goto (pc := 184) (tgt := 96) d_X1_dropUnsupported_184 (by decide) ?_
  refine wp_sub ?_ h
  exact ⟨rfl, ⟨rfl, ⟨rfl, ⟨rfl, ⟨rfl, trivial⟩⟩⟩⟩⟩
theorem d_X1_isOfLeft_0 : decode prog_3_method_5_code 0 = .ok (.iconst 0, 1) := by decide +kernel
theorem d_X1_isOfLeft_1 : decode prog_3_method_5_code 1 = .ok (.istore_n 3, 1) := by decide +kernel
theorem d_X1_isOfLeft_2 : decode prog_3_method_5_code 2 = .ok (.iload_n 3, 1) := by decide +kernel
theorem d_X1_isOfLeft_3 : decode prog_3_method_5_code 3 = .ok (.aload_n 1, 1) := by decide +kernel
theorem d_X1_isOfLeft_4 : decode prog_3_method_5_code 4 = .ok (.getfield 42, 3) := by decide +kernel
theorem d_X1_isOfLeft_7 : decode prog_3_method_5_code 7 = .ok (.if_icmp .ge 41, 3) := by decide +kernel
theorem d_X1_isOfLeft_10 : decode prog_3_method_5_code 10 = .ok (.aload_n 0, 1) := by decide +kernel
theorem d_X1_isOfLeft_11 : decode prog_3_method_5_code 11 = .ok (.getfield 18, 3) := by decide +kernel
theorem d_X1_isOfLeft_14 : decode prog_3_method_5_code 14 = .ok (.iload_n 3, 1) := by decide +kernel
theorem d_X1_isOfLeft_15 : decode prog_3_method_5_code 15 = .ok (.aload_n 1, 1) := by decide +kernel
theorem d_X1_isOfLeft_16 : decode prog_3_method_5_code 16 = .ok (.iload_n 2, 1) := by decide +kernel
theorem d_X1_isOfLeft_17 : decode prog_3_method_5_code 17 = .ok (.iload_n 3, 1) := by decide +kernel
theorem d_X1_isOfLeft_18 : decode prog_3_method_5_code 18 = .ok (.invokevirtual 53, 3) := by decide +kernel
theorem d_X1_isOfLeft_21 : decode prog_3_method_5_code 21 = .ok (.iastore, 1) := by decide +kernel
theorem d_X1_isOfLeft_22 : decode prog_3_method_5_code 22 = .ok (.aload_n 0, 1) := by decide +kernel
theorem d_X1_isOfLeft_23 : decode prog_3_method_5_code 23 = .ok (.getfield 9, 3) := by decide +kernel
theorem d_X1_isOfLeft_26 : decode prog_3_method_5_code 26 = .ok (.iload_n 3, 1) := by decide +kernel
theorem d_X1_isOfLeft_27 : decode prog_3_method_5_code 27 = .ok (.iaload, 1) := by decide +kernel
theorem d_X1_isOfLeft_28 : decode prog_3_method_5_code 28 = .ok (.aload_n 0, 1) := by decide +kernel
theorem d_X1_isOfLeft_29 : decode prog_3_method_5_code 29 = .ok (.getfield 18, 3) := by decide +kernel
theorem d_X1_isOfLeft_32 : decode prog_3_method_5_code 32 = .ok (.iload_n 3, 1) := by decide +kernel
theorem d_X1_isOfLeft_33 : decode prog_3_method_5_code 33 = .ok (.iaload, 1) := by decide +kernel
theorem d_X1_isOfLeft_34 : decode prog_3_method_5_code 34 = .ok (.ishr, 1) := by decide +kernel
theorem d_X1_isOfLeft_35 : decode prog_3_method_5_code 35 = .ok (.iconst 1, 1) := by decide +kernel
theorem d_X1_isOfLeft_36 : decode prog_3_method_5_code 36 = .ok (.iand, 1) := by decide +kernel
theorem d_X1_isOfLeft_37 : decode prog_3_method_5_code 37 = .ok (.ifCond .ne 5, 3) := by decide +kernel
theorem d_X1_isOfLeft_40 : decode prog_3_method_5_code 40 = .ok (.iconst 0, 1) := by decide +kernel
theorem d_X1_isOfLeft_41 : decode prog_3_method_5_code 41 = .ok (.ireturn, 1) := by decide +kernel
theorem d_X1_isOfLeft_42 : decode prog_3_method_5_code 42 = .ok (.iinc 3 1, 3) := by decide +kernel
theorem d_X1_isOfLeft_45 : decode prog_3_method_5_code 45 = .ok (.goto (-43), 3) := by decide +kernel
theorem d_X1_isOfLeft_48 : decode prog_3_method_5_code 48 = .ok (.iconst 1, 1) := by decide +kernel
theorem d_X1_isOfLeft_49 : decode prog_3_method_5_code 49 = .ok (.ireturn, 1) := by decide +kernel
theorem v_X1_isOfLeft_0 {E : EE} {d : Nat} {Q : Option AV → AH → Prop} {x0 : Nat} {x1 : Nat} {x2 : Int32} {G : AH} (h : wp E d M_X1_isOfLeft 2 [some (vr x0), some (vr x1), some (vi x2), some (vi 0)] [] G Q) : wp E d M_X1_isOfLeft 0 [some (vr x0), some (vr x1), some (vi x2), none] [] G Q := by
  refine wp_iconst (pc := 0) (v := 0) d_X1_isOfLeft_0 rfl ?_
  refine wp_istore_n (pc := 1) (lv' := [some (vr _), some (vr _), some (vi _), some (vi _)]) d_X1_isOfLeft_1 (by decide) rfl ?_
  refine wp_sub ?_ h
  exact ⟨rfl, ⟨rfl, ⟨rfl, ⟨rfl, trivial⟩⟩⟩⟩
theorem v_X1_isOfLeft_2 {E : EE} {d : Nat} {Q : Option AV → AH → Prop} {x0 : Nat} {x1 : Nat} {x2 : Int32} {x3 : Int32} {G : AH} (h0 : 0 < d) (h : isO E G x1 7 ∧ (((gI G x1 0) ≤ x3 → Q (some (vi 1)) G) ∧ (¬ ((gI G x1 0) ≤ x3) → isO E G x0 1 ∧ (wpI E (d - 1) M_X7_placeOf [vr x1, vi x2, vi x3] G (fun r3 G4 => isO E G4 (gR G x0 2) 14 ∧ (vp_in x3 (gN G4 (gR G x0 2)) ∧ (isO E G4 x0 1 ∧ (isO E G4 (gR G4 x0 0) 14 ∧ (vp_in x3 (gN G4 (gR G4 x0 0)) ∧ (isO E G4 (gR G4 x0 2) 14 ∧ (vp_in x3 (gN G4 (gR G4 x0 2)) ∧ ((¬ (((gI (sI G4 (gR G x0 2) (Int32.toNatClampNeg x3) r3) (gR G4 x0 0) (Int32.toNatClampNeg x3)) >>> ((gI (sI G4 (gR G x0 2) (Int32.toNatClampNeg x3) r3) (gR G4 x0 2) (Int32.toNatClampNeg x3)) &&& 31)) &&& 1) = 0 → wp E d M_X1_isOfLeft 2 [some (vr x0), some (vr x1), some (vi x2), some (vi (x3 + 1))] [] (sI G4 (gR G x0 2) (Int32.toNatClampNeg x3) r3) Q) ∧ ((((gI (sI G4 (gR G x0 2) (Int32.toNatClampNeg x3) r3) (gR G4 x0 0) (Int32.toNatClampNeg x3)) >>> ((gI (sI G4 (gR G x0 2) (Int32.toNatClampNeg x3) r3) (gR G4 x0 2) (Int32.toNatClampNeg x3)) &&& 31)) &&& 1) = 0 → Q (some (vi 0)) (sI G4 (gR G x0 2) (Int32.toNatClampNeg x3) r3)))))))))))))) : wp E d M_X1_isOfLeft 2 [some (vr x0), some (vr x1), some (vi x2), some (vi x3)] [] G Q := by
  refine wp_iload_n (pc := 2) d_X1_isOfLeft_2 rfl ?_
  refine wp_aload_n (pc := 3) d_X1_isOfLeft_3 rfl ?_
  obtain ⟨ho1, h⟩ := h
  refine wp_getI (pc := 4) d_X1_isOfLeft_4 fl_X1_42 (fun _ _ _ => rfl) ho1 ?_
  refine wp_icmp_ge (pc := 7) (tgt := 48) d_X1_isOfLeft_7 (by decide) (fun hc => ?_) (fun hc => ?_)
  · have h := h.1 hc
    refine wp_iconst (pc := 48) (v := 1) d_X1_isOfLeft_48 rfl ?_
    exact wp_zret (pc := 49) d_X1_isOfLeft_49 rfl rfl h
  · have h := h.2 hc
    refine wp_aload_n (pc := 10) d_X1_isOfLeft_10 rfl ?_
    obtain ⟨ho2, h⟩ := h
    refine wp_getR (pc := 11) d_X1_isOfLeft_11 fl_X1_18 (fun _ _ _ => rfl) ho2 ?_
    refine wp_iload_n (pc := 14) d_X1_isOfLeft_14 rfl ?_
    refine wp_aload_n (pc := 15) d_X1_isOfLeft_15 rfl ?_
    refine wp_iload_n (pc := 16) d_X1_isOfLeft_16 rfl ?_
    refine wp_iload_n (pc := 17) d_X1_isOfLeft_17 rfl ?_
    refine wp_invV (pc := 18) (N := M_X7_placeOf) (As := [vi _, vi _]) (rest := [vi _, vr _]) (r := (cn_7, ct_7, 5)) d_X1_isOfLeft_18 ml_X1_53 mk_X7_placeOf mv_X7_placeOf h0 ho1 rfl rfl (Nat.le_of_ble_eq_true rfl) ?_
    refine wpM.mono h (fun rr G4 hr => ?_)
    obtain ⟨r3, rfl, h⟩ := hr
    show wp E d M_X1_isOfLeft 21 [some (vr _), some (vr _), some (vi _), some (vi _)] [vi _, vi _, vr _] G4 Q
    obtain ⟨ho5, h⟩ := h
    obtain ⟨hi6, h⟩ := h
    refine wp_iast (pc := 21) d_X1_isOfLeft_21 ho5 hi6 ?_
    refine wp_aload_n (pc := 22) d_X1_isOfLeft_22 rfl ?_
    obtain ⟨ho7, h⟩ := h
    refine wp_getR (pc := 23) d_X1_isOfLeft_23 fl_X1_9 (fun _ _ _ => rfl) ho7 ?_
    show wp E d M_X1_isOfLeft 26 [some (vr x0), some (vr x1), some (vi x2), some (vi x3)] [vr (gR G4 x0 0)] (sI G4 (gR G x0 2) (Int32.toNatClampNeg x3) r3) Q
    refine wp_iload_n (pc := 26) d_X1_isOfLeft_26 rfl ?_
    obtain ⟨ho8, h⟩ := h
    obtain ⟨hi9, h⟩ := h
    refine wp_iald (pc := 27) d_X1_isOfLeft_27 ho8 hi9 ?_
    refine wp_aload_n (pc := 28) d_X1_isOfLeft_28 rfl ?_
    refine wp_getR (pc := 29) d_X1_isOfLeft_29 fl_X1_18 (fun _ _ _ => rfl) ho7 ?_
    show wp E d M_X1_isOfLeft 32 [some (vr x0), some (vr x1), some (vi x2), some (vi x3)] [vr (gR G4 x0 2), vi (gI (sI G4 (gR G x0 2) (Int32.toNatClampNeg x3) r3) (gR G4 x0 0) (Int32.toNatClampNeg x3))] (sI G4 (gR G x0 2) (Int32.toNatClampNeg x3) r3) Q
    refine wp_iload_n (pc := 32) d_X1_isOfLeft_32 rfl ?_
    obtain ⟨ho10, h⟩ := h
    obtain ⟨hi11, h⟩ := h
    refine wp_iald (pc := 33) d_X1_isOfLeft_33 ho10 hi11 ?_
    refine wp_ishr (pc := 34) d_X1_isOfLeft_34 ?_
    refine wp_iconst (pc := 35) (v := 1) d_X1_isOfLeft_35 rfl ?_
    refine wp_iand (pc := 36) d_X1_isOfLeft_36 ?_
    refine wp_if_ne (pc := 37) (tgt := 42) d_X1_isOfLeft_37 (by decide) (fun hc => ?_) (fun hc => ?_)
    · have h := h.1 hc
      refine wp_iinc (pc := 42) (v := 1) (lv' := [some (vr _), some (vr _), some (vi _), some (vi _)]) d_X1_isOfLeft_42 (by decide) rfl rfl rfl ?_
      refine wp_goto (pc := 45) (tgt := 2) d_X1_isOfLeft_45 (by decide) ?_
      refine wp_sub ?_ h
      exact ⟨rfl, ⟨rfl, ⟨rfl, ⟨rfl, trivial⟩⟩⟩⟩
    · have h := h.2 hc
      refine wp_iconst (pc := 40) (v := 0) d_X1_isOfLeft_40 rfl ?_
      exact wp_zret (pc := 41) d_X1_isOfLeft_41 rfl rfl h
theorem d_X1_support_0 : decode prog_3_method_6_code 0 = .ok (.iconst 0, 1) := by decide +kernel
theorem d_X1_support_1 : decode prog_3_method_6_code 1 = .ok (.istore_n 3, 1) := by decide +kernel
theorem d_X1_support_2 : decode prog_3_method_6_code 2 = .ok (.iload_n 3, 1) := by decide +kernel
theorem d_X1_support_3 : decode prog_3_method_6_code 3 = .ok (.aload_n 0, 1) := by decide +kernel
theorem d_X1_support_4 : decode prog_3_method_6_code 4 = .ok (.getfield 24, 3) := by decide +kernel
theorem d_X1_support_7 : decode prog_3_method_6_code 7 = .ok (.if_icmp .ge 69, 3) := by decide +kernel
theorem d_X1_support_10 : decode prog_3_method_6_code 10 = .ok (.aload_n 0, 1) := by decide +kernel
theorem d_X1_support_11 : decode prog_3_method_6_code 11 = .ok (.getfield 21, 3) := by decide +kernel
theorem d_X1_support_14 : decode prog_3_method_6_code 14 = .ok (.iload_n 3, 1) := by decide +kernel
theorem d_X1_support_15 : decode prog_3_method_6_code 15 = .ok (.iaload, 1) := by decide +kernel
theorem d_X1_support_16 : decode prog_3_method_6_code 16 = .ok (.istore 4, 2) := by decide +kernel
theorem d_X1_support_18 : decode prog_3_method_6_code 18 = .ok (.iload_n 2, 1) := by decide +kernel
theorem d_X1_support_19 : decode prog_3_method_6_code 19 = .ok (.iload 4, 2) := by decide +kernel
theorem d_X1_support_21 : decode prog_3_method_6_code 21 = .ok (.ishr, 1) := by decide +kernel
theorem d_X1_support_22 : decode prog_3_method_6_code 22 = .ok (.iconst 1, 1) := by decide +kernel
theorem d_X1_support_23 : decode prog_3_method_6_code 23 = .ok (.iand, 1) := by decide +kernel
theorem d_X1_support_24 : decode prog_3_method_6_code 24 = .ok (.ifCond .eq 6, 3) := by decide +kernel
theorem d_X1_support_27 : decode prog_3_method_6_code 27 = .ok (.goto 43, 3) := by decide +kernel
theorem d_X1_support_30 : decode prog_3_method_6_code 30 = .ok (.iconst 0, 1) := by decide +kernel
theorem d_X1_support_31 : decode prog_3_method_6_code 31 = .ok (.istore 5, 2) := by decide +kernel
theorem d_X1_support_33 : decode prog_3_method_6_code 33 = .ok (.iload 5, 2) := by decide +kernel
theorem d_X1_support_35 : decode prog_3_method_6_code 35 = .ok (.iload_n 1, 1) := by decide +kernel
theorem d_X1_support_36 : decode prog_3_method_6_code 36 = .ok (.if_icmp .ge 34, 3) := by decide +kernel
theorem d_X1_support_39 : decode prog_3_method_6_code 39 = .ok (.aload_n 0, 1) := by decide +kernel
theorem d_X1_support_40 : decode prog_3_method_6_code 40 = .ok (.getfield 15, 3) := by decide +kernel
theorem d_X1_support_43 : decode prog_3_method_6_code 43 = .ok (.iload 4, 2) := by decide +kernel
theorem d_X1_support_45 : decode prog_3_method_6_code 45 = .ok (.bipush 12, 2) := by decide +kernel
theorem d_X1_support_47 : decode prog_3_method_6_code 47 = .ok (.imul, 1) := by decide +kernel
theorem d_X1_support_48 : decode prog_3_method_6_code 48 = .ok (.iload 5, 2) := by decide +kernel
theorem d_X1_support_50 : decode prog_3_method_6_code 50 = .ok (.iadd, 1) := by decide +kernel
theorem d_X1_support_51 : decode prog_3_method_6_code 51 = .ok (.dup2, 1) := by decide +kernel
theorem d_X1_support_52 : decode prog_3_method_6_code 52 = .ok (.iaload, 1) := by decide +kernel
theorem d_X1_support_53 : decode prog_3_method_6_code 53 = .ok (.iconst 1, 1) := by decide +kernel
theorem d_X1_support_54 : decode prog_3_method_6_code 54 = .ok (.aload_n 0, 1) := by decide +kernel
theorem d_X1_support_55 : decode prog_3_method_6_code 55 = .ok (.getfield 18, 3) := by decide +kernel
theorem d_X1_support_58 : decode prog_3_method_6_code 58 = .ok (.iload 5, 2) := by decide +kernel
theorem d_X1_support_60 : decode prog_3_method_6_code 60 = .ok (.iaload, 1) := by decide +kernel
theorem d_X1_support_61 : decode prog_3_method_6_code 61 = .ok (.ishl, 1) := by decide +kernel
theorem d_X1_support_62 : decode prog_3_method_6_code 62 = .ok (.ior, 1) := by decide +kernel
theorem d_X1_support_63 : decode prog_3_method_6_code 63 = .ok (.iastore, 1) := by decide +kernel
theorem d_X1_support_64 : decode prog_3_method_6_code 64 = .ok (.iinc 5 1, 3) := by decide +kernel
theorem d_X1_support_67 : decode prog_3_method_6_code 67 = .ok (.goto (-34), 3) := by decide +kernel
theorem d_X1_support_70 : decode prog_3_method_6_code 70 = .ok (.iinc 3 1, 3) := by decide +kernel
theorem d_X1_support_73 : decode prog_3_method_6_code 73 = .ok (.goto (-71), 3) := by decide +kernel
theorem d_X1_support_76 : decode prog_3_method_6_code 76 = .ok (.return_, 1) := by decide +kernel
theorem v_X1_support_0 {E : EE} {d : Nat} {Q : Option AV → AH → Prop} {x0 : Nat} {x1 : Int32} {x2 : Int32} {G : AH} (h : wp E d M_X1_support 2 [some (vr x0), some (vi x1), some (vi x2), some (vi 0), none, none] [] G Q) : wp E d M_X1_support 0 [some (vr x0), some (vi x1), some (vi x2), none, none, none] [] G Q := by
  refine wp_iconst (pc := 0) (v := 0) d_X1_support_0 rfl ?_
  refine wp_istore_n (pc := 1) (lv' := [some (vr _), some (vi _), some (vi _), some (vi _), none, none]) d_X1_support_1 (by decide) rfl ?_
  refine wp_sub ?_ h
  exact ⟨rfl, ⟨rfl, ⟨rfl, ⟨rfl, trivial⟩⟩⟩⟩
theorem v_X1_support_2 {E : EE} {d : Nat} {Q : Option AV → AH → Prop} {x0 : Nat} {x1 : Int32} {x2 : Int32} {x3 : Int32} {G : AH} (h : isO E G x0 1 ∧ (((gI G x0 4) ≤ x3 → Q none G) ∧ (¬ ((gI G x0 4) ≤ x3) → isO E G (gR G x0 3) 14 ∧ (vp_in x3 (gN G (gR G x0 3)) ∧ ((((x2 >>> ((gI G (gR G x0 3) (Int32.toNatClampNeg x3)) &&& 31)) &&& 1) = 0 → wp E d M_X1_support 33 [some (vr x0), some (vi x1), some (vi x2), some (vi x3), some (vi (gI G (gR G x0 3) (Int32.toNatClampNeg x3))), some (vi 0)] [] G Q) ∧ (¬ (((x2 >>> ((gI G (gR G x0 3) (Int32.toNatClampNeg x3)) &&& 31)) &&& 1) = 0) → wp E d M_X1_support 70 [some (vr x0), some (vi x1), some (vi x2), some (vi x3), some (vi (gI G (gR G x0 3) (Int32.toNatClampNeg x3))), none] [] G Q)))))) : wp E d M_X1_support 2 [some (vr x0), some (vi x1), some (vi x2), some (vi x3), none, none] [] G Q := by
  refine wp_iload_n (pc := 2) d_X1_support_2 rfl ?_
  refine wp_aload_n (pc := 3) d_X1_support_3 rfl ?_
  obtain ⟨ho1, h⟩ := h
  refine wp_getI (pc := 4) d_X1_support_4 fl_X1_24 (fun _ _ _ => rfl) ho1 ?_
  refine wp_icmp_ge (pc := 7) (tgt := 76) d_X1_support_7 (by decide) (fun hc => ?_) (fun hc => ?_)
  · have h := h.1 hc
    exact wp_vret (pc := 76) d_X1_support_76 rfl h
  · have h := h.2 hc
    refine wp_aload_n (pc := 10) d_X1_support_10 rfl ?_
    refine wp_getR (pc := 11) d_X1_support_11 fl_X1_21 (fun _ _ _ => rfl) ho1 ?_
    refine wp_iload_n (pc := 14) d_X1_support_14 rfl ?_
    obtain ⟨ho2, h⟩ := h
    obtain ⟨hi3, h⟩ := h
    refine wp_iald (pc := 15) d_X1_support_15 ho2 hi3 ?_
    refine wp_istore (pc := 16) (lv' := [some (vr _), some (vi _), some (vi _), some (vi _), some (vi _), none]) d_X1_support_16 (by decide) rfl ?_
    refine wp_iload_n (pc := 18) d_X1_support_18 rfl ?_
    refine wp_iload (pc := 19) d_X1_support_19 rfl ?_
    refine wp_ishr (pc := 21) d_X1_support_21 ?_
    refine wp_iconst (pc := 22) (v := 1) d_X1_support_22 rfl ?_
    refine wp_iand (pc := 23) d_X1_support_23 ?_
    refine wp_if_eq (pc := 24) (tgt := 30) d_X1_support_24 (by decide) (fun hc => ?_) (fun hc => ?_)
    · have h := h.1 hc
      refine wp_iconst (pc := 30) (v := 0) d_X1_support_30 rfl ?_
      refine wp_istore (pc := 31) (lv' := [some (vr _), some (vi _), some (vi _), some (vi _), some (vi _), some (vi _)]) d_X1_support_31 (by decide) rfl ?_
      refine wp_sub ?_ h
      exact ⟨rfl, ⟨rfl, ⟨rfl, ⟨rfl, ⟨rfl, ⟨rfl, trivial⟩⟩⟩⟩⟩⟩
    · have h := h.2 hc
      refine wp_goto (pc := 27) (tgt := 70) d_X1_support_27 (by decide) ?_
      refine wp_sub ?_ h
      exact ⟨rfl, ⟨rfl, ⟨rfl, ⟨rfl, ⟨rfl, trivial⟩⟩⟩⟩⟩
theorem v_X1_support_33 {E : EE} {d : Nat} {Q : Option AV → AH → Prop} {x0 : Nat} {x1 : Int32} {x2 : Int32} {x3 : Int32} {x4 : Int32} {x5 : Int32} {G : AH} (h : (x1 ≤ x5 → wp E d M_X1_support 70 [some (vr x0), some (vi x1), some (vi x2), some (vi x3), some (vi x4), none] [] G Q) ∧ (¬ (x1 ≤ x5) → isO E G x0 1 ∧ (isO E G (gR G x0 1) 14 ∧ (vp_in ((x4 * 12) + x5) (gN G (gR G x0 1)) ∧ (isO E G (gR G x0 2) 14 ∧ (vp_in x5 (gN G (gR G x0 2)) ∧ (vp_in ((x4 * 12) + x5) (gN G (gR G x0 1)) ∧ (wp E d M_X1_support 33 [some (vr x0), some (vi x1), some (vi x2), some (vi x3), some (vi x4), some (vi (x5 + 1))] [] (sI G (gR G x0 1) (Int32.toNatClampNeg ((x4 * 12) + x5)) ((gI G (gR G x0 1) (Int32.toNatClampNeg ((x4 * 12) + x5))) ||| (1 <<< ((gI G (gR G x0 2) (Int32.toNatClampNeg x5)) &&& 31)))) Q)))))))) : wp E d M_X1_support 33 [some (vr x0), some (vi x1), some (vi x2), some (vi x3), some (vi x4), some (vi x5)] [] G Q := by
  refine wp_iload (pc := 33) d_X1_support_33 rfl ?_
  refine wp_iload_n (pc := 35) d_X1_support_35 rfl ?_
  refine wp_icmp_ge (pc := 36) (tgt := 70) d_X1_support_36 (by decide) (fun hc => ?_) (fun hc => ?_)
  · have h := h.1 hc
    refine wp_sub ?_ h
    exact ⟨rfl, ⟨rfl, ⟨rfl, ⟨rfl, ⟨rfl, trivial⟩⟩⟩⟩⟩
  · have h := h.2 hc
    refine wp_aload_n (pc := 39) d_X1_support_39 rfl ?_
    obtain ⟨ho1, h⟩ := h
    refine wp_getR (pc := 40) d_X1_support_40 fl_X1_15 (fun _ _ _ => rfl) ho1 ?_
    refine wp_iload (pc := 43) d_X1_support_43 rfl ?_
    refine wp_bipush (pc := 45) (v := 12) d_X1_support_45 rfl ?_
    refine wp_imul (pc := 47) d_X1_support_47 ?_
    refine wp_iload (pc := 48) d_X1_support_48 rfl ?_
    refine wp_iadd (pc := 50) d_X1_support_50 ?_
    refine wp_dup2 (pc := 51) d_X1_support_51 (c1_i _) (c1_r _) ?_
    obtain ⟨ho2, h⟩ := h
    obtain ⟨hi3, h⟩ := h
    refine wp_iald (pc := 52) d_X1_support_52 ho2 hi3 ?_
    refine wp_iconst (pc := 53) (v := 1) d_X1_support_53 rfl ?_
    refine wp_aload_n (pc := 54) d_X1_support_54 rfl ?_
    refine wp_getR (pc := 55) d_X1_support_55 fl_X1_18 (fun _ _ _ => rfl) ho1 ?_
    refine wp_iload (pc := 58) d_X1_support_58 rfl ?_
    obtain ⟨ho4, h⟩ := h
    obtain ⟨hi5, h⟩ := h
    refine wp_iald (pc := 60) d_X1_support_60 ho4 hi5 ?_
    refine wp_ishl (pc := 61) d_X1_support_61 ?_
    refine wp_ior (pc := 62) d_X1_support_62 ?_
    obtain ⟨hi6, h⟩ := h
    refine wp_iast (pc := 63) d_X1_support_63 ho2 hi6 ?_
    refine wp_iinc (pc := 64) (v := 1) (lv' := [some (vr _), some (vi _), some (vi _), some (vi _), some (vi _), some (vi _)]) d_X1_support_64 (by decide) rfl rfl rfl ?_
    refine wp_goto (pc := 67) (tgt := 33) d_X1_support_67 (by decide) ?_
    refine wp_sub ?_ h
    exact ⟨rfl, ⟨rfl, ⟨rfl, ⟨rfl, ⟨rfl, ⟨rfl, trivial⟩⟩⟩⟩⟩⟩
theorem v_X1_support_70 {E : EE} {d : Nat} {Q : Option AV → AH → Prop} {x0 : Nat} {x1 : Int32} {x2 : Int32} {x3 : Int32} {x4 : Int32} {G : AH} (h : wp E d M_X1_support 2 [some (vr x0), some (vi x1), some (vi x2), some (vi (x3 + 1)), none, none] [] G Q) : wp E d M_X1_support 70 [some (vr x0), some (vi x1), some (vi x2), some (vi x3), some (vi x4), none] [] G Q := by
  refine wp_iinc (pc := 70) (v := 1) (lv' := [some (vr _), some (vi _), some (vi _), some (vi _), some (vi _), none]) d_X1_support_70 (by decide) rfl rfl rfl ?_
  refine wp_goto (pc := 73) (tgt := 2) d_X1_support_73 (by decide) ?_
  refine wp_sub ?_ h
  exact ⟨rfl, ⟨rfl, ⟨rfl, ⟨rfl, trivial⟩⟩⟩⟩
theorem d_X6_init_0 : decode prog_8_method_1_code 0 = .ok (.aload_n 0, 1) := by decide +kernel
theorem d_X6_init_1 : decode prog_8_method_1_code 1 = .ok (.invokespecial 3, 3) := by decide +kernel
theorem d_X6_init_4 : decode prog_8_method_1_code 4 = .ok (.aload_n 0, 1) := by decide +kernel
theorem d_X6_init_5 : decode prog_8_method_1_code 5 = .ok (.iconst 0, 1) := by decide +kernel
theorem d_X6_init_6 : decode prog_8_method_1_code 6 = .ok (.putfield 9, 3) := by decide +kernel
theorem d_X6_init_9 : decode prog_8_method_1_code 9 = .ok (.aload_n 0, 1) := by decide +kernel
theorem d_X6_init_10 : decode prog_8_method_1_code 10 = .ok (.iconst 1, 1) := by decide +kernel
theorem d_X6_init_11 : decode prog_8_method_1_code 11 = .ok (.putfield 15, 3) := by decide +kernel
theorem d_X6_init_14 : decode prog_8_method_1_code 14 = .ok (.aload_n 0, 1) := by decide +kernel
theorem d_X6_init_15 : decode prog_8_method_1_code 15 = .ok (.iconst 0, 1) := by decide +kernel
theorem d_X6_init_16 : decode prog_8_method_1_code 16 = .ok (.putfield 19, 3) := by decide +kernel
theorem d_X6_init_19 : decode prog_8_method_1_code 19 = .ok (.aload_n 0, 1) := by decide +kernel
theorem d_X6_init_20 : decode prog_8_method_1_code 20 = .ok (.iconst (-1), 1) := by decide +kernel
theorem d_X6_init_21 : decode prog_8_method_1_code 21 = .ok (.putfield 22, 3) := by decide +kernel
theorem d_X6_init_24 : decode prog_8_method_1_code 24 = .ok (.aload_n 0, 1) := by decide +kernel
theorem d_X6_init_25 : decode prog_8_method_1_code 25 = .ok (.bipush 12, 2) := by decide +kernel
theorem d_X6_init_27 : decode prog_8_method_1_code 27 = .ok (.newarray .int, 2) := by decide +kernel
theorem d_X6_init_29 : decode prog_8_method_1_code 29 = .ok (.putfield 25, 3) := by decide +kernel
theorem d_X6_init_32 : decode prog_8_method_1_code 32 = .ok (.aload_n 0, 1) := by decide +kernel
theorem d_X6_init_33 : decode prog_8_method_1_code 33 = .ok (.iconst 0, 1) := by decide +kernel
theorem d_X6_init_34 : decode prog_8_method_1_code 34 = .ok (.putfield 29, 3) := by decide +kernel
theorem d_X6_init_37 : decode prog_8_method_1_code 37 = .ok (.aload_n 0, 1) := by decide +kernel
theorem d_X6_init_38 : decode prog_8_method_1_code 38 = .ok (.bipush 20, 2) := by decide +kernel
theorem d_X6_init_40 : decode prog_8_method_1_code 40 = .ok (.newarray .int, 2) := by decide +kernel
theorem d_X6_init_42 : decode prog_8_method_1_code 42 = .ok (.putfield 32, 3) := by decide +kernel
theorem d_X6_init_45 : decode prog_8_method_1_code 45 = .ok (.aload_n 0, 1) := by decide +kernel
theorem d_X6_init_46 : decode prog_8_method_1_code 46 = .ok (.bipush 12, 2) := by decide +kernel
theorem d_X6_init_48 : decode prog_8_method_1_code 48 = .ok (.newarray .int, 2) := by decide +kernel
theorem d_X6_init_50 : decode prog_8_method_1_code 50 = .ok (.putfield 35, 3) := by decide +kernel
theorem d_X6_init_53 : decode prog_8_method_1_code 53 = .ok (.aload_n 0, 1) := by decide +kernel
theorem d_X6_init_54 : decode prog_8_method_1_code 54 = .ok (.iconst 0, 1) := by decide +kernel
theorem d_X6_init_55 : decode prog_8_method_1_code 55 = .ok (.putfield 38, 3) := by decide +kernel
theorem d_X6_init_58 : decode prog_8_method_1_code 58 = .ok (.aload_n 0, 1) := by decide +kernel
theorem d_X6_init_59 : decode prog_8_method_1_code 59 = .ok (.iconst 0, 1) := by decide +kernel
theorem d_X6_init_60 : decode prog_8_method_1_code 60 = .ok (.putfield 41, 3) := by decide +kernel
theorem d_X6_init_63 : decode prog_8_method_1_code 63 = .ok (.aload_n 0, 1) := by decide +kernel
theorem d_X6_init_64 : decode prog_8_method_1_code 64 = .ok (.iconst 0, 1) := by decide +kernel
theorem d_X6_init_65 : decode prog_8_method_1_code 65 = .ok (.putfield 44, 3) := by decide +kernel
theorem d_X6_init_68 : decode prog_8_method_1_code 68 = .ok (.aload_n 0, 1) := by decide +kernel
theorem d_X6_init_69 : decode prog_8_method_1_code 69 = .ok (.iconst 0, 1) := by decide +kernel
theorem d_X6_init_70 : decode prog_8_method_1_code 70 = .ok (.putfield 47, 3) := by decide +kernel
theorem d_X6_init_73 : decode prog_8_method_1_code 73 = .ok (.aload_n 0, 1) := by decide +kernel
theorem d_X6_init_74 : decode prog_8_method_1_code 74 = .ok (.iconst 0, 1) := by decide +kernel
theorem d_X6_init_75 : decode prog_8_method_1_code 75 = .ok (.putfield 50, 3) := by decide +kernel
theorem d_X6_init_78 : decode prog_8_method_1_code 78 = .ok (.aload_n 0, 1) := by decide +kernel
theorem d_X6_init_79 : decode prog_8_method_1_code 79 = .ok (.iconst 0, 1) := by decide +kernel
theorem d_X6_init_80 : decode prog_8_method_1_code 80 = .ok (.putfield 53, 3) := by decide +kernel
theorem d_X6_init_83 : decode prog_8_method_1_code 83 = .ok (.return_, 1) := by decide +kernel
theorem v_X6_init_0 {E : EE} {d : Nat} {Q : Option AV → AH → Prop} {x0 : Nat} {G : AH} (h0 : 0 < d) (h : isO E G x0 6 ∧ (∀ G2 : AH, G2 = sI G x0 0 0 → ∀ G4 : AH, G4 = sI G2 x0 1 1 → ∀ G6 : AH, G6 = sI G4 x0 2 0 → ∀ G8 : AH, G8 = sI G6 x0 3 (-1) → eB E ≤ gT G8 ∧ (∀ G14 : AH, G14 = nw G8 14 (Int32.toNatClampNeg 12) (Int32.toNatClampNeg 12) → ∀ G18 : AH, G18 = sR G14 x0 4 (gT G8) → ∀ G21 : AH, G21 = sI G18 x0 5 0 → ∀ G27 : AH, G27 = nw G21 14 (Int32.toNatClampNeg 20) (Int32.toNatClampNeg 20) → ∀ G31 : AH, G31 = sR G27 x0 6 (gT G21) → ∀ G37 : AH, G37 = nw G31 14 (Int32.toNatClampNeg 12) (Int32.toNatClampNeg 12) → ∀ G41 : AH, G41 = sR G37 x0 7 (gT G31) → ∀ G44 : AH, G44 = sI G41 x0 8 0 → ∀ G47 : AH, G47 = sI G44 x0 9 0 → ∀ G50 : AH, G50 = sI G47 x0 10 0 → ∀ G53 : AH, G53 = sI G50 x0 11 0 → ∀ G56 : AH, G56 = sI G53 x0 12 0 → ∀ G59 : AH, G59 = sI G56 x0 13 0 → Q none G59))) : wp E d M_X6_init 0 [some (vr x0)] [] G Q := by
  refine wp_aload_n (pc := 0) d_X6_init_0 rfl ?_
  obtain ⟨ho1, h⟩ := h
  refine wp_objI (pc := 1) d_X6_init_1 ml_X6_3 in_obj mc_obj h0 ho1 (Nat.le_of_ble_eq_true rfl) ?_
  refine wp_aload_n (pc := 4) d_X6_init_4 rfl ?_
  refine wp_iconst (pc := 5) (v := 0) d_X6_init_5 rfl ?_
  refine wp_putI (pc := 6) d_X6_init_6 fl_X6_9 (fun _ _ _ => rfl) (Or.inl rfl) ho1 okI_z0 ?_
  refine wp_nm (fun G2 eG2 => ?_)
  have h := h G2 eG2
  have ho3 := isO_sI eG2 ho1
  refine wp_aload_n (pc := 9) d_X6_init_9 rfl ?_
  refine wp_iconst (pc := 10) (v := 1) d_X6_init_10 rfl ?_
  refine wp_putI (pc := 11) d_X6_init_11 fl_X6_15 (fun _ _ _ => rfl) (Or.inl rfl) ho3 (okI_int _) ?_
  refine wp_nm (fun G4 eG4 => ?_)
  have h := h G4 eG4
  have ho5 := isO_sI eG4 ho3
  refine wp_aload_n (pc := 14) d_X6_init_14 rfl ?_
  refine wp_iconst (pc := 15) (v := 0) d_X6_init_15 rfl ?_
  refine wp_putI (pc := 16) d_X6_init_16 fl_X6_19 (fun _ _ _ => rfl) (Or.inl rfl) ho5 (okI_int _) ?_
  refine wp_nm (fun G6 eG6 => ?_)
  have h := h G6 eG6
  have ho7 := isO_sI eG6 ho5
  refine wp_aload_n (pc := 19) d_X6_init_19 rfl ?_
  refine wp_iconst (pc := 20) (v := (-1)) d_X6_init_20 rfl ?_
  refine wp_putI (pc := 21) d_X6_init_21 fl_X6_22 (fun _ _ _ => rfl) (Or.inl rfl) ho7 (okI_int _) ?_
  refine wp_nm (fun G8 eG8 => ?_)
  have h := h G8 eG8
  have ho9 := isO_sI eG8 ho7
  refine wp_aload_n (pc := 24) d_X6_init_24 rfl ?_
  refine wp_bipush (pc := 25) (v := 12) d_X6_init_25 rfl ?_
  obtain ⟨hb10, h⟩ := h
  refine wp_newa (pc := 27) (t0 := 1) (kd := 14) d_X6_init_27 rfl (fun _ q => by cases q) ac_int (by decide) (fun _ => rfl) rfl (by decide) (by decide) (by decide) ?_
  refine wp_nm (fun G14 eG14 => ?_)
  have h := h G14 eG14
  have ho15 := isO_nwE eG14 ho9
  have hb16 := base_nwE eG14 hb10
  have ho17 := isO_newE eG14 hb10
  refine wp_putR (pc := 29) d_X6_init_29 fl_X6_25 (fun _ _ _ => rfl) (Or.inr ⟨_, rfl⟩) (Or.inr ⟨rfl, rfl, rfl⟩) ho15 ?_
  refine wp_nm (fun G18 eG18 => ?_)
  have h := h G18 eG18
  have ho19 := isO_sR eG18 ho15
  have hb20 := base_sR eG18 hb16
  refine wp_aload_n (pc := 32) d_X6_init_32 rfl ?_
  refine wp_iconst (pc := 33) (v := 0) d_X6_init_33 rfl ?_
  refine wp_putI (pc := 34) d_X6_init_34 fl_X6_29 (fun _ _ _ => rfl) (Or.inl rfl) ho19 (okI_int _) ?_
  refine wp_nm (fun G21 eG21 => ?_)
  have h := h G21 eG21
  have ho22 := isO_sI eG21 ho19
  have hb23 := base_sI eG21 hb20
  refine wp_aload_n (pc := 37) d_X6_init_37 rfl ?_
  refine wp_bipush (pc := 38) (v := 20) d_X6_init_38 rfl ?_
  refine wp_newa (pc := 40) (t0 := 1) (kd := 14) d_X6_init_40 rfl (fun _ q => by cases q) ac_int (by decide) (fun _ => rfl) rfl (by decide) (by decide) (by decide) ?_
  refine wp_nm (fun G27 eG27 => ?_)
  have h := h G27 eG27
  have ho28 := isO_nwE eG27 ho22
  have hb29 := base_nwE eG27 hb23
  have ho30 := isO_newE eG27 hb23
  refine wp_putR (pc := 42) d_X6_init_42 fl_X6_32 (fun _ _ _ => rfl) (Or.inr ⟨_, rfl⟩) (Or.inr ⟨rfl, rfl, rfl⟩) ho28 ?_
  refine wp_nm (fun G31 eG31 => ?_)
  have h := h G31 eG31
  have ho32 := isO_sR eG31 ho28
  have hb33 := base_sR eG31 hb29
  refine wp_aload_n (pc := 45) d_X6_init_45 rfl ?_
  refine wp_bipush (pc := 46) (v := 12) d_X6_init_46 rfl ?_
  refine wp_newa (pc := 48) (t0 := 1) (kd := 14) d_X6_init_48 rfl (fun _ q => by cases q) ac_int (by decide) (fun _ => rfl) rfl (by decide) (by decide) (by decide) ?_
  refine wp_nm (fun G37 eG37 => ?_)
  have h := h G37 eG37
  have ho38 := isO_nwE eG37 ho32
  have hb39 := base_nwE eG37 hb33
  have ho40 := isO_newE eG37 hb33
  refine wp_putR (pc := 50) d_X6_init_50 fl_X6_35 (fun _ _ _ => rfl) (Or.inr ⟨_, rfl⟩) (Or.inr ⟨rfl, rfl, rfl⟩) ho38 ?_
  refine wp_nm (fun G41 eG41 => ?_)
  have h := h G41 eG41
  have ho42 := isO_sR eG41 ho38
  have hb43 := base_sR eG41 hb39
  refine wp_aload_n (pc := 53) d_X6_init_53 rfl ?_
  refine wp_iconst (pc := 54) (v := 0) d_X6_init_54 rfl ?_
  refine wp_putI (pc := 55) d_X6_init_55 fl_X6_38 (fun _ _ _ => rfl) (Or.inl rfl) ho42 (okI_int _) ?_
  refine wp_nm (fun G44 eG44 => ?_)
  have h := h G44 eG44
  have ho45 := isO_sI eG44 ho42
  have hb46 := base_sI eG44 hb43
  refine wp_aload_n (pc := 58) d_X6_init_58 rfl ?_
  refine wp_iconst (pc := 59) (v := 0) d_X6_init_59 rfl ?_
  refine wp_putI (pc := 60) d_X6_init_60 fl_X6_41 (fun _ _ _ => rfl) (Or.inl rfl) ho45 (okI_int _) ?_
  refine wp_nm (fun G47 eG47 => ?_)
  have h := h G47 eG47
  have ho48 := isO_sI eG47 ho45
  have hb49 := base_sI eG47 hb46
  refine wp_aload_n (pc := 63) d_X6_init_63 rfl ?_
  refine wp_iconst (pc := 64) (v := 0) d_X6_init_64 rfl ?_
  refine wp_putI (pc := 65) d_X6_init_65 fl_X6_44 (fun _ _ _ => rfl) (Or.inl rfl) ho48 (okI_int _) ?_
  refine wp_nm (fun G50 eG50 => ?_)
  have h := h G50 eG50
  have ho51 := isO_sI eG50 ho48
  have hb52 := base_sI eG50 hb49
  refine wp_aload_n (pc := 68) d_X6_init_68 rfl ?_
  refine wp_iconst (pc := 69) (v := 0) d_X6_init_69 rfl ?_
  refine wp_putI (pc := 70) d_X6_init_70 fl_X6_47 (fun _ _ _ => rfl) (Or.inl rfl) ho51 (okI_int _) ?_
  refine wp_nm (fun G53 eG53 => ?_)
  have h := h G53 eG53
  have ho54 := isO_sI eG53 ho51
  have hb55 := base_sI eG53 hb52
  refine wp_aload_n (pc := 73) d_X6_init_73 rfl ?_
  refine wp_iconst (pc := 74) (v := 0) d_X6_init_74 rfl ?_
  refine wp_putI (pc := 75) d_X6_init_75 fl_X6_50 (fun _ _ _ => rfl) (Or.inl rfl) ho54 (okI_int _) ?_
  refine wp_nm (fun G56 eG56 => ?_)
  have h := h G56 eG56
  have ho57 := isO_sI eG56 ho54
  have hb58 := base_sI eG56 hb55
  refine wp_aload_n (pc := 78) d_X6_init_78 rfl ?_
  refine wp_iconst (pc := 79) (v := 0) d_X6_init_79 rfl ?_
  refine wp_putI (pc := 80) d_X6_init_80 fl_X6_53 (fun _ _ _ => rfl) (Or.inl rfl) ho57 (okI_int _) ?_
  refine wp_nm (fun G59 eG59 => ?_)
  have h := h G59 eG59
  have ho60 := isO_sI eG59 ho57
  have hb61 := base_sI eG59 hb58
  exact wp_vret (pc := 83) d_X6_init_83 rfl h
theorem d_X6_mayBe_0 : decode prog_8_method_2_code 0 = .ok (.iload_n 0, 1) := by decide +kernel
theorem d_X6_mayBe_1 : decode prog_8_method_2_code 1 = .ok (.tableswitch 85 0 3 #[31, 33, 50, 67], 31) := by decide +kernel
theorem d_X6_mayBe_32 : decode prog_8_method_2_code 32 = .ok (.iconst 1, 1) := by decide +kernel
theorem d_X6_mayBe_33 : decode prog_8_method_2_code 33 = .ok (.ireturn, 1) := by decide +kernel
theorem d_X6_mayBe_34 : decode prog_8_method_2_code 34 = .ok (.iload_n 1, 1) := by decide +kernel
theorem d_X6_mayBe_35 : decode prog_8_method_2_code 35 = .ok (.iconst 1, 1) := by decide +kernel
theorem d_X6_mayBe_36 : decode prog_8_method_2_code 36 = .ok (.if_icmp .lt 13, 3) := by decide +kernel
theorem d_X6_mayBe_39 : decode prog_8_method_2_code 39 = .ok (.iload_n 1, 1) := by decide +kernel
theorem d_X6_mayBe_40 : decode prog_8_method_2_code 40 = .ok (.bipush 20, 2) := by decide +kernel
theorem d_X6_mayBe_42 : decode prog_8_method_2_code 42 = .ok (.if_icmp .gt 7, 3) := by decide +kernel
theorem d_X6_mayBe_45 : decode prog_8_method_2_code 45 = .ok (.iconst 1, 1) := by decide +kernel
theorem d_X6_mayBe_46 : decode prog_8_method_2_code 46 = .ok (.goto 4, 3) := by decide +kernel
theorem d_X6_mayBe_49 : decode prog_8_method_2_code 49 = .ok (.iconst 0, 1) := by decide +kernel
theorem d_X6_mayBe_50 : decode prog_8_method_2_code 50 = .ok (.ireturn, 1) := by decide +kernel
theorem d_X6_mayBe_51 : decode prog_8_method_2_code 51 = .ok (.iload_n 1, 1) := by decide +kernel
theorem d_X6_mayBe_52 : decode prog_8_method_2_code 52 = .ok (.iconst 1, 1) := by decide +kernel
theorem d_X6_mayBe_53 : decode prog_8_method_2_code 53 = .ok (.if_icmp .lt 13, 3) := by decide +kernel
theorem d_X6_mayBe_56 : decode prog_8_method_2_code 56 = .ok (.iload_n 1, 1) := by decide +kernel
theorem d_X6_mayBe_57 : decode prog_8_method_2_code 57 = .ok (.bipush 100, 2) := by decide +kernel
theorem d_X6_mayBe_59 : decode prog_8_method_2_code 59 = .ok (.if_icmp .gt 7, 3) := by decide +kernel
theorem d_X6_mayBe_62 : decode prog_8_method_2_code 62 = .ok (.iconst 1, 1) := by decide +kernel
theorem d_X6_mayBe_63 : decode prog_8_method_2_code 63 = .ok (.goto 4, 3) := by decide +kernel
theorem d_X6_mayBe_66 : decode prog_8_method_2_code 66 = .ok (.iconst 0, 1) := by decide +kernel
theorem d_X6_mayBe_67 : decode prog_8_method_2_code 67 = .ok (.ireturn, 1) := by decide +kernel
theorem d_X6_mayBe_68 : decode prog_8_method_2_code 68 = .ok (.iload_n 1, 1) := by decide +kernel
theorem d_X6_mayBe_69 : decode prog_8_method_2_code 69 = .ok (.iconst 1, 1) := by decide +kernel
theorem d_X6_mayBe_70 : decode prog_8_method_2_code 70 = .ok (.if_icmp .lt 14, 3) := by decide +kernel
theorem d_X6_mayBe_73 : decode prog_8_method_2_code 73 = .ok (.iload_n 1, 1) := by decide +kernel
theorem d_X6_mayBe_74 : decode prog_8_method_2_code 74 = .ok (.sipush 10000, 3) := by decide +kernel
theorem d_X6_mayBe_77 : decode prog_8_method_2_code 77 = .ok (.if_icmp .gt 7, 3) := by decide +kernel
theorem d_X6_mayBe_80 : decode prog_8_method_2_code 80 = .ok (.iconst 1, 1) := by decide +kernel
theorem d_X6_mayBe_81 : decode prog_8_method_2_code 81 = .ok (.goto 4, 3) := by decide +kernel
theorem d_X6_mayBe_84 : decode prog_8_method_2_code 84 = .ok (.iconst 0, 1) := by decide +kernel
theorem d_X6_mayBe_85 : decode prog_8_method_2_code 85 = .ok (.ireturn, 1) := by decide +kernel
theorem d_X6_mayBe_86 : decode prog_8_method_2_code 86 = .ok (.iconst 0, 1) := by decide +kernel
theorem d_X6_mayBe_87 : decode prog_8_method_2_code 87 = .ok (.ireturn, 1) := by decide +kernel
theorem v_X6_mayBe_0 {E : EE} {d : Nat} {Q : Option AV → AH → Prop} {x0 : Int32} {x1 : Int32} {G : AH} (h : (x0 = 0 → Q (some (vi 1)) G) ∧ ((x0 = 1 → (x1 < 1 → Q (some (vi 0)) G) ∧ (¬ (x1 < 1) → (20 < x1 → Q (some (vi 0)) G) ∧ (¬ (20 < x1) → Q (some (vi 1)) G))) ∧ ((x0 = 2 → (x1 < 1 → Q (some (vi 0)) G) ∧ (¬ (x1 < 1) → (100 < x1 → Q (some (vi 0)) G) ∧ (¬ (100 < x1) → Q (some (vi 1)) G))) ∧ ((x0 = 3 → (x1 < 1 → Q (some (vi 0)) G) ∧ (¬ (x1 < 1) → (10000 < x1 → Q (some (vi 0)) G) ∧ (¬ (10000 < x1) → Q (some (vi 1)) G))) ∧ ((¬ x0 = 0 → ¬ x0 = 1 → ¬ x0 = 2 → ¬ x0 = 3 → Q (some (vi 0)) G)))))) : wp E d M_X6_mayBe 0 [some (vi x0), some (vi x1)] [] G Q := by
  refine wp_iload_n (pc := 0) d_X6_mayBe_0 rfl ?_
  obtain ⟨hk, h⟩ := h
  by_cases hn1 : x0 = 0
  · have h := hk hn1
    refine wp_tblI (pc := 1) (tgt := 32) d_X6_mayBe_1 (by rw [hn1]; decide) (by rw [hn1]; decide) (by rw [hn1]; first | done | rfl) (by decide) ?_
    refine wp_iconst (pc := 32) (v := 1) d_X6_mayBe_32 rfl ?_
    exact wp_zret (pc := 33) d_X6_mayBe_33 rfl rfl h
  obtain ⟨hk, h⟩ := h
  by_cases hn2 : x0 = 1
  · have h := hk hn2
    refine wp_tblI (pc := 1) (tgt := 34) d_X6_mayBe_1 (by rw [hn2]; decide) (by rw [hn2]; decide) (by rw [hn2]; first | done | rfl) (by decide) ?_
    refine wp_iload_n (pc := 34) d_X6_mayBe_34 rfl ?_
    refine wp_iconst (pc := 35) (v := 1) d_X6_mayBe_35 rfl ?_
    refine wp_icmp_lt (pc := 36) (tgt := 49) d_X6_mayBe_36 (by decide) (fun hc => ?_) (fun hc => ?_)
    · have h := h.1 hc
      refine wp_iconst (pc := 49) (v := 0) d_X6_mayBe_49 rfl ?_
      exact wp_zret (pc := 50) d_X6_mayBe_50 rfl rfl h
    · have h := h.2 hc
      refine wp_iload_n (pc := 39) d_X6_mayBe_39 rfl ?_
      refine wp_bipush (pc := 40) (v := 20) d_X6_mayBe_40 rfl ?_
      refine wp_icmp_gt (pc := 42) (tgt := 49) d_X6_mayBe_42 (by decide) (fun hc => ?_) (fun hc => ?_)
      · have h := h.1 hc
        refine wp_iconst (pc := 49) (v := 0) d_X6_mayBe_49 rfl ?_
        exact wp_zret (pc := 50) d_X6_mayBe_50 rfl rfl h
      · have h := h.2 hc
        refine wp_iconst (pc := 45) (v := 1) d_X6_mayBe_45 rfl ?_
        refine wp_goto (pc := 46) (tgt := 50) d_X6_mayBe_46 (by decide) ?_
        exact wp_zret (pc := 50) d_X6_mayBe_50 rfl rfl h
  obtain ⟨hk, h⟩ := h
  by_cases hn3 : x0 = 2
  · have h := hk hn3
    refine wp_tblI (pc := 1) (tgt := 51) d_X6_mayBe_1 (by rw [hn3]; decide) (by rw [hn3]; decide) (by rw [hn3]; first | done | rfl) (by decide) ?_
    refine wp_iload_n (pc := 51) d_X6_mayBe_51 rfl ?_
    refine wp_iconst (pc := 52) (v := 1) d_X6_mayBe_52 rfl ?_
    refine wp_icmp_lt (pc := 53) (tgt := 66) d_X6_mayBe_53 (by decide) (fun hc => ?_) (fun hc => ?_)
    · have h := h.1 hc
      refine wp_iconst (pc := 66) (v := 0) d_X6_mayBe_66 rfl ?_
      exact wp_zret (pc := 67) d_X6_mayBe_67 rfl rfl h
    · have h := h.2 hc
      refine wp_iload_n (pc := 56) d_X6_mayBe_56 rfl ?_
      refine wp_bipush (pc := 57) (v := 100) d_X6_mayBe_57 rfl ?_
      refine wp_icmp_gt (pc := 59) (tgt := 66) d_X6_mayBe_59 (by decide) (fun hc => ?_) (fun hc => ?_)
      · have h := h.1 hc
        refine wp_iconst (pc := 66) (v := 0) d_X6_mayBe_66 rfl ?_
        exact wp_zret (pc := 67) d_X6_mayBe_67 rfl rfl h
      · have h := h.2 hc
        refine wp_iconst (pc := 62) (v := 1) d_X6_mayBe_62 rfl ?_
        refine wp_goto (pc := 63) (tgt := 67) d_X6_mayBe_63 (by decide) ?_
        exact wp_zret (pc := 67) d_X6_mayBe_67 rfl rfl h
  obtain ⟨hk, h⟩ := h
  by_cases hn4 : x0 = 3
  · have h := hk hn4
    refine wp_tblI (pc := 1) (tgt := 68) d_X6_mayBe_1 (by rw [hn4]; decide) (by rw [hn4]; decide) (by rw [hn4]; first | done | rfl) (by decide) ?_
    refine wp_iload_n (pc := 68) d_X6_mayBe_68 rfl ?_
    refine wp_iconst (pc := 69) (v := 1) d_X6_mayBe_69 rfl ?_
    refine wp_icmp_lt (pc := 70) (tgt := 84) d_X6_mayBe_70 (by decide) (fun hc => ?_) (fun hc => ?_)
    · have h := h.1 hc
      refine wp_iconst (pc := 84) (v := 0) d_X6_mayBe_84 rfl ?_
      exact wp_zret (pc := 85) d_X6_mayBe_85 rfl rfl h
    · have h := h.2 hc
      refine wp_iload_n (pc := 73) d_X6_mayBe_73 rfl ?_
      refine wp_sipush (pc := 74) (v := 10000) d_X6_mayBe_74 rfl ?_
      refine wp_icmp_gt (pc := 77) (tgt := 84) d_X6_mayBe_77 (by decide) (fun hc => ?_) (fun hc => ?_)
      · have h := h.1 hc
        refine wp_iconst (pc := 84) (v := 0) d_X6_mayBe_84 rfl ?_
        exact wp_zret (pc := 85) d_X6_mayBe_85 rfl rfl h
      · have h := h.2 hc
        refine wp_iconst (pc := 80) (v := 1) d_X6_mayBe_80 rfl ?_
        refine wp_goto (pc := 81) (tgt := 85) d_X6_mayBe_81 (by decide) ?_
        exact wp_zret (pc := 85) d_X6_mayBe_85 rfl rfl h
  have h := h hn1 hn2 hn3 hn4
  have qhn1 := lv_neT (a := 0) hn1 (by decide)
  have qhn2 := lv_neT (a := 1) hn2 (by decide)
  have qhn3 := lv_neT (a := 2) hn3 (by decide)
  have qhn4 := lv_neT (a := 3) hn4 (by decide)
  refine wp_tblO (pc := 1) (tgt := 86) d_X6_mayBe_1 (by omega) (by decide) ?_
  refine wp_iconst (pc := 86) (v := 0) d_X6_mayBe_86 rfl ?_
  exact wp_zret (pc := 87) d_X6_mayBe_87 rfl rfl h
theorem d_X6_seek_0 : decode prog_8_method_3_code 0 = .ok (.aload_n 0, 1) := by decide +kernel
theorem d_X6_seek_1 : decode prog_8_method_3_code 1 = .ok (.aload_n 1, 1) := by decide +kernel
theorem d_X6_seek_2 : decode prog_8_method_3_code 2 = .ok (.iload 4, 2) := by decide +kernel
theorem d_X6_seek_4 : decode prog_8_method_3_code 4 = .ok (.invokevirtual 56, 3) := by decide +kernel
theorem d_X6_seek_7 : decode prog_8_method_3_code 7 = .ok (.aload_n 0, 1) := by decide +kernel
theorem d_X6_seek_8 : decode prog_8_method_3_code 8 = .ok (.getfield 29, 3) := by decide +kernel
theorem d_X6_seek_11 : decode prog_8_method_3_code 11 = .ok (.ifCond .ne 5, 3) := by decide +kernel
theorem d_X6_seek_14 : decode prog_8_method_3_code 14 = .ok (.iconst 0, 1) := by decide +kernel
theorem d_X6_seek_15 : decode prog_8_method_3_code 15 = .ok (.ireturn, 1) := by decide +kernel
theorem d_X6_seek_16 : decode prog_8_method_3_code 16 = .ok (.aload_n 1, 1) := by decide +kernel
theorem d_X6_seek_17 : decode prog_8_method_3_code 17 = .ok (.getfield 60, 3) := by decide +kernel
theorem d_X6_seek_20 : decode prog_8_method_3_code 20 = .ok (.aload_n 1, 1) := by decide +kernel
theorem d_X6_seek_21 : decode prog_8_method_3_code 21 = .ok (.invokevirtual 66, 3) := by decide +kernel
theorem d_X6_seek_24 : decode prog_8_method_3_code 24 = .ok (.iconst 0, 1) := by decide +kernel
theorem d_X6_seek_25 : decode prog_8_method_3_code 25 = .ok (.istore 6, 2) := by decide +kernel
theorem d_X6_seek_27 : decode prog_8_method_3_code 27 = .ok (.iconst 0, 1) := by decide +kernel
theorem d_X6_seek_28 : decode prog_8_method_3_code 28 = .ok (.istore 7, 2) := by decide +kernel
theorem d_X6_seek_30 : decode prog_8_method_3_code 30 = .ok (.iload 7, 2) := by decide +kernel
theorem d_X6_seek_32 : decode prog_8_method_3_code 32 = .ok (.iload 5, 2) := by decide +kernel
theorem d_X6_seek_34 : decode prog_8_method_3_code 34 = .ok (.if_icmp .ge 82, 3) := by decide +kernel
theorem d_X6_seek_37 : decode prog_8_method_3_code 37 = .ok (.aload_n 0, 1) := by decide +kernel
theorem d_X6_seek_38 : decode prog_8_method_3_code 38 = .ok (.aload_n 1, 1) := by decide +kernel
theorem d_X6_seek_39 : decode prog_8_method_3_code 39 = .ok (.getfield 72, 3) := by decide +kernel
theorem d_X6_seek_42 : decode prog_8_method_3_code 42 = .ok (.invokevirtual 76, 3) := by decide +kernel
theorem d_X6_seek_45 : decode prog_8_method_3_code 45 = .ok (.ifCond .ne 6, 3) := by decide +kernel
theorem d_X6_seek_48 : decode prog_8_method_3_code 48 = .ok (.goto 62, 3) := by decide +kernel
theorem d_X6_seek_51 : decode prog_8_method_3_code 51 = .ok (.aload_n 0, 1) := by decide +kernel
theorem d_X6_seek_52 : decode prog_8_method_3_code 52 = .ok (.aload_n 1, 1) := by decide +kernel
theorem d_X6_seek_53 : decode prog_8_method_3_code 53 = .ok (.getfield 60, 3) := by decide +kernel
theorem d_X6_seek_56 : decode prog_8_method_3_code 56 = .ok (.iload_n 2, 1) := by decide +kernel
theorem d_X6_seek_57 : decode prog_8_method_3_code 57 = .ok (.iload_n 3, 1) := by decide +kernel
theorem d_X6_seek_58 : decode prog_8_method_3_code 58 = .ok (.iload 7, 2) := by decide +kernel
theorem d_X6_seek_60 : decode prog_8_method_3_code 60 = .ok (.iload 5, 2) := by decide +kernel
theorem d_X6_seek_62 : decode prog_8_method_3_code 62 = .ok (.invokevirtual 80, 3) := by decide +kernel
theorem d_X6_seek_65 : decode prog_8_method_3_code 65 = .ok (.ifCond .eq 17, 3) := by decide +kernel
theorem d_X6_seek_68 : decode prog_8_method_3_code 68 = .ok (.iinc 6 1, 3) := by decide +kernel
theorem d_X6_seek_71 : decode prog_8_method_3_code 71 = .ok (.aload_n 0, 1) := by decide +kernel
theorem d_X6_seek_72 : decode prog_8_method_3_code 72 = .ok (.aload_n 1, 1) := by decide +kernel
theorem d_X6_seek_73 : decode prog_8_method_3_code 73 = .ok (.getfield 60, 3) := by decide +kernel
theorem d_X6_seek_76 : decode prog_8_method_3_code 76 = .ok (.iload 7, 2) := by decide +kernel
theorem d_X6_seek_78 : decode prog_8_method_3_code 78 = .ok (.iload_n 3, 1) := by decide +kernel
theorem d_X6_seek_79 : decode prog_8_method_3_code 79 = .ok (.invokevirtual 84, 3) := by decide +kernel
theorem d_X6_seek_82 : decode prog_8_method_3_code 82 = .ok (.iload_n 2, 1) := by decide +kernel
theorem d_X6_seek_83 : decode prog_8_method_3_code 83 = .ok (.iconst 1, 1) := by decide +kernel
theorem d_X6_seek_84 : decode prog_8_method_3_code 84 = .ok (.if_icmp .ne 26, 3) := by decide +kernel
theorem d_X6_seek_87 : decode prog_8_method_3_code 87 = .ok (.iload_n 3, 1) := by decide +kernel
theorem d_X6_seek_88 : decode prog_8_method_3_code 88 = .ok (.ifCond .le 22, 3) := by decide +kernel
theorem d_X6_seek_91 : decode prog_8_method_3_code 91 = .ok (.iload_n 3, 1) := by decide +kernel
theorem d_X6_seek_92 : decode prog_8_method_3_code 92 = .ok (.bipush 20, 2) := by decide +kernel
theorem d_X6_seek_94 : decode prog_8_method_3_code 94 = .ok (.if_icmp .gt 16, 3) := by decide +kernel
theorem d_X6_seek_97 : decode prog_8_method_3_code 97 = .ok (.aload_n 0, 1) := by decide +kernel
theorem d_X6_seek_98 : decode prog_8_method_3_code 98 = .ok (.getfield 32, 3) := by decide +kernel
theorem d_X6_seek_101 : decode prog_8_method_3_code 101 = .ok (.iload 7, 2) := by decide +kernel
theorem d_X6_seek_103 : decode prog_8_method_3_code 103 = .ok (.iload_n 3, 1) := by decide +kernel
theorem d_X6_seek_104 : decode prog_8_method_3_code 104 = .ok (.irem, 1) := by decide +kernel
theorem d_X6_seek_105 : decode prog_8_method_3_code 105 = .ok (.aload_n 0, 1) := by decide +kernel
theorem d_X6_seek_106 : decode prog_8_method_3_code 106 = .ok (.getfield 38, 3) := by decide +kernel
theorem d_X6_seek_109 : decode prog_8_method_3_code 109 = .ok (.iastore, 1) := by decide +kernel
theorem d_X6_seek_110 : decode prog_8_method_3_code 110 = .ok (.iinc 7 1, 3) := by decide +kernel
theorem d_X6_seek_113 : decode prog_8_method_3_code 113 = .ok (.goto (-83), 3) := by decide +kernel
theorem d_X6_seek_116 : decode prog_8_method_3_code 116 = .ok (.aload_n 1, 1) := by decide +kernel
theorem d_X6_seek_117 : decode prog_8_method_3_code 117 = .ok (.aload_n 0, 1) := by decide +kernel
theorem d_X6_seek_118 : decode prog_8_method_3_code 118 = .ok (.getfield 44, 3) := by decide +kernel
theorem d_X6_seek_121 : decode prog_8_method_3_code 121 = .ok (.invokevirtual 88, 3) := by decide +kernel
theorem d_X6_seek_124 : decode prog_8_method_3_code 124 = .ok (.pop, 1) := by decide +kernel
theorem d_X6_seek_125 : decode prog_8_method_3_code 125 = .ok (.iload 6, 2) := by decide +kernel
theorem d_X6_seek_127 : decode prog_8_method_3_code 127 = .ok (.ireturn, 1) := by decide +kernel
theorem v_X6_seek_0 {E : EE} {d : Nat} {Q : Option AV → AH → Prop} {x0 : Nat} {x1 : Nat} {x2 : Int32} {x3 : Int32} {x4 : Int32} {x5 : Int32} {G : AH} (h0 : 0 < d) (h : isO E G x0 6 ∧ (wpV E (d - 1) M_X6_begin [vr x0, vr x1, vi x4] G (fun G1 => isO E G1 x0 6 ∧ ((¬ (gI G1 x0 5) = 0 → isO E G1 x1 3 ∧ (isO E G1 (gR G1 x1 6) 9 ∧ (wpV E (d - 1) M_X9_renew [vr (gR G1 x1 6), vr x1] G1 (fun G4 => wp E d M_X6_seek 30 [some (vr x0), some (vr x1), some (vi x2), some (vi x3), some (vi x4), some (vi x5), some (vi 0), some (vi 0)] [] G4 Q)))) ∧ ((gI G1 x0 5) = 0 → Q (some (vi 0)) G1))))) : wp E d M_X6_seek 0 [some (vr x0), some (vr x1), some (vi x2), some (vi x3), some (vi x4), some (vi x5), none, none] [] G Q := by
  refine wp_aload_n (pc := 0) d_X6_seek_0 rfl ?_
  refine wp_aload_n (pc := 1) d_X6_seek_1 rfl ?_
  refine wp_iload (pc := 2) d_X6_seek_2 rfl ?_
  obtain ⟨ho6, h⟩ := h
  refine wp_invV (pc := 4) (N := M_X6_begin) (As := [vr _, vi _]) (rest := []) (r := (cn_6, ct_6, 14)) d_X6_seek_4 ml_X6_56 mk_X6_begin mv_X6_begin h0 ho6 rfl rfl (Nat.le_of_ble_eq_true rfl) ?_
  refine wpM.mono h (fun rr G1 hr => ?_)
  obtain ⟨rfl, h⟩ := hr
  show wp E d M_X6_seek 7 [some (vr _), some (vr _), some (vi _), some (vi _), some (vi _), some (vi _), none, none] [] G1 Q
  refine wp_aload_n (pc := 7) d_X6_seek_7 rfl ?_
  obtain ⟨ho2, h⟩ := h
  refine wp_getI (pc := 8) d_X6_seek_8 fl_X6_29 (fun _ _ _ => rfl) ho2 ?_
  refine wp_if_ne (pc := 11) (tgt := 16) d_X6_seek_11 (by decide) (fun hc => ?_) (fun hc => ?_)
  · have h := h.1 hc
    refine wp_aload_n (pc := 16) d_X6_seek_16 rfl ?_
    obtain ⟨ho3, h⟩ := h
    refine wp_getR (pc := 17) d_X6_seek_17 fl_X6_60 (fun _ _ _ => rfl) ho3 ?_
    refine wp_aload_n (pc := 20) d_X6_seek_20 rfl ?_
    obtain ⟨ho5, h⟩ := h
    refine wp_invV (pc := 21) (N := M_X9_renew) (As := [vr _]) (rest := []) (r := (cn_9, ct_9, 8)) d_X6_seek_21 ml_X6_66 mk_X9_renew mv_X9_renew h0 ho5 rfl rfl (Nat.le_of_ble_eq_true rfl) ?_
    refine wpM.mono h (fun rr G4 hr => ?_)
    obtain ⟨rfl, h⟩ := hr
    show wp E d M_X6_seek 24 [some (vr _), some (vr _), some (vi _), some (vi _), some (vi _), some (vi _), none, none] [] G4 Q
    refine wp_iconst (pc := 24) (v := 0) d_X6_seek_24 rfl ?_
    refine wp_istore (pc := 25) (lv' := [some (vr _), some (vr _), some (vi _), some (vi _), some (vi _), some (vi _), some (vi _), none]) d_X6_seek_25 (by decide) rfl ?_
    refine wp_iconst (pc := 27) (v := 0) d_X6_seek_27 rfl ?_
    refine wp_istore (pc := 28) (lv' := [some (vr _), some (vr _), some (vi _), some (vi _), some (vi _), some (vi _), some (vi _), some (vi _)]) d_X6_seek_28 (by decide) rfl ?_
    refine wp_sub ?_ h
    exact ⟨rfl, ⟨rfl, ⟨rfl, ⟨rfl, ⟨rfl, ⟨rfl, ⟨rfl, ⟨rfl, trivial⟩⟩⟩⟩⟩⟩⟩⟩
  · have h := h.2 hc
    refine wp_iconst (pc := 14) (v := 0) d_X6_seek_14 rfl ?_
    exact wp_iret (pc := 15) d_X6_seek_15 rfl h
theorem v_X6_seek_30 {E : EE} {d : Nat} {Q : Option AV → AH → Prop} {x0 : Nat} {x1 : Nat} {x2 : Int32} {x3 : Int32} {x4 : Int32} {x5 : Int32} {x6 : Int32} {x7 : Int32} {G : AH} (h0 : 0 < d) (h : (x5 ≤ x7 → isO E G x0 6 ∧ (isO E G x1 3 ∧ (wpI E (d - 1) M_X3_moveTo [vr x1, vi (gI G x0 10)] G (fun r2 G3 => Q (some (vi x6)) G3)))) ∧ (¬ (x5 ≤ x7) → isO E G x1 3 ∧ (isO E G x0 6 ∧ (wpI E (d - 1) M_X6_propose [vr x0, vr (gR G x1 4)] G (fun r6 G7 => (¬ r6 = 0 → isO E G7 x1 3 ∧ (isO E G7 x0 6 ∧ (wpI E (d - 1) M_X6_isTaken [vr x0, vr (gR G7 x1 6), vi x2, vi x3, vi x7, vi x5] G7 (fun r9 G10 => (r9 = 0 → wp E d M_X6_seek 82 [some (vr x0), some (vr x1), some (vi x2), some (vi x3), some (vi x4), some (vi x5), some (vi x6), some (vi x7)] [] G10 Q) ∧ (¬ (r9 = 0) → isO E G10 x1 3 ∧ (isO E G10 x0 6 ∧ (wpV E (d - 1) M_X6_settle [vr x0, vr (gR G10 x1 6), vi x7, vi x3] G10 (fun G12 => wp E d M_X6_seek 82 [some (vr x0), some (vr x1), some (vi x2), some (vi x3), some (vi x4), some (vi x5), some (vi (x6 + 1)), some (vi x7)] [] G12 Q)))))))) ∧ (r6 = 0 → wp E d M_X6_seek 110 [some (vr x0), some (vr x1), some (vi x2), some (vi x3), some (vi x4), some (vi x5), some (vi x6), some (vi x7)] [] G7 Q)))))) : wp E d M_X6_seek 30 [some (vr x0), some (vr x1), some (vi x2), some (vi x3), some (vi x4), some (vi x5), some (vi x6), some (vi x7)] [] G Q := by
  refine wp_iload (pc := 30) d_X6_seek_30 rfl ?_
  refine wp_iload (pc := 32) d_X6_seek_32 rfl ?_
  refine wp_icmp_ge (pc := 34) (tgt := 116) d_X6_seek_34 (by decide) (fun hc => ?_) (fun hc => ?_)
  · have h := h.1 hc
    refine wp_aload_n (pc := 116) d_X6_seek_116 rfl ?_
    refine wp_aload_n (pc := 117) d_X6_seek_117 rfl ?_
    obtain ⟨ho1, h⟩ := h
    refine wp_getI (pc := 118) d_X6_seek_118 fl_X6_44 (fun _ _ _ => rfl) ho1 ?_
    obtain ⟨ho4, h⟩ := h
    refine wp_invV (pc := 121) (N := M_X3_moveTo) (As := [vi _]) (rest := []) (r := (cn_3, ct_3, 19)) d_X6_seek_121 ml_X6_88 mk_X3_moveTo mv_X3_moveTo h0 ho4 rfl rfl (Nat.le_of_ble_eq_true rfl) ?_
    refine wpM.mono h (fun rr G3 hr => ?_)
    obtain ⟨r2, rfl, h⟩ := hr
    show wp E d M_X6_seek 124 [some (vr _), some (vr _), some (vi _), some (vi _), some (vi _), some (vi _), some (vi _), some (vi _)] [vi _] G3 Q
    refine wp_pop (pc := 124) d_X6_seek_124 (c1_i _) ?_
    refine wp_iload (pc := 125) d_X6_seek_125 rfl ?_
    exact wp_iret (pc := 127) d_X6_seek_127 rfl h
  · have h := h.2 hc
    refine wp_aload_n (pc := 37) d_X6_seek_37 rfl ?_
    refine wp_aload_n (pc := 38) d_X6_seek_38 rfl ?_
    obtain ⟨ho5, h⟩ := h
    refine wp_getR (pc := 39) d_X6_seek_39 fl_X6_72 (fun _ _ _ => rfl) ho5 ?_
    obtain ⟨ho15, h⟩ := h
    refine wp_invV (pc := 42) (N := M_X6_propose) (As := [vr _]) (rest := []) (r := (cn_6, ct_6, 14)) d_X6_seek_42 ml_X6_76 mk_X6_propose mv_X6_propose h0 ho15 rfl rfl (Nat.le_of_ble_eq_true rfl) ?_
    refine wpM.mono h (fun rr G7 hr => ?_)
    obtain ⟨r6, rfl, h⟩ := hr
    show wp E d M_X6_seek 45 [some (vr _), some (vr _), some (vi _), some (vi _), some (vi _), some (vi _), some (vi _), some (vi _)] [vi _] G7 Q
    refine wp_if_ne (pc := 45) (tgt := 51) d_X6_seek_45 (by decide) (fun hc => ?_) (fun hc => ?_)
    · have h := h.1 hc
      refine wp_aload_n (pc := 51) d_X6_seek_51 rfl ?_
      refine wp_aload_n (pc := 52) d_X6_seek_52 rfl ?_
      obtain ⟨ho8, h⟩ := h
      refine wp_getR (pc := 53) d_X6_seek_53 fl_X6_60 (fun _ _ _ => rfl) ho8 ?_
      refine wp_iload_n (pc := 56) d_X6_seek_56 rfl ?_
      refine wp_iload_n (pc := 57) d_X6_seek_57 rfl ?_
      refine wp_iload (pc := 58) d_X6_seek_58 rfl ?_
      refine wp_iload (pc := 60) d_X6_seek_60 rfl ?_
      obtain ⟨ho14, h⟩ := h
      refine wp_invV (pc := 62) (N := M_X6_isTaken) (As := [vr _, vi _, vi _, vi _, vi _]) (rest := []) (r := (cn_6, ct_6, 14)) d_X6_seek_62 ml_X6_80 mk_X6_isTaken mv_X6_isTaken h0 ho14 rfl rfl (Nat.le_of_ble_eq_true rfl) ?_
      refine wpM.mono h (fun rr G10 hr => ?_)
      obtain ⟨r9, rfl, h⟩ := hr
      show wp E d M_X6_seek 65 [some (vr _), some (vr _), some (vi _), some (vi _), some (vi _), some (vi _), some (vi _), some (vi _)] [vi _] G10 Q
      refine wp_if_eq (pc := 65) (tgt := 82) d_X6_seek_65 (by decide) (fun hc => ?_) (fun hc => ?_)
      · have h := h.1 hc
        refine wp_sub ?_ h
        exact ⟨rfl, ⟨rfl, ⟨rfl, ⟨rfl, ⟨rfl, ⟨rfl, ⟨rfl, ⟨rfl, trivial⟩⟩⟩⟩⟩⟩⟩⟩
      · have h := h.2 hc
        refine wp_iinc (pc := 68) (v := 1) (lv' := [some (vr _), some (vr _), some (vi _), some (vi _), some (vi _), some (vi _), some (vi _), some (vi _)]) d_X6_seek_68 (by decide) rfl rfl rfl ?_
        refine wp_aload_n (pc := 71) d_X6_seek_71 rfl ?_
        refine wp_aload_n (pc := 72) d_X6_seek_72 rfl ?_
        obtain ⟨ho11, h⟩ := h
        refine wp_getR (pc := 73) d_X6_seek_73 fl_X6_60 (fun _ _ _ => rfl) ho11 ?_
        refine wp_iload (pc := 76) d_X6_seek_76 rfl ?_
        refine wp_iload_n (pc := 78) d_X6_seek_78 rfl ?_
        obtain ⟨ho13, h⟩ := h
        refine wp_invV (pc := 79) (N := M_X6_settle) (As := [vr _, vi _, vi _]) (rest := []) (r := (cn_6, ct_6, 14)) d_X6_seek_79 ml_X6_84 mk_X6_settle mv_X6_settle h0 ho13 rfl rfl (Nat.le_of_ble_eq_true rfl) ?_
        refine wpM.mono h (fun rr G12 hr => ?_)
        obtain ⟨rfl, h⟩ := hr
        show wp E d M_X6_seek 82 [some (vr _), some (vr _), some (vi _), some (vi _), some (vi _), some (vi _), some (vi _), some (vi _)] [] G12 Q
        refine wp_sub ?_ h
        exact ⟨rfl, ⟨rfl, ⟨rfl, ⟨rfl, ⟨rfl, ⟨rfl, ⟨rfl, ⟨rfl, trivial⟩⟩⟩⟩⟩⟩⟩⟩
    · have h := h.2 hc
      refine wp_goto (pc := 48) (tgt := 110) d_X6_seek_48 (by decide) ?_
      refine wp_sub ?_ h
      exact ⟨rfl, ⟨rfl, ⟨rfl, ⟨rfl, ⟨rfl, ⟨rfl, ⟨rfl, ⟨rfl, trivial⟩⟩⟩⟩⟩⟩⟩⟩
theorem v_X6_seek_82 {E : EE} {d : Nat} {Q : Option AV → AH → Prop} {x0 : Nat} {x1 : Nat} {x2 : Int32} {x3 : Int32} {x4 : Int32} {x5 : Int32} {x6 : Int32} {x7 : Int32} {G : AH} (h : (¬ x2 = 1 → wp E d M_X6_seek 110 [some (vr x0), some (vr x1), some (vi x2), some (vi x3), some (vi x4), some (vi x5), some (vi x6), some (vi x7)] [] G Q) ∧ (x2 = 1 → (x3 ≤ 0 → wp E d M_X6_seek 110 [some (vr x0), some (vr x1), some (vi x2), some (vi x3), some (vi x4), some (vi x5), some (vi x6), some (vi x7)] [] G Q) ∧ (¬ (x3 ≤ 0) → (20 < x3 → wp E d M_X6_seek 110 [some (vr x0), some (vr x1), some (vi x2), some (vi x3), some (vi x4), some (vi x5), some (vi x6), some (vi x7)] [] G Q) ∧ (¬ (20 < x3) → isO E G x0 6 ∧ (¬ x3 = 0 ∧ (isO E G (gR G x0 6) 14 ∧ (vp_in (x7 - x7 / x3 * x3) (gN G (gR G x0 6)) ∧ (wp E d M_X6_seek 110 [some (vr x0), some (vr x1), some (vi x2), some (vi x3), some (vi x4), some (vi x5), some (vi x6), some (vi x7)] [] (sI G (gR G x0 6) (Int32.toNatClampNeg (x7 - x7 / x3 * x3)) (gI G x0 8)) Q)))))))) : wp E d M_X6_seek 82 [some (vr x0), some (vr x1), some (vi x2), some (vi x3), some (vi x4), some (vi x5), some (vi x6), some (vi x7)] [] G Q := by
  refine wp_iload_n (pc := 82) d_X6_seek_82 rfl ?_
  refine wp_iconst (pc := 83) (v := 1) d_X6_seek_83 rfl ?_
  refine wp_icmp_ne (pc := 84) (tgt := 110) d_X6_seek_84 (by decide) (fun hc => ?_) (fun hc => ?_)
  · have h := h.1 hc
    refine wp_sub ?_ h
    exact ⟨rfl, ⟨rfl, ⟨rfl, ⟨rfl, ⟨rfl, ⟨rfl, ⟨rfl, ⟨rfl, trivial⟩⟩⟩⟩⟩⟩⟩⟩
  · have h := h.2 hc
    refine wp_iload_n (pc := 87) d_X6_seek_87 rfl ?_
    refine wp_if_le (pc := 88) (tgt := 110) d_X6_seek_88 (by decide) (fun hc => ?_) (fun hc => ?_)
    · have h := h.1 hc
      refine wp_sub ?_ h
      exact ⟨rfl, ⟨rfl, ⟨rfl, ⟨rfl, ⟨rfl, ⟨rfl, ⟨rfl, ⟨rfl, trivial⟩⟩⟩⟩⟩⟩⟩⟩
    · have h := h.2 hc
      refine wp_iload_n (pc := 91) d_X6_seek_91 rfl ?_
      refine wp_bipush (pc := 92) (v := 20) d_X6_seek_92 rfl ?_
      refine wp_icmp_gt (pc := 94) (tgt := 110) d_X6_seek_94 (by decide) (fun hc => ?_) (fun hc => ?_)
      · have h := h.1 hc
        refine wp_sub ?_ h
        exact ⟨rfl, ⟨rfl, ⟨rfl, ⟨rfl, ⟨rfl, ⟨rfl, ⟨rfl, ⟨rfl, trivial⟩⟩⟩⟩⟩⟩⟩⟩
      · have h := h.2 hc
        refine wp_aload_n (pc := 97) d_X6_seek_97 rfl ?_
        obtain ⟨ho1, h⟩ := h
        refine wp_getR (pc := 98) d_X6_seek_98 fl_X6_32 (fun _ _ _ => rfl) ho1 ?_
        refine wp_iload (pc := 101) d_X6_seek_101 rfl ?_
        refine wp_iload_n (pc := 103) d_X6_seek_103 rfl ?_
        obtain ⟨hz2, h⟩ := h
        refine wp_irem (pc := 104) d_X6_seek_104 hz2 ?_
        refine wp_aload_n (pc := 105) d_X6_seek_105 rfl ?_
        refine wp_getI (pc := 106) d_X6_seek_106 fl_X6_38 (fun _ _ _ => rfl) ho1 ?_
        obtain ⟨ho3, h⟩ := h
        obtain ⟨hi4, h⟩ := h
        refine wp_iast (pc := 109) d_X6_seek_109 ho3 hi4 ?_
        refine wp_sub ?_ h
        exact ⟨rfl, ⟨rfl, ⟨rfl, ⟨rfl, ⟨rfl, ⟨rfl, ⟨rfl, ⟨rfl, trivial⟩⟩⟩⟩⟩⟩⟩⟩
theorem v_X6_seek_110 {E : EE} {d : Nat} {Q : Option AV → AH → Prop} {x0 : Nat} {x1 : Nat} {x2 : Int32} {x3 : Int32} {x4 : Int32} {x5 : Int32} {x6 : Int32} {x7 : Int32} {G : AH} (h : wp E d M_X6_seek 30 [some (vr x0), some (vr x1), some (vi x2), some (vi x3), some (vi x4), some (vi x5), some (vi x6), some (vi (x7 + 1))] [] G Q) : wp E d M_X6_seek 110 [some (vr x0), some (vr x1), some (vi x2), some (vi x3), some (vi x4), some (vi x5), some (vi x6), some (vi x7)] [] G Q := by
  refine wp_iinc (pc := 110) (v := 1) (lv' := [some (vr _), some (vr _), some (vi _), some (vi _), some (vi _), some (vi _), some (vi _), some (vi _)]) d_X6_seek_110 (by decide) rfl rfl rfl ?_
  refine wp_goto (pc := 113) (tgt := 30) d_X6_seek_113 (by decide) ?_
  refine wp_sub ?_ h
  exact ⟨rfl, ⟨rfl, ⟨rfl, ⟨rfl, ⟨rfl, ⟨rfl, ⟨rfl, ⟨rfl, trivial⟩⟩⟩⟩⟩⟩⟩⟩
theorem d_X6_begin_0 : decode prog_8_method_4_code 0 = .ok (.aload_n 0, 1) := by decide +kernel
theorem d_X6_begin_1 : decode prog_8_method_4_code 1 = .ok (.iconst 1, 1) := by decide +kernel
theorem d_X6_begin_2 : decode prog_8_method_4_code 2 = .ok (.putfield 9, 3) := by decide +kernel
theorem d_X6_begin_5 : decode prog_8_method_4_code 5 = .ok (.aload_n 0, 1) := by decide +kernel
theorem d_X6_begin_6 : decode prog_8_method_4_code 6 = .ok (.iconst 1, 1) := by decide +kernel
theorem d_X6_begin_7 : decode prog_8_method_4_code 7 = .ok (.putfield 15, 3) := by decide +kernel
theorem d_X6_begin_10 : decode prog_8_method_4_code 10 = .ok (.aload_n 0, 1) := by decide +kernel
theorem d_X6_begin_11 : decode prog_8_method_4_code 11 = .ok (.iload_n 2, 1) := by decide +kernel
theorem d_X6_begin_12 : decode prog_8_method_4_code 12 = .ok (.putfield 19, 3) := by decide +kernel
theorem d_X6_begin_15 : decode prog_8_method_4_code 15 = .ok (.aload_n 0, 1) := by decide +kernel
theorem d_X6_begin_16 : decode prog_8_method_4_code 16 = .ok (.iconst (-1), 1) := by decide +kernel
theorem d_X6_begin_17 : decode prog_8_method_4_code 17 = .ok (.putfield 22, 3) := by decide +kernel
theorem d_X6_begin_20 : decode prog_8_method_4_code 20 = .ok (.aload_n 0, 1) := by decide +kernel
theorem d_X6_begin_21 : decode prog_8_method_4_code 21 = .ok (.aload_n 1, 1) := by decide +kernel
theorem d_X6_begin_22 : decode prog_8_method_4_code 22 = .ok (.getfield 92, 3) := by decide +kernel
theorem d_X6_begin_25 : decode prog_8_method_4_code 25 = .ok (.putfield 38, 3) := by decide +kernel
theorem d_X6_begin_28 : decode prog_8_method_4_code 28 = .ok (.aload_n 0, 1) := by decide +kernel
theorem d_X6_begin_29 : decode prog_8_method_4_code 29 = .ok (.aload_n 1, 1) := by decide +kernel
theorem d_X6_begin_30 : decode prog_8_method_4_code 30 = .ok (.getfield 92, 3) := by decide +kernel
theorem d_X6_begin_33 : decode prog_8_method_4_code 33 = .ok (.putfield 44, 3) := by decide +kernel
theorem d_X6_begin_36 : decode prog_8_method_4_code 36 = .ok (.aload_n 0, 1) := by decide +kernel
theorem d_X6_begin_37 : decode prog_8_method_4_code 37 = .ok (.getfield 32, 3) := by decide +kernel
theorem d_X6_begin_40 : decode prog_8_method_4_code 40 = .ok (.aload_n 1, 1) := by decide +kernel
theorem d_X6_begin_41 : decode prog_8_method_4_code 41 = .ok (.getfield 92, 3) := by decide +kernel
theorem d_X6_begin_44 : decode prog_8_method_4_code 44 = .ok (.invokestatic 95, 3) := by decide +kernel
theorem d_X6_begin_47 : decode prog_8_method_4_code 47 = .ok (.aload_n 0, 1) := by decide +kernel
theorem d_X6_begin_48 : decode prog_8_method_4_code 48 = .ok (.getfield 35, 3) := by decide +kernel
theorem d_X6_begin_51 : decode prog_8_method_4_code 51 = .ok (.iconst (-1), 1) := by decide +kernel
theorem d_X6_begin_52 : decode prog_8_method_4_code 52 = .ok (.invokestatic 95, 3) := by decide +kernel
theorem d_X6_begin_55 : decode prog_8_method_4_code 55 = .ok (.aload_n 0, 1) := by decide +kernel
theorem d_X6_begin_56 : decode prog_8_method_4_code 56 = .ok (.iconst 0, 1) := by decide +kernel
theorem d_X6_begin_57 : decode prog_8_method_4_code 57 = .ok (.putfield 29, 3) := by decide +kernel
theorem d_X6_begin_60 : decode prog_8_method_4_code 60 = .ok (.iconst 0, 1) := by decide +kernel
theorem d_X6_begin_61 : decode prog_8_method_4_code 61 = .ok (.istore_n 3, 1) := by decide +kernel
theorem d_X6_begin_62 : decode prog_8_method_4_code 62 = .ok (.iload_n 3, 1) := by decide +kernel
theorem d_X6_begin_63 : decode prog_8_method_4_code 63 = .ok (.aload_n 1, 1) := by decide +kernel
theorem d_X6_begin_64 : decode prog_8_method_4_code 64 = .ok (.getfield 72, 3) := by decide +kernel
theorem d_X6_begin_67 : decode prog_8_method_4_code 67 = .ok (.getfield 101, 3) := by decide +kernel
theorem d_X6_begin_70 : decode prog_8_method_4_code 70 = .ok (.if_icmp .ge 50, 3) := by decide +kernel
theorem d_X6_begin_73 : decode prog_8_method_4_code 73 = .ok (.aload_n 1, 1) := by decide +kernel
theorem d_X6_begin_74 : decode prog_8_method_4_code 74 = .ok (.getfield 106, 3) := by decide +kernel
theorem d_X6_begin_77 : decode prog_8_method_4_code 77 = .ok (.iload_n 3, 1) := by decide +kernel
theorem d_X6_begin_78 : decode prog_8_method_4_code 78 = .ok (.ishr, 1) := by decide +kernel
theorem d_X6_begin_79 : decode prog_8_method_4_code 79 = .ok (.iconst 1, 1) := by decide +kernel
theorem d_X6_begin_80 : decode prog_8_method_4_code 80 = .ok (.iand, 1) := by decide +kernel
theorem d_X6_begin_81 : decode prog_8_method_4_code 81 = .ok (.ifCond .ne 33, 3) := by decide +kernel
theorem d_X6_begin_84 : decode prog_8_method_4_code 84 = .ok (.aload_n 1, 1) := by decide +kernel
theorem d_X6_begin_85 : decode prog_8_method_4_code 85 = .ok (.getfield 72, 3) := by decide +kernel
theorem d_X6_begin_88 : decode prog_8_method_4_code 88 = .ok (.getfield 109, 3) := by decide +kernel
theorem d_X6_begin_91 : decode prog_8_method_4_code 91 = .ok (.iload_n 3, 1) := by decide +kernel
theorem d_X6_begin_92 : decode prog_8_method_4_code 92 = .ok (.iaload, 1) := by decide +kernel
theorem d_X6_begin_93 : decode prog_8_method_4_code 93 = .ok (.iconst 2, 1) := by decide +kernel
theorem d_X6_begin_94 : decode prog_8_method_4_code 94 = .ok (.if_icmp .lt 20, 3) := by decide +kernel
theorem d_X6_begin_97 : decode prog_8_method_4_code 97 = .ok (.aload_n 0, 1) := by decide +kernel
theorem d_X6_begin_98 : decode prog_8_method_4_code 98 = .ok (.getfield 25, 3) := by decide +kernel
theorem d_X6_begin_101 : decode prog_8_method_4_code 101 = .ok (.aload_n 0, 1) := by decide +kernel
theorem d_X6_begin_102 : decode prog_8_method_4_code 102 = .ok (.dup, 1) := by decide +kernel
theorem d_X6_begin_103 : decode prog_8_method_4_code 103 = .ok (.getfield 29, 3) := by decide +kernel
theorem d_X6_begin_106 : decode prog_8_method_4_code 106 = .ok (.dup_x1, 1) := by decide +kernel
theorem d_X6_begin_107 : decode prog_8_method_4_code 107 = .ok (.iconst 1, 1) := by decide +kernel
theorem d_X6_begin_108 : decode prog_8_method_4_code 108 = .ok (.iadd, 1) := by decide +kernel
theorem d_X6_begin_109 : decode prog_8_method_4_code 109 = .ok (.putfield 29, 3) := by decide +kernel
theorem d_X6_begin_112 : decode prog_8_method_4_code 112 = .ok (.iload_n 3, 1) := by decide +kernel
theorem d_X6_begin_113 : decode prog_8_method_4_code 113 = .ok (.iastore, 1) := by decide +kernel
theorem d_X6_begin_114 : decode prog_8_method_4_code 114 = .ok (.iinc 3 1, 3) := by decide +kernel
theorem d_X6_begin_117 : decode prog_8_method_4_code 117 = .ok (.goto (-55), 3) := by decide +kernel
theorem d_X6_begin_120 : decode prog_8_method_4_code 120 = .ok (.return_, 1) := by decide +kernel
theorem v_X6_begin_0 {E : EE} {d : Nat} {Q : Option AV → AH → Prop} {x0 : Nat} {x1 : Nat} {x2 : Int32} {G : AH} (h0 : 0 < d) (h : isO E G x0 6 ∧ (∀ G2 : AH, G2 = sI G x0 0 1 → ∀ G4 : AH, G4 = sI G2 x0 1 1 → ∀ G6 : AH, G6 = sI G4 x0 2 x2 → ∀ G8 : AH, G8 = sI G6 x0 3 (-1) → isO E G8 x1 3 ∧ (∀ G11 : AH, G11 = sI G8 x0 8 (gI G8 x1 8) → ∀ G14 : AH, G14 = sI G11 x0 10 (gI G11 x1 8) → wpV E (d - 1) M_J7_fill_53178 [vr (gR G14 x0 6), vi (gI G14 x1 8)] G14 (fun G17 => isO E G17 x0 6 ∧ (wpV E (d - 1) M_J7_fill_53178 [vr (gR G17 x0 7), vi (-1)] G17 (fun G19 => isO E G19 x0 6 ∧ (∀ G21 : AH, G21 = sI G19 x0 5 0 → wp E d M_X6_begin 62 [some (vr x0), some (vr x1), some (vi x2), some (vi 0)] [] G21 Q))))))) : wp E d M_X6_begin 0 [some (vr x0), some (vr x1), some (vi x2), none] [] G Q := by
  refine wp_aload_n (pc := 0) d_X6_begin_0 rfl ?_
  refine wp_iconst (pc := 1) (v := 1) d_X6_begin_1 rfl ?_
  obtain ⟨ho1, h⟩ := h
  refine wp_putI (pc := 2) d_X6_begin_2 fl_X6_9 (fun _ _ _ => rfl) (Or.inl rfl) ho1 okI_z1 ?_
  refine wp_nm (fun G2 eG2 => ?_)
  have h := h G2 eG2
  have ho3 := isO_sI eG2 ho1
  refine wp_aload_n (pc := 5) d_X6_begin_5 rfl ?_
  refine wp_iconst (pc := 6) (v := 1) d_X6_begin_6 rfl ?_
  refine wp_putI (pc := 7) d_X6_begin_7 fl_X6_15 (fun _ _ _ => rfl) (Or.inl rfl) ho3 (okI_int _) ?_
  refine wp_nm (fun G4 eG4 => ?_)
  have h := h G4 eG4
  have ho5 := isO_sI eG4 ho3
  refine wp_aload_n (pc := 10) d_X6_begin_10 rfl ?_
  refine wp_iload_n (pc := 11) d_X6_begin_11 rfl ?_
  refine wp_putI (pc := 12) d_X6_begin_12 fl_X6_19 (fun _ _ _ => rfl) (Or.inl rfl) ho5 (okI_int _) ?_
  refine wp_nm (fun G6 eG6 => ?_)
  have h := h G6 eG6
  have ho7 := isO_sI eG6 ho5
  refine wp_aload_n (pc := 15) d_X6_begin_15 rfl ?_
  refine wp_iconst (pc := 16) (v := (-1)) d_X6_begin_16 rfl ?_
  refine wp_putI (pc := 17) d_X6_begin_17 fl_X6_22 (fun _ _ _ => rfl) (Or.inl rfl) ho7 (okI_int _) ?_
  refine wp_nm (fun G8 eG8 => ?_)
  have h := h G8 eG8
  have ho9 := isO_sI eG8 ho7
  refine wp_aload_n (pc := 20) d_X6_begin_20 rfl ?_
  refine wp_aload_n (pc := 21) d_X6_begin_21 rfl ?_
  obtain ⟨ho10, h⟩ := h
  refine wp_getI (pc := 22) d_X6_begin_22 fl_X6_92 (fun _ _ _ => rfl) ho10 ?_
  refine wp_putI (pc := 25) d_X6_begin_25 fl_X6_38 (fun _ _ _ => rfl) (Or.inl rfl) ho9 (okI_int _) ?_
  refine wp_nm (fun G11 eG11 => ?_)
  have h := h G11 eG11
  have ho12 := isO_sI eG11 ho9
  have ho13 := isO_sI eG11 ho10
  refine wp_aload_n (pc := 28) d_X6_begin_28 rfl ?_
  refine wp_aload_n (pc := 29) d_X6_begin_29 rfl ?_
  refine wp_getI (pc := 30) d_X6_begin_30 fl_X6_92 (fun _ _ _ => rfl) ho13 ?_
  refine wp_putI (pc := 33) d_X6_begin_33 fl_X6_44 (fun _ _ _ => rfl) (Or.inl rfl) ho12 (okI_int _) ?_
  refine wp_nm (fun G14 eG14 => ?_)
  have h := h G14 eG14
  have ho15 := isO_sI eG14 ho12
  have ho16 := isO_sI eG14 ho13
  refine wp_aload_n (pc := 36) d_X6_begin_36 rfl ?_
  refine wp_getR (pc := 37) d_X6_begin_37 fl_X6_32 (fun _ _ _ => rfl) ho15 ?_
  refine wp_aload_n (pc := 40) d_X6_begin_40 rfl ?_
  refine wp_getI (pc := 41) d_X6_begin_41 fl_X6_92 (fun _ _ _ => rfl) ho16 ?_
  refine wp_invS (pc := 44) (N := M_J7_fill_53178) (As := [vr _, vi _]) (rest := []) d_X6_begin_44 ml_X6_95 mk_J7_fill_53178 ms_J7_fill_53178 h0 (Nat.le_of_ble_eq_true rfl) ?_
  refine wpM.mono h (fun rr G17 hr => ?_)
  obtain ⟨rfl, h⟩ := hr
  show wp E d M_X6_begin 47 [some (vr _), some (vr _), some (vi _), none] [] G17 Q
  refine wp_aload_n (pc := 47) d_X6_begin_47 rfl ?_
  obtain ⟨ho18, h⟩ := h
  refine wp_getR (pc := 48) d_X6_begin_48 fl_X6_35 (fun _ _ _ => rfl) ho18 ?_
  refine wp_iconst (pc := 51) (v := (-1)) d_X6_begin_51 rfl ?_
  refine wp_invS (pc := 52) (N := M_J7_fill_53178) (As := [vr _, vi _]) (rest := []) d_X6_begin_52 ml_X6_95 mk_J7_fill_53178 ms_J7_fill_53178 h0 (Nat.le_of_ble_eq_true rfl) ?_
  refine wpM.mono h (fun rr G19 hr => ?_)
  obtain ⟨rfl, h⟩ := hr
  show wp E d M_X6_begin 55 [some (vr _), some (vr _), some (vi _), none] [] G19 Q
  refine wp_aload_n (pc := 55) d_X6_begin_55 rfl ?_
  refine wp_iconst (pc := 56) (v := 0) d_X6_begin_56 rfl ?_
  obtain ⟨ho20, h⟩ := h
  refine wp_putI (pc := 57) d_X6_begin_57 fl_X6_29 (fun _ _ _ => rfl) (Or.inl rfl) ho20 (okI_int _) ?_
  refine wp_nm (fun G21 eG21 => ?_)
  have h := h G21 eG21
  have ho22 := isO_sI eG21 ho20
  refine wp_iconst (pc := 60) (v := 0) d_X6_begin_60 rfl ?_
  refine wp_istore_n (pc := 61) (lv' := [some (vr _), some (vr _), some (vi _), some (vi _)]) d_X6_begin_61 (by decide) rfl ?_
  refine wp_sub ?_ h
  exact ⟨rfl, ⟨rfl, ⟨rfl, ⟨rfl, trivial⟩⟩⟩⟩
theorem v_X6_begin_62 {E : EE} {d : Nat} {Q : Option AV → AH → Prop} {x0 : Nat} {x1 : Nat} {x2 : Int32} {x3 : Int32} {G : AH} (h : isO E G x1 3 ∧ (isO E G (gR G x1 4) 7 ∧ (((gI G (gR G x1 4) 0) ≤ x3 → Q none G) ∧ (¬ ((gI G (gR G x1 4) 0) ≤ x3) → (¬ (((gI G x1 9) >>> (x3 &&& 31)) &&& 1) = 0 → wp E d M_X6_begin 114 [some (vr x0), some (vr x1), some (vi x2), some (vi x3)] [] G Q) ∧ ((((gI G x1 9) >>> (x3 &&& 31)) &&& 1) = 0 → isO E G (gR G (gR G x1 4) 2) 14 ∧ (vp_in x3 (gN G (gR G (gR G x1 4) 2)) ∧ (((gI G (gR G (gR G x1 4) 2) (Int32.toNatClampNeg x3)) < 2 → wp E d M_X6_begin 114 [some (vr x0), some (vr x1), some (vi x2), some (vi x3)] [] G Q) ∧ (¬ ((gI G (gR G (gR G x1 4) 2) (Int32.toNatClampNeg x3)) < 2) → isO E G x0 6 ∧ (∀ G6 : AH, G6 = sI G x0 5 ((gI G x0 5) + 1) → isO E G6 (gR G x0 4) 14 ∧ (vp_in (gI G x0 5) (gN G6 (gR G x0 4)) ∧ (∀ G11 : AH, G11 = sI G6 (gR G x0 4) (Int32.toNatClampNeg (gI G x0 5)) x3 → wp E d M_X6_begin 114 [some (vr x0), some (vr x1), some (vi x2), some (vi x3)] [] G11 Q))))))))))) : wp E d M_X6_begin 62 [some (vr x0), some (vr x1), some (vi x2), some (vi x3)] [] G Q := by
  refine wp_iload_n (pc := 62) d_X6_begin_62 rfl ?_
  refine wp_aload_n (pc := 63) d_X6_begin_63 rfl ?_
  obtain ⟨ho1, h⟩ := h
  refine wp_getR (pc := 64) d_X6_begin_64 fl_X6_72 (fun _ _ _ => rfl) ho1 ?_
  obtain ⟨ho2, h⟩ := h
  refine wp_getI (pc := 67) d_X6_begin_67 fl_X6_101 (fun _ _ _ => rfl) ho2 ?_
  refine wp_icmp_ge (pc := 70) (tgt := 120) d_X6_begin_70 (by decide) (fun hc => ?_) (fun hc => ?_)
  · have h := h.1 hc
    exact wp_vret (pc := 120) d_X6_begin_120 rfl h
  · have h := h.2 hc
    refine wp_aload_n (pc := 73) d_X6_begin_73 rfl ?_
    refine wp_getI (pc := 74) d_X6_begin_74 fl_X6_106 (fun _ _ _ => rfl) ho1 ?_
    refine wp_iload_n (pc := 77) d_X6_begin_77 rfl ?_
    refine wp_ishr (pc := 78) d_X6_begin_78 ?_
    refine wp_iconst (pc := 79) (v := 1) d_X6_begin_79 rfl ?_
    refine wp_iand (pc := 80) d_X6_begin_80 ?_
    refine wp_if_ne (pc := 81) (tgt := 114) d_X6_begin_81 (by decide) (fun hc => ?_) (fun hc => ?_)
    · have h := h.1 hc
      refine wp_sub ?_ h
      exact ⟨rfl, ⟨rfl, ⟨rfl, ⟨rfl, trivial⟩⟩⟩⟩
    · have h := h.2 hc
      refine wp_aload_n (pc := 84) d_X6_begin_84 rfl ?_
      refine wp_getR (pc := 85) d_X6_begin_85 fl_X6_72 (fun _ _ _ => rfl) ho1 ?_
      refine wp_getR (pc := 88) d_X6_begin_88 fl_X6_109 (fun _ _ _ => rfl) ho2 ?_
      refine wp_iload_n (pc := 91) d_X6_begin_91 rfl ?_
      obtain ⟨ho3, h⟩ := h
      obtain ⟨hi4, h⟩ := h
      refine wp_iald (pc := 92) d_X6_begin_92 ho3 hi4 ?_
      refine wp_iconst (pc := 93) (v := 2) d_X6_begin_93 rfl ?_
      refine wp_icmp_lt (pc := 94) (tgt := 114) d_X6_begin_94 (by decide) (fun hc => ?_) (fun hc => ?_)
      · have h := h.1 hc
        refine wp_sub ?_ h
        exact ⟨rfl, ⟨rfl, ⟨rfl, ⟨rfl, trivial⟩⟩⟩⟩
      · have h := h.2 hc
        refine wp_aload_n (pc := 97) d_X6_begin_97 rfl ?_
        obtain ⟨ho5, h⟩ := h
        refine wp_getR (pc := 98) d_X6_begin_98 fl_X6_25 (fun _ _ _ => rfl) ho5 ?_
        refine wp_aload_n (pc := 101) d_X6_begin_101 rfl ?_
        refine wp_dup (pc := 102) d_X6_begin_102 (c1_r _) ?_
        refine wp_getI (pc := 103) d_X6_begin_103 fl_X6_29 (fun _ _ _ => rfl) ho5 ?_
        refine wp_dup_x1 (pc := 106) d_X6_begin_106 (c1_i _) (c1_r _) ?_
        refine wp_iconst (pc := 107) (v := 1) d_X6_begin_107 rfl ?_
        refine wp_iadd (pc := 108) d_X6_begin_108 ?_
        refine wp_putI (pc := 109) d_X6_begin_109 fl_X6_29 (fun _ _ _ => rfl) (Or.inl rfl) ho5 (okI_int _) ?_
        refine wp_nm (fun G6 eG6 => ?_)
        have h := h G6 eG6
        have ho7 := isO_sI eG6 ho1
        have ho8 := isO_sI eG6 ho5
        refine wp_iload_n (pc := 112) d_X6_begin_112 rfl ?_
        obtain ⟨ho9, h⟩ := h
        obtain ⟨hi10, h⟩ := h
        refine wp_iast (pc := 113) d_X6_begin_113 ho9 hi10 ?_
        refine wp_nm (fun G11 eG11 => ?_)
        have h := h G11 eG11
        have ho12 := isO_sI eG11 ho7
        have ho13 := isO_sI eG11 ho8
        refine wp_sub ?_ h
        exact ⟨rfl, ⟨rfl, ⟨rfl, ⟨rfl, trivial⟩⟩⟩⟩
theorem v_X6_begin_114 {E : EE} {d : Nat} {Q : Option AV → AH → Prop} {x0 : Nat} {x1 : Nat} {x2 : Int32} {x3 : Int32} {G : AH} (h : wp E d M_X6_begin 62 [some (vr x0), some (vr x1), some (vi x2), some (vi (x3 + 1))] [] G Q) : wp E d M_X6_begin 114 [some (vr x0), some (vr x1), some (vi x2), some (vi x3)] [] G Q := by
  refine wp_iinc (pc := 114) (v := 1) (lv' := [some (vr _), some (vr _), some (vi _), some (vi _)]) d_X6_begin_114 (by decide) rfl rfl rfl ?_
  refine wp_goto (pc := 117) (tgt := 62) d_X6_begin_117 (by decide) ?_
  refine wp_sub ?_ h
  exact ⟨rfl, ⟨rfl, ⟨rfl, ⟨rfl, trivial⟩⟩⟩⟩
