/-! decode rows and regions (by program): X5_init X5_read X5_isWhole X5_factStatement X5_newName X5_numeral X5_varStatement X5_valuesInBraces X5_valuesFromTo X5_ruleStatement X5_test X5_either X5_both X5_unit X5_enter X5_leave X5_lists X5_groups X5_variable X5_names X5_numerals X5_sum X5_term X5_factor -/
theorem d_X5_init_0 : decode prog_7_method_1_code 0 = .ok (.aload_n 0, 1) := by decide +kernel
theorem d_X5_init_1 : decode prog_7_method_1_code 1 = .ok (.invokespecial 3, 3) := by decide +kernel
theorem d_X5_init_4 : decode prog_7_method_1_code 4 = .ok (.aload_n 0, 1) := by decide +kernel
theorem d_X5_init_5 : decode prog_7_method_1_code 5 = .ok (.aconst_null, 1) := by decide +kernel
theorem d_X5_init_6 : decode prog_7_method_1_code 6 = .ok (.putfield 9, 3) := by decide +kernel
theorem d_X5_init_9 : decode prog_7_method_1_code 9 = .ok (.aload_n 0, 1) := by decide +kernel
theorem d_X5_init_10 : decode prog_7_method_1_code 10 = .ok (.aconst_null, 1) := by decide +kernel
theorem d_X5_init_11 : decode prog_7_method_1_code 11 = .ok (.putfield 15, 3) := by decide +kernel
theorem d_X5_init_14 : decode prog_7_method_1_code 14 = .ok (.aload_n 0, 1) := by decide +kernel
theorem d_X5_init_15 : decode prog_7_method_1_code 15 = .ok (.lconst 0, 1) := by decide +kernel
theorem d_X5_init_16 : decode prog_7_method_1_code 16 = .ok (.putfield 19, 3) := by decide +kernel
theorem d_X5_init_19 : decode prog_7_method_1_code 19 = .ok (.aload_n 0, 1) := by decide +kernel
theorem d_X5_init_20 : decode prog_7_method_1_code 20 = .ok (.iconst 0, 1) := by decide +kernel
theorem d_X5_init_21 : decode prog_7_method_1_code 21 = .ok (.putfield 23, 3) := by decide +kernel
theorem d_X5_init_24 : decode prog_7_method_1_code 24 = .ok (.aload_n 0, 1) := by decide +kernel
theorem d_X5_init_25 : decode prog_7_method_1_code 25 = .ok (.iconst 0, 1) := by decide +kernel
theorem d_X5_init_26 : decode prog_7_method_1_code 26 = .ok (.putfield 27, 3) := by decide +kernel
theorem d_X5_init_29 : decode prog_7_method_1_code 29 = .ok (.aload_n 0, 1) := by decide +kernel
theorem d_X5_init_30 : decode prog_7_method_1_code 30 = .ok (.iconst 0, 1) := by decide +kernel
theorem d_X5_init_31 : decode prog_7_method_1_code 31 = .ok (.putfield 30, 3) := by decide +kernel
theorem d_X5_init_34 : decode prog_7_method_1_code 34 = .ok (.aload_n 0, 1) := by decide +kernel
theorem d_X5_init_35 : decode prog_7_method_1_code 35 = .ok (.iconst 0, 1) := by decide +kernel
theorem d_X5_init_36 : decode prog_7_method_1_code 36 = .ok (.putfield 33, 3) := by decide +kernel
theorem d_X5_init_39 : decode prog_7_method_1_code 39 = .ok (.aload_n 0, 1) := by decide +kernel
theorem d_X5_init_40 : decode prog_7_method_1_code 40 = .ok (.iconst 0, 1) := by decide +kernel
theorem d_X5_init_41 : decode prog_7_method_1_code 41 = .ok (.putfield 36, 3) := by decide +kernel
theorem d_X5_init_44 : decode prog_7_method_1_code 44 = .ok (.aload_n 0, 1) := by decide +kernel
theorem d_X5_init_45 : decode prog_7_method_1_code 45 = .ok (.sipush 199, 3) := by decide +kernel
theorem d_X5_init_48 : decode prog_7_method_1_code 48 = .ok (.newarray .int, 2) := by decide +kernel
theorem d_X5_init_50 : decode prog_7_method_1_code 50 = .ok (.putfield 39, 3) := by decide +kernel
theorem d_X5_init_53 : decode prog_7_method_1_code 53 = .ok (.aload_n 0, 1) := by decide +kernel
theorem d_X5_init_54 : decode prog_7_method_1_code 54 = .ok (.iconst 0, 1) := by decide +kernel
theorem d_X5_init_55 : decode prog_7_method_1_code 55 = .ok (.putfield 43, 3) := by decide +kernel
theorem d_X5_init_58 : decode prog_7_method_1_code 58 = .ok (.aload_n 0, 1) := by decide +kernel
theorem d_X5_init_59 : decode prog_7_method_1_code 59 = .ok (.aload_n 1, 1) := by decide +kernel
theorem d_X5_init_60 : decode prog_7_method_1_code 60 = .ok (.putfield 46, 3) := by decide +kernel
theorem d_X5_init_63 : decode prog_7_method_1_code 63 = .ok (.return_, 1) := by decide +kernel
theorem v_X5_init_0 {E : EE} {d : Nat} {Q : Option AV → AH → Prop} {x0 : Nat} {x1 : Nat} {G : AH} (h0 : 0 < d) (h : isO E G x0 5 ∧ (∀ G2 : AH, G2 = sR G x0 1 0 → ∀ G4 : AH, G4 = sR G2 x0 2 0 → ∀ G6 : AH, G6 = sJ G4 x0 3 0 → ∀ G8 : AH, G8 = sI G6 x0 4 0 → ∀ G10 : AH, G10 = sI G8 x0 5 0 → ∀ G12 : AH, G12 = sI G10 x0 6 0 → ∀ G14 : AH, G14 = sI G12 x0 7 0 → ∀ G16 : AH, G16 = sI G14 x0 8 0 → eB E ≤ gT G16 ∧ (∀ G22 : AH, G22 = nw G16 14 (Int32.toNatClampNeg 199) (Int32.toNatClampNeg 199) → ∀ G26 : AH, G26 = sR G22 x0 9 (gT G16) → ∀ G29 : AH, G29 = sI G26 x0 10 0 → ∀ G32 : AH, G32 = sR G29 x0 0 x1 → Q none G32))) : wp E d M_X5_init 0 [some (vr x0), some (vr x1)] [] G Q := by
  refine wp_aload_n (pc := 0) d_X5_init_0 rfl ?_
  obtain ⟨ho1, h⟩ := h
  refine wp_objI (pc := 1) d_X5_init_1 ml_X5_3 in_obj mc_obj h0 ho1 (Nat.le_of_ble_eq_true rfl) ?_
  refine wp_aload_n (pc := 4) d_X5_init_4 rfl ?_
  refine wp_null (pc := 5) d_X5_init_5 ?_
  refine wp_putR (pc := 6) d_X5_init_6 fl_X5_9 (fun _ _ _ => rfl) (Or.inl ⟨_, rfl⟩) (Or.inl rfl) ho1 ?_
  refine wp_nm (fun G2 eG2 => ?_)
  have h := h G2 eG2
  have ho3 := isO_sR eG2 ho1
  refine wp_aload_n (pc := 9) d_X5_init_9 rfl ?_
  refine wp_null (pc := 10) d_X5_init_10 ?_
  refine wp_putR (pc := 11) d_X5_init_11 fl_X5_15 (fun _ _ _ => rfl) (Or.inl ⟨_, rfl⟩) (Or.inl rfl) ho3 ?_
  refine wp_nm (fun G4 eG4 => ?_)
  have h := h G4 eG4
  have ho5 := isO_sR eG4 ho3
  refine wp_aload_n (pc := 14) d_X5_init_14 rfl ?_
  refine wp_lconst (pc := 15) (v := 0) d_X5_init_15 rfl ?_
  refine wp_putJ (pc := 16) d_X5_init_16 fl_X5_19 (fun _ _ _ => rfl) rfl (Or.inl rfl) ho5 ?_
  refine wp_nm (fun G6 eG6 => ?_)
  have h := h G6 eG6
  have ho7 := isO_sJ eG6 ho5
  refine wp_aload_n (pc := 19) d_X5_init_19 rfl ?_
  refine wp_iconst (pc := 20) (v := 0) d_X5_init_20 rfl ?_
  refine wp_putI (pc := 21) d_X5_init_21 fl_X5_23 (fun _ _ _ => rfl) (Or.inl rfl) ho7 (okI_int _) ?_
  refine wp_nm (fun G8 eG8 => ?_)
  have h := h G8 eG8
  have ho9 := isO_sI eG8 ho7
  refine wp_aload_n (pc := 24) d_X5_init_24 rfl ?_
  refine wp_iconst (pc := 25) (v := 0) d_X5_init_25 rfl ?_
  refine wp_putI (pc := 26) d_X5_init_26 fl_X5_27 (fun _ _ _ => rfl) (Or.inl rfl) ho9 (okI_int _) ?_
  refine wp_nm (fun G10 eG10 => ?_)
  have h := h G10 eG10
  have ho11 := isO_sI eG10 ho9
  refine wp_aload_n (pc := 29) d_X5_init_29 rfl ?_
  refine wp_iconst (pc := 30) (v := 0) d_X5_init_30 rfl ?_
  refine wp_putI (pc := 31) d_X5_init_31 fl_X5_30 (fun _ _ _ => rfl) (Or.inl rfl) ho11 (okI_int _) ?_
  refine wp_nm (fun G12 eG12 => ?_)
  have h := h G12 eG12
  have ho13 := isO_sI eG12 ho11
  refine wp_aload_n (pc := 34) d_X5_init_34 rfl ?_
  refine wp_iconst (pc := 35) (v := 0) d_X5_init_35 rfl ?_
  refine wp_putI (pc := 36) d_X5_init_36 fl_X5_33 (fun _ _ _ => rfl) (Or.inl rfl) ho13 (okI_int _) ?_
  refine wp_nm (fun G14 eG14 => ?_)
  have h := h G14 eG14
  have ho15 := isO_sI eG14 ho13
  refine wp_aload_n (pc := 39) d_X5_init_39 rfl ?_
  refine wp_iconst (pc := 40) (v := 0) d_X5_init_40 rfl ?_
  refine wp_putI (pc := 41) d_X5_init_41 fl_X5_36 (fun _ _ _ => rfl) (Or.inl rfl) ho15 (okI_int _) ?_
  refine wp_nm (fun G16 eG16 => ?_)
  have h := h G16 eG16
  have ho17 := isO_sI eG16 ho15
  refine wp_aload_n (pc := 44) d_X5_init_44 rfl ?_
  refine wp_sipush (pc := 45) (v := 199) d_X5_init_45 rfl ?_
  obtain ⟨hb18, h⟩ := h
  refine wp_newa (pc := 48) (t0 := 1) (kd := 14) d_X5_init_48 rfl (fun _ q => by cases q) ac_int (by decide) (fun _ => rfl) rfl (by decide) (by decide) (by decide) ?_
  refine wp_nm (fun G22 eG22 => ?_)
  have h := h G22 eG22
  have ho23 := isO_nwE eG22 ho17
  have hb24 := base_nwE eG22 hb18
  have ho25 := isO_newE eG22 hb18
  refine wp_putR (pc := 50) d_X5_init_50 fl_X5_39 (fun _ _ _ => rfl) (Or.inr ⟨_, rfl⟩) (Or.inr ⟨rfl, rfl, rfl⟩) ho23 ?_
  refine wp_nm (fun G26 eG26 => ?_)
  have h := h G26 eG26
  have ho27 := isO_sR eG26 ho23
  have hb28 := base_sR eG26 hb24
  refine wp_aload_n (pc := 53) d_X5_init_53 rfl ?_
  refine wp_iconst (pc := 54) (v := 0) d_X5_init_54 rfl ?_
  refine wp_putI (pc := 55) d_X5_init_55 fl_X5_43 (fun _ _ _ => rfl) (Or.inl rfl) ho27 (okI_int _) ?_
  refine wp_nm (fun G29 eG29 => ?_)
  have h := h G29 eG29
  have ho30 := isO_sI eG29 ho27
  have hb31 := base_sI eG29 hb28
  refine wp_aload_n (pc := 58) d_X5_init_58 rfl ?_
  refine wp_aload_n (pc := 59) d_X5_init_59 rfl ?_
  refine wp_putR (pc := 60) d_X5_init_60 fl_X5_46 (fun _ _ _ => rfl) (Or.inl ⟨_, rfl⟩) (Or.inr ⟨rfl, rfl, rfl⟩) ho30 ?_
  refine wp_nm (fun G32 eG32 => ?_)
  have h := h G32 eG32
  have ho33 := isO_sR eG32 ho30
  have hb34 := base_sR eG32 hb31
  exact wp_vret (pc := 63) d_X5_init_63 rfl h
theorem d_X5_read_0 : decode prog_7_method_2_code 0 = .ok (.aload_n 0, 1) := by decide +kernel
theorem d_X5_read_1 : decode prog_7_method_2_code 1 = .ok (.aload_n 1, 1) := by decide +kernel
theorem d_X5_read_2 : decode prog_7_method_2_code 2 = .ok (.putfield 9, 3) := by decide +kernel
theorem d_X5_read_5 : decode prog_7_method_2_code 5 = .ok (.aload_n 0, 1) := by decide +kernel
theorem d_X5_read_6 : decode prog_7_method_2_code 6 = .ok (.aload_n 1, 1) := by decide +kernel
theorem d_X5_read_7 : decode prog_7_method_2_code 7 = .ok (.getfield 50, 3) := by decide +kernel
theorem d_X5_read_10 : decode prog_7_method_2_code 10 = .ok (.putfield 15, 3) := by decide +kernel
theorem d_X5_read_13 : decode prog_7_method_2_code 13 = .ok (.aload_n 0, 1) := by decide +kernel
theorem d_X5_read_14 : decode prog_7_method_2_code 14 = .ok (.iconst 0, 1) := by decide +kernel
theorem d_X5_read_15 : decode prog_7_method_2_code 15 = .ok (.putfield 33, 3) := by decide +kernel
theorem d_X5_read_18 : decode prog_7_method_2_code 18 = .ok (.aload_n 1, 1) := by decide +kernel
theorem d_X5_read_19 : decode prog_7_method_2_code 19 = .ok (.invokevirtual 53, 3) := by decide +kernel
theorem d_X5_read_22 : decode prog_7_method_2_code 22 = .ok (.aload_n 0, 1) := by decide +kernel
theorem d_X5_read_23 : decode prog_7_method_2_code 23 = .ok (.getfield 46, 3) := by decide +kernel
theorem d_X5_read_26 : decode prog_7_method_2_code 26 = .ok (.aload_n 1, 1) := by decide +kernel
theorem d_X5_read_27 : decode prog_7_method_2_code 27 = .ok (.getfield 56, 3) := by decide +kernel
theorem d_X5_read_30 : decode prog_7_method_2_code 30 = .ok (.invokevirtual 60, 3) := by decide +kernel
theorem d_X5_read_33 : decode prog_7_method_2_code 33 = .ok (.iconst 0, 1) := by decide +kernel
theorem d_X5_read_34 : decode prog_7_method_2_code 34 = .ok (.istore_n 2, 1) := by decide +kernel
theorem d_X5_read_35 : decode prog_7_method_2_code 35 = .ok (.iload_n 2, 1) := by decide +kernel
theorem d_X5_read_36 : decode prog_7_method_2_code 36 = .ok (.aload_n 1, 1) := by decide +kernel
theorem d_X5_read_37 : decode prog_7_method_2_code 37 = .ok (.getfield 56, 3) := by decide +kernel
theorem d_X5_read_40 : decode prog_7_method_2_code 40 = .ok (.getfield 66, 3) := by decide +kernel
theorem d_X5_read_43 : decode prog_7_method_2_code 43 = .ok (.if_icmp .gt 118, 3) := by decide +kernel
theorem d_X5_read_46 : decode prog_7_method_2_code 46 = .ok (.iload_n 2, 1) := by decide +kernel
theorem d_X5_read_47 : decode prog_7_method_2_code 47 = .ok (.ifCond .le 18, 3) := by decide +kernel
theorem d_X5_read_50 : decode prog_7_method_2_code 50 = .ok (.aload_n 0, 1) := by decide +kernel
theorem d_X5_read_51 : decode prog_7_method_2_code 51 = .ok (.getfield 46, 3) := by decide +kernel
theorem d_X5_read_54 : decode prog_7_method_2_code 54 = .ok (.getfield 71, 3) := by decide +kernel
theorem d_X5_read_57 : decode prog_7_method_2_code 57 = .ok (.ifCond .ne 8, 3) := by decide +kernel
theorem d_X5_read_60 : decode prog_7_method_2_code 60 = .ok (.aload_n 0, 1) := by decide +kernel
theorem d_X5_read_61 : decode prog_7_method_2_code 61 = .ok (.invokevirtual 74, 3) := by decide +kernel
theorem d_X5_read_64 : decode prog_7_method_2_code 64 = .ok (.ireturn, 1) := by decide +kernel
theorem d_X5_read_65 : decode prog_7_method_2_code 65 = .ok (.aload_n 0, 1) := by decide +kernel
theorem d_X5_read_66 : decode prog_7_method_2_code 66 = .ok (.getfield 46, 3) := by decide +kernel
theorem d_X5_read_69 : decode prog_7_method_2_code 69 = .ok (.iconst 0, 1) := by decide +kernel
theorem d_X5_read_70 : decode prog_7_method_2_code 70 = .ok (.invokevirtual 78, 3) := by decide +kernel
theorem d_X5_read_73 : decode prog_7_method_2_code 73 = .ok (.ifCond .eq 11, 3) := by decide +kernel
theorem d_X5_read_76 : decode prog_7_method_2_code 76 = .ok (.aload_n 0, 1) := by decide +kernel
theorem d_X5_read_77 : decode prog_7_method_2_code 77 = .ok (.invokevirtual 82, 3) := by decide +kernel
theorem d_X5_read_80 : decode prog_7_method_2_code 80 = .ok (.istore_n 3, 1) := by decide +kernel
theorem d_X5_read_81 : decode prog_7_method_2_code 81 = .ok (.goto 68, 3) := by decide +kernel
theorem d_X5_read_84 : decode prog_7_method_2_code 84 = .ok (.aload_n 0, 1) := by decide +kernel
theorem d_X5_read_85 : decode prog_7_method_2_code 85 = .ok (.getfield 46, 3) := by decide +kernel
theorem d_X5_read_88 : decode prog_7_method_2_code 88 = .ok (.iconst 1, 1) := by decide +kernel
theorem d_X5_read_89 : decode prog_7_method_2_code 89 = .ok (.invokevirtual 78, 3) := by decide +kernel
theorem d_X5_read_92 : decode prog_7_method_2_code 92 = .ok (.ifCond .eq 11, 3) := by decide +kernel
theorem d_X5_read_95 : decode prog_7_method_2_code 95 = .ok (.aload_n 0, 1) := by decide +kernel
theorem d_X5_read_96 : decode prog_7_method_2_code 96 = .ok (.invokevirtual 85, 3) := by decide +kernel
theorem d_X5_read_99 : decode prog_7_method_2_code 99 = .ok (.istore_n 3, 1) := by decide +kernel
theorem d_X5_read_100 : decode prog_7_method_2_code 100 = .ok (.goto 49, 3) := by decide +kernel
theorem d_X5_read_103 : decode prog_7_method_2_code 103 = .ok (.aload_n 0, 1) := by decide +kernel
theorem d_X5_read_104 : decode prog_7_method_2_code 104 = .ok (.getfield 46, 3) := by decide +kernel
theorem d_X5_read_107 : decode prog_7_method_2_code 107 = .ok (.iconst 3, 1) := by decide +kernel
theorem d_X5_read_108 : decode prog_7_method_2_code 108 = .ok (.invokevirtual 78, 3) := by decide +kernel
theorem d_X5_read_111 : decode prog_7_method_2_code 111 = .ok (.ifCond .eq 11, 3) := by decide +kernel
theorem d_X5_read_114 : decode prog_7_method_2_code 114 = .ok (.aload_n 0, 1) := by decide +kernel
theorem d_X5_read_115 : decode prog_7_method_2_code 115 = .ok (.invokevirtual 88, 3) := by decide +kernel
theorem d_X5_read_118 : decode prog_7_method_2_code 118 = .ok (.istore_n 3, 1) := by decide +kernel
theorem d_X5_read_119 : decode prog_7_method_2_code 119 = .ok (.goto 30, 3) := by decide +kernel
theorem d_X5_read_122 : decode prog_7_method_2_code 122 = .ok (.aload_n 0, 1) := by decide +kernel
theorem d_X5_read_123 : decode prog_7_method_2_code 123 = .ok (.getfield 46, 3) := by decide +kernel
theorem d_X5_read_126 : decode prog_7_method_2_code 126 = .ok (.iconst 5, 1) := by decide +kernel
theorem d_X5_read_127 : decode prog_7_method_2_code 127 = .ok (.invokevirtual 78, 3) := by decide +kernel
theorem d_X5_read_130 : decode prog_7_method_2_code 130 = .ok (.ifCond .eq 11, 3) := by decide +kernel
theorem d_X5_read_133 : decode prog_7_method_2_code 133 = .ok (.aload_n 0, 1) := by decide +kernel
theorem d_X5_read_134 : decode prog_7_method_2_code 134 = .ok (.invokevirtual 91, 3) := by decide +kernel
theorem d_X5_read_137 : decode prog_7_method_2_code 137 = .ok (.istore_n 3, 1) := by decide +kernel
theorem d_X5_read_138 : decode prog_7_method_2_code 138 = .ok (.goto 11, 3) := by decide +kernel
theorem d_X5_read_141 : decode prog_7_method_2_code 141 = .ok (.aload_n 0, 1) := by decide +kernel
theorem d_X5_read_142 : decode prog_7_method_2_code 142 = .ok (.getfield 46, 3) := by decide +kernel
theorem d_X5_read_145 : decode prog_7_method_2_code 145 = .ok (.invokevirtual 94, 3) := by decide +kernel
theorem d_X5_read_148 : decode prog_7_method_2_code 148 = .ok (.istore_n 3, 1) := by decide +kernel
theorem d_X5_read_149 : decode prog_7_method_2_code 149 = .ok (.iload_n 3, 1) := by decide +kernel
theorem d_X5_read_150 : decode prog_7_method_2_code 150 = .ok (.ifCond .ne 5, 3) := by decide +kernel
theorem d_X5_read_153 : decode prog_7_method_2_code 153 = .ok (.iconst 0, 1) := by decide +kernel
theorem d_X5_read_154 : decode prog_7_method_2_code 154 = .ok (.ireturn, 1) := by decide +kernel
theorem d_X5_read_155 : decode prog_7_method_2_code 155 = .ok (.iinc 2 1, 3) := by decide +kernel
theorem d_X5_read_158 : decode prog_7_method_2_code 158 = .ok (.goto (-123), 3) := by decide +kernel
theorem d_X5_read_161 : decode prog_7_method_2_code 161 = .ok (.iconst 0, 1) := by decide +kernel
theorem d_X5_read_162 : decode prog_7_method_2_code 162 = .ok (.ireturn, 1) := by decide +kernel
theorem v_X5_read_0 {E : EE} {d : Nat} {Q : Option AV → AH → Prop} {x0 : Nat} {x1 : Nat} {G : AH} (h0 : 0 < d) (h : isO E G x0 5 ∧ (∀ G2 : AH, G2 = sR G x0 1 x1 → isO E G2 x1 3 ∧ (∀ G5 : AH, G5 = sR G2 x0 2 (gR G2 x1 5) → ∀ G8 : AH, G8 = sI G5 x0 7 0 → wpV E (d - 1) M_X3_clear [vr x1] G8 (fun G11 => isO E G11 x0 5 ∧ (isO E G11 x1 3 ∧ (isO E G11 (gR G11 x0 0) 10 ∧ (wpV E (d - 1) M_X10_scan [vr (gR G11 x0 0), vr (gR G11 x1 1)] G11 (fun G14 => wp E d M_X5_read 35 [some (vr x0), some (vr x1), some (vi 0), none] [] G14 Q)))))))) : wp E d M_X5_read 0 [some (vr x0), some (vr x1), none, none] [] G Q := by
  refine wp_aload_n (pc := 0) d_X5_read_0 rfl ?_
  refine wp_aload_n (pc := 1) d_X5_read_1 rfl ?_
  obtain ⟨ho1, h⟩ := h
  refine wp_putR (pc := 2) d_X5_read_2 fl_X5_9 (fun _ _ _ => rfl) (Or.inl ⟨_, rfl⟩) (Or.inl rfl) ho1 ?_
  refine wp_nm (fun G2 eG2 => ?_)
  have h := h G2 eG2
  have ho3 := isO_sR eG2 ho1
  refine wp_aload_n (pc := 5) d_X5_read_5 rfl ?_
  refine wp_aload_n (pc := 6) d_X5_read_6 rfl ?_
  obtain ⟨ho4, h⟩ := h
  refine wp_getR (pc := 7) d_X5_read_7 fl_X5_50 (fun _ _ _ => rfl) ho4 ?_
  refine wp_putR (pc := 10) d_X5_read_10 fl_X5_15 (fun _ _ _ => rfl) (Or.inl ⟨_, rfl⟩) (Or.inl rfl) ho3 ?_
  refine wp_nm (fun G5 eG5 => ?_)
  have h := h G5 eG5
  have ho6 := isO_sR eG5 ho3
  have ho7 := isO_sR eG5 ho4
  refine wp_aload_n (pc := 13) d_X5_read_13 rfl ?_
  refine wp_iconst (pc := 14) (v := 0) d_X5_read_14 rfl ?_
  refine wp_putI (pc := 15) d_X5_read_15 fl_X5_33 (fun _ _ _ => rfl) (Or.inl rfl) ho6 (okI_int _) ?_
  refine wp_nm (fun G8 eG8 => ?_)
  have h := h G8 eG8
  have ho9 := isO_sI eG8 ho6
  have ho10 := isO_sI eG8 ho7
  refine wp_aload_n (pc := 18) d_X5_read_18 rfl ?_
  refine wp_invV (pc := 19) (N := M_X3_clear) (As := []) (rest := []) (r := (cn_3, ct_3, 19)) d_X5_read_19 ml_X5_53 mk_X3_clear mv_X3_clear h0 ho10 rfl rfl (Nat.le_of_ble_eq_true rfl) ?_
  refine wpM.mono h (fun rr G11 hr => ?_)
  obtain ⟨rfl, h⟩ := hr
  show wp E d M_X5_read 22 [some (vr _), some (vr _), none, none] [] G11 Q
  refine wp_aload_n (pc := 22) d_X5_read_22 rfl ?_
  obtain ⟨ho12, h⟩ := h
  refine wp_getR (pc := 23) d_X5_read_23 fl_X5_46 (fun _ _ _ => rfl) ho12 ?_
  refine wp_aload_n (pc := 26) d_X5_read_26 rfl ?_
  obtain ⟨ho13, h⟩ := h
  refine wp_getR (pc := 27) d_X5_read_27 fl_X5_56 (fun _ _ _ => rfl) ho13 ?_
  obtain ⟨ho15, h⟩ := h
  refine wp_invV (pc := 30) (N := M_X10_scan) (As := [vr _]) (rest := []) (r := (cn_10, ct_10, 12)) d_X5_read_30 ml_X5_60 mk_X10_scan mv_X10_scan h0 ho15 rfl rfl (Nat.le_of_ble_eq_true rfl) ?_
  refine wpM.mono h (fun rr G14 hr => ?_)
  obtain ⟨rfl, h⟩ := hr
  show wp E d M_X5_read 33 [some (vr _), some (vr _), none, none] [] G14 Q
  refine wp_iconst (pc := 33) (v := 0) d_X5_read_33 rfl ?_
  refine wp_istore_n (pc := 34) (lv' := [some (vr _), some (vr _), some (vi _), none]) d_X5_read_34 (by decide) rfl ?_
  refine wp_sub ?_ h
  exact ⟨rfl, ⟨rfl, ⟨rfl, trivial⟩⟩⟩
theorem v_X5_read_35 {E : EE} {d : Nat} {Q : Option AV → AH → Prop} {x0 : Nat} {x1 : Nat} {x2 : Int32} {G : AH} (h0 : 0 < d) (h : isO E G x1 3 ∧ (isO E G (gR G x1 1) 0 ∧ (((gI G (gR G x1 1) 1) < x2 → Q (some (vi 0)) G) ∧ (¬ ((gI G (gR G x1 1) 1) < x2) → (x2 ≤ 0 → wp E d M_X5_read 65 [some (vr x0), some (vr x1), some (vi x2), none] [] G Q) ∧ (¬ (x2 ≤ 0) → isO E G x0 5 ∧ (isO E G (gR G x0 0) 10 ∧ ((¬ (gI G (gR G x0 0) 6) = 0 → wp E d M_X5_read 65 [some (vr x0), some (vr x1), some (vi x2), none] [] G Q) ∧ ((gI G (gR G x0 0) 6) = 0 → wpI E (d - 1) M_X5_isWhole [vr x0] G (fun r5 G6 => okI .boolean r5 ∧ Q (some (vi r5)) G6))))))))) : wp E d M_X5_read 35 [some (vr x0), some (vr x1), some (vi x2), none] [] G Q := by
  refine wp_iload_n (pc := 35) d_X5_read_35 rfl ?_
  refine wp_aload_n (pc := 36) d_X5_read_36 rfl ?_
  obtain ⟨ho1, h⟩ := h
  refine wp_getR (pc := 37) d_X5_read_37 fl_X5_56 (fun _ _ _ => rfl) ho1 ?_
  obtain ⟨ho2, h⟩ := h
  refine wp_getI (pc := 40) d_X5_read_40 fl_X5_66 (fun _ _ _ => rfl) ho2 ?_
  refine wp_icmp_gt (pc := 43) (tgt := 161) d_X5_read_43 (by decide) (fun hc => ?_) (fun hc => ?_)
  · have h := h.1 hc
    refine wp_iconst (pc := 161) (v := 0) d_X5_read_161 rfl ?_
    exact wp_zret (pc := 162) d_X5_read_162 rfl rfl h
  · have h := h.2 hc
    refine wp_iload_n (pc := 46) d_X5_read_46 rfl ?_
    refine wp_if_le (pc := 47) (tgt := 65) d_X5_read_47 (by decide) (fun hc => ?_) (fun hc => ?_)
    · have h := h.1 hc
      refine wp_sub ?_ h
      exact ⟨rfl, ⟨rfl, ⟨rfl, trivial⟩⟩⟩
    · have h := h.2 hc
      refine wp_aload_n (pc := 50) d_X5_read_50 rfl ?_
      obtain ⟨ho3, h⟩ := h
      refine wp_getR (pc := 51) d_X5_read_51 fl_X5_46 (fun _ _ _ => rfl) ho3 ?_
      obtain ⟨ho4, h⟩ := h
      refine wp_getI (pc := 54) d_X5_read_54 fl_X5_71 (fun _ _ _ => rfl) ho4 ?_
      refine wp_if_ne (pc := 57) (tgt := 65) d_X5_read_57 (by decide) (fun hc => ?_) (fun hc => ?_)
      · have h := h.1 hc
        refine wp_sub ?_ h
        exact ⟨rfl, ⟨rfl, ⟨rfl, trivial⟩⟩⟩
      · have h := h.2 hc
        refine wp_aload_n (pc := 60) d_X5_read_60 rfl ?_
        refine wp_invV (pc := 61) (N := M_X5_isWhole) (As := []) (rest := []) (r := (cn_5, ct_5, 11)) d_X5_read_61 ml_X5_74 mk_X5_isWhole mv_X5_isWhole h0 ho3 rfl rfl (Nat.le_of_ble_eq_true rfl) ?_
        refine wpM.mono h (fun rr G6 hr => ?_)
        obtain ⟨r5, rfl, h⟩ := hr
        show wp E d M_X5_read 64 [some (vr _), some (vr _), some (vi _), none] [vi _] G6 Q
        exact wp_zret (pc := 64) d_X5_read_64 rfl h.1.1 h.2
theorem v_X5_read_65 {E : EE} {d : Nat} {Q : Option AV → AH → Prop} {x0 : Nat} {x1 : Nat} {x2 : Int32} {G : AH} (h0 : 0 < d) (h : isO E G x0 5 ∧ (isO E G (gR G x0 0) 10 ∧ (wpI E (d - 1) M_X10_is [vr (gR G x0 0), vi 0] G (fun r2 G3 => (r2 = 0 → isO E G3 x0 5 ∧ (isO E G3 (gR G3 x0 0) 10 ∧ (wpI E (d - 1) M_X10_is [vr (gR G3 x0 0), vi 1] G3 (fun r5 G6 => (r5 = 0 → isO E G6 x0 5 ∧ (isO E G6 (gR G6 x0 0) 10 ∧ (wpI E (d - 1) M_X10_is [vr (gR G6 x0 0), vi 3] G6 (fun r8 G9 => (r8 = 0 → isO E G9 x0 5 ∧ (isO E G9 (gR G9 x0 0) 10 ∧ (wpI E (d - 1) M_X10_is [vr (gR G9 x0 0), vi 5] G9 (fun r11 G12 => (r11 = 0 → isO E G12 x0 5 ∧ (isO E G12 (gR G12 x0 0) 10 ∧ (wpI E (d - 1) M_X10_refuse [vr (gR G12 x0 0)] G12 (fun r14 G15 => wp E d M_X5_read 149 [some (vr x0), some (vr x1), some (vi x2), some (vi r14)] [] G15 Q)))) ∧ (¬ (r11 = 0) → isO E G12 x0 5 ∧ (wpI E (d - 1) M_X5_aimStatement [vr x0] G12 (fun r17 G18 => wp E d M_X5_read 149 [some (vr x0), some (vr x1), some (vi x2), some (vi r17)] [] G18 Q))))))) ∧ (¬ (r8 = 0) → isO E G9 x0 5 ∧ (wpI E (d - 1) M_X5_ruleStatement [vr x0] G9 (fun r21 G22 => wp E d M_X5_read 149 [some (vr x0), some (vr x1), some (vi x2), some (vi r21)] [] G22 Q))))))) ∧ (¬ (r5 = 0) → isO E G6 x0 5 ∧ (wpI E (d - 1) M_X5_varStatement [vr x0] G6 (fun r25 G26 => wp E d M_X5_read 149 [some (vr x0), some (vr x1), some (vi x2), some (vi r25)] [] G26 Q))))))) ∧ (¬ (r2 = 0) → isO E G3 x0 5 ∧ (wpI E (d - 1) M_X5_factStatement [vr x0] G3 (fun r29 G30 => wp E d M_X5_read 149 [some (vr x0), some (vr x1), some (vi x2), some (vi r29)] [] G30 Q))))))) : wp E d M_X5_read 65 [some (vr x0), some (vr x1), some (vi x2), none] [] G Q := by
  refine wp_aload_n (pc := 65) d_X5_read_65 rfl ?_
  obtain ⟨ho1, h⟩ := h
  refine wp_getR (pc := 66) d_X5_read_66 fl_X5_46 (fun _ _ _ => rfl) ho1 ?_
  refine wp_iconst (pc := 69) (v := 0) d_X5_read_69 rfl ?_
  obtain ⟨ho32, h⟩ := h
  refine wp_invV (pc := 70) (N := M_X10_is) (As := [vi _]) (rest := []) (r := (cn_10, ct_10, 12)) d_X5_read_70 ml_X5_78 mk_X10_is mv_X10_is h0 ho32 rfl rfl (Nat.le_of_ble_eq_true rfl) ?_
  refine wpM.mono h (fun rr G3 hr => ?_)
  obtain ⟨r2, rfl, h⟩ := hr
  show wp E d M_X5_read 73 [some (vr _), some (vr _), some (vi _), none] [vi _] G3 Q
  refine wp_if_eq (pc := 73) (tgt := 84) d_X5_read_73 (by decide) (fun hc => ?_) (fun hc => ?_)
  · have h := h.1 hc
    refine wp_aload_n (pc := 84) d_X5_read_84 rfl ?_
    obtain ⟨ho4, h⟩ := h
    refine wp_getR (pc := 85) d_X5_read_85 fl_X5_46 (fun _ _ _ => rfl) ho4 ?_
    refine wp_iconst (pc := 88) (v := 1) d_X5_read_88 rfl ?_
    obtain ⟨ho28, h⟩ := h
    refine wp_invV (pc := 89) (N := M_X10_is) (As := [vi _]) (rest := []) (r := (cn_10, ct_10, 12)) d_X5_read_89 ml_X5_78 mk_X10_is mv_X10_is h0 ho28 rfl rfl (Nat.le_of_ble_eq_true rfl) ?_
    refine wpM.mono h (fun rr G6 hr => ?_)
    obtain ⟨r5, rfl, h⟩ := hr
    show wp E d M_X5_read 92 [some (vr _), some (vr _), some (vi _), none] [vi _] G6 Q
    refine wp_if_eq (pc := 92) (tgt := 103) d_X5_read_92 (by decide) (fun hc => ?_) (fun hc => ?_)
    · have h := h.1 hc
      refine wp_aload_n (pc := 103) d_X5_read_103 rfl ?_
      obtain ⟨ho7, h⟩ := h
      refine wp_getR (pc := 104) d_X5_read_104 fl_X5_46 (fun _ _ _ => rfl) ho7 ?_
      refine wp_iconst (pc := 107) (v := 3) d_X5_read_107 rfl ?_
      obtain ⟨ho24, h⟩ := h
      refine wp_invV (pc := 108) (N := M_X10_is) (As := [vi _]) (rest := []) (r := (cn_10, ct_10, 12)) d_X5_read_108 ml_X5_78 mk_X10_is mv_X10_is h0 ho24 rfl rfl (Nat.le_of_ble_eq_true rfl) ?_
      refine wpM.mono h (fun rr G9 hr => ?_)
      obtain ⟨r8, rfl, h⟩ := hr
      show wp E d M_X5_read 111 [some (vr _), some (vr _), some (vi _), none] [vi _] G9 Q
      refine wp_if_eq (pc := 111) (tgt := 122) d_X5_read_111 (by decide) (fun hc => ?_) (fun hc => ?_)
      · have h := h.1 hc
        refine wp_aload_n (pc := 122) d_X5_read_122 rfl ?_
        obtain ⟨ho10, h⟩ := h
        refine wp_getR (pc := 123) d_X5_read_123 fl_X5_46 (fun _ _ _ => rfl) ho10 ?_
        refine wp_iconst (pc := 126) (v := 5) d_X5_read_126 rfl ?_
        obtain ⟨ho20, h⟩ := h
        refine wp_invV (pc := 127) (N := M_X10_is) (As := [vi _]) (rest := []) (r := (cn_10, ct_10, 12)) d_X5_read_127 ml_X5_78 mk_X10_is mv_X10_is h0 ho20 rfl rfl (Nat.le_of_ble_eq_true rfl) ?_
        refine wpM.mono h (fun rr G12 hr => ?_)
        obtain ⟨r11, rfl, h⟩ := hr
        show wp E d M_X5_read 130 [some (vr _), some (vr _), some (vi _), none] [vi _] G12 Q
        refine wp_if_eq (pc := 130) (tgt := 141) d_X5_read_130 (by decide) (fun hc => ?_) (fun hc => ?_)
        · have h := h.1 hc
          refine wp_aload_n (pc := 141) d_X5_read_141 rfl ?_
          obtain ⟨ho13, h⟩ := h
          refine wp_getR (pc := 142) d_X5_read_142 fl_X5_46 (fun _ _ _ => rfl) ho13 ?_
          obtain ⟨ho16, h⟩ := h
          refine wp_invV (pc := 145) (N := M_X10_refuse) (As := []) (rest := []) (r := (cn_10, ct_10, 12)) d_X5_read_145 ml_X5_94 mk_X10_refuse mv_X10_refuse h0 ho16 rfl rfl (Nat.le_of_ble_eq_true rfl) ?_
          refine wpM.mono h (fun rr G15 hr => ?_)
          obtain ⟨r14, rfl, h⟩ := hr
          show wp E d M_X5_read 148 [some (vr _), some (vr _), some (vi _), none] [vi _] G15 Q
          refine wp_istore_n (pc := 148) (lv' := [some (vr _), some (vr _), some (vi _), some (vi _)]) d_X5_read_148 (by decide) rfl ?_
          refine wp_sub ?_ h
          exact ⟨rfl, ⟨rfl, ⟨rfl, ⟨rfl, trivial⟩⟩⟩⟩
        · have h := h.2 hc
          refine wp_aload_n (pc := 133) d_X5_read_133 rfl ?_
          obtain ⟨ho19, h⟩ := h
          refine wp_invV (pc := 134) (N := M_X5_aimStatement) (As := []) (rest := []) (r := (cn_5, ct_5, 11)) d_X5_read_134 ml_X5_91 mk_X5_aimStatement mv_X5_aimStatement h0 ho19 rfl rfl (Nat.le_of_ble_eq_true rfl) ?_
          refine wpM.mono h (fun rr G18 hr => ?_)
          obtain ⟨r17, rfl, h⟩ := hr
          show wp E d M_X5_read 137 [some (vr _), some (vr _), some (vi _), none] [vi _] G18 Q
          refine wp_istore_n (pc := 137) (lv' := [some (vr _), some (vr _), some (vi _), some (vi _)]) d_X5_read_137 (by decide) rfl ?_
          refine wp_goto (pc := 138) (tgt := 149) d_X5_read_138 (by decide) ?_
          refine wp_sub ?_ h
          exact ⟨rfl, ⟨rfl, ⟨rfl, ⟨rfl, trivial⟩⟩⟩⟩
      · have h := h.2 hc
        refine wp_aload_n (pc := 114) d_X5_read_114 rfl ?_
        obtain ⟨ho23, h⟩ := h
        refine wp_invV (pc := 115) (N := M_X5_ruleStatement) (As := []) (rest := []) (r := (cn_5, ct_5, 11)) d_X5_read_115 ml_X5_88 mk_X5_ruleStatement mv_X5_ruleStatement h0 ho23 rfl rfl (Nat.le_of_ble_eq_true rfl) ?_
        refine wpM.mono h (fun rr G22 hr => ?_)
        obtain ⟨r21, rfl, h⟩ := hr
        show wp E d M_X5_read 118 [some (vr _), some (vr _), some (vi _), none] [vi _] G22 Q
        refine wp_istore_n (pc := 118) (lv' := [some (vr _), some (vr _), some (vi _), some (vi _)]) d_X5_read_118 (by decide) rfl ?_
        refine wp_goto (pc := 119) (tgt := 149) d_X5_read_119 (by decide) ?_
        refine wp_sub ?_ h
        exact ⟨rfl, ⟨rfl, ⟨rfl, ⟨rfl, trivial⟩⟩⟩⟩
    · have h := h.2 hc
      refine wp_aload_n (pc := 95) d_X5_read_95 rfl ?_
      obtain ⟨ho27, h⟩ := h
      refine wp_invV (pc := 96) (N := M_X5_varStatement) (As := []) (rest := []) (r := (cn_5, ct_5, 11)) d_X5_read_96 ml_X5_85 mk_X5_varStatement mv_X5_varStatement h0 ho27 rfl rfl (Nat.le_of_ble_eq_true rfl) ?_
      refine wpM.mono h (fun rr G26 hr => ?_)
      obtain ⟨r25, rfl, h⟩ := hr
      show wp E d M_X5_read 99 [some (vr _), some (vr _), some (vi _), none] [vi _] G26 Q
      refine wp_istore_n (pc := 99) (lv' := [some (vr _), some (vr _), some (vi _), some (vi _)]) d_X5_read_99 (by decide) rfl ?_
      refine wp_goto (pc := 100) (tgt := 149) d_X5_read_100 (by decide) ?_
      refine wp_sub ?_ h
      exact ⟨rfl, ⟨rfl, ⟨rfl, ⟨rfl, trivial⟩⟩⟩⟩
  · have h := h.2 hc
    refine wp_aload_n (pc := 76) d_X5_read_76 rfl ?_
    obtain ⟨ho31, h⟩ := h
    refine wp_invV (pc := 77) (N := M_X5_factStatement) (As := []) (rest := []) (r := (cn_5, ct_5, 11)) d_X5_read_77 ml_X5_82 mk_X5_factStatement mv_X5_factStatement h0 ho31 rfl rfl (Nat.le_of_ble_eq_true rfl) ?_
    refine wpM.mono h (fun rr G30 hr => ?_)
    obtain ⟨r29, rfl, h⟩ := hr
    show wp E d M_X5_read 80 [some (vr _), some (vr _), some (vi _), none] [vi _] G30 Q
    refine wp_istore_n (pc := 80) (lv' := [some (vr _), some (vr _), some (vi _), some (vi _)]) d_X5_read_80 (by decide) rfl ?_
    refine wp_goto (pc := 81) (tgt := 149) d_X5_read_81 (by decide) ?_
    refine wp_sub ?_ h
    exact ⟨rfl, ⟨rfl, ⟨rfl, ⟨rfl, trivial⟩⟩⟩⟩
theorem v_X5_read_149 {E : EE} {d : Nat} {Q : Option AV → AH → Prop} {x0 : Nat} {x1 : Nat} {x2 : Int32} {x3 : Int32} {G : AH} (h : (¬ x3 = 0 → wp E d M_X5_read 35 [some (vr x0), some (vr x1), some (vi (x2 + 1)), none] [] G Q) ∧ (x3 = 0 → Q (some (vi 0)) G)) : wp E d M_X5_read 149 [some (vr x0), some (vr x1), some (vi x2), some (vi x3)] [] G Q := by
  refine wp_iload_n (pc := 149) d_X5_read_149 rfl ?_
  refine wp_if_ne (pc := 150) (tgt := 155) d_X5_read_150 (by decide) (fun hc => ?_) (fun hc => ?_)
  · have h := h.1 hc
    refine wp_iinc (pc := 155) (v := 1) (lv' := [some (vr _), some (vr _), some (vi _), some (vi _)]) d_X5_read_155 (by decide) rfl rfl rfl ?_
    refine wp_goto (pc := 158) (tgt := 35) d_X5_read_158 (by decide) ?_
    refine wp_sub ?_ h
    exact ⟨rfl, ⟨rfl, ⟨rfl, trivial⟩⟩⟩
  · have h := h.2 hc
    refine wp_iconst (pc := 153) (v := 0) d_X5_read_153 rfl ?_
    exact wp_zret (pc := 154) d_X5_read_154 rfl rfl h
