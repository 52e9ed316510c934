/-! decode rows and regions (by program): X5_init X5_read X5_isWhole X5_factStatement X5_newName X5_numeral X5_varStatement X5_valuesInBraces X5_valuesFromTo X5_ruleStatement X5_test X5_either X5_both X5_unit X5_enter X5_leave X5_lists X5_groups X5_variable X5_names X5_numerals X5_sum X5_term X5_factor -/
theorem d_X5_init_0 : decode prog_7_method_1_code 0 = .ok (.aload_n 0, 1) := by decide +kernel
theorem d_X5_init_1 : decode prog_7_method_1_code 1 = .ok (.invokespecial 3, 3) := by decide +kernel
theorem d_X5_init_4 : decode prog_7_method_1_code 4 = .ok (.aload_n 0, 1) := by decide +kernel
theorem d_X5_init_5 : decode prog_7_method_1_code 5 = .ok (.aconst_null, 1) := by decide +kernel
theorem d_X5_init_6 : decode prog_7_method_1_code 6 = .ok (.putfield 9, 3) := by decide +kernel
theorem d_X5_init_9 : decode prog_7_method_1_code 9 = .ok (.aload_n 0, 1) := by decide +kernel
theorem d_X5_init_10 : decode prog_7_method_1_code 10 = .ok (.aconst_null, 1) := by decide +kernel
theorem d_X5_init_11 : decode prog_7_method_1_code 11 = .ok (.putfield 15, 3) := by decide +kernel
theorem d_X5_init_14 : decode prog_7_method_1_code 14 = .ok (.aload_n 0, 1) := by decide +kernel
theorem d_X5_init_15 : decode prog_7_method_1_code 15 = .ok (.lconst 0, 1) := by decide +kernel
theorem d_X5_init_16 : decode prog_7_method_1_code 16 = .ok (.putfield 19, 3) := by decide +kernel
theorem d_X5_init_19 : decode prog_7_method_1_code 19 = .ok (.aload_n 0, 1) := by decide +kernel
theorem d_X5_init_20 : decode prog_7_method_1_code 20 = .ok (.iconst 0, 1) := by decide +kernel
theorem d_X5_init_21 : decode prog_7_method_1_code 21 = .ok (.putfield 23, 3) := by decide +kernel
theorem d_X5_init_24 : decode prog_7_method_1_code 24 = .ok (.aload_n 0, 1) := by decide +kernel
theorem d_X5_init_25 : decode prog_7_method_1_code 25 = .ok (.iconst 0, 1) := by decide +kernel
theorem d_X5_init_26 : decode prog_7_method_1_code 26 = .ok (.putfield 27, 3) := by decide +kernel
theorem d_X5_init_29 : decode prog_7_method_1_code 29 = .ok (.aload_n 0, 1) := by decide +kernel
theorem d_X5_init_30 : decode prog_7_method_1_code 30 = .ok (.iconst 0, 1) := by decide +kernel
theorem d_X5_init_31 : decode prog_7_method_1_code 31 = .ok (.putfield 30, 3) := by decide +kernel
theorem d_X5_init_34 : decode prog_7_method_1_code 34 = .ok (.aload_n 0, 1) := by decide +kernel
theorem d_X5_init_35 : decode prog_7_method_1_code 35 = .ok (.iconst 0, 1) := by decide +kernel
theorem d_X5_init_36 : decode prog_7_method_1_code 36 = .ok (.putfield 33, 3) := by decide +kernel
theorem d_X5_init_39 : decode prog_7_method_1_code 39 = .ok (.aload_n 0, 1) := by decide +kernel
theorem d_X5_init_40 : decode prog_7_method_1_code 40 = .ok (.iconst 0, 1) := by decide +kernel
theorem d_X5_init_41 : decode prog_7_method_1_code 41 = .ok (.putfield 36, 3) := by decide +kernel
theorem d_X5_init_44 : decode prog_7_method_1_code 44 = .ok (.aload_n 0, 1) := by decide +kernel
theorem d_X5_init_45 : decode prog_7_method_1_code 45 = .ok (.sipush 199, 3) := by decide +kernel
theorem d_X5_init_48 : decode prog_7_method_1_code 48 = .ok (.newarray .int, 2) := by decide +kernel
theorem d_X5_init_50 : decode prog_7_method_1_code 50 = .ok (.putfield 39, 3) := by decide +kernel
theorem d_X5_init_53 : decode prog_7_method_1_code 53 = .ok (.aload_n 0, 1) := by decide +kernel
theorem d_X5_init_54 : decode prog_7_method_1_code 54 = .ok (.iconst 0, 1) := by decide +kernel
theorem d_X5_init_55 : decode prog_7_method_1_code 55 = .ok (.putfield 43, 3) := by decide +kernel
theorem d_X5_init_58 : decode prog_7_method_1_code 58 = .ok (.aload_n 0, 1) := by decide +kernel
theorem d_X5_init_59 : decode prog_7_method_1_code 59 = .ok (.aload_n 1, 1) := by decide +kernel
theorem d_X5_init_60 : decode prog_7_method_1_code 60 = .ok (.putfield 46, 3) := by decide +kernel
theorem d_X5_init_63 : decode prog_7_method_1_code 63 = .ok (.return_, 1) := by decide +kernel
theorem v_X5_init_0 {E : EE} {d : Nat} {Q : Option AV → AH → Prop} {x0 : Nat} {x1 : Nat} {G : AH} (h0 : 0 < d) (h : isO E G x0 5 ∧ (∀ G2 : AH, G2 = sR G x0 1 0 → ∀ G4 : AH, G4 = sR G2 x0 2 0 → ∀ G6 : AH, G6 = sJ G4 x0 3 0 → ∀ G8 : AH, G8 = sI G6 x0 4 0 → ∀ G10 : AH, G10 = sI G8 x0 5 0 → ∀ G12 : AH, G12 = sI G10 x0 6 0 → ∀ G14 : AH, G14 = sI G12 x0 7 0 → ∀ G16 : AH, G16 = sI G14 x0 8 0 → eB E ≤ gT G16 ∧ (∀ G22 : AH, G22 = nw G16 14 (Int32.toNatClampNeg 199) (Int32.toNatClampNeg 199) → ∀ G26 : AH, G26 = sR G22 x0 9 (gT G16) → ∀ G29 : AH, G29 = sI G26 x0 10 0 → ∀ G32 : AH, G32 = sR G29 x0 0 x1 → Q none G32))) : wp E d M_X5_init 0 [some (vr x0), some (vr x1)] [] G Q := by
  refine wp_aload_n (pc := 0) d_X5_init_0 rfl ?_
  obtain ⟨ho1, h⟩ := h
  refine wp_objI (pc := 1) d_X5_init_1 ml_X5_3 in_obj mc_obj h0 ho1 (Nat.le_of_ble_eq_true rfl) ?_
  refine wp_aload_n (pc := 4) d_X5_init_4 rfl ?_
  refine wp_null (pc := 5) d_X5_init_5 ?_
  refine wp_putR (pc := 6) d_X5_init_6 fl_X5_9 (fun _ _ _ => rfl) (Or.inl ⟨_, rfl⟩) (Or.inl rfl) ho1 ?_
  refine wp_nm (fun G2 eG2 => ?_)
  have h := h G2 eG2
  have ho3 := isO_sR eG2 ho1
  refine wp_aload_n (pc := 9) d_X5_init_9 rfl ?_
  refine wp_null (pc := 10) d_X5_init_10 ?_
  refine wp_putR (pc := 11) d_X5_init_11 fl_X5_15 (fun _ _ _ => rfl) (Or.inl ⟨_, rfl⟩) (Or.inl rfl) ho3 ?_
  refine wp_nm (fun G4 eG4 => ?_)
  have h := h G4 eG4
  have ho5 := isO_sR eG4 ho3
  refine wp_aload_n (pc := 14) d_X5_init_14 rfl ?_
  refine wp_lconst (pc := 15) (v := 0) d_X5_init_15 rfl ?_
  refine wp_putJ (pc := 16) d_X5_init_16 fl_X5_19 (fun _ _ _ => rfl) rfl (Or.inl rfl) ho5 ?_
  refine wp_nm (fun G6 eG6 => ?_)
  have h := h G6 eG6
  have ho7 := isO_sJ eG6 ho5
  refine wp_aload_n (pc := 19) d_X5_init_19 rfl ?_
  refine wp_iconst (pc := 20) (v := 0) d_X5_init_20 rfl ?_
  refine wp_putI (pc := 21) d_X5_init_21 fl_X5_23 (fun _ _ _ => rfl) (Or.inl rfl) ho7 (okI_int _) ?_
  refine wp_nm (fun G8 eG8 => ?_)
  have h := h G8 eG8
  have ho9 := isO_sI eG8 ho7
  refine wp_aload_n (pc := 24) d_X5_init_24 rfl ?_
  refine wp_iconst (pc := 25) (v := 0) d_X5_init_25 rfl ?_
  refine wp_putI (pc := 26) d_X5_init_26 fl_X5_27 (fun _ _ _ => rfl) (Or.inl rfl) ho9 (okI_int _) ?_
  refine wp_nm (fun G10 eG10 => ?_)
  have h := h G10 eG10
  have ho11 := isO_sI eG10 ho9
  refine wp_aload_n (pc := 29) d_X5_init_29 rfl ?_
  refine wp_iconst (pc := 30) (v := 0) d_X5_init_30 rfl ?_
  refine wp_putI (pc := 31) d_X5_init_31 fl_X5_30 (fun _ _ _ => rfl) (Or.inl rfl) ho11 (okI_int _) ?_
  refine wp_nm (fun G12 eG12 => ?_)
  have h := h G12 eG12
  have ho13 := isO_sI eG12 ho11
  refine wp_aload_n (pc := 34) d_X5_init_34 rfl ?_
  refine wp_iconst (pc := 35) (v := 0) d_X5_init_35 rfl ?_
  refine wp_putI (pc := 36) d_X5_init_36 fl_X5_33 (fun _ _ _ => rfl) (Or.inl rfl) ho13 (okI_int _) ?_
  refine wp_nm (fun G14 eG14 => ?_)
  have h := h G14 eG14
  have ho15 := isO_sI eG14 ho13
  refine wp_aload_n (pc := 39) d_X5_init_39 rfl ?_
  refine wp_iconst (pc := 40) (v := 0) d_X5_init_40 rfl ?_
  refine wp_putI (pc := 41) d_X5_init_41 fl_X5_36 (fun _ _ _ => rfl) (Or.inl rfl) ho15 (okI_int _) ?_
  refine wp_nm (fun G16 eG16 => ?_)
  have h := h G16 eG16
  have ho17 := isO_sI eG16 ho15
  refine wp_aload_n (pc := 44) d_X5_init_44 rfl ?_
  refine wp_sipush (pc := 45) (v := 199) d_X5_init_45 rfl ?_
  obtain ⟨hb18, h⟩ := h
  refine wp_newa (pc := 48) (t0 := 1) (kd := 14) d_X5_init_48 rfl (fun _ q => by cases q) ac_int (by decide) (fun _ => rfl) rfl (by decide) (by decide) (by decide) ?_
  refine wp_nm (fun G22 eG22 => ?_)
  have h := h G22 eG22
  have ho23 := isO_nwE eG22 ho17
  have hb24 := base_nwE eG22 hb18
  have ho25 := isO_newE eG22 hb18
  refine wp_putR (pc := 50) d_X5_init_50 fl_X5_39 (fun _ _ _ => rfl) (Or.inr ⟨_, rfl⟩) (Or.inr ⟨rfl, rfl, rfl⟩) ho23 ?_
  refine wp_nm (fun G26 eG26 => ?_)
  have h := h G26 eG26
  have ho27 := isO_sR eG26 ho23
  have hb28 := base_sR eG26 hb24
  refine wp_aload_n (pc := 53) d_X5_init_53 rfl ?_
  refine wp_iconst (pc := 54) (v := 0) d_X5_init_54 rfl ?_
  refine wp_putI (pc := 55) d_X5_init_55 fl_X5_43 (fun _ _ _ => rfl) (Or.inl rfl) ho27 (okI_int _) ?_
  refine wp_nm (fun G29 eG29 => ?_)
  have h := h G29 eG29
  have ho30 := isO_sI eG29 ho27
  have hb31 := base_sI eG29 hb28
  refine wp_aload_n (pc := 58) d_X5_init_58 rfl ?_
  refine wp_aload_n (pc := 59) d_X5_init_59 rfl ?_
  refine wp_putR (pc := 60) d_X5_init_60 fl_X5_46 (fun _ _ _ => rfl) (Or.inl ⟨_, rfl⟩) (Or.inr ⟨rfl, rfl, rfl⟩) ho30 ?_
  refine wp_nm (fun G32 eG32 => ?_)
  have h := h G32 eG32
  have ho33 := isO_sR eG32 ho30
  have hb34 := base_sR eG32 hb31
  exact wp_vret (pc := 63) d_X5_init_63 rfl h
theorem d_X5_read_0 : decode prog_7_method_2_code 0 = .ok (.aload_n 0, 1) := by decide +kernel
theorem d_X5_read_1 : decode prog_7_method_2_code 1 = .ok (.aload_n 1, 1) := by decide +kernel
theorem d_X5_read_2 : decode prog_7_method_2_code 2 = .ok (.putfield 9, 3) := by decide +kernel
theorem d_X5_read_5 : decode prog_7_method_2_code 5 = .ok (.aload_n 0, 1) := by decide +kernel
theorem d_X5_read_6 : decode prog_7_method_2_code 6 = .ok (.aload_n 1, 1) := by decide +kernel
theorem d_X5_read_7 : decode prog_7_method_2_code 7 = .ok (.getfield 50, 3) := by decide +kernel
theorem d_X5_read_10 : decode prog_7_method_2_code 10 = .ok (.putfield 15, 3) := by decide +kernel
theorem d_X5_read_13 : decode prog_7_method_2_code 13 = .ok (.aload_n 0, 1) := by decide +kernel
theorem d_X5_read_14 : decode prog_7_method_2_code 14 = .ok (.iconst 0, 1) := by decide +kernel
theorem d_X5_read_15 : decode prog_7_method_2_code 15 = .ok (.putfield 33, 3) := by decide +kernel
theorem d_X5_read_18 : decode prog_7_method_2_code 18 = .ok (.aload_n 1, 1) := by decide +kernel
theorem d_X5_read_19 : decode prog_7_method_2_code 19 = .ok (.invokevirtual 53, 3) := by decide +kernel
theorem d_X5_read_22 : decode prog_7_method_2_code 22 = .ok (.aload_n 0, 1) := by decide +kernel
theorem d_X5_read_23 : decode prog_7_method_2_code 23 = .ok (.getfield 46, 3) := by decide +kernel
theorem d_X5_read_26 : decode prog_7_method_2_code 26 = .ok (.aload_n 1, 1) := by decide +kernel
theorem d_X5_read_27 : decode prog_7_method_2_code 27 = .ok (.getfield 56, 3) := by decide +kernel
theorem d_X5_read_30 : decode prog_7_method_2_code 30 = .ok (.invokevirtual 60, 3) := by decide +kernel
theorem d_X5_read_33 : decode prog_7_method_2_code 33 = .ok (.iconst 0, 1) := by decide +kernel
theorem d_X5_read_34 : decode prog_7_method_2_code 34 = .ok (.istore_n 2, 1) := by decide +kernel
theorem d_X5_read_35 : decode prog_7_method_2_code 35 = .ok (.iload_n 2, 1) := by decide +kernel
theorem d_X5_read_36 : decode prog_7_method_2_code 36 = .ok (.aload_n 1, 1) := by decide +kernel
theorem d_X5_read_37 : decode prog_7_method_2_code 37 = .ok (.getfield 56, 3) := by decide +kernel
theorem d_X5_read_40 : decode prog_7_method_2_code 40 = .ok (.getfield 66, 3) := by decide +kernel
theorem d_X5_read_43 : decode prog_7_method_2_code 43 = .ok (.if_icmp .gt 118, 3) := by decide +kernel
theorem d_X5_read_46 : decode prog_7_method_2_code 46 = .ok (.iload_n 2, 1) := by decide +kernel
theorem d_X5_read_47 : decode prog_7_method_2_code 47 = .ok (.ifCond .le 18, 3) := by decide +kernel
theorem d_X5_read_50 : decode prog_7_method_2_code 50 = .ok (.aload_n 0, 1) := by decide +kernel
theorem d_X5_read_51 : decode prog_7_method_2_code 51 = .ok (.getfield 46, 3) := by decide +kernel
theorem d_X5_read_54 : decode prog_7_method_2_code 54 = .ok (.getfield 71, 3) := by decide +kernel
theorem d_X5_read_57 : decode prog_7_method_2_code 57 = .ok (.ifCond .ne 8, 3) := by decide +kernel
theorem d_X5_read_60 : decode prog_7_method_2_code 60 = .ok (.aload_n 0, 1) := by decide +kernel
theorem d_X5_read_61 : decode prog_7_method_2_code 61 = .ok (.invokevirtual 74, 3) := by decide +kernel
theorem d_X5_read_64 : decode prog_7_method_2_code 64 = .ok (.ireturn, 1) := by decide +kernel
theorem d_X5_read_65 : decode prog_7_method_2_code 65 = .ok (.aload_n 0, 1) := by decide +kernel
theorem d_X5_read_66 : decode prog_7_method_2_code 66 = .ok (.getfield 46, 3) := by decide +kernel
theorem d_X5_read_69 : decode prog_7_method_2_code 69 = .ok (.iconst 0, 1) := by decide +kernel
theorem d_X5_read_70 : decode prog_7_method_2_code 70 = .ok (.invokevirtual 78, 3) := by decide +kernel
theorem d_X5_read_73 : decode prog_7_method_2_code 73 = .ok (.ifCond .eq 11, 3) := by decide +kernel
theorem d_X5_read_76 : decode prog_7_method_2_code 76 = .ok (.aload_n 0, 1) := by decide +kernel
theorem d_X5_read_77 : decode prog_7_method_2_code 77 = .ok (.invokevirtual 82, 3) := by decide +kernel
theorem d_X5_read_80 : decode prog_7_method_2_code 80 = .ok (.istore_n 3, 1) := by decide +kernel
theorem d_X5_read_81 : decode prog_7_method_2_code 81 = .ok (.goto 68, 3) := by decide +kernel
theorem d_X5_read_84 : decode prog_7_method_2_code 84 = .ok (.aload_n 0, 1) := by decide +kernel
theorem d_X5_read_85 : decode prog_7_method_2_code 85 = .ok (.getfield 46, 3) := by decide +kernel
theorem d_X5_read_88 : decode prog_7_method_2_code 88 = .ok (.iconst 1, 1) := by decide +kernel
theorem d_X5_read_89 : decode prog_7_method_2_code 89 = .ok (.invokevirtual 78, 3) := by decide +kernel
theorem d_X5_read_92 : decode prog_7_method_2_code 92 = .ok (.ifCond .eq 11, 3) := by decide +kernel
theorem d_X5_read_95 : decode prog_7_method_2_code 95 = .ok (.aload_n 0, 1) := by decide +kernel
theorem d_X5_read_96 : decode prog_7_method_2_code 96 = .ok (.invokevirtual 85, 3) := by decide +kernel
theorem d_X5_read_99 : decode prog_7_method_2_code 99 = .ok (.istore_n 3, 1) := by decide +kernel
theorem d_X5_read_100 : decode prog_7_method_2_code 100 = .ok (.goto 49, 3) := by decide +kernel
theorem d_X5_read_103 : decode prog_7_method_2_code 103 = .ok (.aload_n 0, 1) := by decide +kernel
theorem d_X5_read_104 : decode prog_7_method_2_code 104 = .ok (.getfield 46, 3) := by decide +kernel
theorem d_X5_read_107 : decode prog_7_method_2_code 107 = .ok (.iconst 3, 1) := by decide +kernel
theorem d_X5_read_108 : decode prog_7_method_2_code 108 = .ok (.invokevirtual 78, 3) := by decide +kernel
theorem d_X5_read_111 : decode prog_7_method_2_code 111 = .ok (.ifCond .eq 11, 3) := by decide +kernel
theorem d_X5_read_114 : decode prog_7_method_2_code 114 = .ok (.aload_n 0, 1) := by decide +kernel
theorem d_X5_read_115 : decode prog_7_method_2_code 115 = .ok (.invokevirtual 88, 3) := by decide +kernel
theorem d_X5_read_118 : decode prog_7_method_2_code 118 = .ok (.istore_n 3, 1) := by decide +kernel
theorem d_X5_read_119 : decode prog_7_method_2_code 119 = .ok (.goto 30, 3) := by decide +kernel
theorem d_X5_read_122 : decode prog_7_method_2_code 122 = .ok (.aload_n 0, 1) := by decide +kernel
theorem d_X5_read_123 : decode prog_7_method_2_code 123 = .ok (.getfield 46, 3) := by decide +kernel
theorem d_X5_read_126 : decode prog_7_method_2_code 126 = .ok (.iconst 5, 1) := by decide +kernel
theorem d_X5_read_127 : decode prog_7_method_2_code 127 = .ok (.invokevirtual 78, 3) := by decide +kernel
theorem d_X5_read_130 : decode prog_7_method_2_code 130 = .ok (.ifCond .eq 11, 3) := by decide +kernel
theorem d_X5_read_133 : decode prog_7_method_2_code 133 = .ok (.aload_n 0, 1) := by decide +kernel
theorem d_X5_read_134 : decode prog_7_method_2_code 134 = .ok (.invokevirtual 91, 3) := by decide +kernel
theorem d_X5_read_137 : decode prog_7_method_2_code 137 = .ok (.istore_n 3, 1) := by decide +kernel
theorem d_X5_read_138 : decode prog_7_method_2_code 138 = .ok (.goto 11, 3) := by decide +kernel
theorem d_X5_read_141 : decode prog_7_method_2_code 141 = .ok (.aload_n 0, 1) := by decide +kernel
theorem d_X5_read_142 : decode prog_7_method_2_code 142 = .ok (.getfield 46, 3) := by decide +kernel
theorem d_X5_read_145 : decode prog_7_method_2_code 145 = .ok (.invokevirtual 94, 3) := by decide +kernel
theorem d_X5_read_148 : decode prog_7_method_2_code 148 = .ok (.istore_n 3, 1) := by decide +kernel
theorem d_X5_read_149 : decode prog_7_method_2_code 149 = .ok (.iload_n 3, 1) := by decide +kernel
theorem d_X5_read_150 : decode prog_7_method_2_code 150 = .ok (.ifCond .ne 5, 3) := by decide +kernel
theorem d_X5_read_153 : decode prog_7_method_2_code 153 = .ok (.iconst 0, 1) := by decide +kernel
theorem d_X5_read_154 : decode prog_7_method_2_code 154 = .ok (.ireturn, 1) := by decide +kernel
theorem d_X5_read_155 : decode prog_7_method_2_code 155 = .ok (.iinc 2 1, 3) := by decide +kernel
theorem d_X5_read_158 : decode prog_7_method_2_code 158 = .ok (.goto (-123), 3) := by decide +kernel
theorem d_X5_read_161 : decode prog_7_method_2_code 161 = .ok (.iconst 0, 1) := by decide +kernel
theorem d_X5_read_162 : decode prog_7_method_2_code 162 = .ok (.ireturn, 1) := by decide +kernel
theorem v_X5_read_0 {E : EE} {d : Nat} {Q : Option AV → AH → Prop} {x0 : Nat} {x1 : Nat} {G : AH} (h0 : 0 < d) (h : isO E G x0 5 ∧ (∀ G2 : AH, G2 = sR G x0 1 x1 → isO E G2 x1 3 ∧ (∀ G5 : AH, G5 = sR G2 x0 2 (gR G2 x1 5) → ∀ G8 : AH, G8 = sI G5 x0 7 0 → wpV E (d - 1) M_X3_clear [vr x1] G8 (fun G11 => isO E G11 x0 5 ∧ (isO E G11 x1 3 ∧ (isO E G11 (gR G11 x0 0) 10 ∧ (wpV E (d - 1) M_X10_scan [vr (gR G11 x0 0), vr (gR G11 x1 1)] G11 (fun G14 => wp E d M_X5_read 35 [some (vr x0), some (vr x1), some (vi 0), none] [] G14 Q)))))))) : wp E d M_X5_read 0 [some (vr x0), some (vr x1), none, none] [] G Q := by
  refine wp_aload_n (pc := 0) d_X5_read_0 rfl ?_
  refine wp_aload_n (pc := 1) d_X5_read_1 rfl ?_
  obtain ⟨ho1, h⟩ := h
  refine wp_putR (pc := 2) d_X5_read_2 fl_X5_9 (fun _ _ _ => rfl) (Or.inl ⟨_, rfl⟩) (Or.inl rfl) ho1 ?_
  refine wp_nm (fun G2 eG2 => ?_)
  have h := h G2 eG2
  have ho3 := isO_sR eG2 ho1
  refine wp_aload_n (pc := 5) d_X5_read_5 rfl ?_
  refine wp_aload_n (pc := 6) d_X5_read_6 rfl ?_
  obtain ⟨ho4, h⟩ := h
  refine wp_getR (pc := 7) d_X5_read_7 fl_X5_50 (fun _ _ _ => rfl) ho4 ?_
  refine wp_putR (pc := 10) d_X5_read_10 fl_X5_15 (fun _ _ _ => rfl) (Or.inl ⟨_, rfl⟩) (Or.inl rfl) ho3 ?_
  refine wp_nm (fun G5 eG5 => ?_)
  have h := h G5 eG5
  have ho6 := isO_sR eG5 ho3
  have ho7 := isO_sR eG5 ho4
  refine wp_aload_n (pc := 13) d_X5_read_13 rfl ?_
  refine wp_iconst (pc := 14) (v := 0) d_X5_read_14 rfl ?_
  refine wp_putI (pc := 15) d_X5_read_15 fl_X5_33 (fun _ _ _ => rfl) (Or.inl rfl) ho6 (okI_int _) ?_
  refine wp_nm (fun G8 eG8 => ?_)
  have h := h G8 eG8
  have ho9 := isO_sI eG8 ho6
  have ho10 := isO_sI eG8 ho7
  refine wp_aload_n (pc := 18) d_X5_read_18 rfl ?_
  refine wp_invV (pc := 19) (N := M_X3_clear) (As := []) (rest := []) (r := (cn_3, ct_3, 19)) d_X5_read_19 ml_X5_53 mk_X3_clear mv_X3_clear h0 ho10 rfl rfl (Nat.le_of_ble_eq_true rfl) ?_
  refine wpM.mono h (fun rr G11 hr => ?_)
  obtain ⟨rfl, h⟩ := hr
  show wp E d M_X5_read 22 [some (vr _), some (vr _), none, none] [] G11 Q
  refine wp_aload_n (pc := 22) d_X5_read_22 rfl ?_
  obtain ⟨ho12, h⟩ := h
  refine wp_getR (pc := 23) d_X5_read_23 fl_X5_46 (fun _ _ _ => rfl) ho12 ?_
  refine wp_aload_n (pc := 26) d_X5_read_26 rfl ?_
  obtain ⟨ho13, h⟩ := h
  refine wp_getR (pc := 27) d_X5_read_27 fl_X5_56 (fun _ _ _ => rfl) ho13 ?_
  obtain ⟨ho15, h⟩ := h
  refine wp_invV (pc := 30) (N := M_X10_scan) (As := [vr _]) (rest := []) (r := (cn_10, ct_10, 12)) d_X5_read_30 ml_X5_60 mk_X10_scan mv_X10_scan h0 ho15 rfl rfl (Nat.le_of_ble_eq_true rfl) ?_
  refine wpM.mono h (fun rr G14 hr => ?_)
  obtain ⟨rfl, h⟩ := hr
  show wp E d M_X5_read 33 [some (vr _), some (vr _), none, none] [] G14 Q
  refine wp_iconst (pc := 33) (v := 0) d_X5_read_33 rfl ?_
  refine wp_istore_n (pc := 34) (lv' := [some (vr _), some (vr _), some (vi _), none]) d_X5_read_34 (by decide) rfl ?_
  refine wp_sub ?_ h
  exact ⟨rfl, ⟨rfl, ⟨rfl, trivial⟩⟩⟩
theorem v_X5_read_35 {E : EE} {d : Nat} {Q : Option AV → AH → Prop} {x0 : Nat} {x1 : Nat} {x2 : Int32} {G : AH} (h0 : 0 < d) (h : isO E G x1 3 ∧ (isO E G (gR G x1 1) 0 ∧ (((gI G (gR G x1 1) 1) < x2 → Q (some (vi 0)) G) ∧ (¬ ((gI G (gR G x1 1) 1) < x2) → (x2 ≤ 0 → wp E d M_X5_read 65 [some (vr x0), some (vr x1), some (vi x2), none] [] G Q) ∧ (¬ (x2 ≤ 0) → isO E G x0 5 ∧ (isO E G (gR G x0 0) 10 ∧ ((¬ (gI G (gR G x0 0) 6) = 0 → wp E d M_X5_read 65 [some (vr x0), some (vr x1), some (vi x2), none] [] G Q) ∧ ((gI G (gR G x0 0) 6) = 0 → wpI E (d - 1) M_X5_isWhole [vr x0] G (fun r5 G6 => okI .boolean r5 ∧ Q (some (vi r5)) G6))))))))) : wp E d M_X5_read 35 [some (vr x0), some (vr x1), some (vi x2), none] [] G Q := by
  refine wp_iload_n (pc := 35) d_X5_read_35 rfl ?_
  refine wp_aload_n (pc := 36) d_X5_read_36 rfl ?_
  obtain ⟨ho1, h⟩ := h
  refine wp_getR (pc := 37) d_X5_read_37 fl_X5_56 (fun _ _ _ => rfl) ho1 ?_
  obtain ⟨ho2, h⟩ := h
  refine wp_getI (pc := 40) d_X5_read_40 fl_X5_66 (fun _ _ _ => rfl) ho2 ?_
  refine wp_icmp_gt (pc := 43) (tgt := 161) d_X5_read_43 (by decide) (fun hc => ?_) (fun hc => ?_)
  · have h := h.1 hc
    refine wp_iconst (pc := 161) (v := 0) d_X5_read_161 rfl ?_
    exact wp_zret (pc := 162) d_X5_read_162 rfl rfl h
  · have h := h.2 hc
    refine wp_iload_n (pc := 46) d_X5_read_46 rfl ?_
    refine wp_if_le (pc := 47) (tgt := 65) d_X5_read_47 (by decide) (fun hc => ?_) (fun hc => ?_)
    · have h := h.1 hc
      refine wp_sub ?_ h
      exact ⟨rfl, ⟨rfl, ⟨rfl, trivial⟩⟩⟩
    · have h := h.2 hc
      refine wp_aload_n (pc := 50) d_X5_read_50 rfl ?_
      obtain ⟨ho3, h⟩ := h
      refine wp_getR (pc := 51) d_X5_read_51 fl_X5_46 (fun _ _ _ => rfl) ho3 ?_
      obtain ⟨ho4, h⟩ := h
      refine wp_getI (pc := 54) d_X5_read_54 fl_X5_71 (fun _ _ _ => rfl) ho4 ?_
      refine wp_if_ne (pc := 57) (tgt := 65) d_X5_read_57 (by decide) (fun hc => ?_) (fun hc => ?_)
      · have h := h.1 hc
        refine wp_sub ?_ h
        exact ⟨rfl, ⟨rfl, ⟨rfl, trivial⟩⟩⟩
      · have h := h.2 hc
        refine wp_aload_n (pc := 60) d_X5_read_60 rfl ?_
        refine wp_invV (pc := 61) (N := M_X5_isWhole) (As := []) (rest := []) (r := (cn_5, ct_5, 11)) d_X5_read_61 ml_X5_74 mk_X5_isWhole mv_X5_isWhole h0 ho3 rfl rfl (Nat.le_of_ble_eq_true rfl) ?_
        refine wpM.mono h (fun rr G6 hr => ?_)
        obtain ⟨r5, rfl, h⟩ := hr
        show wp E d M_X5_read 64 [some (vr _), some (vr _), some (vi _), none] [vi _] G6 Q
        exact wp_zret (pc := 64) d_X5_read_64 rfl h.1.1 h.2
theorem v_X5_read_65 {E : EE} {d : Nat} {Q : Option AV → AH → Prop} {x0 : Nat} {x1 : Nat} {x2 : Int32} {G : AH} (h0 : 0 < d) (h : isO E G x0 5 ∧ (isO E G (gR G x0 0) 10 ∧ (wpI E (d - 1) M_X10_is [vr (gR G x0 0), vi 0] G (fun r2 G3 => (r2 = 0 → isO E G3 x0 5 ∧ (isO E G3 (gR G3 x0 0) 10 ∧ (wpI E (d - 1) M_X10_is [vr (gR G3 x0 0), vi 1] G3 (fun r5 G6 => (r5 = 0 → isO E G6 x0 5 ∧ (isO E G6 (gR G6 x0 0) 10 ∧ (wpI E (d - 1) M_X10_is [vr (gR G6 x0 0), vi 3] G6 (fun r8 G9 => (r8 = 0 → isO E G9 x0 5 ∧ (isO E G9 (gR G9 x0 0) 10 ∧ (wpI E (d - 1) M_X10_is [vr (gR G9 x0 0), vi 5] G9 (fun r11 G12 => (r11 = 0 → isO E G12 x0 5 ∧ (isO E G12 (gR G12 x0 0) 10 ∧ (wpI E (d - 1) M_X10_refuse [vr (gR G12 x0 0)] G12 (fun r14 G15 => wp E d M_X5_read 149 [some (vr x0), some (vr x1), some (vi x2), some (vi r14)] [] G15 Q)))) ∧ (¬ (r11 = 0) → isO E G12 x0 5 ∧ (wpI E (d - 1) M_X5_aimStatement [vr x0] G12 (fun r17 G18 => wp E d M_X5_read 149 [some (vr x0), some (vr x1), some (vi x2), some (vi r17)] [] G18 Q))))))) ∧ (¬ (r8 = 0) → isO E G9 x0 5 ∧ (wpI E (d - 1) M_X5_ruleStatement [vr x0] G9 (fun r21 G22 => wp E d M_X5_read 149 [some (vr x0), some (vr x1), some (vi x2), some (vi r21)] [] G22 Q))))))) ∧ (¬ (r5 = 0) → isO E G6 x0 5 ∧ (wpI E (d - 1) M_X5_varStatement [vr x0] G6 (fun r25 G26 => wp E d M_X5_read 149 [some (vr x0), some (vr x1), some (vi x2), some (vi r25)] [] G26 Q))))))) ∧ (¬ (r2 = 0) → isO E G3 x0 5 ∧ (wpI E (d - 1) M_X5_factStatement [vr x0] G3 (fun r29 G30 => wp E d M_X5_read 149 [some (vr x0), some (vr x1), some (vi x2), some (vi r29)] [] G30 Q))))))) : wp E d M_X5_read 65 [some (vr x0), some (vr x1), some (vi x2), none] [] G Q := by
  refine wp_aload_n (pc := 65) d_X5_read_65 rfl ?_
  obtain ⟨ho1, h⟩ := h
  refine wp_getR (pc := 66) d_X5_read_66 fl_X5_46 (fun _ _ _ => rfl) ho1 ?_
  refine wp_iconst (pc := 69) (v := 0) d_X5_read_69 rfl ?_
  obtain ⟨ho32, h⟩ := h
  refine wp_invV (pc := 70) (N := M_X10_is) (As := [vi _]) (rest := []) (r := (cn_10, ct_10, 12)) d_X5_read_70 ml_X5_78 mk_X10_is mv_X10_is h0 ho32 rfl rfl (Nat.le_of_ble_eq_true rfl) ?_
  refine wpM.mono h (fun rr G3 hr => ?_)
  obtain ⟨r2, rfl, h⟩ := hr
  show wp E d M_X5_read 73 [some (vr _), some (vr _), some (vi _), none] [vi _] G3 Q
  refine wp_if_eq (pc := 73) (tgt := 84) d_X5_read_73 (by decide) (fun hc => ?_) (fun hc => ?_)
  · have h := h.1 hc
    refine wp_aload_n (pc := 84) d_X5_read_84 rfl ?_
    obtain ⟨ho4, h⟩ := h
    refine wp_getR (pc := 85) d_X5_read_85 fl_X5_46 (fun _ _ _ => rfl) ho4 ?_
    refine wp_iconst (pc := 88) (v := 1) d_X5_read_88 rfl ?_
    obtain ⟨ho28, h⟩ := h
    refine wp_invV (pc := 89) (N := M_X10_is) (As := [vi _]) (rest := []) (r := (cn_10, ct_10, 12)) d_X5_read_89 ml_X5_78 mk_X10_is mv_X10_is h0 ho28 rfl rfl (Nat.le_of_ble_eq_true rfl) ?_
    refine wpM.mono h (fun rr G6 hr => ?_)
    obtain ⟨r5, rfl, h⟩ := hr
    show wp E d M_X5_read 92 [some (vr _), some (vr _), some (vi _), none] [vi _] G6 Q
    refine wp_if_eq (pc := 92) (tgt := 103) d_X5_read_92 (by decide) (fun hc => ?_) (fun hc => ?_)
    · have h := h.1 hc
      refine wp_aload_n (pc := 103) d_X5_read_103 rfl ?_
      obtain ⟨ho7, h⟩ := h
      refine wp_getR (pc := 104) d_X5_read_104 fl_X5_46 (fun _ _ _ => rfl) ho7 ?_
      refine wp_iconst (pc := 107) (v := 3) d_X5_read_107 rfl ?_
      obtain ⟨ho24, h⟩ := h
      refine wp_invV (pc := 108) (N := M_X10_is) (As := [vi _]) (rest := []) (r := (cn_10, ct_10, 12)) d_X5_read_108 ml_X5_78 mk_X10_is mv_X10_is h0 ho24 rfl rfl (Nat.le_of_ble_eq_true rfl) ?_
      refine wpM.mono h (fun rr G9 hr => ?_)
      obtain ⟨r8, rfl, h⟩ := hr
      show wp E d M_X5_read 111 [some (vr _), some (vr _), some (vi _), none] [vi _] G9 Q
      refine wp_if_eq (pc := 111) (tgt := 122) d_X5_read_111 (by decide) (fun hc => ?_) (fun hc => ?_)
      · have h := h.1 hc
        refine wp_aload_n (pc := 122) d_X5_read_122 rfl ?_
        obtain ⟨ho10, h⟩ := h
        refine wp_getR (pc := 123) d_X5_read_123 fl_X5_46 (fun _ _ _ => rfl) ho10 ?_
        refine wp_iconst (pc := 126) (v := 5) d_X5_read_126 rfl ?_
        obtain ⟨ho20, h⟩ := h
        refine wp_invV (pc := 127) (N := M_X10_is) (As := [vi _]) (rest := []) (r := (cn_10, ct_10, 12)) d_X5_read_127 ml_X5_78 mk_X10_is mv_X10_is h0 ho20 rfl rfl (Nat.le_of_ble_eq_true rfl) ?_
        refine wpM.mono h (fun rr G12 hr => ?_)
        obtain ⟨r11, rfl, h⟩ := hr
        show wp E d M_X5_read 130 [some (vr _), some (vr _), some (vi _), none] [vi _] G12 Q
        refine wp_if_eq (pc := 130) (tgt := 141) d_X5_read_130 (by decide) (fun hc => ?_) (fun hc => ?_)
        · have h := h.1 hc
          refine wp_aload_n (pc := 141) d_X5_read_141 rfl ?_
          obtain ⟨ho13, h⟩ := h
          refine wp_getR (pc := 142) d_X5_read_142 fl_X5_46 (fun _ _ _ => rfl) ho13 ?_
          obtain ⟨ho16, h⟩ := h
          refine wp_invV (pc := 145) (N := M_X10_refuse) (As := []) (rest := []) (r := (cn_10, ct_10, 12)) d_X5_read_145 ml_X5_94 mk_X10_refuse mv_X10_refuse h0 ho16 rfl rfl (Nat.le_of_ble_eq_true rfl) ?_
          refine wpM.mono h (fun rr G15 hr => ?_)
          obtain ⟨r14, rfl, h⟩ := hr
          show wp E d M_X5_read 148 [some (vr _), some (vr _), some (vi _), none] [vi _] G15 Q
          refine wp_istore_n (pc := 148) (lv' := [some (vr _), some (vr _), some (vi _), some (vi _)]) d_X5_read_148 (by decide) rfl ?_
          refine wp_sub ?_ h
          exact ⟨rfl, ⟨rfl, ⟨rfl, ⟨rfl, trivial⟩⟩⟩⟩
        · have h := h.2 hc
          refine wp_aload_n (pc := 133) d_X5_read_133 rfl ?_
          obtain ⟨ho19, h⟩ := h
          refine wp_invV (pc := 134) (N := M_X5_aimStatement) (As := []) (rest := []) (r := (cn_5, ct_5, 11)) d_X5_read_134 ml_X5_91 mk_X5_aimStatement mv_X5_aimStatement h0 ho19 rfl rfl (Nat.le_of_ble_eq_true rfl) ?_
          refine wpM.mono h (fun rr G18 hr => ?_)
          obtain ⟨r17, rfl, h⟩ := hr
          show wp E d M_X5_read 137 [some (vr _), some (vr _), some (vi _), none] [vi _] G18 Q
          refine wp_istore_n (pc := 137) (lv' := [some (vr _), some (vr _), some (vi _), some (vi _)]) d_X5_read_137 (by decide) rfl ?_
          refine wp_goto (pc := 138) (tgt := 149) d_X5_read_138 (by decide) ?_
          refine wp_sub ?_ h
          exact ⟨rfl, ⟨rfl, ⟨rfl, ⟨rfl, trivial⟩⟩⟩⟩
      · have h := h.2 hc
        refine wp_aload_n (pc := 114) d_X5_read_114 rfl ?_
        obtain ⟨ho23, h⟩ := h
        refine wp_invV (pc := 115) (N := M_X5_ruleStatement) (As := []) (rest := []) (r := (cn_5, ct_5, 11)) d_X5_read_115 ml_X5_88 mk_X5_ruleStatement mv_X5_ruleStatement h0 ho23 rfl rfl (Nat.le_of_ble_eq_true rfl) ?_
        refine wpM.mono h (fun rr G22 hr => ?_)
        obtain ⟨r21, rfl, h⟩ := hr
        show wp E d M_X5_read 118 [some (vr _), some (vr _), some (vi _), none] [vi _] G22 Q
        refine wp_istore_n (pc := 118) (lv' := [some (vr _), some (vr _), some (vi _), some (vi _)]) d_X5_read_118 (by decide) rfl ?_
        refine wp_goto (pc := 119) (tgt := 149) d_X5_read_119 (by decide) ?_
        refine wp_sub ?_ h
        exact ⟨rfl, ⟨rfl, ⟨rfl, ⟨rfl, trivial⟩⟩⟩⟩
    · have h := h.2 hc
      refine wp_aload_n (pc := 95) d_X5_read_95 rfl ?_
      obtain ⟨ho27, h⟩ := h
      refine wp_invV (pc := 96) (N := M_X5_varStatement) (As := []) (rest := []) (r := (cn_5, ct_5, 11)) d_X5_read_96 ml_X5_85 mk_X5_varStatement mv_X5_varStatement h0 ho27 rfl rfl (Nat.le_of_ble_eq_true rfl) ?_
      refine wpM.mono h (fun rr G26 hr => ?_)
      obtain ⟨r25, rfl, h⟩ := hr
      show wp E d M_X5_read 99 [some (vr _), some (vr _), some (vi _), none] [vi _] G26 Q
      refine wp_istore_n (pc := 99) (lv' := [some (vr _), some (vr _), some (vi _), some (vi _)]) d_X5_read_99 (by decide) rfl ?_
      refine wp_goto (pc := 100) (tgt := 149) d_X5_read_100 (by decide) ?_
      refine wp_sub ?_ h
      exact ⟨rfl, ⟨rfl, ⟨rfl, ⟨rfl, trivial⟩⟩⟩⟩
  · have h := h.2 hc
    refine wp_aload_n (pc := 76) d_X5_read_76 rfl ?_
    obtain ⟨ho31, h⟩ := h
    refine wp_invV (pc := 77) (N := M_X5_factStatement) (As := []) (rest := []) (r := (cn_5, ct_5, 11)) d_X5_read_77 ml_X5_82 mk_X5_factStatement mv_X5_factStatement h0 ho31 rfl rfl (Nat.le_of_ble_eq_true rfl) ?_
    refine wpM.mono h (fun rr G30 hr => ?_)
    obtain ⟨r29, rfl, h⟩ := hr
    show wp E d M_X5_read 80 [some (vr _), some (vr _), some (vi _), none] [vi _] G30 Q
    refine wp_istore_n (pc := 80) (lv' := [some (vr _), some (vr _), some (vi _), some (vi _)]) d_X5_read_80 (by decide) rfl ?_
    refine wp_goto (pc := 81) (tgt := 149) d_X5_read_81 (by decide) ?_
    refine wp_sub ?_ h
    exact ⟨rfl, ⟨rfl, ⟨rfl, ⟨rfl, trivial⟩⟩⟩⟩
theorem v_X5_read_149 {E : EE} {d : Nat} {Q : Option AV → AH → Prop} {x0 : Nat} {x1 : Nat} {x2 : Int32} {x3 : Int32} {G : AH} (h : (¬ x3 = 0 → wp E d M_X5_read 35 [some (vr x0), some (vr x1), some (vi (x2 + 1)), none] [] G Q) ∧ (x3 = 0 → Q (some (vi 0)) G)) : wp E d M_X5_read 149 [some (vr x0), some (vr x1), some (vi x2), some (vi x3)] [] G Q := by
  refine wp_iload_n (pc := 149) d_X5_read_149 rfl ?_
  refine wp_if_ne (pc := 150) (tgt := 155) d_X5_read_150 (by decide) (fun hc => ?_) (fun hc => ?_)
  · have h := h.1 hc
    refine wp_iinc (pc := 155) (v := 1) (lv' := [some (vr _), some (vr _), some (vi _), some (vi _)]) d_X5_read_155 (by decide) rfl rfl rfl ?_
    refine wp_goto (pc := 158) (tgt := 35) d_X5_read_158 (by decide) ?_
    refine wp_sub ?_ h
    exact ⟨rfl, ⟨rfl, ⟨rfl, trivial⟩⟩⟩
  · have h := h.2 hc
    refine wp_iconst (pc := 153) (v := 0) d_X5_read_153 rfl ?_
    exact wp_zret (pc := 154) d_X5_read_154 rfl rfl h
theorem d_X5_isWhole_0 : decode prog_7_method_3_code 0 = .ok (.aload_n 0, 1) := by decide +kernel
theorem d_X5_isWhole_1 : decode prog_7_method_3_code 1 = .ok (.getfield 9, 3) := by decide +kernel
theorem d_X5_isWhole_4 : decode prog_7_method_3_code 4 = .ok (.getfield 97, 3) := by decide +kernel
theorem d_X5_isWhole_7 : decode prog_7_method_3_code 7 = .ok (.getfield 101, 3) := by decide +kernel
theorem d_X5_isWhole_10 : decode prog_7_method_3_code 10 = .ok (.i2l, 1) := by decide +kernel
theorem d_X5_isWhole_11 : decode prog_7_method_3_code 11 = .ok (.aload_n 0, 1) := by decide +kernel
theorem d_X5_isWhole_12 : decode prog_7_method_3_code 12 = .ok (.getfield 46, 3) := by decide +kernel
theorem d_X5_isWhole_15 : decode prog_7_method_3_code 15 = .ok (.getfield 106, 3) := by decide +kernel
theorem d_X5_isWhole_18 : decode prog_7_method_3_code 18 = .ok (.i2l, 1) := by decide +kernel
theorem d_X5_isWhole_19 : decode prog_7_method_3_code 19 = .ok (.lmul, 1) := by decide +kernel
theorem d_X5_isWhole_20 : decode prog_7_method_3_code 20 = .ok (.lstore_n 1, 1) := by decide +kernel
theorem d_X5_isWhole_21 : decode prog_7_method_3_code 21 = .ok (.aload_n 0, 1) := by decide +kernel
theorem d_X5_isWhole_22 : decode prog_7_method_3_code 22 = .ok (.getfield 9, 3) := by decide +kernel
theorem d_X5_isWhole_25 : decode prog_7_method_3_code 25 = .ok (.getfield 97, 3) := by decide +kernel
theorem d_X5_isWhole_28 : decode prog_7_method_3_code 28 = .ok (.getfield 109, 3) := by decide +kernel
theorem d_X5_isWhole_31 : decode prog_7_method_3_code 31 = .ok (.ifCond .le 13, 3) := by decide +kernel
theorem d_X5_isWhole_34 : decode prog_7_method_3_code 34 = .ok (.lload_n 1, 1) := by decide +kernel
theorem d_X5_isWhole_35 : decode prog_7_method_3_code 35 = .ok (.ldc2_w 112, 3) := by decide +kernel
theorem d_X5_isWhole_38 : decode prog_7_method_3_code 38 = .ok (.lcmp, 1) := by decide +kernel
theorem d_X5_isWhole_39 : decode prog_7_method_3_code 39 = .ok (.ifCond .gt 5, 3) := by decide +kernel
theorem d_X5_isWhole_42 : decode prog_7_method_3_code 42 = .ok (.iconst 1, 1) := by decide +kernel
theorem d_X5_isWhole_43 : decode prog_7_method_3_code 43 = .ok (.ireturn, 1) := by decide +kernel
theorem d_X5_isWhole_44 : decode prog_7_method_3_code 44 = .ok (.aload_n 0, 1) := by decide +kernel
theorem d_X5_isWhole_45 : decode prog_7_method_3_code 45 = .ok (.getfield 46, 3) := by decide +kernel
theorem d_X5_isWhole_48 : decode prog_7_method_3_code 48 = .ok (.bipush 6, 2) := by decide +kernel
theorem d_X5_isWhole_50 : decode prog_7_method_3_code 50 = .ok (.aload_n 0, 1) := by decide +kernel
theorem d_X5_isWhole_51 : decode prog_7_method_3_code 51 = .ok (.getfield 46, 3) := by decide +kernel
theorem d_X5_isWhole_54 : decode prog_7_method_3_code 54 = .ok (.getfield 114, 3) := by decide +kernel
theorem d_X5_isWhole_57 : decode prog_7_method_3_code 57 = .ok (.invokevirtual 117, 3) := by decide +kernel
theorem d_X5_isWhole_60 : decode prog_7_method_3_code 60 = .ok (.ireturn, 1) := by decide +kernel
theorem v_X5_isWhole_0 {E : EE} {d : Nat} {Q : Option AV → AH → Prop} {x0 : Nat} {G : AH} (h : isO E G x0 5 ∧ (isO E G (gR G x0 1) 3 ∧ (isO E G (gR G (gR G x0 1) 4) 7 ∧ (isO E G (gR G x0 0) 10 ∧ (((gI G (gR G (gR G x0 1) 4) 0) ≤ 0 → wp E d M_X5_isWhole 44 [some (vr x0), some (vj ((Int32.toInt64 (gI G (gR G (gR G x0 1) 4) 1)) * (Int32.toInt64 (gI G (gR G x0 0) 5)))), none] [] G Q) ∧ (¬ ((gI G (gR G (gR G x0 1) 4) 0) ≤ 0) → (20000000 < ((Int32.toInt64 (gI G (gR G (gR G x0 1) 4) 1)) * (Int32.toInt64 (gI G (gR G x0 0) 5))) → wp E d M_X5_isWhole 44 [some (vr x0), some (vj ((Int32.toInt64 (gI G (gR G (gR G x0 1) 4) 1)) * (Int32.toInt64 (gI G (gR G x0 0) 5)))), none] [] G Q) ∧ (¬ (20000000 < ((Int32.toInt64 (gI G (gR G (gR G x0 1) 4) 1)) * (Int32.toInt64 (gI G (gR G x0 0) 5)))) → Q (some (vi 1)) G))))))) : wp E d M_X5_isWhole 0 [some (vr x0), none, none] [] G Q := by
  refine wp_aload_n (pc := 0) d_X5_isWhole_0 rfl ?_
  obtain ⟨ho1, h⟩ := h
  refine wp_getR (pc := 1) d_X5_isWhole_1 fl_X5_9 (fun _ _ _ => rfl) ho1 ?_
  obtain ⟨ho2, h⟩ := h
  refine wp_getR (pc := 4) d_X5_isWhole_4 fl_X5_97 (fun _ _ _ => rfl) ho2 ?_
  obtain ⟨ho3, h⟩ := h
  refine wp_getI (pc := 7) d_X5_isWhole_7 fl_X5_101 (fun _ _ _ => rfl) ho3 ?_
  refine wp_i2l (pc := 10) d_X5_isWhole_10 ?_
  refine wp_aload_n (pc := 11) d_X5_isWhole_11 rfl ?_
  refine wp_getR (pc := 12) d_X5_isWhole_12 fl_X5_46 (fun _ _ _ => rfl) ho1 ?_
  obtain ⟨ho4, h⟩ := h
  refine wp_getI (pc := 15) d_X5_isWhole_15 fl_X5_106 (fun _ _ _ => rfl) ho4 ?_
  refine wp_i2l (pc := 18) d_X5_isWhole_18 ?_
  refine wp_lmul (pc := 19) d_X5_isWhole_19 ?_
  refine wp_lstore_n (pc := 20) (lv' := [some (vr _), some (vj _), none]) d_X5_isWhole_20 (by decide) rfl ?_
  refine wp_aload_n (pc := 21) d_X5_isWhole_21 rfl ?_
  refine wp_getR (pc := 22) d_X5_isWhole_22 fl_X5_9 (fun _ _ _ => rfl) ho1 ?_
  refine wp_getR (pc := 25) d_X5_isWhole_25 fl_X5_97 (fun _ _ _ => rfl) ho2 ?_
  refine wp_getI (pc := 28) d_X5_isWhole_28 fl_X5_109 (fun _ _ _ => rfl) ho3 ?_
  refine wp_if_le (pc := 31) (tgt := 44) d_X5_isWhole_31 (by decide) (fun hc => ?_) (fun hc => ?_)
  · have h := h.1 hc
    refine wp_sub ?_ h
    exact ⟨rfl, ⟨rfl, trivial⟩⟩
  · have h := h.2 hc
    refine wp_lload_n (pc := 34) d_X5_isWhole_34 rfl ?_
    refine wp_ldc2 (pc := 35) (v := 20000000) d_X5_isWhole_35 cj_X5_112 ?_
    refine wp_lcmp_gt (pc := 38) (tgt := 44) d_X5_isWhole_38 d_X5_isWhole_39 (by decide) (fun hc => ?_) (fun hc => ?_)
    · have h := h.1 hc
      refine wp_sub ?_ h
      exact ⟨rfl, ⟨rfl, trivial⟩⟩
    · have h := h.2 hc
      refine wp_iconst (pc := 42) (v := 1) d_X5_isWhole_42 rfl ?_
      exact wp_zret (pc := 43) d_X5_isWhole_43 rfl rfl h
theorem v_X5_isWhole_44 {E : EE} {d : Nat} {Q : Option AV → AH → Prop} {x0 : Nat} {x1 : Int64} {G : AH} (h0 : 0 < d) (h : isO E G x0 5 ∧ (isO E G (gR G x0 0) 10 ∧ (wpI E (d - 1) M_X10_fail [vr (gR G x0 0), vi 6, vi (gI G (gR G x0 0) 8)] G (fun r3 G4 => okI .boolean r3 ∧ Q (some (vi r3)) G4)))) : wp E d M_X5_isWhole 44 [some (vr x0), some (vj x1), none] [] G Q := by
  refine wp_aload_n (pc := 44) d_X5_isWhole_44 rfl ?_
  obtain ⟨ho1, h⟩ := h
  refine wp_getR (pc := 45) d_X5_isWhole_45 fl_X5_46 (fun _ _ _ => rfl) ho1 ?_
  refine wp_bipush (pc := 48) (v := 6) d_X5_isWhole_48 rfl ?_
  refine wp_aload_n (pc := 50) d_X5_isWhole_50 rfl ?_
  refine wp_getR (pc := 51) d_X5_isWhole_51 fl_X5_46 (fun _ _ _ => rfl) ho1 ?_
  obtain ⟨ho2, h⟩ := h
  refine wp_getI (pc := 54) d_X5_isWhole_54 fl_X5_114 (fun _ _ _ => rfl) ho2 ?_
  refine wp_invV (pc := 57) (N := M_X10_fail) (As := [vi _, vi _]) (rest := []) (r := (cn_10, ct_10, 12)) d_X5_isWhole_57 ml_X5_117 mk_X10_fail mv_X10_fail h0 ho2 rfl rfl (Nat.le_of_ble_eq_true rfl) ?_
  refine wpM.mono h (fun rr G4 hr => ?_)
  obtain ⟨r3, rfl, h⟩ := hr
  show wp E d M_X5_isWhole 60 [some (vr _), some (vj _), none] [vi _] G4 Q
  exact wp_zret (pc := 60) d_X5_isWhole_60 rfl h.1.1 h.2
theorem d_X5_factStatement_0 : decode prog_7_method_4_code 0 = .ok (.aload_n 0, 1) := by decide +kernel
theorem d_X5_factStatement_1 : decode prog_7_method_4_code 1 = .ok (.iconst 0, 1) := by decide +kernel
theorem d_X5_factStatement_2 : decode prog_7_method_4_code 2 = .ok (.bipush 16, 2) := by decide +kernel
theorem d_X5_factStatement_4 : decode prog_7_method_4_code 4 = .ok (.invokevirtual 121, 3) := by decide +kernel
theorem d_X5_factStatement_7 : decode prog_7_method_4_code 7 = .ok (.ifCond .eq 15, 3) := by decide +kernel
theorem d_X5_factStatement_10 : decode prog_7_method_4_code 10 = .ok (.aload_n 0, 1) := by decide +kernel
theorem d_X5_factStatement_11 : decode prog_7_method_4_code 11 = .ok (.getfield 46, 3) := by decide +kernel
theorem d_X5_factStatement_14 : decode prog_7_method_4_code 14 = .ok (.bipush 61, 2) := by decide +kernel
theorem d_X5_factStatement_16 : decode prog_7_method_4_code 16 = .ok (.invokevirtual 124, 3) := by decide +kernel
theorem d_X5_factStatement_19 : decode prog_7_method_4_code 19 = .ok (.ifCond .ne 5, 3) := by decide +kernel
theorem d_X5_factStatement_22 : decode prog_7_method_4_code 22 = .ok (.iconst 0, 1) := by decide +kernel
theorem d_X5_factStatement_23 : decode prog_7_method_4_code 23 = .ok (.ireturn, 1) := by decide +kernel
theorem d_X5_factStatement_24 : decode prog_7_method_4_code 24 = .ok (.aload_n 0, 1) := by decide +kernel
theorem d_X5_factStatement_25 : decode prog_7_method_4_code 25 = .ok (.iconst 1, 1) := by decide +kernel
theorem d_X5_factStatement_26 : decode prog_7_method_4_code 26 = .ok (.iconst 0, 1) := by decide +kernel
theorem d_X5_factStatement_27 : decode prog_7_method_4_code 27 = .ok (.sipush 9999, 3) := by decide +kernel
theorem d_X5_factStatement_30 : decode prog_7_method_4_code 30 = .ok (.invokevirtual 127, 3) := by decide +kernel
theorem d_X5_factStatement_33 : decode prog_7_method_4_code 33 = .ok (.ifCond .eq 15, 3) := by decide +kernel
theorem d_X5_factStatement_36 : decode prog_7_method_4_code 36 = .ok (.aload_n 0, 1) := by decide +kernel
theorem d_X5_factStatement_37 : decode prog_7_method_4_code 37 = .ok (.getfield 46, 3) := by decide +kernel
theorem d_X5_factStatement_40 : decode prog_7_method_4_code 40 = .ok (.bipush 59, 2) := by decide +kernel
theorem d_X5_factStatement_42 : decode prog_7_method_4_code 42 = .ok (.invokevirtual 124, 3) := by decide +kernel
theorem d_X5_factStatement_45 : decode prog_7_method_4_code 45 = .ok (.ifCond .ne 5, 3) := by decide +kernel
theorem d_X5_factStatement_48 : decode prog_7_method_4_code 48 = .ok (.iconst 0, 1) := by decide +kernel
theorem d_X5_factStatement_49 : decode prog_7_method_4_code 49 = .ok (.ireturn, 1) := by decide +kernel
theorem d_X5_factStatement_50 : decode prog_7_method_4_code 50 = .ok (.aload_n 0, 1) := by decide +kernel
theorem d_X5_factStatement_51 : decode prog_7_method_4_code 51 = .ok (.getfield 9, 3) := by decide +kernel
theorem d_X5_factStatement_54 : decode prog_7_method_4_code 54 = .ok (.getfield 131, 3) := by decide +kernel
theorem d_X5_factStatement_57 : decode prog_7_method_4_code 57 = .ok (.aload_n 0, 1) := by decide +kernel
theorem d_X5_factStatement_58 : decode prog_7_method_4_code 58 = .ok (.getfield 9, 3) := by decide +kernel
theorem d_X5_factStatement_61 : decode prog_7_method_4_code 61 = .ok (.getfield 134, 3) := by decide +kernel
theorem d_X5_factStatement_64 : decode prog_7_method_4_code 64 = .ok (.iconst 0, 1) := by decide +kernel
theorem d_X5_factStatement_65 : decode prog_7_method_4_code 65 = .ok (.iaload, 1) := by decide +kernel
theorem d_X5_factStatement_66 : decode prog_7_method_4_code 66 = .ok (.aload_n 0, 1) := by decide +kernel
theorem d_X5_factStatement_67 : decode prog_7_method_4_code 67 = .ok (.getfield 27, 3) := by decide +kernel
theorem d_X5_factStatement_70 : decode prog_7_method_4_code 70 = .ok (.iastore, 1) := by decide +kernel
theorem d_X5_factStatement_71 : decode prog_7_method_4_code 71 = .ok (.aload_n 0, 1) := by decide +kernel
theorem d_X5_factStatement_72 : decode prog_7_method_4_code 72 = .ok (.getfield 9, 3) := by decide +kernel
theorem d_X5_factStatement_75 : decode prog_7_method_4_code 75 = .ok (.iconst 0, 1) := by decide +kernel
theorem d_X5_factStatement_76 : decode prog_7_method_4_code 76 = .ok (.aload_n 0, 1) := by decide +kernel
theorem d_X5_factStatement_77 : decode prog_7_method_4_code 77 = .ok (.getfield 19, 3) := by decide +kernel
theorem d_X5_factStatement_80 : decode prog_7_method_4_code 80 = .ok (.invokevirtual 137, 3) := by decide +kernel
theorem d_X5_factStatement_83 : decode prog_7_method_4_code 83 = .ok (.iconst 1, 1) := by decide +kernel
theorem d_X5_factStatement_84 : decode prog_7_method_4_code 84 = .ok (.ireturn, 1) := by decide +kernel
theorem v_X5_factStatement_0 {E : EE} {d : Nat} {Q : Option AV → AH → Prop} {x0 : Nat} {G : AH} (h0 : 0 < d) (h : isO E G x0 5 ∧ (wpI E (d - 1) M_X5_newName [vr x0, vi 0, vi 16] G (fun r1 G2 => (r1 = 0 → Q (some (vi 0)) G2) ∧ (¬ (r1 = 0) → isO E G2 x0 5 ∧ (isO E G2 (gR G2 x0 0) 10 ∧ (wpI E (d - 1) M_X10_accept [vr (gR G2 x0 0), vi 61] G2 (fun r4 G5 => (¬ r4 = 0 → isO E G5 x0 5 ∧ (wpI E (d - 1) M_X5_numeral [vr x0, vi 1, vi 0, vi 9999] G5 (fun r6 G7 => (r6 = 0 → Q (some (vi 0)) G7) ∧ (¬ (r6 = 0) → isO E G7 x0 5 ∧ (isO E G7 (gR G7 x0 0) 10 ∧ (wpI E (d - 1) M_X10_accept [vr (gR G7 x0 0), vi 59] G7 (fun r9 G10 => (¬ r9 = 0 → isO E G10 x0 5 ∧ (isO E G10 (gR G10 x0 1) 3 ∧ (isO E G10 (gR G10 (gR G10 x0 1) 3) 14 ∧ (vp_in 0 (gN G10 (gR G10 (gR G10 x0 1) 3)) ∧ (isO E G10 (gR G10 (gR G10 x0 1) 7) 14 ∧ (vp_in (gI G10 (gR G10 (gR G10 x0 1) 3) (Int32.toNatClampNeg 0)) (gN G10 (gR G10 (gR G10 x0 1) 7)) ∧ (wpV E (d - 1) M_X3_tell [vr (gR G10 x0 1), vi 0, vj (gJ G10 x0 3)] (sI G10 (gR G10 (gR G10 x0 1) 7) (Int32.toNatClampNeg (gI G10 (gR G10 (gR G10 x0 1) 3) (Int32.toNatClampNeg 0))) (gI G10 x0 5)) (fun G17 => Q (some (vi 1)) G17)))))))) ∧ (r9 = 0 → Q (some (vi 0)) G10)))))))) ∧ (r4 = 0 → Q (some (vi 0)) G5)))))))) : wp E d M_X5_factStatement 0 [some (vr x0)] [] G Q := by
  refine wp_aload_n (pc := 0) d_X5_factStatement_0 rfl ?_
  refine wp_iconst (pc := 1) (v := 0) d_X5_factStatement_1 rfl ?_
  refine wp_bipush (pc := 2) (v := 16) d_X5_factStatement_2 rfl ?_
  obtain ⟨ho21, h⟩ := h
  refine wp_invV (pc := 4) (N := M_X5_newName) (As := [vi _, vi _]) (rest := []) (r := (cn_5, ct_5, 11)) d_X5_factStatement_4 ml_X5_121 mk_X5_newName mv_X5_newName h0 ho21 rfl rfl (Nat.le_of_ble_eq_true rfl) ?_
  refine wpM.mono h (fun rr G2 hr => ?_)
  obtain ⟨r1, rfl, h⟩ := hr
  show wp E d M_X5_factStatement 7 [some (vr _)] [vi _] G2 Q
  refine wp_if_eq (pc := 7) (tgt := 22) d_X5_factStatement_7 (by decide) (fun hc => ?_) (fun hc => ?_)
  · have h := h.1 hc
    refine wp_iconst (pc := 22) (v := 0) d_X5_factStatement_22 rfl ?_
    exact wp_zret (pc := 23) d_X5_factStatement_23 rfl rfl h
  · have h := h.2 hc
    refine wp_aload_n (pc := 10) d_X5_factStatement_10 rfl ?_
    obtain ⟨ho3, h⟩ := h
    refine wp_getR (pc := 11) d_X5_factStatement_11 fl_X5_46 (fun _ _ _ => rfl) ho3 ?_
    refine wp_bipush (pc := 14) (v := 61) d_X5_factStatement_14 rfl ?_
    obtain ⟨ho20, h⟩ := h
    refine wp_invV (pc := 16) (N := M_X10_accept) (As := [vi _]) (rest := []) (r := (cn_10, ct_10, 12)) d_X5_factStatement_16 ml_X5_124 mk_X10_accept mv_X10_accept h0 ho20 rfl rfl (Nat.le_of_ble_eq_true rfl) ?_
    refine wpM.mono h (fun rr G5 hr => ?_)
    obtain ⟨r4, rfl, h⟩ := hr
    show wp E d M_X5_factStatement 19 [some (vr _)] [vi _] G5 Q
    refine wp_if_ne (pc := 19) (tgt := 24) d_X5_factStatement_19 (by decide) (fun hc => ?_) (fun hc => ?_)
    · have h := h.1 hc
      refine wp_aload_n (pc := 24) d_X5_factStatement_24 rfl ?_
      refine wp_iconst (pc := 25) (v := 1) d_X5_factStatement_25 rfl ?_
      refine wp_iconst (pc := 26) (v := 0) d_X5_factStatement_26 rfl ?_
      refine wp_sipush (pc := 27) (v := 9999) d_X5_factStatement_27 rfl ?_
      obtain ⟨ho19, h⟩ := h
      refine wp_invV (pc := 30) (N := M_X5_numeral) (As := [vi _, vi _, vi _]) (rest := []) (r := (cn_5, ct_5, 11)) d_X5_factStatement_30 ml_X5_127 mk_X5_numeral mv_X5_numeral h0 ho19 rfl rfl (Nat.le_of_ble_eq_true rfl) ?_
      refine wpM.mono h (fun rr G7 hr => ?_)
      obtain ⟨r6, rfl, h⟩ := hr
      show wp E d M_X5_factStatement 33 [some (vr _)] [vi _] G7 Q
      refine wp_if_eq (pc := 33) (tgt := 48) d_X5_factStatement_33 (by decide) (fun hc => ?_) (fun hc => ?_)
      · have h := h.1 hc
        refine wp_iconst (pc := 48) (v := 0) d_X5_factStatement_48 rfl ?_
        exact wp_zret (pc := 49) d_X5_factStatement_49 rfl rfl h
      · have h := h.2 hc
        refine wp_aload_n (pc := 36) d_X5_factStatement_36 rfl ?_
        obtain ⟨ho8, h⟩ := h
        refine wp_getR (pc := 37) d_X5_factStatement_37 fl_X5_46 (fun _ _ _ => rfl) ho8 ?_
        refine wp_bipush (pc := 40) (v := 59) d_X5_factStatement_40 rfl ?_
        obtain ⟨ho18, h⟩ := h
        refine wp_invV (pc := 42) (N := M_X10_accept) (As := [vi _]) (rest := []) (r := (cn_10, ct_10, 12)) d_X5_factStatement_42 ml_X5_124 mk_X10_accept mv_X10_accept h0 ho18 rfl rfl (Nat.le_of_ble_eq_true rfl) ?_
        refine wpM.mono h (fun rr G10 hr => ?_)
        obtain ⟨r9, rfl, h⟩ := hr
        show wp E d M_X5_factStatement 45 [some (vr _)] [vi _] G10 Q
        refine wp_if_ne (pc := 45) (tgt := 50) d_X5_factStatement_45 (by decide) (fun hc => ?_) (fun hc => ?_)
        · have h := h.1 hc
          refine wp_aload_n (pc := 50) d_X5_factStatement_50 rfl ?_
          obtain ⟨ho11, h⟩ := h
          refine wp_getR (pc := 51) d_X5_factStatement_51 fl_X5_9 (fun _ _ _ => rfl) ho11 ?_
          obtain ⟨ho12, h⟩ := h
          refine wp_getR (pc := 54) d_X5_factStatement_54 fl_X5_131 (fun _ _ _ => rfl) ho12 ?_
          refine wp_aload_n (pc := 57) d_X5_factStatement_57 rfl ?_
          refine wp_getR (pc := 58) d_X5_factStatement_58 fl_X5_9 (fun _ _ _ => rfl) ho11 ?_
          refine wp_getR (pc := 61) d_X5_factStatement_61 fl_X5_134 (fun _ _ _ => rfl) ho12 ?_
          refine wp_iconst (pc := 64) (v := 0) d_X5_factStatement_64 rfl ?_
          obtain ⟨ho13, h⟩ := h
          obtain ⟨hi14, h⟩ := h
          refine wp_iald (pc := 65) d_X5_factStatement_65 ho13 hi14 ?_
          refine wp_aload_n (pc := 66) d_X5_factStatement_66 rfl ?_
          refine wp_getI (pc := 67) d_X5_factStatement_67 fl_X5_27 (fun _ _ _ => rfl) ho11 ?_
          obtain ⟨ho15, h⟩ := h
          obtain ⟨hi16, h⟩ := h
          refine wp_iast (pc := 70) d_X5_factStatement_70 ho15 hi16 ?_
          refine wp_aload_n (pc := 71) d_X5_factStatement_71 rfl ?_
          refine wp_getR (pc := 72) d_X5_factStatement_72 fl_X5_9 (fun _ _ _ => rfl) ho11 ?_
          show wp E d M_X5_factStatement 75 [some (vr x0)] [vr (gR G10 x0 1)] (sI G10 (gR G10 (gR G10 x0 1) 7) (Int32.toNatClampNeg (gI G10 (gR G10 (gR G10 x0 1) 3) (Int32.toNatClampNeg 0))) (gI G10 x0 5)) Q
          refine wp_iconst (pc := 75) (v := 0) d_X5_factStatement_75 rfl ?_
          refine wp_aload_n (pc := 76) d_X5_factStatement_76 rfl ?_
          refine wp_getJ (pc := 77) d_X5_factStatement_77 fl_X5_19 (fun _ _ _ => rfl) ho11 ?_
          show wp E d M_X5_factStatement 80 [some (vr x0)] [vj (gJ G10 x0 3), vi 0, vr (gR G10 x0 1)] (sI G10 (gR G10 (gR G10 x0 1) 7) (Int32.toNatClampNeg (gI G10 (gR G10 (gR G10 x0 1) 3) (Int32.toNatClampNeg 0))) (gI G10 x0 5)) Q
          refine wp_invV (pc := 80) (N := M_X3_tell) (As := [vi _, vj _]) (rest := []) (r := (cn_3, ct_3, 19)) d_X5_factStatement_80 ml_X5_137 mk_X3_tell mv_X3_tell h0 ho12 rfl rfl (Nat.le_of_ble_eq_true rfl) ?_
          refine wpM.mono h (fun rr G17 hr => ?_)
          obtain ⟨rfl, h⟩ := hr
          show wp E d M_X5_factStatement 83 [some (vr _)] [] G17 Q
          refine wp_iconst (pc := 83) (v := 1) d_X5_factStatement_83 rfl ?_
          exact wp_zret (pc := 84) d_X5_factStatement_84 rfl rfl h
        · have h := h.2 hc
          refine wp_iconst (pc := 48) (v := 0) d_X5_factStatement_48 rfl ?_
          exact wp_zret (pc := 49) d_X5_factStatement_49 rfl rfl h
    · have h := h.2 hc
      refine wp_iconst (pc := 22) (v := 0) d_X5_factStatement_22 rfl ?_
      exact wp_zret (pc := 23) d_X5_factStatement_23 rfl rfl h
theorem d_X5_newName_0 : decode prog_7_method_8_code 0 = .ok (.aload_n 0, 1) := by decide +kernel
theorem d_X5_newName_1 : decode prog_7_method_8_code 1 = .ok (.getfield 46, 3) := by decide +kernel
theorem d_X5_newName_4 : decode prog_7_method_8_code 4 = .ok (.invokevirtual 180, 3) := by decide +kernel
theorem d_X5_newName_7 : decode prog_7_method_8_code 7 = .ok (.aload_n 0, 1) := by decide +kernel
theorem d_X5_newName_8 : decode prog_7_method_8_code 8 = .ok (.getfield 46, 3) := by decide +kernel
theorem d_X5_newName_11 : decode prog_7_method_8_code 11 = .ok (.getfield 71, 3) := by decide +kernel
theorem d_X5_newName_14 : decode prog_7_method_8_code 14 = .ok (.iconst 2, 1) := by decide +kernel
theorem d_X5_newName_15 : decode prog_7_method_8_code 15 = .ok (.if_icmp .eq 11, 3) := by decide +kernel
theorem d_X5_newName_18 : decode prog_7_method_8_code 18 = .ok (.aload_n 0, 1) := by decide +kernel
theorem d_X5_newName_19 : decode prog_7_method_8_code 19 = .ok (.getfield 46, 3) := by decide +kernel
theorem d_X5_newName_22 : decode prog_7_method_8_code 22 = .ok (.invokevirtual 94, 3) := by decide +kernel
theorem d_X5_newName_25 : decode prog_7_method_8_code 25 = .ok (.ireturn, 1) := by decide +kernel
theorem d_X5_newName_26 : decode prog_7_method_8_code 26 = .ok (.aload_n 0, 1) := by decide +kernel
theorem d_X5_newName_27 : decode prog_7_method_8_code 27 = .ok (.aload_n 0, 1) := by decide +kernel
theorem d_X5_newName_28 : decode prog_7_method_8_code 28 = .ok (.getfield 46, 3) := by decide +kernel
theorem d_X5_newName_31 : decode prog_7_method_8_code 31 = .ok (.getfield 183, 3) := by decide +kernel
theorem d_X5_newName_34 : decode prog_7_method_8_code 34 = .ok (.putfield 19, 3) := by decide +kernel
theorem d_X5_newName_37 : decode prog_7_method_8_code 37 = .ok (.aload_n 0, 1) := by decide +kernel
theorem d_X5_newName_38 : decode prog_7_method_8_code 38 = .ok (.aload_n 0, 1) := by decide +kernel
theorem d_X5_newName_39 : decode prog_7_method_8_code 39 = .ok (.getfield 46, 3) := by decide +kernel
theorem d_X5_newName_42 : decode prog_7_method_8_code 42 = .ok (.getfield 114, 3) := by decide +kernel
theorem d_X5_newName_45 : decode prog_7_method_8_code 45 = .ok (.putfield 23, 3) := by decide +kernel
theorem d_X5_newName_48 : decode prog_7_method_8_code 48 = .ok (.aload_n 0, 1) := by decide +kernel
theorem d_X5_newName_49 : decode prog_7_method_8_code 49 = .ok (.getfield 9, 3) := by decide +kernel
theorem d_X5_newName_52 : decode prog_7_method_8_code 52 = .ok (.aload_n 0, 1) := by decide +kernel
theorem d_X5_newName_53 : decode prog_7_method_8_code 53 = .ok (.getfield 19, 3) := by decide +kernel
theorem d_X5_newName_56 : decode prog_7_method_8_code 56 = .ok (.invokevirtual 186, 3) := by decide +kernel
theorem d_X5_newName_59 : decode prog_7_method_8_code 59 = .ok (.ifCond .lt 16, 3) := by decide +kernel
theorem d_X5_newName_62 : decode prog_7_method_8_code 62 = .ok (.aload_n 0, 1) := by decide +kernel
theorem d_X5_newName_63 : decode prog_7_method_8_code 63 = .ok (.getfield 46, 3) := by decide +kernel
theorem d_X5_newName_66 : decode prog_7_method_8_code 66 = .ok (.iconst 3, 1) := by decide +kernel
theorem d_X5_newName_67 : decode prog_7_method_8_code 67 = .ok (.aload_n 0, 1) := by decide +kernel
theorem d_X5_newName_68 : decode prog_7_method_8_code 68 = .ok (.getfield 23, 3) := by decide +kernel
theorem d_X5_newName_71 : decode prog_7_method_8_code 71 = .ok (.invokevirtual 117, 3) := by decide +kernel
theorem d_X5_newName_74 : decode prog_7_method_8_code 74 = .ok (.ireturn, 1) := by decide +kernel
theorem d_X5_newName_75 : decode prog_7_method_8_code 75 = .ok (.aload_n 0, 1) := by decide +kernel
theorem d_X5_newName_76 : decode prog_7_method_8_code 76 = .ok (.getfield 9, 3) := by decide +kernel
theorem d_X5_newName_79 : decode prog_7_method_8_code 79 = .ok (.getfield 134, 3) := by decide +kernel
theorem d_X5_newName_82 : decode prog_7_method_8_code 82 = .ok (.iload_n 1, 1) := by decide +kernel
theorem d_X5_newName_83 : decode prog_7_method_8_code 83 = .ok (.iaload, 1) := by decide +kernel
theorem d_X5_newName_84 : decode prog_7_method_8_code 84 = .ok (.iload_n 2, 1) := by decide +kernel
theorem d_X5_newName_85 : decode prog_7_method_8_code 85 = .ok (.if_icmp .lt 17, 3) := by decide +kernel
theorem d_X5_newName_88 : decode prog_7_method_8_code 88 = .ok (.aload_n 0, 1) := by decide +kernel
theorem d_X5_newName_89 : decode prog_7_method_8_code 89 = .ok (.getfield 46, 3) := by decide +kernel
theorem d_X5_newName_92 : decode prog_7_method_8_code 92 = .ok (.bipush 6, 2) := by decide +kernel
theorem d_X5_newName_94 : decode prog_7_method_8_code 94 = .ok (.aload_n 0, 1) := by decide +kernel
theorem d_X5_newName_95 : decode prog_7_method_8_code 95 = .ok (.getfield 23, 3) := by decide +kernel
theorem d_X5_newName_98 : decode prog_7_method_8_code 98 = .ok (.invokevirtual 117, 3) := by decide +kernel
theorem d_X5_newName_101 : decode prog_7_method_8_code 101 = .ok (.ireturn, 1) := by decide +kernel
theorem d_X5_newName_102 : decode prog_7_method_8_code 102 = .ok (.aload_n 0, 1) := by decide +kernel
theorem d_X5_newName_103 : decode prog_7_method_8_code 103 = .ok (.getfield 46, 3) := by decide +kernel
theorem d_X5_newName_106 : decode prog_7_method_8_code 106 = .ok (.invokevirtual 180, 3) := by decide +kernel
theorem d_X5_newName_109 : decode prog_7_method_8_code 109 = .ok (.iconst 1, 1) := by decide +kernel
theorem d_X5_newName_110 : decode prog_7_method_8_code 110 = .ok (.ireturn, 1) := by decide +kernel
theorem v_X5_newName_0 {E : EE} {d : Nat} {Q : Option AV → AH → Prop} {x0 : Nat} {x1 : Int32} {x2 : Int32} {G : AH} (h0 : 0 < d) (h : isO E G x0 5 ∧ (isO E G (gR G x0 0) 10 ∧ (wpV E (d - 1) M_X10_step [vr (gR G x0 0)] G (fun G2 => isO E G2 x0 5 ∧ (isO E G2 (gR G2 x0 0) 10 ∧ (((gI G2 (gR G2 x0 0) 6) = 2 → ∀ G5 : AH, G5 = sJ G2 x0 3 (gJ G2 (gR G2 x0 0) 7) → isO E G5 (gR G5 x0 0) 10 ∧ (∀ G8 : AH, G8 = sI G5 x0 4 (gI G5 (gR G5 x0 0) 8) → isO E G8 (gR G8 x0 1) 3 ∧ (wpI E (d - 1) M_X3_lookUp [vr (gR G8 x0 1), vj (gJ G8 x0 3)] G8 (fun r10 G11 => (r10 < 0 → isO E G11 x0 5 ∧ (isO E G11 (gR G11 x0 1) 3 ∧ (isO E G11 (gR G11 (gR G11 x0 1) 3) 14 ∧ (vp_in x1 (gN G11 (gR G11 (gR G11 x0 1) 3)) ∧ (((gI G11 (gR G11 (gR G11 x0 1) 3) (Int32.toNatClampNeg x1)) < x2 → isO E G11 (gR G11 x0 0) 10 ∧ (wpV E (d - 1) M_X10_step [vr (gR G11 x0 0)] G11 (fun G16 => Q (some (vi 1)) G16))) ∧ (¬ ((gI G11 (gR G11 (gR G11 x0 1) 3) (Int32.toNatClampNeg x1)) < x2) → isO E G11 (gR G11 x0 0) 10 ∧ (wpI E (d - 1) M_X10_fail [vr (gR G11 x0 0), vi 6, vi (gI G11 x0 4)] G11 (fun r18 G19 => okI .boolean r18 ∧ Q (some (vi r18)) G19)))))))) ∧ (¬ (r10 < 0) → isO E G11 x0 5 ∧ (isO E G11 (gR G11 x0 0) 10 ∧ (wpI E (d - 1) M_X10_fail [vr (gR G11 x0 0), vi 3, vi (gI G11 x0 4)] G11 (fun r22 G23 => okI .boolean r22 ∧ Q (some (vi r22)) G23)))))))) ∧ (¬ ((gI G2 (gR G2 x0 0) 6) = 2) → wpI E (d - 1) M_X10_refuse [vr (gR G2 x0 0)] G2 (fun r26 G27 => okI .boolean r26 ∧ Q (some (vi r26)) G27)))))))) : wp E d M_X5_newName 0 [some (vr x0), some (vi x1), some (vi x2)] [] G Q := by
  refine wp_aload_n (pc := 0) d_X5_newName_0 rfl ?_
  obtain ⟨ho1, h⟩ := h
  refine wp_getR (pc := 1) d_X5_newName_1 fl_X5_46 (fun _ _ _ => rfl) ho1 ?_
  obtain ⟨ho28, h⟩ := h
  refine wp_invV (pc := 4) (N := M_X10_step) (As := []) (rest := []) (r := (cn_10, ct_10, 12)) d_X5_newName_4 ml_X5_180 mk_X10_step mv_X10_step h0 ho28 rfl rfl (Nat.le_of_ble_eq_true rfl) ?_
  refine wpM.mono h (fun rr G2 hr => ?_)
  obtain ⟨rfl, h⟩ := hr
  show wp E d M_X5_newName 7 [some (vr _), some (vi _), some (vi _)] [] G2 Q
  refine wp_aload_n (pc := 7) d_X5_newName_7 rfl ?_
  obtain ⟨ho3, h⟩ := h
  refine wp_getR (pc := 8) d_X5_newName_8 fl_X5_46 (fun _ _ _ => rfl) ho3 ?_
  obtain ⟨ho4, h⟩ := h
  refine wp_getI (pc := 11) d_X5_newName_11 fl_X5_71 (fun _ _ _ => rfl) ho4 ?_
  refine wp_iconst (pc := 14) (v := 2) d_X5_newName_14 rfl ?_
  refine wp_icmp_eq (pc := 15) (tgt := 26) d_X5_newName_15 (by decide) (fun hc => ?_) (fun hc => ?_)
  · have h := h.1 hc
    refine wp_aload_n (pc := 26) d_X5_newName_26 rfl ?_
    refine wp_aload_n (pc := 27) d_X5_newName_27 rfl ?_
    refine wp_getR (pc := 28) d_X5_newName_28 fl_X5_46 (fun _ _ _ => rfl) ho3 ?_
    refine wp_getJ (pc := 31) d_X5_newName_31 fl_X5_183 (fun _ _ _ => rfl) ho4 ?_
    refine wp_putJ (pc := 34) d_X5_newName_34 fl_X5_19 (fun _ _ _ => rfl) rfl (Or.inl rfl) ho3 ?_
    refine wp_nm (fun G5 eG5 => ?_)
    have h := h G5 eG5
    have ho6 := isO_sJ eG5 ho3
    refine wp_aload_n (pc := 37) d_X5_newName_37 rfl ?_
    refine wp_aload_n (pc := 38) d_X5_newName_38 rfl ?_
    refine wp_getR (pc := 39) d_X5_newName_39 fl_X5_46 (fun _ _ _ => rfl) ho6 ?_
    obtain ⟨ho7, h⟩ := h
    refine wp_getI (pc := 42) d_X5_newName_42 fl_X5_114 (fun _ _ _ => rfl) ho7 ?_
    refine wp_putI (pc := 45) d_X5_newName_45 fl_X5_23 (fun _ _ _ => rfl) (Or.inl rfl) ho6 (okI_int _) ?_
    refine wp_nm (fun G8 eG8 => ?_)
    have h := h G8 eG8
    have ho9 := isO_sI eG8 ho6
    refine wp_aload_n (pc := 48) d_X5_newName_48 rfl ?_
    refine wp_getR (pc := 49) d_X5_newName_49 fl_X5_9 (fun _ _ _ => rfl) ho9 ?_
    refine wp_aload_n (pc := 52) d_X5_newName_52 rfl ?_
    refine wp_getJ (pc := 53) d_X5_newName_53 fl_X5_19 (fun _ _ _ => rfl) ho9 ?_
    obtain ⟨ho25, h⟩ := h
    refine wp_invV (pc := 56) (N := M_X3_lookUp) (As := [vj _]) (rest := []) (r := (cn_3, ct_3, 19)) d_X5_newName_56 ml_X5_186 mk_X3_lookUp mv_X3_lookUp h0 ho25 rfl rfl (Nat.le_of_ble_eq_true rfl) ?_
    refine wpM.mono h (fun rr G11 hr => ?_)
    obtain ⟨r10, rfl, h⟩ := hr
    show wp E d M_X5_newName 59 [some (vr _), some (vi _), some (vi _)] [vi _] G11 Q
    refine wp_if_lt (pc := 59) (tgt := 75) d_X5_newName_59 (by decide) (fun hc => ?_) (fun hc => ?_)
    · have h := h.1 hc
      refine wp_aload_n (pc := 75) d_X5_newName_75 rfl ?_
      obtain ⟨ho12, h⟩ := h
      refine wp_getR (pc := 76) d_X5_newName_76 fl_X5_9 (fun _ _ _ => rfl) ho12 ?_
      obtain ⟨ho13, h⟩ := h
      refine wp_getR (pc := 79) d_X5_newName_79 fl_X5_134 (fun _ _ _ => rfl) ho13 ?_
      refine wp_iload_n (pc := 82) d_X5_newName_82 rfl ?_
      obtain ⟨ho14, h⟩ := h
      obtain ⟨hi15, h⟩ := h
      refine wp_iald (pc := 83) d_X5_newName_83 ho14 hi15 ?_
      refine wp_iload_n (pc := 84) d_X5_newName_84 rfl ?_
      refine wp_icmp_lt (pc := 85) (tgt := 102) d_X5_newName_85 (by decide) (fun hc => ?_) (fun hc => ?_)
      · have h := h.1 hc
        refine wp_aload_n (pc := 102) d_X5_newName_102 rfl ?_
        refine wp_getR (pc := 103) d_X5_newName_103 fl_X5_46 (fun _ _ _ => rfl) ho12 ?_
        obtain ⟨ho17, h⟩ := h
        refine wp_invV (pc := 106) (N := M_X10_step) (As := []) (rest := []) (r := (cn_10, ct_10, 12)) d_X5_newName_106 ml_X5_180 mk_X10_step mv_X10_step h0 ho17 rfl rfl (Nat.le_of_ble_eq_true rfl) ?_
        refine wpM.mono h (fun rr G16 hr => ?_)
        obtain ⟨rfl, h⟩ := hr
        show wp E d M_X5_newName 109 [some (vr _), some (vi _), some (vi _)] [] G16 Q
        refine wp_iconst (pc := 109) (v := 1) d_X5_newName_109 rfl ?_
        exact wp_zret (pc := 110) d_X5_newName_110 rfl rfl h
      · have h := h.2 hc
        refine wp_aload_n (pc := 88) d_X5_newName_88 rfl ?_
        refine wp_getR (pc := 89) d_X5_newName_89 fl_X5_46 (fun _ _ _ => rfl) ho12 ?_
        refine wp_bipush (pc := 92) (v := 6) d_X5_newName_92 rfl ?_
        refine wp_aload_n (pc := 94) d_X5_newName_94 rfl ?_
        refine wp_getI (pc := 95) d_X5_newName_95 fl_X5_23 (fun _ _ _ => rfl) ho12 ?_
        obtain ⟨ho20, h⟩ := h
        refine wp_invV (pc := 98) (N := M_X10_fail) (As := [vi _, vi _]) (rest := []) (r := (cn_10, ct_10, 12)) d_X5_newName_98 ml_X5_117 mk_X10_fail mv_X10_fail h0 ho20 rfl rfl (Nat.le_of_ble_eq_true rfl) ?_
        refine wpM.mono h (fun rr G19 hr => ?_)
        obtain ⟨r18, rfl, h⟩ := hr
        show wp E d M_X5_newName 101 [some (vr _), some (vi _), some (vi _)] [vi _] G19 Q
        exact wp_zret (pc := 101) d_X5_newName_101 rfl h.1.1 h.2
    · have h := h.2 hc
      refine wp_aload_n (pc := 62) d_X5_newName_62 rfl ?_
      obtain ⟨ho21, h⟩ := h
      refine wp_getR (pc := 63) d_X5_newName_63 fl_X5_46 (fun _ _ _ => rfl) ho21 ?_
      refine wp_iconst (pc := 66) (v := 3) d_X5_newName_66 rfl ?_
      refine wp_aload_n (pc := 67) d_X5_newName_67 rfl ?_
      refine wp_getI (pc := 68) d_X5_newName_68 fl_X5_23 (fun _ _ _ => rfl) ho21 ?_
      obtain ⟨ho24, h⟩ := h
      refine wp_invV (pc := 71) (N := M_X10_fail) (As := [vi _, vi _]) (rest := []) (r := (cn_10, ct_10, 12)) d_X5_newName_71 ml_X5_117 mk_X10_fail mv_X10_fail h0 ho24 rfl rfl (Nat.le_of_ble_eq_true rfl) ?_
      refine wpM.mono h (fun rr G23 hr => ?_)
      obtain ⟨r22, rfl, h⟩ := hr
      show wp E d M_X5_newName 74 [some (vr _), some (vi _), some (vi _)] [vi _] G23 Q
      exact wp_zret (pc := 74) d_X5_newName_74 rfl h.1.1 h.2
  · have h := h.2 hc
    refine wp_aload_n (pc := 18) d_X5_newName_18 rfl ?_
    refine wp_getR (pc := 19) d_X5_newName_19 fl_X5_46 (fun _ _ _ => rfl) ho3 ?_
    refine wp_invV (pc := 22) (N := M_X10_refuse) (As := []) (rest := []) (r := (cn_10, ct_10, 12)) d_X5_newName_22 ml_X5_94 mk_X10_refuse mv_X10_refuse h0 ho4 rfl rfl (Nat.le_of_ble_eq_true rfl) ?_
    refine wpM.mono h (fun rr G27 hr => ?_)
    obtain ⟨r26, rfl, h⟩ := hr
    show wp E d M_X5_newName 25 [some (vr _), some (vi _), some (vi _)] [vi _] G27 Q
    exact wp_zret (pc := 25) d_X5_newName_25 rfl h.1.1 h.2
theorem d_X5_numeral_0 : decode prog_7_method_9_code 0 = .ok (.iload_n 1, 1) := by decide +kernel
theorem d_X5_numeral_1 : decode prog_7_method_9_code 1 = .ok (.ifCond .eq 19, 3) := by decide +kernel
theorem d_X5_numeral_4 : decode prog_7_method_9_code 4 = .ok (.aload_n 0, 1) := by decide +kernel
theorem d_X5_numeral_5 : decode prog_7_method_9_code 5 = .ok (.getfield 46, 3) := by decide +kernel
theorem d_X5_numeral_8 : decode prog_7_method_9_code 8 = .ok (.bipush 45, 2) := by decide +kernel
theorem d_X5_numeral_10 : decode prog_7_method_9_code 10 = .ok (.invokevirtual 78, 3) := by decide +kernel
theorem d_X5_numeral_13 : decode prog_7_method_9_code 13 = .ok (.ifCond .eq 7, 3) := by decide +kernel
theorem d_X5_numeral_16 : decode prog_7_method_9_code 16 = .ok (.iconst 1, 1) := by decide +kernel
theorem d_X5_numeral_17 : decode prog_7_method_9_code 17 = .ok (.goto 4, 3) := by decide +kernel
theorem d_X5_numeral_20 : decode prog_7_method_9_code 20 = .ok (.iconst 0, 1) := by decide +kernel
theorem d_X5_numeral_21 : decode prog_7_method_9_code 21 = .ok (.istore 4, 2) := by decide +kernel
theorem d_X5_numeral_23 : decode prog_7_method_9_code 23 = .ok (.iload 4, 2) := by decide +kernel
theorem d_X5_numeral_25 : decode prog_7_method_9_code 25 = .ok (.ifCond .eq 10, 3) := by decide +kernel
theorem d_X5_numeral_28 : decode prog_7_method_9_code 28 = .ok (.aload_n 0, 1) := by decide +kernel
theorem d_X5_numeral_29 : decode prog_7_method_9_code 29 = .ok (.getfield 46, 3) := by decide +kernel
theorem d_X5_numeral_32 : decode prog_7_method_9_code 32 = .ok (.invokevirtual 180, 3) := by decide +kernel
theorem d_X5_numeral_35 : decode prog_7_method_9_code 35 = .ok (.aload_n 0, 1) := by decide +kernel
theorem d_X5_numeral_36 : decode prog_7_method_9_code 36 = .ok (.getfield 46, 3) := by decide +kernel
theorem d_X5_numeral_39 : decode prog_7_method_9_code 39 = .ok (.getfield 71, 3) := by decide +kernel
theorem d_X5_numeral_42 : decode prog_7_method_9_code 42 = .ok (.iconst 3, 1) := by decide +kernel
theorem d_X5_numeral_43 : decode prog_7_method_9_code 43 = .ok (.if_icmp .eq 11, 3) := by decide +kernel
theorem d_X5_numeral_46 : decode prog_7_method_9_code 46 = .ok (.aload_n 0, 1) := by decide +kernel
theorem d_X5_numeral_47 : decode prog_7_method_9_code 47 = .ok (.getfield 46, 3) := by decide +kernel
theorem d_X5_numeral_50 : decode prog_7_method_9_code 50 = .ok (.invokevirtual 94, 3) := by decide +kernel
theorem d_X5_numeral_53 : decode prog_7_method_9_code 53 = .ok (.ireturn, 1) := by decide +kernel
theorem d_X5_numeral_54 : decode prog_7_method_9_code 54 = .ok (.aload_n 0, 1) := by decide +kernel
theorem d_X5_numeral_55 : decode prog_7_method_9_code 55 = .ok (.getfield 46, 3) := by decide +kernel
theorem d_X5_numeral_58 : decode prog_7_method_9_code 58 = .ok (.getfield 183, 3) := by decide +kernel
theorem d_X5_numeral_61 : decode prog_7_method_9_code 61 = .ok (.l2i, 1) := by decide +kernel
theorem d_X5_numeral_62 : decode prog_7_method_9_code 62 = .ok (.istore 5, 2) := by decide +kernel
theorem d_X5_numeral_64 : decode prog_7_method_9_code 64 = .ok (.aload_n 0, 1) := by decide +kernel
theorem d_X5_numeral_65 : decode prog_7_method_9_code 65 = .ok (.aload_n 0, 1) := by decide +kernel
theorem d_X5_numeral_66 : decode prog_7_method_9_code 66 = .ok (.getfield 46, 3) := by decide +kernel
theorem d_X5_numeral_69 : decode prog_7_method_9_code 69 = .ok (.getfield 114, 3) := by decide +kernel
theorem d_X5_numeral_72 : decode prog_7_method_9_code 72 = .ok (.putfield 30, 3) := by decide +kernel
theorem d_X5_numeral_75 : decode prog_7_method_9_code 75 = .ok (.iload 5, 2) := by decide +kernel
theorem d_X5_numeral_77 : decode prog_7_method_9_code 77 = .ok (.iload_n 2, 1) := by decide +kernel
theorem d_X5_numeral_78 : decode prog_7_method_9_code 78 = .ok (.if_icmp .lt 9, 3) := by decide +kernel
theorem d_X5_numeral_81 : decode prog_7_method_9_code 81 = .ok (.iload 5, 2) := by decide +kernel
theorem d_X5_numeral_83 : decode prog_7_method_9_code 83 = .ok (.iload_n 3, 1) := by decide +kernel
theorem d_X5_numeral_84 : decode prog_7_method_9_code 84 = .ok (.if_icmp .le 16, 3) := by decide +kernel
theorem d_X5_numeral_87 : decode prog_7_method_9_code 87 = .ok (.aload_n 0, 1) := by decide +kernel
theorem d_X5_numeral_88 : decode prog_7_method_9_code 88 = .ok (.getfield 46, 3) := by decide +kernel
theorem d_X5_numeral_91 : decode prog_7_method_9_code 91 = .ok (.iconst 5, 1) := by decide +kernel
theorem d_X5_numeral_92 : decode prog_7_method_9_code 92 = .ok (.aload_n 0, 1) := by decide +kernel
theorem d_X5_numeral_93 : decode prog_7_method_9_code 93 = .ok (.getfield 30, 3) := by decide +kernel
theorem d_X5_numeral_96 : decode prog_7_method_9_code 96 = .ok (.invokevirtual 117, 3) := by decide +kernel
theorem d_X5_numeral_99 : decode prog_7_method_9_code 99 = .ok (.ireturn, 1) := by decide +kernel
theorem d_X5_numeral_100 : decode prog_7_method_9_code 100 = .ok (.aload_n 0, 1) := by decide +kernel
theorem d_X5_numeral_101 : decode prog_7_method_9_code 101 = .ok (.iload 4, 2) := by decide +kernel
theorem d_X5_numeral_103 : decode prog_7_method_9_code 103 = .ok (.ifCond .eq 9, 3) := by decide +kernel
theorem d_X5_numeral_106 : decode prog_7_method_9_code 106 = .ok (.iload 5, 2) := by decide +kernel
theorem d_X5_numeral_108 : decode prog_7_method_9_code 108 = .ok (.ineg, 1) := by decide +kernel
theorem d_X5_numeral_109 : decode prog_7_method_9_code 109 = .ok (.goto 5, 3) := by decide +kernel
theorem d_X5_numeral_112 : decode prog_7_method_9_code 112 = .ok (.iload 5, 2) := by decide +kernel
theorem d_X5_numeral_114 : decode prog_7_method_9_code 114 = .ok (.putfield 27, 3) := by decide +kernel
theorem d_X5_numeral_117 : decode prog_7_method_9_code 117 = .ok (.aload_n 0, 1) := by decide +kernel
theorem d_X5_numeral_118 : decode prog_7_method_9_code 118 = .ok (.getfield 46, 3) := by decide +kernel
theorem d_X5_numeral_121 : decode prog_7_method_9_code 121 = .ok (.invokevirtual 180, 3) := by decide +kernel
theorem d_X5_numeral_124 : decode prog_7_method_9_code 124 = .ok (.iconst 1, 1) := by decide +kernel
theorem d_X5_numeral_125 : decode prog_7_method_9_code 125 = .ok (.ireturn, 1) := by decide +kernel
theorem v_X5_numeral_0 {E : EE} {d : Nat} {Q : Option AV → AH → Prop} {x0 : Nat} {x1 : Int32} {x2 : Int32} {x3 : Int32} {G : AH} (h0 : 0 < d) (h : (x1 = 0 → wp E d M_X5_numeral 20 [some (vr x0), some (vi x1), some (vi x2), some (vi x3), none, none] [] G Q) ∧ (¬ (x1 = 0) → isO E G x0 5 ∧ (isO E G (gR G x0 0) 10 ∧ (wpI E (d - 1) M_X10_is [vr (gR G x0 0), vi 45] G (fun r2 G3 => (r2 = 0 → wp E d M_X5_numeral 20 [some (vr x0), some (vi x1), some (vi x2), some (vi x3), none, none] [] G3 Q) ∧ (¬ (r2 = 0) → wp E d M_X5_numeral 21 [some (vr x0), some (vi x1), some (vi x2), some (vi x3), none, none] [vi 1] G3 Q)))))) : wp E d M_X5_numeral 0 [some (vr x0), some (vi x1), some (vi x2), some (vi x3), none, none] [] G Q := by
  refine wp_iload_n (pc := 0) d_X5_numeral_0 rfl ?_
  refine wp_if_eq (pc := 1) (tgt := 20) d_X5_numeral_1 (by decide) (fun hc => ?_) (fun hc => ?_)
  · have h := h.1 hc
    refine wp_sub ?_ h
    exact ⟨rfl, ⟨rfl, ⟨rfl, ⟨rfl, trivial⟩⟩⟩⟩
  · have h := h.2 hc
    refine wp_aload_n (pc := 4) d_X5_numeral_4 rfl ?_
    obtain ⟨ho1, h⟩ := h
    refine wp_getR (pc := 5) d_X5_numeral_5 fl_X5_46 (fun _ _ _ => rfl) ho1 ?_
    refine wp_bipush (pc := 8) (v := 45) d_X5_numeral_8 rfl ?_
    obtain ⟨ho4, h⟩ := h
    refine wp_invV (pc := 10) (N := M_X10_is) (As := [vi _]) (rest := []) (r := (cn_10, ct_10, 12)) d_X5_numeral_10 ml_X5_78 mk_X10_is mv_X10_is h0 ho4 rfl rfl (Nat.le_of_ble_eq_true rfl) ?_
    refine wpM.mono h (fun rr G3 hr => ?_)
    obtain ⟨r2, rfl, h⟩ := hr
    show wp E d M_X5_numeral 13 [some (vr _), some (vi _), some (vi _), some (vi _), none, none] [vi _] G3 Q
    refine wp_if_eq (pc := 13) (tgt := 20) d_X5_numeral_13 (by decide) (fun hc => ?_) (fun hc => ?_)
    · have h := h.1 hc
      refine wp_sub ?_ h
      exact ⟨rfl, ⟨rfl, ⟨rfl, ⟨rfl, trivial⟩⟩⟩⟩
    · have h := h.2 hc
      refine wp_iconst (pc := 16) (v := 1) d_X5_numeral_16 rfl ?_
      refine wp_goto (pc := 17) (tgt := 21) d_X5_numeral_17 (by decide) ?_
      refine wp_sub ?_ h
      exact ⟨rfl, ⟨rfl, ⟨rfl, ⟨rfl, trivial⟩⟩⟩⟩
theorem v_X5_numeral_20 {E : EE} {d : Nat} {Q : Option AV → AH → Prop} {x0 : Nat} {x1 : Int32} {x2 : Int32} {x3 : Int32} {G : AH} (h : wp E d M_X5_numeral 21 [some (vr x0), some (vi x1), some (vi x2), some (vi x3), none, none] [vi 0] G Q) : wp E d M_X5_numeral 20 [some (vr x0), some (vi x1), some (vi x2), some (vi x3), none, none] [] G Q := by
  refine wp_iconst (pc := 20) (v := 0) d_X5_numeral_20 rfl ?_
  refine wp_sub ?_ h
  exact ⟨rfl, ⟨rfl, ⟨rfl, ⟨rfl, trivial⟩⟩⟩⟩
theorem v_X5_numeral_21 {E : EE} {d : Nat} {Q : Option AV → AH → Prop} {x0 : Nat} {x1 : Int32} {x2 : Int32} {x3 : Int32} {t0 : Int32} {G : AH} (h0 : 0 < d) (h : (t0 = 0 → wp E d M_X5_numeral 35 [some (vr x0), some (vi x1), some (vi x2), some (vi x3), some (vi t0), none] [] G Q) ∧ (¬ (t0 = 0) → isO E G x0 5 ∧ (isO E G (gR G x0 0) 10 ∧ (wpV E (d - 1) M_X10_step [vr (gR G x0 0)] G (fun G2 => wp E d M_X5_numeral 35 [some (vr x0), some (vi x1), some (vi x2), some (vi x3), some (vi t0), none] [] G2 Q))))) : wp E d M_X5_numeral 21 [some (vr x0), some (vi x1), some (vi x2), some (vi x3), none, none] [vi t0] G Q := by
  refine wp_istore (pc := 21) (lv' := [some (vr _), some (vi _), some (vi _), some (vi _), some (vi _), none]) d_X5_numeral_21 (by decide) rfl ?_
  refine wp_iload (pc := 23) d_X5_numeral_23 rfl ?_
  refine wp_if_eq (pc := 25) (tgt := 35) d_X5_numeral_25 (by decide) (fun hc => ?_) (fun hc => ?_)
  · have h := h.1 hc
    refine wp_sub ?_ h
    exact ⟨rfl, ⟨rfl, ⟨rfl, ⟨rfl, ⟨rfl, trivial⟩⟩⟩⟩⟩
  · have h := h.2 hc
    refine wp_aload_n (pc := 28) d_X5_numeral_28 rfl ?_
    obtain ⟨ho1, h⟩ := h
    refine wp_getR (pc := 29) d_X5_numeral_29 fl_X5_46 (fun _ _ _ => rfl) ho1 ?_
    obtain ⟨ho3, h⟩ := h
    refine wp_invV (pc := 32) (N := M_X10_step) (As := []) (rest := []) (r := (cn_10, ct_10, 12)) d_X5_numeral_32 ml_X5_180 mk_X10_step mv_X10_step h0 ho3 rfl rfl (Nat.le_of_ble_eq_true rfl) ?_
    refine wpM.mono h (fun rr G2 hr => ?_)
    obtain ⟨rfl, h⟩ := hr
    show wp E d M_X5_numeral 35 [some (vr _), some (vi _), some (vi _), some (vi _), some (vi _), none] [] G2 Q
    refine wp_sub ?_ h
    exact ⟨rfl, ⟨rfl, ⟨rfl, ⟨rfl, ⟨rfl, trivial⟩⟩⟩⟩⟩
theorem v_X5_numeral_35 {E : EE} {d : Nat} {Q : Option AV → AH → Prop} {x0 : Nat} {x1 : Int32} {x2 : Int32} {x3 : Int32} {x4 : Int32} {G : AH} (h0 : 0 < d) (h : isO E G x0 5 ∧ (isO E G (gR G x0 0) 10 ∧ (((gI G (gR G x0 0) 6) = 3 → ((Int64.toInt32 (gJ G (gR G x0 0) 7)) < x2 → wp E d M_X5_numeral 87 [some (vr x0), some (vi x1), some (vi x2), some (vi x3), some (vi x4), some (vi (Int64.toInt32 (gJ G (gR G x0 0) 7)))] [] (sI G x0 6 (gI G (gR G x0 0) 8)) Q) ∧ (¬ ((Int64.toInt32 (gJ G (gR G x0 0) 7)) < x2) → ((Int64.toInt32 (gJ G (gR G x0 0) 7)) ≤ x3 → (x4 = 0 → wp E d M_X5_numeral 114 [some (vr x0), some (vi x1), some (vi x2), some (vi x3), some (vi x4), some (vi (Int64.toInt32 (gJ G (gR G x0 0) 7)))] [vi (Int64.toInt32 (gJ G (gR G x0 0) 7)), vr x0] (sI G x0 6 (gI G (gR G x0 0) 8)) Q) ∧ (¬ (x4 = 0) → wp E d M_X5_numeral 114 [some (vr x0), some (vi x1), some (vi x2), some (vi x3), some (vi x4), some (vi (Int64.toInt32 (gJ G (gR G x0 0) 7)))] [vi (-(Int64.toInt32 (gJ G (gR G x0 0) 7))), vr x0] (sI G x0 6 (gI G (gR G x0 0) 8)) Q)) ∧ (¬ ((Int64.toInt32 (gJ G (gR G x0 0) 7)) ≤ x3) → wp E d M_X5_numeral 87 [some (vr x0), some (vi x1), some (vi x2), some (vi x3), some (vi x4), some (vi (Int64.toInt32 (gJ G (gR G x0 0) 7)))] [] (sI G x0 6 (gI G (gR G x0 0) 8)) Q))) ∧ (¬ ((gI G (gR G x0 0) 6) = 3) → wpI E (d - 1) M_X10_refuse [vr (gR G x0 0)] G (fun r3 G4 => okI .boolean r3 ∧ Q (some (vi r3)) G4))))) : wp E d M_X5_numeral 35 [some (vr x0), some (vi x1), some (vi x2), some (vi x3), some (vi x4), none] [] G Q := by
  refine wp_aload_n (pc := 35) d_X5_numeral_35 rfl ?_
  obtain ⟨ho1, h⟩ := h
  refine wp_getR (pc := 36) d_X5_numeral_36 fl_X5_46 (fun _ _ _ => rfl) ho1 ?_
  obtain ⟨ho2, h⟩ := h
  refine wp_getI (pc := 39) d_X5_numeral_39 fl_X5_71 (fun _ _ _ => rfl) ho2 ?_
  refine wp_iconst (pc := 42) (v := 3) d_X5_numeral_42 rfl ?_
  refine wp_icmp_eq (pc := 43) (tgt := 54) d_X5_numeral_43 (by decide) (fun hc => ?_) (fun hc => ?_)
  · have h := h.1 hc
    refine wp_aload_n (pc := 54) d_X5_numeral_54 rfl ?_
    refine wp_getR (pc := 55) d_X5_numeral_55 fl_X5_46 (fun _ _ _ => rfl) ho1 ?_
    refine wp_getJ (pc := 58) d_X5_numeral_58 fl_X5_183 (fun _ _ _ => rfl) ho2 ?_
    refine wp_l2i (pc := 61) d_X5_numeral_61 ?_
    refine wp_istore (pc := 62) (lv' := [some (vr _), some (vi _), some (vi _), some (vi _), some (vi _), some (vi _)]) d_X5_numeral_62 (by decide) rfl ?_
    refine wp_aload_n (pc := 64) d_X5_numeral_64 rfl ?_
    refine wp_aload_n (pc := 65) d_X5_numeral_65 rfl ?_
    refine wp_getR (pc := 66) d_X5_numeral_66 fl_X5_46 (fun _ _ _ => rfl) ho1 ?_
    refine wp_getI (pc := 69) d_X5_numeral_69 fl_X5_114 (fun _ _ _ => rfl) ho2 ?_
    refine wp_putI (pc := 72) d_X5_numeral_72 fl_X5_30 (fun _ _ _ => rfl) (Or.inl rfl) ho1 (okI_int _) ?_
    refine wp_iload (pc := 75) d_X5_numeral_75 rfl ?_
    refine wp_iload_n (pc := 77) d_X5_numeral_77 rfl ?_
    refine wp_icmp_lt (pc := 78) (tgt := 87) d_X5_numeral_78 (by decide) (fun hc => ?_) (fun hc => ?_)
    · have h := h.1 hc
      refine wp_sub ?_ h
      exact ⟨rfl, ⟨rfl, ⟨rfl, ⟨rfl, ⟨rfl, ⟨rfl, trivial⟩⟩⟩⟩⟩⟩
    · have h := h.2 hc
      refine wp_iload (pc := 81) d_X5_numeral_81 rfl ?_
      refine wp_iload_n (pc := 83) d_X5_numeral_83 rfl ?_
      refine wp_icmp_le (pc := 84) (tgt := 100) d_X5_numeral_84 (by decide) (fun hc => ?_) (fun hc => ?_)
      · have h := h.1 hc
        refine wp_aload_n (pc := 100) d_X5_numeral_100 rfl ?_
        refine wp_iload (pc := 101) d_X5_numeral_101 rfl ?_
        refine wp_if_eq (pc := 103) (tgt := 112) d_X5_numeral_103 (by decide) (fun hc => ?_) (fun hc => ?_)
        · have h := h.1 hc
          refine wp_iload (pc := 112) d_X5_numeral_112 rfl ?_
          refine wp_sub ?_ h
          exact ⟨rfl, ⟨rfl, ⟨rfl, ⟨rfl, ⟨rfl, ⟨rfl, trivial⟩⟩⟩⟩⟩⟩
        · have h := h.2 hc
          refine wp_iload (pc := 106) d_X5_numeral_106 rfl ?_
          refine wp_ineg (pc := 108) d_X5_numeral_108 ?_
          refine wp_goto (pc := 109) (tgt := 114) d_X5_numeral_109 (by decide) ?_
          refine wp_sub ?_ h
          exact ⟨rfl, ⟨rfl, ⟨rfl, ⟨rfl, ⟨rfl, ⟨rfl, trivial⟩⟩⟩⟩⟩⟩
      · have h := h.2 hc
        refine wp_sub ?_ h
        exact ⟨rfl, ⟨rfl, ⟨rfl, ⟨rfl, ⟨rfl, ⟨rfl, trivial⟩⟩⟩⟩⟩⟩
  · have h := h.2 hc
    refine wp_aload_n (pc := 46) d_X5_numeral_46 rfl ?_
    refine wp_getR (pc := 47) d_X5_numeral_47 fl_X5_46 (fun _ _ _ => rfl) ho1 ?_
    refine wp_invV (pc := 50) (N := M_X10_refuse) (As := []) (rest := []) (r := (cn_10, ct_10, 12)) d_X5_numeral_50 ml_X5_94 mk_X10_refuse mv_X10_refuse h0 ho2 rfl rfl (Nat.le_of_ble_eq_true rfl) ?_
    refine wpM.mono h (fun rr G4 hr => ?_)
    obtain ⟨r3, rfl, h⟩ := hr
    show wp E d M_X5_numeral 53 [some (vr _), some (vi _), some (vi _), some (vi _), some (vi _), none] [vi _] G4 Q
    exact wp_zret (pc := 53) d_X5_numeral_53 rfl h.1.1 h.2
theorem v_X5_numeral_87 {E : EE} {d : Nat} {Q : Option AV → AH → Prop} {x0 : Nat} {x1 : Int32} {x2 : Int32} {x3 : Int32} {x4 : Int32} {x5 : Int32} {G : AH} (h0 : 0 < d) (h : isO E G x0 5 ∧ (isO E G (gR G x0 0) 10 ∧ (wpI E (d - 1) M_X10_fail [vr (gR G x0 0), vi 5, vi (gI G x0 6)] G (fun r2 G3 => okI .boolean r2 ∧ Q (some (vi r2)) G3)))) : wp E d M_X5_numeral 87 [some (vr x0), some (vi x1), some (vi x2), some (vi x3), some (vi x4), some (vi x5)] [] G Q := by
  refine wp_aload_n (pc := 87) d_X5_numeral_87 rfl ?_
  obtain ⟨ho1, h⟩ := h
  refine wp_getR (pc := 88) d_X5_numeral_88 fl_X5_46 (fun _ _ _ => rfl) ho1 ?_
  refine wp_iconst (pc := 91) (v := 5) d_X5_numeral_91 rfl ?_
  refine wp_aload_n (pc := 92) d_X5_numeral_92 rfl ?_
  refine wp_getI (pc := 93) d_X5_numeral_93 fl_X5_30 (fun _ _ _ => rfl) ho1 ?_
  obtain ⟨ho4, h⟩ := h
  refine wp_invV (pc := 96) (N := M_X10_fail) (As := [vi _, vi _]) (rest := []) (r := (cn_10, ct_10, 12)) d_X5_numeral_96 ml_X5_117 mk_X10_fail mv_X10_fail h0 ho4 rfl rfl (Nat.le_of_ble_eq_true rfl) ?_
  refine wpM.mono h (fun rr G3 hr => ?_)
  obtain ⟨r2, rfl, h⟩ := hr
  show wp E d M_X5_numeral 99 [some (vr _), some (vi _), some (vi _), some (vi _), some (vi _), some (vi _)] [vi _] G3 Q
  exact wp_zret (pc := 99) d_X5_numeral_99 rfl h.1.1 h.2
theorem v_X5_numeral_114 {E : EE} {d : Nat} {Q : Option AV → AH → Prop} {x0 : Nat} {x1 : Int32} {x2 : Int32} {x3 : Int32} {x4 : Int32} {x5 : Int32} {t0 : Nat} {t1 : Int32} {G : AH} (h0 : 0 < d) (h : isO E G t0 5 ∧ (isO E G x0 5 ∧ (isO E G (gR G x0 0) 10 ∧ (wpV E (d - 1) M_X10_step [vr (gR G x0 0)] (sI G t0 5 t1) (fun G3 => Q (some (vi 1)) G3))))) : wp E d M_X5_numeral 114 [some (vr x0), some (vi x1), some (vi x2), some (vi x3), some (vi x4), some (vi x5)] [vi t1, vr t0] G Q := by
  obtain ⟨ho1, h⟩ := h
  refine wp_putI (pc := 114) d_X5_numeral_114 fl_X5_27 (fun _ _ _ => rfl) (Or.inl rfl) ho1 (okI_int _) ?_
  refine wp_aload_n (pc := 117) d_X5_numeral_117 rfl ?_
  obtain ⟨ho2, h⟩ := h
  refine wp_getR (pc := 118) d_X5_numeral_118 fl_X5_46 (fun _ _ _ => rfl) ho2 ?_
  show wp E d M_X5_numeral 121 [some (vr x0), some (vi x1), some (vi x2), some (vi x3), some (vi x4), some (vi x5)] [vr (gR G x0 0)] (sI G t0 5 t1) Q
  obtain ⟨ho4, h⟩ := h
  refine wp_invV (pc := 121) (N := M_X10_step) (As := []) (rest := []) (r := (cn_10, ct_10, 12)) d_X5_numeral_121 ml_X5_180 mk_X10_step mv_X10_step h0 ho4 rfl rfl (Nat.le_of_ble_eq_true rfl) ?_
  refine wpM.mono h (fun rr G3 hr => ?_)
  obtain ⟨rfl, h⟩ := hr
  show wp E d M_X5_numeral 124 [some (vr _), some (vi _), some (vi _), some (vi _), some (vi _), some (vi _)] [] G3 Q
  refine wp_iconst (pc := 124) (v := 1) d_X5_numeral_124 rfl ?_
  exact wp_zret (pc := 125) d_X5_numeral_125 rfl rfl h
theorem d_X5_varStatement_0 : decode prog_7_method_5_code 0 = .ok (.aload_n 0, 1) := by decide +kernel
theorem d_X5_varStatement_1 : decode prog_7_method_5_code 1 = .ok (.iconst 1, 1) := by decide +kernel
theorem d_X5_varStatement_2 : decode prog_7_method_5_code 2 = .ok (.bipush 12, 2) := by decide +kernel
theorem d_X5_varStatement_4 : decode prog_7_method_5_code 4 = .ok (.invokevirtual 121, 3) := by decide +kernel
theorem d_X5_varStatement_7 : decode prog_7_method_5_code 7 = .ok (.ifCond .eq 14, 3) := by decide +kernel
theorem d_X5_varStatement_10 : decode prog_7_method_5_code 10 = .ok (.aload_n 0, 1) := by decide +kernel
theorem d_X5_varStatement_11 : decode prog_7_method_5_code 11 = .ok (.getfield 46, 3) := by decide +kernel
theorem d_X5_varStatement_14 : decode prog_7_method_5_code 14 = .ok (.iconst 2, 1) := by decide +kernel
theorem d_X5_varStatement_15 : decode prog_7_method_5_code 15 = .ok (.invokevirtual 124, 3) := by decide +kernel
theorem d_X5_varStatement_18 : decode prog_7_method_5_code 18 = .ok (.ifCond .ne 5, 3) := by decide +kernel
theorem d_X5_varStatement_21 : decode prog_7_method_5_code 21 = .ok (.iconst 0, 1) := by decide +kernel
theorem d_X5_varStatement_22 : decode prog_7_method_5_code 22 = .ok (.ireturn, 1) := by decide +kernel
theorem d_X5_varStatement_23 : decode prog_7_method_5_code 23 = .ok (.aload_n 0, 1) := by decide +kernel
theorem d_X5_varStatement_24 : decode prog_7_method_5_code 24 = .ok (.iconst 0, 1) := by decide +kernel
theorem d_X5_varStatement_25 : decode prog_7_method_5_code 25 = .ok (.putfield 43, 3) := by decide +kernel
theorem d_X5_varStatement_28 : decode prog_7_method_5_code 28 = .ok (.aload_n 0, 1) := by decide +kernel
theorem d_X5_varStatement_29 : decode prog_7_method_5_code 29 = .ok (.getfield 46, 3) := by decide +kernel
theorem d_X5_varStatement_32 : decode prog_7_method_5_code 32 = .ok (.bipush 123, 2) := by decide +kernel
theorem d_X5_varStatement_34 : decode prog_7_method_5_code 34 = .ok (.invokevirtual 78, 3) := by decide +kernel
theorem d_X5_varStatement_37 : decode prog_7_method_5_code 37 = .ok (.ifCond .eq 10, 3) := by decide +kernel
theorem d_X5_varStatement_40 : decode prog_7_method_5_code 40 = .ok (.aload_n 0, 1) := by decide +kernel
theorem d_X5_varStatement_41 : decode prog_7_method_5_code 41 = .ok (.invokevirtual 141, 3) := by decide +kernel
theorem d_X5_varStatement_44 : decode prog_7_method_5_code 44 = .ok (.goto 7, 3) := by decide +kernel
theorem d_X5_varStatement_47 : decode prog_7_method_5_code 47 = .ok (.aload_n 0, 1) := by decide +kernel
theorem d_X5_varStatement_48 : decode prog_7_method_5_code 48 = .ok (.invokevirtual 144, 3) := by decide +kernel
theorem d_X5_varStatement_51 : decode prog_7_method_5_code 51 = .ok (.istore_n 1, 1) := by decide +kernel
theorem d_X5_varStatement_52 : decode prog_7_method_5_code 52 = .ok (.iload_n 1, 1) := by decide +kernel
theorem d_X5_varStatement_53 : decode prog_7_method_5_code 53 = .ok (.ifCond .eq 15, 3) := by decide +kernel
theorem d_X5_varStatement_56 : decode prog_7_method_5_code 56 = .ok (.aload_n 0, 1) := by decide +kernel
theorem d_X5_varStatement_57 : decode prog_7_method_5_code 57 = .ok (.getfield 46, 3) := by decide +kernel
theorem d_X5_varStatement_60 : decode prog_7_method_5_code 60 = .ok (.bipush 59, 2) := by decide +kernel
theorem d_X5_varStatement_62 : decode prog_7_method_5_code 62 = .ok (.invokevirtual 124, 3) := by decide +kernel
theorem d_X5_varStatement_65 : decode prog_7_method_5_code 65 = .ok (.ifCond .ne 5, 3) := by decide +kernel
theorem d_X5_varStatement_68 : decode prog_7_method_5_code 68 = .ok (.iconst 0, 1) := by decide +kernel
theorem d_X5_varStatement_69 : decode prog_7_method_5_code 69 = .ok (.ireturn, 1) := by decide +kernel
theorem d_X5_varStatement_70 : decode prog_7_method_5_code 70 = .ok (.aload_n 0, 1) := by decide +kernel
theorem d_X5_varStatement_71 : decode prog_7_method_5_code 71 = .ok (.getfield 9, 3) := by decide +kernel
theorem d_X5_varStatement_74 : decode prog_7_method_5_code 74 = .ok (.getfield 97, 3) := by decide +kernel
theorem d_X5_varStatement_77 : decode prog_7_method_5_code 77 = .ok (.aload_n 0, 1) := by decide +kernel
theorem d_X5_varStatement_78 : decode prog_7_method_5_code 78 = .ok (.getfield 39, 3) := by decide +kernel
theorem d_X5_varStatement_81 : decode prog_7_method_5_code 81 = .ok (.aload_n 0, 1) := by decide +kernel
theorem d_X5_varStatement_82 : decode prog_7_method_5_code 82 = .ok (.getfield 43, 3) := by decide +kernel
theorem d_X5_varStatement_85 : decode prog_7_method_5_code 85 = .ok (.invokevirtual 147, 3) := by decide +kernel
theorem d_X5_varStatement_88 : decode prog_7_method_5_code 88 = .ok (.ifCond .ne 17, 3) := by decide +kernel
theorem d_X5_varStatement_91 : decode prog_7_method_5_code 91 = .ok (.aload_n 0, 1) := by decide +kernel
theorem d_X5_varStatement_92 : decode prog_7_method_5_code 92 = .ok (.getfield 46, 3) := by decide +kernel
theorem d_X5_varStatement_95 : decode prog_7_method_5_code 95 = .ok (.bipush 6, 2) := by decide +kernel
theorem d_X5_varStatement_97 : decode prog_7_method_5_code 97 = .ok (.aload_n 0, 1) := by decide +kernel
theorem d_X5_varStatement_98 : decode prog_7_method_5_code 98 = .ok (.getfield 23, 3) := by decide +kernel
theorem d_X5_varStatement_101 : decode prog_7_method_5_code 101 = .ok (.invokevirtual 117, 3) := by decide +kernel
theorem d_X5_varStatement_104 : decode prog_7_method_5_code 104 = .ok (.ireturn, 1) := by decide +kernel
theorem d_X5_varStatement_105 : decode prog_7_method_5_code 105 = .ok (.aload_n 0, 1) := by decide +kernel
theorem d_X5_varStatement_106 : decode prog_7_method_5_code 106 = .ok (.getfield 9, 3) := by decide +kernel
theorem d_X5_varStatement_109 : decode prog_7_method_5_code 109 = .ok (.iconst 1, 1) := by decide +kernel
theorem d_X5_varStatement_110 : decode prog_7_method_5_code 110 = .ok (.aload_n 0, 1) := by decide +kernel
theorem d_X5_varStatement_111 : decode prog_7_method_5_code 111 = .ok (.getfield 19, 3) := by decide +kernel
theorem d_X5_varStatement_114 : decode prog_7_method_5_code 114 = .ok (.invokevirtual 137, 3) := by decide +kernel
theorem d_X5_varStatement_117 : decode prog_7_method_5_code 117 = .ok (.iconst 1, 1) := by decide +kernel
theorem d_X5_varStatement_118 : decode prog_7_method_5_code 118 = .ok (.ireturn, 1) := by decide +kernel
theorem v_X5_varStatement_0 {E : EE} {d : Nat} {Q : Option AV → AH → Prop} {x0 : Nat} {G : AH} (h0 : 0 < d) (h : isO E G x0 5 ∧ (wpI E (d - 1) M_X5_newName [vr x0, vi 1, vi 12] G (fun r1 G2 => (r1 = 0 → Q (some (vi 0)) G2) ∧ (¬ (r1 = 0) → isO E G2 x0 5 ∧ (isO E G2 (gR G2 x0 0) 10 ∧ (wpI E (d - 1) M_X10_accept [vr (gR G2 x0 0), vi 2] G2 (fun r4 G5 => (¬ r4 = 0 → isO E G5 x0 5 ∧ (isO E G5 (gR G5 x0 0) 10 ∧ (wpI E (d - 1) M_X10_is [vr (gR G5 x0 0), vi 123] (sI G5 x0 10 0) (fun r7 G8 => (r7 = 0 → isO E G8 x0 5 ∧ (wpI E (d - 1) M_X5_valuesFromTo [vr x0] G8 (fun r9 G10 => wp E d M_X5_varStatement 51 [some (vr x0), none] [vi r9] G10 Q))) ∧ (¬ (r7 = 0) → isO E G8 x0 5 ∧ (wpI E (d - 1) M_X5_valuesInBraces [vr x0] G8 (fun r12 G13 => wp E d M_X5_varStatement 51 [some (vr x0), none] [vi r12] G13 Q))))))) ∧ (r4 = 0 → Q (some (vi 0)) G5)))))))) : wp E d M_X5_varStatement 0 [some (vr x0), none] [] G Q := by
  refine wp_aload_n (pc := 0) d_X5_varStatement_0 rfl ?_
  refine wp_iconst (pc := 1) (v := 1) d_X5_varStatement_1 rfl ?_
  refine wp_bipush (pc := 2) (v := 12) d_X5_varStatement_2 rfl ?_
  obtain ⟨ho17, h⟩ := h
  refine wp_invV (pc := 4) (N := M_X5_newName) (As := [vi _, vi _]) (rest := []) (r := (cn_5, ct_5, 11)) d_X5_varStatement_4 ml_X5_121 mk_X5_newName mv_X5_newName h0 ho17 rfl rfl (Nat.le_of_ble_eq_true rfl) ?_
  refine wpM.mono h (fun rr G2 hr => ?_)
  obtain ⟨r1, rfl, h⟩ := hr
  show wp E d M_X5_varStatement 7 [some (vr _), none] [vi _] G2 Q
  refine wp_if_eq (pc := 7) (tgt := 21) d_X5_varStatement_7 (by decide) (fun hc => ?_) (fun hc => ?_)
  · have h := h.1 hc
    refine wp_iconst (pc := 21) (v := 0) d_X5_varStatement_21 rfl ?_
    exact wp_zret (pc := 22) d_X5_varStatement_22 rfl rfl h
  · have h := h.2 hc
    refine wp_aload_n (pc := 10) d_X5_varStatement_10 rfl ?_
    obtain ⟨ho3, h⟩ := h
    refine wp_getR (pc := 11) d_X5_varStatement_11 fl_X5_46 (fun _ _ _ => rfl) ho3 ?_
    refine wp_iconst (pc := 14) (v := 2) d_X5_varStatement_14 rfl ?_
    obtain ⟨ho16, h⟩ := h
    refine wp_invV (pc := 15) (N := M_X10_accept) (As := [vi _]) (rest := []) (r := (cn_10, ct_10, 12)) d_X5_varStatement_15 ml_X5_124 mk_X10_accept mv_X10_accept h0 ho16 rfl rfl (Nat.le_of_ble_eq_true rfl) ?_
    refine wpM.mono h (fun rr G5 hr => ?_)
    obtain ⟨r4, rfl, h⟩ := hr
    show wp E d M_X5_varStatement 18 [some (vr _), none] [vi _] G5 Q
    refine wp_if_ne (pc := 18) (tgt := 23) d_X5_varStatement_18 (by decide) (fun hc => ?_) (fun hc => ?_)
    · have h := h.1 hc
      refine wp_aload_n (pc := 23) d_X5_varStatement_23 rfl ?_
      refine wp_iconst (pc := 24) (v := 0) d_X5_varStatement_24 rfl ?_
      obtain ⟨ho6, h⟩ := h
      refine wp_putI (pc := 25) d_X5_varStatement_25 fl_X5_43 (fun _ _ _ => rfl) (Or.inl rfl) ho6 (okI_int _) ?_
      refine wp_aload_n (pc := 28) d_X5_varStatement_28 rfl ?_
      refine wp_getR (pc := 29) d_X5_varStatement_29 fl_X5_46 (fun _ _ _ => rfl) ho6 ?_
      show wp E d M_X5_varStatement 32 [some (vr x0), none] [vr (gR G5 x0 0)] (sI G5 x0 10 0) Q
      refine wp_bipush (pc := 32) (v := 123) d_X5_varStatement_32 rfl ?_
      obtain ⟨ho15, h⟩ := h
      refine wp_invV (pc := 34) (N := M_X10_is) (As := [vi _]) (rest := []) (r := (cn_10, ct_10, 12)) d_X5_varStatement_34 ml_X5_78 mk_X10_is mv_X10_is h0 ho15 rfl rfl (Nat.le_of_ble_eq_true rfl) ?_
      refine wpM.mono h (fun rr G8 hr => ?_)
      obtain ⟨r7, rfl, h⟩ := hr
      show wp E d M_X5_varStatement 37 [some (vr _), none] [vi _] G8 Q
      refine wp_if_eq (pc := 37) (tgt := 47) d_X5_varStatement_37 (by decide) (fun hc => ?_) (fun hc => ?_)
      · have h := h.1 hc
        refine wp_aload_n (pc := 47) d_X5_varStatement_47 rfl ?_
        obtain ⟨ho11, h⟩ := h
        refine wp_invV (pc := 48) (N := M_X5_valuesFromTo) (As := []) (rest := []) (r := (cn_5, ct_5, 11)) d_X5_varStatement_48 ml_X5_144 mk_X5_valuesFromTo mv_X5_valuesFromTo h0 ho11 rfl rfl (Nat.le_of_ble_eq_true rfl) ?_
        refine wpM.mono h (fun rr G10 hr => ?_)
        obtain ⟨r9, rfl, h⟩ := hr
        show wp E d M_X5_varStatement 51 [some (vr _), none] [vi _] G10 Q
        refine wp_sub ?_ h
        exact ⟨rfl, trivial⟩
      · have h := h.2 hc
        refine wp_aload_n (pc := 40) d_X5_varStatement_40 rfl ?_
        obtain ⟨ho14, h⟩ := h
        refine wp_invV (pc := 41) (N := M_X5_valuesInBraces) (As := []) (rest := []) (r := (cn_5, ct_5, 11)) d_X5_varStatement_41 ml_X5_141 mk_X5_valuesInBraces mv_X5_valuesInBraces h0 ho14 rfl rfl (Nat.le_of_ble_eq_true rfl) ?_
        refine wpM.mono h (fun rr G13 hr => ?_)
        obtain ⟨r12, rfl, h⟩ := hr
        show wp E d M_X5_varStatement 44 [some (vr _), none] [vi _] G13 Q
        refine wp_goto (pc := 44) (tgt := 51) d_X5_varStatement_44 (by decide) ?_
        refine wp_sub ?_ h
        exact ⟨rfl, trivial⟩
    · have h := h.2 hc
      refine wp_iconst (pc := 21) (v := 0) d_X5_varStatement_21 rfl ?_
      exact wp_zret (pc := 22) d_X5_varStatement_22 rfl rfl h
theorem v_X5_varStatement_51 {E : EE} {d : Nat} {Q : Option AV → AH → Prop} {x0 : Nat} {t0 : Int32} {G : AH} (h0 : 0 < d) (h : (t0 = 0 → Q (some (vi 0)) G) ∧ (¬ (t0 = 0) → isO E G x0 5 ∧ (isO E G (gR G x0 0) 10 ∧ (wpI E (d - 1) M_X10_accept [vr (gR G x0 0), vi 59] G (fun r2 G3 => (¬ r2 = 0 → isO E G3 x0 5 ∧ (isO E G3 (gR G3 x0 1) 3 ∧ (isO E G3 (gR G3 (gR G3 x0 1) 4) 7 ∧ (wpI E (d - 1) M_X7_add [vr (gR G3 (gR G3 x0 1) 4), vr (gR G3 x0 9), vi (gI G3 x0 10)] G3 (fun r6 G7 => (¬ r6 = 0 → isO E G7 x0 5 ∧ (isO E G7 (gR G7 x0 1) 3 ∧ (wpV E (d - 1) M_X3_tell [vr (gR G7 x0 1), vi 1, vj (gJ G7 x0 3)] G7 (fun G9 => Q (some (vi 1)) G9)))) ∧ (r6 = 0 → isO E G7 x0 5 ∧ (isO E G7 (gR G7 x0 0) 10 ∧ (wpI E (d - 1) M_X10_fail [vr (gR G7 x0 0), vi 6, vi (gI G7 x0 4)] G7 (fun r12 G13 => okI .boolean r12 ∧ Q (some (vi r12)) G13))))))))) ∧ (r2 = 0 → Q (some (vi 0)) G3)))))) : wp E d M_X5_varStatement 51 [some (vr x0), none] [vi t0] G Q := by
  refine wp_istore_n (pc := 51) (lv' := [some (vr _), some (vi _)]) d_X5_varStatement_51 (by decide) rfl ?_
  refine wp_iload_n (pc := 52) d_X5_varStatement_52 rfl ?_
  refine wp_if_eq (pc := 53) (tgt := 68) d_X5_varStatement_53 (by decide) (fun hc => ?_) (fun hc => ?_)
  · have h := h.1 hc
    refine wp_iconst (pc := 68) (v := 0) d_X5_varStatement_68 rfl ?_
    exact wp_zret (pc := 69) d_X5_varStatement_69 rfl rfl h
  · have h := h.2 hc
    refine wp_aload_n (pc := 56) d_X5_varStatement_56 rfl ?_
    obtain ⟨ho1, h⟩ := h
    refine wp_getR (pc := 57) d_X5_varStatement_57 fl_X5_46 (fun _ _ _ => rfl) ho1 ?_
    refine wp_bipush (pc := 60) (v := 59) d_X5_varStatement_60 rfl ?_
    obtain ⟨ho16, h⟩ := h
    refine wp_invV (pc := 62) (N := M_X10_accept) (As := [vi _]) (rest := []) (r := (cn_10, ct_10, 12)) d_X5_varStatement_62 ml_X5_124 mk_X10_accept mv_X10_accept h0 ho16 rfl rfl (Nat.le_of_ble_eq_true rfl) ?_
    refine wpM.mono h (fun rr G3 hr => ?_)
    obtain ⟨r2, rfl, h⟩ := hr
    show wp E d M_X5_varStatement 65 [some (vr _), some (vi _)] [vi _] G3 Q
    refine wp_if_ne (pc := 65) (tgt := 70) d_X5_varStatement_65 (by decide) (fun hc => ?_) (fun hc => ?_)
    · have h := h.1 hc
      refine wp_aload_n (pc := 70) d_X5_varStatement_70 rfl ?_
      obtain ⟨ho4, h⟩ := h
      refine wp_getR (pc := 71) d_X5_varStatement_71 fl_X5_9 (fun _ _ _ => rfl) ho4 ?_
      obtain ⟨ho5, h⟩ := h
      refine wp_getR (pc := 74) d_X5_varStatement_74 fl_X5_97 (fun _ _ _ => rfl) ho5 ?_
      refine wp_aload_n (pc := 77) d_X5_varStatement_77 rfl ?_
      refine wp_getR (pc := 78) d_X5_varStatement_78 fl_X5_39 (fun _ _ _ => rfl) ho4 ?_
      refine wp_aload_n (pc := 81) d_X5_varStatement_81 rfl ?_
      refine wp_getI (pc := 82) d_X5_varStatement_82 fl_X5_43 (fun _ _ _ => rfl) ho4 ?_
      obtain ⟨ho15, h⟩ := h
      refine wp_invV (pc := 85) (N := M_X7_add) (As := [vr _, vi _]) (rest := []) (r := (cn_7, ct_7, 5)) d_X5_varStatement_85 ml_X5_147 mk_X7_add mv_X7_add h0 ho15 rfl rfl (Nat.le_of_ble_eq_true rfl) ?_
      refine wpM.mono h (fun rr G7 hr => ?_)
      obtain ⟨r6, rfl, h⟩ := hr
      show wp E d M_X5_varStatement 88 [some (vr _), some (vi _)] [vi _] G7 Q
      refine wp_if_ne (pc := 88) (tgt := 105) d_X5_varStatement_88 (by decide) (fun hc => ?_) (fun hc => ?_)
      · have h := h.1 hc
        refine wp_aload_n (pc := 105) d_X5_varStatement_105 rfl ?_
        obtain ⟨ho8, h⟩ := h
        refine wp_getR (pc := 106) d_X5_varStatement_106 fl_X5_9 (fun _ _ _ => rfl) ho8 ?_
        refine wp_iconst (pc := 109) (v := 1) d_X5_varStatement_109 rfl ?_
        refine wp_aload_n (pc := 110) d_X5_varStatement_110 rfl ?_
        refine wp_getJ (pc := 111) d_X5_varStatement_111 fl_X5_19 (fun _ _ _ => rfl) ho8 ?_
        obtain ⟨ho10, h⟩ := h
        refine wp_invV (pc := 114) (N := M_X3_tell) (As := [vi _, vj _]) (rest := []) (r := (cn_3, ct_3, 19)) d_X5_varStatement_114 ml_X5_137 mk_X3_tell mv_X3_tell h0 ho10 rfl rfl (Nat.le_of_ble_eq_true rfl) ?_
        refine wpM.mono h (fun rr G9 hr => ?_)
        obtain ⟨rfl, h⟩ := hr
        show wp E d M_X5_varStatement 117 [some (vr _), some (vi _)] [] G9 Q
        refine wp_iconst (pc := 117) (v := 1) d_X5_varStatement_117 rfl ?_
        exact wp_zret (pc := 118) d_X5_varStatement_118 rfl rfl h
      · have h := h.2 hc
        refine wp_aload_n (pc := 91) d_X5_varStatement_91 rfl ?_
        obtain ⟨ho11, h⟩ := h
        refine wp_getR (pc := 92) d_X5_varStatement_92 fl_X5_46 (fun _ _ _ => rfl) ho11 ?_
        refine wp_bipush (pc := 95) (v := 6) d_X5_varStatement_95 rfl ?_
        refine wp_aload_n (pc := 97) d_X5_varStatement_97 rfl ?_
        refine wp_getI (pc := 98) d_X5_varStatement_98 fl_X5_23 (fun _ _ _ => rfl) ho11 ?_
        obtain ⟨ho14, h⟩ := h
        refine wp_invV (pc := 101) (N := M_X10_fail) (As := [vi _, vi _]) (rest := []) (r := (cn_10, ct_10, 12)) d_X5_varStatement_101 ml_X5_117 mk_X10_fail mv_X10_fail h0 ho14 rfl rfl (Nat.le_of_ble_eq_true rfl) ?_
        refine wpM.mono h (fun rr G13 hr => ?_)
        obtain ⟨r12, rfl, h⟩ := hr
        show wp E d M_X5_varStatement 104 [some (vr _), some (vi _)] [vi _] G13 Q
        exact wp_zret (pc := 104) d_X5_varStatement_104 rfl h.1.1 h.2
    · have h := h.2 hc
      refine wp_iconst (pc := 68) (v := 0) d_X5_varStatement_68 rfl ?_
      exact wp_zret (pc := 69) d_X5_varStatement_69 rfl rfl h
theorem d_X5_valuesInBraces_0 : decode prog_7_method_11_code 0 = .ok (.iconst 0, 1) := by decide +kernel
theorem d_X5_valuesInBraces_1 : decode prog_7_method_11_code 1 = .ok (.istore_n 1, 1) := by decide +kernel
theorem d_X5_valuesInBraces_2 : decode prog_7_method_11_code 2 = .ok (.iload_n 1, 1) := by decide +kernel
theorem d_X5_valuesInBraces_3 : decode prog_7_method_11_code 3 = .ok (.aload_n 0, 1) := by decide +kernel
theorem d_X5_valuesInBraces_4 : decode prog_7_method_11_code 4 = .ok (.getfield 39, 3) := by decide +kernel
theorem d_X5_valuesInBraces_7 : decode prog_7_method_11_code 7 = .ok (.arraylength, 1) := by decide +kernel
theorem d_X5_valuesInBraces_8 : decode prog_7_method_11_code 8 = .ok (.if_icmp .gt 129, 3) := by decide +kernel
theorem d_X5_valuesInBraces_11 : decode prog_7_method_11_code 11 = .ok (.iload_n 1, 1) := by decide +kernel
theorem d_X5_valuesInBraces_12 : decode prog_7_method_11_code 12 = .ok (.ifCond .le 25, 3) := by decide +kernel
theorem d_X5_valuesInBraces_15 : decode prog_7_method_11_code 15 = .ok (.aload_n 0, 1) := by decide +kernel
theorem d_X5_valuesInBraces_16 : decode prog_7_method_11_code 16 = .ok (.getfield 46, 3) := by decide +kernel
theorem d_X5_valuesInBraces_19 : decode prog_7_method_11_code 19 = .ok (.bipush 44, 2) := by decide +kernel
theorem d_X5_valuesInBraces_21 : decode prog_7_method_11_code 21 = .ok (.invokevirtual 78, 3) := by decide +kernel
theorem d_X5_valuesInBraces_24 : decode prog_7_method_11_code 24 = .ok (.ifCond .ne 13, 3) := by decide +kernel
theorem d_X5_valuesInBraces_27 : decode prog_7_method_11_code 27 = .ok (.aload_n 0, 1) := by decide +kernel
theorem d_X5_valuesInBraces_28 : decode prog_7_method_11_code 28 = .ok (.getfield 46, 3) := by decide +kernel
theorem d_X5_valuesInBraces_31 : decode prog_7_method_11_code 31 = .ok (.bipush 125, 2) := by decide +kernel
theorem d_X5_valuesInBraces_33 : decode prog_7_method_11_code 33 = .ok (.invokevirtual 124, 3) := by decide +kernel
theorem d_X5_valuesInBraces_36 : decode prog_7_method_11_code 36 = .ok (.ireturn, 1) := by decide +kernel
theorem d_X5_valuesInBraces_37 : decode prog_7_method_11_code 37 = .ok (.aload_n 0, 1) := by decide +kernel
theorem d_X5_valuesInBraces_38 : decode prog_7_method_11_code 38 = .ok (.getfield 46, 3) := by decide +kernel
theorem d_X5_valuesInBraces_41 : decode prog_7_method_11_code 41 = .ok (.invokevirtual 180, 3) := by decide +kernel
theorem d_X5_valuesInBraces_44 : decode prog_7_method_11_code 44 = .ok (.aload_n 0, 1) := by decide +kernel
theorem d_X5_valuesInBraces_45 : decode prog_7_method_11_code 45 = .ok (.iconst 1, 1) := by decide +kernel
theorem d_X5_valuesInBraces_46 : decode prog_7_method_11_code 46 = .ok (.iconst 0, 1) := by decide +kernel
theorem d_X5_valuesInBraces_47 : decode prog_7_method_11_code 47 = .ok (.bipush 99, 2) := by decide +kernel
theorem d_X5_valuesInBraces_49 : decode prog_7_method_11_code 49 = .ok (.invokevirtual 127, 3) := by decide +kernel
theorem d_X5_valuesInBraces_52 : decode prog_7_method_11_code 52 = .ok (.ifCond .ne 5, 3) := by decide +kernel
theorem d_X5_valuesInBraces_55 : decode prog_7_method_11_code 55 = .ok (.iconst 0, 1) := by decide +kernel
theorem d_X5_valuesInBraces_56 : decode prog_7_method_11_code 56 = .ok (.ireturn, 1) := by decide +kernel
theorem d_X5_valuesInBraces_57 : decode prog_7_method_11_code 57 = .ok (.iconst 0, 1) := by decide +kernel
theorem d_X5_valuesInBraces_58 : decode prog_7_method_11_code 58 = .ok (.istore_n 2, 1) := by decide +kernel
theorem d_X5_valuesInBraces_59 : decode prog_7_method_11_code 59 = .ok (.iload_n 2, 1) := by decide +kernel
theorem d_X5_valuesInBraces_60 : decode prog_7_method_11_code 60 = .ok (.aload_n 0, 1) := by decide +kernel
theorem d_X5_valuesInBraces_61 : decode prog_7_method_11_code 61 = .ok (.getfield 43, 3) := by decide +kernel
theorem d_X5_valuesInBraces_64 : decode prog_7_method_11_code 64 = .ok (.if_icmp .ge 35, 3) := by decide +kernel
theorem d_X5_valuesInBraces_67 : decode prog_7_method_11_code 67 = .ok (.aload_n 0, 1) := by decide +kernel
theorem d_X5_valuesInBraces_68 : decode prog_7_method_11_code 68 = .ok (.getfield 39, 3) := by decide +kernel
theorem d_X5_valuesInBraces_71 : decode prog_7_method_11_code 71 = .ok (.iload_n 2, 1) := by decide +kernel
theorem d_X5_valuesInBraces_72 : decode prog_7_method_11_code 72 = .ok (.iaload, 1) := by decide +kernel
theorem d_X5_valuesInBraces_73 : decode prog_7_method_11_code 73 = .ok (.aload_n 0, 1) := by decide +kernel
theorem d_X5_valuesInBraces_74 : decode prog_7_method_11_code 74 = .ok (.getfield 27, 3) := by decide +kernel
theorem d_X5_valuesInBraces_77 : decode prog_7_method_11_code 77 = .ok (.if_icmp .ne 16, 3) := by decide +kernel
theorem d_X5_valuesInBraces_80 : decode prog_7_method_11_code 80 = .ok (.aload_n 0, 1) := by decide +kernel
theorem d_X5_valuesInBraces_81 : decode prog_7_method_11_code 81 = .ok (.getfield 46, 3) := by decide +kernel
theorem d_X5_valuesInBraces_84 : decode prog_7_method_11_code 84 = .ok (.iconst 5, 1) := by decide +kernel
theorem d_X5_valuesInBraces_85 : decode prog_7_method_11_code 85 = .ok (.aload_n 0, 1) := by decide +kernel
theorem d_X5_valuesInBraces_86 : decode prog_7_method_11_code 86 = .ok (.getfield 30, 3) := by decide +kernel
theorem d_X5_valuesInBraces_89 : decode prog_7_method_11_code 89 = .ok (.invokevirtual 117, 3) := by decide +kernel
theorem d_X5_valuesInBraces_92 : decode prog_7_method_11_code 92 = .ok (.ireturn, 1) := by decide +kernel
theorem d_X5_valuesInBraces_93 : decode prog_7_method_11_code 93 = .ok (.iinc 2 1, 3) := by decide +kernel
theorem d_X5_valuesInBraces_96 : decode prog_7_method_11_code 96 = .ok (.goto (-37), 3) := by decide +kernel
theorem d_X5_valuesInBraces_99 : decode prog_7_method_11_code 99 = .ok (.aload_n 0, 1) := by decide +kernel
theorem d_X5_valuesInBraces_100 : decode prog_7_method_11_code 100 = .ok (.getfield 43, 3) := by decide +kernel
theorem d_X5_valuesInBraces_103 : decode prog_7_method_11_code 103 = .ok (.aload_n 0, 1) := by decide +kernel
theorem d_X5_valuesInBraces_104 : decode prog_7_method_11_code 104 = .ok (.getfield 39, 3) := by decide +kernel
theorem d_X5_valuesInBraces_107 : decode prog_7_method_11_code 107 = .ok (.arraylength, 1) := by decide +kernel
theorem d_X5_valuesInBraces_108 : decode prog_7_method_11_code 108 = .ok (.if_icmp .ge 23, 3) := by decide +kernel
theorem d_X5_valuesInBraces_111 : decode prog_7_method_11_code 111 = .ok (.aload_n 0, 1) := by decide +kernel
theorem d_X5_valuesInBraces_112 : decode prog_7_method_11_code 112 = .ok (.getfield 39, 3) := by decide +kernel
theorem d_X5_valuesInBraces_115 : decode prog_7_method_11_code 115 = .ok (.aload_n 0, 1) := by decide +kernel
theorem d_X5_valuesInBraces_116 : decode prog_7_method_11_code 116 = .ok (.dup, 1) := by decide +kernel
theorem d_X5_valuesInBraces_117 : decode prog_7_method_11_code 117 = .ok (.getfield 43, 3) := by decide +kernel
theorem d_X5_valuesInBraces_120 : decode prog_7_method_11_code 120 = .ok (.dup_x1, 1) := by decide +kernel
theorem d_X5_valuesInBraces_121 : decode prog_7_method_11_code 121 = .ok (.iconst 1, 1) := by decide +kernel
theorem d_X5_valuesInBraces_122 : decode prog_7_method_11_code 122 = .ok (.iadd, 1) := by decide +kernel
theorem d_X5_valuesInBraces_123 : decode prog_7_method_11_code 123 = .ok (.putfield 43, 3) := by decide +kernel
theorem d_X5_valuesInBraces_126 : decode prog_7_method_11_code 126 = .ok (.aload_n 0, 1) := by decide +kernel
theorem d_X5_valuesInBraces_127 : decode prog_7_method_11_code 127 = .ok (.getfield 27, 3) := by decide +kernel
theorem d_X5_valuesInBraces_130 : decode prog_7_method_11_code 130 = .ok (.iastore, 1) := by decide +kernel
theorem d_X5_valuesInBraces_131 : decode prog_7_method_11_code 131 = .ok (.iinc 1 1, 3) := by decide +kernel
theorem d_X5_valuesInBraces_134 : decode prog_7_method_11_code 134 = .ok (.goto (-132), 3) := by decide +kernel
theorem d_X5_valuesInBraces_137 : decode prog_7_method_11_code 137 = .ok (.aload_n 0, 1) := by decide +kernel
theorem d_X5_valuesInBraces_138 : decode prog_7_method_11_code 138 = .ok (.getfield 46, 3) := by decide +kernel
theorem d_X5_valuesInBraces_141 : decode prog_7_method_11_code 141 = .ok (.invokevirtual 94, 3) := by decide +kernel
theorem d_X5_valuesInBraces_144 : decode prog_7_method_11_code 144 = .ok (.ireturn, 1) := by decide +kernel
theorem v_X5_valuesInBraces_0 {E : EE} {d : Nat} {Q : Option AV → AH → Prop} {x0 : Nat} {G : AH} (h : wp E d M_X5_valuesInBraces 2 [some (vr x0), some (vi 0), none] [] G Q) : wp E d M_X5_valuesInBraces 0 [some (vr x0), none, none] [] G Q := by
  refine wp_iconst (pc := 0) (v := 0) d_X5_valuesInBraces_0 rfl ?_
  refine wp_istore_n (pc := 1) (lv' := [some (vr _), some (vi _), none]) d_X5_valuesInBraces_1 (by decide) rfl ?_
  refine wp_sub ?_ h
  exact ⟨rfl, ⟨rfl, trivial⟩⟩
theorem v_X5_valuesInBraces_2 {E : EE} {d : Nat} {Q : Option AV → AH → Prop} {x0 : Nat} {x1 : Int32} {G : AH} (h0 : 0 < d) (h : isO E G x0 5 ∧ (isO E G (gR G x0 9) 14 ∧ (((nI (gN G (gR G x0 9))) < x1 → isO E G (gR G x0 0) 10 ∧ (wpI E (d - 1) M_X10_refuse [vr (gR G x0 0)] G (fun r3 G4 => okI .boolean r3 ∧ Q (some (vi r3)) G4))) ∧ (¬ ((nI (gN G (gR G x0 9))) < x1) → (x1 ≤ 0 → wp E d M_X5_valuesInBraces 37 [some (vr x0), some (vi x1), none] [] G Q) ∧ (¬ (x1 ≤ 0) → isO E G (gR G x0 0) 10 ∧ (wpI E (d - 1) M_X10_is [vr (gR G x0 0), vi 44] G (fun r6 G7 => (¬ r6 = 0 → wp E d M_X5_valuesInBraces 37 [some (vr x0), some (vi x1), none] [] G7 Q) ∧ (r6 = 0 → isO E G7 x0 5 ∧ (isO E G7 (gR G7 x0 0) 10 ∧ (wpI E (d - 1) M_X10_accept [vr (gR G7 x0 0), vi 125] G7 (fun r9 G10 => okI .boolean r9 ∧ Q (some (vi r9)) G10))))))))))) : wp E d M_X5_valuesInBraces 2 [some (vr x0), some (vi x1), none] [] G Q := by
  refine wp_iload_n (pc := 2) d_X5_valuesInBraces_2 rfl ?_
  refine wp_aload_n (pc := 3) d_X5_valuesInBraces_3 rfl ?_
  obtain ⟨ho1, h⟩ := h
  refine wp_getR (pc := 4) d_X5_valuesInBraces_4 fl_X5_39 (fun _ _ _ => rfl) ho1 ?_
  obtain ⟨ho2, h⟩ := h
  refine wp_alen (pc := 7) d_X5_valuesInBraces_7 ho2 (by decide) rfl ?_
  refine wp_icmp_gt (pc := 8) (tgt := 137) d_X5_valuesInBraces_8 (by decide) (fun hc => ?_) (fun hc => ?_)
  · have h := h.1 hc
    refine wp_aload_n (pc := 137) d_X5_valuesInBraces_137 rfl ?_
    refine wp_getR (pc := 138) d_X5_valuesInBraces_138 fl_X5_46 (fun _ _ _ => rfl) ho1 ?_
    obtain ⟨ho5, h⟩ := h
    refine wp_invV (pc := 141) (N := M_X10_refuse) (As := []) (rest := []) (r := (cn_10, ct_10, 12)) d_X5_valuesInBraces_141 ml_X5_94 mk_X10_refuse mv_X10_refuse h0 ho5 rfl rfl (Nat.le_of_ble_eq_true rfl) ?_
    refine wpM.mono h (fun rr G4 hr => ?_)
    obtain ⟨r3, rfl, h⟩ := hr
    show wp E d M_X5_valuesInBraces 144 [some (vr _), some (vi _), none] [vi _] G4 Q
    exact wp_zret (pc := 144) d_X5_valuesInBraces_144 rfl h.1.1 h.2
  · have h := h.2 hc
    refine wp_iload_n (pc := 11) d_X5_valuesInBraces_11 rfl ?_
    refine wp_if_le (pc := 12) (tgt := 37) d_X5_valuesInBraces_12 (by decide) (fun hc => ?_) (fun hc => ?_)
    · have h := h.1 hc
      refine wp_sub ?_ h
      exact ⟨rfl, ⟨rfl, trivial⟩⟩
    · have h := h.2 hc
      refine wp_aload_n (pc := 15) d_X5_valuesInBraces_15 rfl ?_
      refine wp_getR (pc := 16) d_X5_valuesInBraces_16 fl_X5_46 (fun _ _ _ => rfl) ho1 ?_
      refine wp_bipush (pc := 19) (v := 44) d_X5_valuesInBraces_19 rfl ?_
      obtain ⟨ho12, h⟩ := h
      refine wp_invV (pc := 21) (N := M_X10_is) (As := [vi _]) (rest := []) (r := (cn_10, ct_10, 12)) d_X5_valuesInBraces_21 ml_X5_78 mk_X10_is mv_X10_is h0 ho12 rfl rfl (Nat.le_of_ble_eq_true rfl) ?_
      refine wpM.mono h (fun rr G7 hr => ?_)
      obtain ⟨r6, rfl, h⟩ := hr
      show wp E d M_X5_valuesInBraces 24 [some (vr _), some (vi _), none] [vi _] G7 Q
      refine wp_if_ne (pc := 24) (tgt := 37) d_X5_valuesInBraces_24 (by decide) (fun hc => ?_) (fun hc => ?_)
      · have h := h.1 hc
        refine wp_sub ?_ h
        exact ⟨rfl, ⟨rfl, trivial⟩⟩
      · have h := h.2 hc
        refine wp_aload_n (pc := 27) d_X5_valuesInBraces_27 rfl ?_
        obtain ⟨ho8, h⟩ := h
        refine wp_getR (pc := 28) d_X5_valuesInBraces_28 fl_X5_46 (fun _ _ _ => rfl) ho8 ?_
        refine wp_bipush (pc := 31) (v := 125) d_X5_valuesInBraces_31 rfl ?_
        obtain ⟨ho11, h⟩ := h
        refine wp_invV (pc := 33) (N := M_X10_accept) (As := [vi _]) (rest := []) (r := (cn_10, ct_10, 12)) d_X5_valuesInBraces_33 ml_X5_124 mk_X10_accept mv_X10_accept h0 ho11 rfl rfl (Nat.le_of_ble_eq_true rfl) ?_
        refine wpM.mono h (fun rr G10 hr => ?_)
        obtain ⟨r9, rfl, h⟩ := hr
        show wp E d M_X5_valuesInBraces 36 [some (vr _), some (vi _), none] [vi _] G10 Q
        exact wp_zret (pc := 36) d_X5_valuesInBraces_36 rfl h.1.1 h.2
theorem v_X5_valuesInBraces_37 {E : EE} {d : Nat} {Q : Option AV → AH → Prop} {x0 : Nat} {x1 : Int32} {G : AH} (h0 : 0 < d) (h : isO E G x0 5 ∧ (isO E G (gR G x0 0) 10 ∧ (wpV E (d - 1) M_X10_step [vr (gR G x0 0)] G (fun G2 => isO E G2 x0 5 ∧ (wpI E (d - 1) M_X5_numeral [vr x0, vi 1, vi 0, vi 99] G2 (fun r3 G4 => (¬ r3 = 0 → wp E d M_X5_valuesInBraces 59 [some (vr x0), some (vi x1), some (vi 0)] [] G4 Q) ∧ (r3 = 0 → Q (some (vi 0)) G4))))))) : wp E d M_X5_valuesInBraces 37 [some (vr x0), some (vi x1), none] [] G Q := by
  refine wp_aload_n (pc := 37) d_X5_valuesInBraces_37 rfl ?_
  obtain ⟨ho1, h⟩ := h
  refine wp_getR (pc := 38) d_X5_valuesInBraces_38 fl_X5_46 (fun _ _ _ => rfl) ho1 ?_
  obtain ⟨ho6, h⟩ := h
  refine wp_invV (pc := 41) (N := M_X10_step) (As := []) (rest := []) (r := (cn_10, ct_10, 12)) d_X5_valuesInBraces_41 ml_X5_180 mk_X10_step mv_X10_step h0 ho6 rfl rfl (Nat.le_of_ble_eq_true rfl) ?_
  refine wpM.mono h (fun rr G2 hr => ?_)
  obtain ⟨rfl, h⟩ := hr
  show wp E d M_X5_valuesInBraces 44 [some (vr _), some (vi _), none] [] G2 Q
  refine wp_aload_n (pc := 44) d_X5_valuesInBraces_44 rfl ?_
  refine wp_iconst (pc := 45) (v := 1) d_X5_valuesInBraces_45 rfl ?_
  refine wp_iconst (pc := 46) (v := 0) d_X5_valuesInBraces_46 rfl ?_
  refine wp_bipush (pc := 47) (v := 99) d_X5_valuesInBraces_47 rfl ?_
  obtain ⟨ho5, h⟩ := h
  refine wp_invV (pc := 49) (N := M_X5_numeral) (As := [vi _, vi _, vi _]) (rest := []) (r := (cn_5, ct_5, 11)) d_X5_valuesInBraces_49 ml_X5_127 mk_X5_numeral mv_X5_numeral h0 ho5 rfl rfl (Nat.le_of_ble_eq_true rfl) ?_
  refine wpM.mono h (fun rr G4 hr => ?_)
  obtain ⟨r3, rfl, h⟩ := hr
  show wp E d M_X5_valuesInBraces 52 [some (vr _), some (vi _), none] [vi _] G4 Q
  refine wp_if_ne (pc := 52) (tgt := 57) d_X5_valuesInBraces_52 (by decide) (fun hc => ?_) (fun hc => ?_)
  · have h := h.1 hc
    refine wp_iconst (pc := 57) (v := 0) d_X5_valuesInBraces_57 rfl ?_
    refine wp_istore_n (pc := 58) (lv' := [some (vr _), some (vi _), some (vi _)]) d_X5_valuesInBraces_58 (by decide) rfl ?_
    refine wp_sub ?_ h
    exact ⟨rfl, ⟨rfl, ⟨rfl, trivial⟩⟩⟩
  · have h := h.2 hc
    refine wp_iconst (pc := 55) (v := 0) d_X5_valuesInBraces_55 rfl ?_
    exact wp_zret (pc := 56) d_X5_valuesInBraces_56 rfl rfl h
theorem v_X5_valuesInBraces_59 {E : EE} {d : Nat} {Q : Option AV → AH → Prop} {x0 : Nat} {x1 : Int32} {x2 : Int32} {G : AH} (h0 : 0 < d) (h : isO E G x0 5 ∧ (((gI G x0 10) ≤ x2 → isO E G (gR G x0 9) 14 ∧ (((nI (gN G (gR G x0 9))) ≤ (gI G x0 10) → wp E d M_X5_valuesInBraces 131 [some (vr x0), some (vi x1), some (vi x2)] [] G Q) ∧ (¬ ((nI (gN G (gR G x0 9))) ≤ (gI G x0 10)) → ∀ G3 : AH, G3 = sI G x0 10 ((gI G x0 10) + 1) → vp_in (gI G x0 10) (gN G3 (gR G x0 9)) ∧ (∀ G7 : AH, G7 = sI G3 (gR G x0 9) (Int32.toNatClampNeg (gI G x0 10)) (gI G3 x0 5) → wp E d M_X5_valuesInBraces 131 [some (vr x0), some (vi x1), some (vi x2)] [] G7 Q)))) ∧ (¬ ((gI G x0 10) ≤ x2) → isO E G (gR G x0 9) 14 ∧ (vp_in x2 (gN G (gR G x0 9)) ∧ ((¬ (gI G (gR G x0 9) (Int32.toNatClampNeg x2)) = (gI G x0 5) → wp E d M_X5_valuesInBraces 59 [some (vr x0), some (vi x1), some (vi (x2 + 1))] [] G Q) ∧ ((gI G (gR G x0 9) (Int32.toNatClampNeg x2)) = (gI G x0 5) → isO E G (gR G x0 0) 10 ∧ (wpI E (d - 1) M_X10_fail [vr (gR G x0 0), vi 5, vi (gI G x0 6)] G (fun r11 G12 => okI .boolean r11 ∧ Q (some (vi r11)) G12)))))))) : wp E d M_X5_valuesInBraces 59 [some (vr x0), some (vi x1), some (vi x2)] [] G Q := by
  refine wp_iload_n (pc := 59) d_X5_valuesInBraces_59 rfl ?_
  refine wp_aload_n (pc := 60) d_X5_valuesInBraces_60 rfl ?_
  obtain ⟨ho1, h⟩ := h
  refine wp_getI (pc := 61) d_X5_valuesInBraces_61 fl_X5_43 (fun _ _ _ => rfl) ho1 ?_
  refine wp_icmp_ge (pc := 64) (tgt := 99) d_X5_valuesInBraces_64 (by decide) (fun hc => ?_) (fun hc => ?_)
  · have h := h.1 hc
    refine wp_aload_n (pc := 99) d_X5_valuesInBraces_99 rfl ?_
    refine wp_getI (pc := 100) d_X5_valuesInBraces_100 fl_X5_43 (fun _ _ _ => rfl) ho1 ?_
    refine wp_aload_n (pc := 103) d_X5_valuesInBraces_103 rfl ?_
    refine wp_getR (pc := 104) d_X5_valuesInBraces_104 fl_X5_39 (fun _ _ _ => rfl) ho1 ?_
    obtain ⟨ho2, h⟩ := h
    refine wp_alen (pc := 107) d_X5_valuesInBraces_107 ho2 (by decide) rfl ?_
    refine wp_icmp_ge (pc := 108) (tgt := 131) d_X5_valuesInBraces_108 (by decide) (fun hc => ?_) (fun hc => ?_)
    · have h := h.1 hc
      refine wp_sub ?_ h
      exact ⟨rfl, ⟨rfl, ⟨rfl, trivial⟩⟩⟩
    · have h := h.2 hc
      refine wp_aload_n (pc := 111) d_X5_valuesInBraces_111 rfl ?_
      refine wp_getR (pc := 112) d_X5_valuesInBraces_112 fl_X5_39 (fun _ _ _ => rfl) ho1 ?_
      refine wp_aload_n (pc := 115) d_X5_valuesInBraces_115 rfl ?_
      refine wp_dup (pc := 116) d_X5_valuesInBraces_116 (c1_r _) ?_
      refine wp_getI (pc := 117) d_X5_valuesInBraces_117 fl_X5_43 (fun _ _ _ => rfl) ho1 ?_
      refine wp_dup_x1 (pc := 120) d_X5_valuesInBraces_120 (c1_i _) (c1_r _) ?_
      refine wp_iconst (pc := 121) (v := 1) d_X5_valuesInBraces_121 rfl ?_
      refine wp_iadd (pc := 122) d_X5_valuesInBraces_122 ?_
      refine wp_putI (pc := 123) d_X5_valuesInBraces_123 fl_X5_43 (fun _ _ _ => rfl) (Or.inl rfl) ho1 (okI_int _) ?_
      refine wp_nm (fun G3 eG3 => ?_)
      have h := h G3 eG3
      have ho4 := isO_sI eG3 ho1
      have ho5 := isO_sI eG3 ho2
      refine wp_aload_n (pc := 126) d_X5_valuesInBraces_126 rfl ?_
      refine wp_getI (pc := 127) d_X5_valuesInBraces_127 fl_X5_27 (fun _ _ _ => rfl) ho4 ?_
      obtain ⟨hi6, h⟩ := h
      refine wp_iast (pc := 130) d_X5_valuesInBraces_130 ho5 hi6 ?_
      refine wp_nm (fun G7 eG7 => ?_)
      have h := h G7 eG7
      have ho8 := isO_sI eG7 ho4
      refine wp_sub ?_ h
      exact ⟨rfl, ⟨rfl, ⟨rfl, trivial⟩⟩⟩
  · have h := h.2 hc
    refine wp_aload_n (pc := 67) d_X5_valuesInBraces_67 rfl ?_
    refine wp_getR (pc := 68) d_X5_valuesInBraces_68 fl_X5_39 (fun _ _ _ => rfl) ho1 ?_
    refine wp_iload_n (pc := 71) d_X5_valuesInBraces_71 rfl ?_
    obtain ⟨ho9, h⟩ := h
    obtain ⟨hi10, h⟩ := h
    refine wp_iald (pc := 72) d_X5_valuesInBraces_72 ho9 hi10 ?_
    refine wp_aload_n (pc := 73) d_X5_valuesInBraces_73 rfl ?_
    refine wp_getI (pc := 74) d_X5_valuesInBraces_74 fl_X5_27 (fun _ _ _ => rfl) ho1 ?_
    refine wp_icmp_ne (pc := 77) (tgt := 93) d_X5_valuesInBraces_77 (by decide) (fun hc => ?_) (fun hc => ?_)
    · have h := h.1 hc
      refine wp_iinc (pc := 93) (v := 1) (lv' := [some (vr _), some (vi _), some (vi _)]) d_X5_valuesInBraces_93 (by decide) rfl rfl rfl ?_
      refine wp_goto (pc := 96) (tgt := 59) d_X5_valuesInBraces_96 (by decide) ?_
      refine wp_sub ?_ h
      exact ⟨rfl, ⟨rfl, ⟨rfl, trivial⟩⟩⟩
    · have h := h.2 hc
      refine wp_aload_n (pc := 80) d_X5_valuesInBraces_80 rfl ?_
      refine wp_getR (pc := 81) d_X5_valuesInBraces_81 fl_X5_46 (fun _ _ _ => rfl) ho1 ?_
      refine wp_iconst (pc := 84) (v := 5) d_X5_valuesInBraces_84 rfl ?_
      refine wp_aload_n (pc := 85) d_X5_valuesInBraces_85 rfl ?_
      refine wp_getI (pc := 86) d_X5_valuesInBraces_86 fl_X5_30 (fun _ _ _ => rfl) ho1 ?_
      obtain ⟨ho13, h⟩ := h
      refine wp_invV (pc := 89) (N := M_X10_fail) (As := [vi _, vi _]) (rest := []) (r := (cn_10, ct_10, 12)) d_X5_valuesInBraces_89 ml_X5_117 mk_X10_fail mv_X10_fail h0 ho13 rfl rfl (Nat.le_of_ble_eq_true rfl) ?_
      refine wpM.mono h (fun rr G12 hr => ?_)
      obtain ⟨r11, rfl, h⟩ := hr
      show wp E d M_X5_valuesInBraces 92 [some (vr _), some (vi _), some (vi _)] [vi _] G12 Q
      exact wp_zret (pc := 92) d_X5_valuesInBraces_92 rfl h.1.1 h.2
theorem v_X5_valuesInBraces_131 {E : EE} {d : Nat} {Q : Option AV → AH → Prop} {x0 : Nat} {x1 : Int32} {x2 : Int32} {G : AH} (h : wp E d M_X5_valuesInBraces 2 [some (vr x0), some (vi (x1 + 1)), none] [] G Q) : wp E d M_X5_valuesInBraces 131 [some (vr x0), some (vi x1), some (vi x2)] [] G Q := by
  refine wp_iinc (pc := 131) (v := 1) (lv' := [some (vr _), some (vi _), some (vi _)]) d_X5_valuesInBraces_131 (by decide) rfl rfl rfl ?_
  refine wp_goto (pc := 134) (tgt := 2) d_X5_valuesInBraces_134 (by decide) ?_
  refine wp_sub ?_ h
  exact ⟨rfl, ⟨rfl, trivial⟩⟩
theorem d_X5_valuesFromTo_0 : decode prog_7_method_10_code 0 = .ok (.aload_n 0, 1) := by decide +kernel
theorem d_X5_valuesFromTo_1 : decode prog_7_method_10_code 1 = .ok (.iconst 1, 1) := by decide +kernel
theorem d_X5_valuesFromTo_2 : decode prog_7_method_10_code 2 = .ok (.iconst 0, 1) := by decide +kernel
theorem d_X5_valuesFromTo_3 : decode prog_7_method_10_code 3 = .ok (.bipush 99, 2) := by decide +kernel
theorem d_X5_valuesFromTo_5 : decode prog_7_method_10_code 5 = .ok (.invokevirtual 127, 3) := by decide +kernel
theorem d_X5_valuesFromTo_8 : decode prog_7_method_10_code 8 = .ok (.ifCond .ne 5, 3) := by decide +kernel
theorem d_X5_valuesFromTo_11 : decode prog_7_method_10_code 11 = .ok (.iconst 0, 1) := by decide +kernel
theorem d_X5_valuesFromTo_12 : decode prog_7_method_10_code 12 = .ok (.ireturn, 1) := by decide +kernel
theorem d_X5_valuesFromTo_13 : decode prog_7_method_10_code 13 = .ok (.aload_n 0, 1) := by decide +kernel
theorem d_X5_valuesFromTo_14 : decode prog_7_method_10_code 14 = .ok (.getfield 27, 3) := by decide +kernel
theorem d_X5_valuesFromTo_17 : decode prog_7_method_10_code 17 = .ok (.istore_n 1, 1) := by decide +kernel
theorem d_X5_valuesFromTo_18 : decode prog_7_method_10_code 18 = .ok (.aload_n 0, 1) := by decide +kernel
theorem d_X5_valuesFromTo_19 : decode prog_7_method_10_code 19 = .ok (.getfield 46, 3) := by decide +kernel
theorem d_X5_valuesFromTo_22 : decode prog_7_method_10_code 22 = .ok (.sipush 11822, 3) := by decide +kernel
theorem d_X5_valuesFromTo_25 : decode prog_7_method_10_code 25 = .ok (.invokevirtual 124, 3) := by decide +kernel
theorem d_X5_valuesFromTo_28 : decode prog_7_method_10_code 28 = .ok (.ifCond .eq 14, 3) := by decide +kernel
theorem d_X5_valuesFromTo_31 : decode prog_7_method_10_code 31 = .ok (.aload_n 0, 1) := by decide +kernel
theorem d_X5_valuesFromTo_32 : decode prog_7_method_10_code 32 = .ok (.iconst 1, 1) := by decide +kernel
theorem d_X5_valuesFromTo_33 : decode prog_7_method_10_code 33 = .ok (.iconst 0, 1) := by decide +kernel
theorem d_X5_valuesFromTo_34 : decode prog_7_method_10_code 34 = .ok (.bipush 99, 2) := by decide +kernel
theorem d_X5_valuesFromTo_36 : decode prog_7_method_10_code 36 = .ok (.invokevirtual 127, 3) := by decide +kernel
theorem d_X5_valuesFromTo_39 : decode prog_7_method_10_code 39 = .ok (.ifCond .ne 5, 3) := by decide +kernel
theorem d_X5_valuesFromTo_42 : decode prog_7_method_10_code 42 = .ok (.iconst 0, 1) := by decide +kernel
theorem d_X5_valuesFromTo_43 : decode prog_7_method_10_code 43 = .ok (.ireturn, 1) := by decide +kernel
theorem d_X5_valuesFromTo_44 : decode prog_7_method_10_code 44 = .ok (.aload_n 0, 1) := by decide +kernel
theorem d_X5_valuesFromTo_45 : decode prog_7_method_10_code 45 = .ok (.getfield 27, 3) := by decide +kernel
theorem d_X5_valuesFromTo_48 : decode prog_7_method_10_code 48 = .ok (.iload_n 1, 1) := by decide +kernel
theorem d_X5_valuesFromTo_49 : decode prog_7_method_10_code 49 = .ok (.if_icmp .ge 16, 3) := by decide +kernel
theorem d_X5_valuesFromTo_52 : decode prog_7_method_10_code 52 = .ok (.aload_n 0, 1) := by decide +kernel
theorem d_X5_valuesFromTo_53 : decode prog_7_method_10_code 53 = .ok (.getfield 46, 3) := by decide +kernel
theorem d_X5_valuesFromTo_56 : decode prog_7_method_10_code 56 = .ok (.iconst 5, 1) := by decide +kernel
theorem d_X5_valuesFromTo_57 : decode prog_7_method_10_code 57 = .ok (.aload_n 0, 1) := by decide +kernel
theorem d_X5_valuesFromTo_58 : decode prog_7_method_10_code 58 = .ok (.getfield 30, 3) := by decide +kernel
theorem d_X5_valuesFromTo_61 : decode prog_7_method_10_code 61 = .ok (.invokevirtual 117, 3) := by decide +kernel
theorem d_X5_valuesFromTo_64 : decode prog_7_method_10_code 64 = .ok (.ireturn, 1) := by decide +kernel
theorem d_X5_valuesFromTo_65 : decode prog_7_method_10_code 65 = .ok (.iload_n 1, 1) := by decide +kernel
theorem d_X5_valuesFromTo_66 : decode prog_7_method_10_code 66 = .ok (.istore_n 2, 1) := by decide +kernel
theorem d_X5_valuesFromTo_67 : decode prog_7_method_10_code 67 = .ok (.iload_n 2, 1) := by decide +kernel
theorem d_X5_valuesFromTo_68 : decode prog_7_method_10_code 68 = .ok (.aload_n 0, 1) := by decide +kernel
theorem d_X5_valuesFromTo_69 : decode prog_7_method_10_code 69 = .ok (.getfield 27, 3) := by decide +kernel
theorem d_X5_valuesFromTo_72 : decode prog_7_method_10_code 72 = .ok (.if_icmp .gt 38, 3) := by decide +kernel
theorem d_X5_valuesFromTo_75 : decode prog_7_method_10_code 75 = .ok (.aload_n 0, 1) := by decide +kernel
theorem d_X5_valuesFromTo_76 : decode prog_7_method_10_code 76 = .ok (.getfield 43, 3) := by decide +kernel
theorem d_X5_valuesFromTo_79 : decode prog_7_method_10_code 79 = .ok (.aload_n 0, 1) := by decide +kernel
theorem d_X5_valuesFromTo_80 : decode prog_7_method_10_code 80 = .ok (.getfield 39, 3) := by decide +kernel
theorem d_X5_valuesFromTo_83 : decode prog_7_method_10_code 83 = .ok (.arraylength, 1) := by decide +kernel
theorem d_X5_valuesFromTo_84 : decode prog_7_method_10_code 84 = .ok (.if_icmp .ge 26, 3) := by decide +kernel
theorem d_X5_valuesFromTo_87 : decode prog_7_method_10_code 87 = .ok (.aload_n 0, 1) := by decide +kernel
theorem d_X5_valuesFromTo_88 : decode prog_7_method_10_code 88 = .ok (.getfield 39, 3) := by decide +kernel
theorem d_X5_valuesFromTo_91 : decode prog_7_method_10_code 91 = .ok (.aload_n 0, 1) := by decide +kernel
theorem d_X5_valuesFromTo_92 : decode prog_7_method_10_code 92 = .ok (.dup, 1) := by decide +kernel
theorem d_X5_valuesFromTo_93 : decode prog_7_method_10_code 93 = .ok (.getfield 43, 3) := by decide +kernel
theorem d_X5_valuesFromTo_96 : decode prog_7_method_10_code 96 = .ok (.dup_x1, 1) := by decide +kernel
theorem d_X5_valuesFromTo_97 : decode prog_7_method_10_code 97 = .ok (.iconst 1, 1) := by decide +kernel
theorem d_X5_valuesFromTo_98 : decode prog_7_method_10_code 98 = .ok (.iadd, 1) := by decide +kernel
theorem d_X5_valuesFromTo_99 : decode prog_7_method_10_code 99 = .ok (.putfield 43, 3) := by decide +kernel
theorem d_X5_valuesFromTo_102 : decode prog_7_method_10_code 102 = .ok (.iload_n 2, 1) := by decide +kernel
theorem d_X5_valuesFromTo_103 : decode prog_7_method_10_code 103 = .ok (.iastore, 1) := by decide +kernel
theorem d_X5_valuesFromTo_104 : decode prog_7_method_10_code 104 = .ok (.iinc 2 1, 3) := by decide +kernel
theorem d_X5_valuesFromTo_107 : decode prog_7_method_10_code 107 = .ok (.goto (-40), 3) := by decide +kernel
theorem d_X5_valuesFromTo_110 : decode prog_7_method_10_code 110 = .ok (.iconst 1, 1) := by decide +kernel
theorem d_X5_valuesFromTo_111 : decode prog_7_method_10_code 111 = .ok (.ireturn, 1) := by decide +kernel
theorem v_X5_valuesFromTo_0 {E : EE} {d : Nat} {Q : Option AV → AH → Prop} {x0 : Nat} {G : AH} (h0 : 0 < d) (h : isO E G x0 5 ∧ (wpI E (d - 1) M_X5_numeral [vr x0, vi 1, vi 0, vi 99] G (fun r1 G2 => (¬ r1 = 0 → isO E G2 x0 5 ∧ (isO E G2 (gR G2 x0 0) 10 ∧ (wpI E (d - 1) M_X10_accept [vr (gR G2 x0 0), vi 11822] G2 (fun r4 G5 => (r4 = 0 → Q (some (vi 0)) G5) ∧ (¬ (r4 = 0) → isO E G5 x0 5 ∧ (wpI E (d - 1) M_X5_numeral [vr x0, vi 1, vi 0, vi 99] G5 (fun r6 G7 => (¬ r6 = 0 → isO E G7 x0 5 ∧ (((gI G2 x0 5) ≤ (gI G7 x0 5) → wp E d M_X5_valuesFromTo 67 [some (vr x0), some (vi (gI G2 x0 5)), some (vi (gI G2 x0 5))] [] G7 Q) ∧ (¬ ((gI G2 x0 5) ≤ (gI G7 x0 5)) → isO E G7 (gR G7 x0 0) 10 ∧ (wpI E (d - 1) M_X10_fail [vr (gR G7 x0 0), vi 5, vi (gI G7 x0 6)] G7 (fun r9 G10 => okI .boolean r9 ∧ Q (some (vi r9)) G10))))) ∧ (r6 = 0 → Q (some (vi 0)) G7)))))))) ∧ (r1 = 0 → Q (some (vi 0)) G2)))) : wp E d M_X5_valuesFromTo 0 [some (vr x0), none, none] [] G Q := by
  refine wp_aload_n (pc := 0) d_X5_valuesFromTo_0 rfl ?_
  refine wp_iconst (pc := 1) (v := 1) d_X5_valuesFromTo_1 rfl ?_
  refine wp_iconst (pc := 2) (v := 0) d_X5_valuesFromTo_2 rfl ?_
  refine wp_bipush (pc := 3) (v := 99) d_X5_valuesFromTo_3 rfl ?_
  obtain ⟨ho14, h⟩ := h
  refine wp_invV (pc := 5) (N := M_X5_numeral) (As := [vi _, vi _, vi _]) (rest := []) (r := (cn_5, ct_5, 11)) d_X5_valuesFromTo_5 ml_X5_127 mk_X5_numeral mv_X5_numeral h0 ho14 rfl rfl (Nat.le_of_ble_eq_true rfl) ?_
  refine wpM.mono h (fun rr G2 hr => ?_)
  obtain ⟨r1, rfl, h⟩ := hr
  show wp E d M_X5_valuesFromTo 8 [some (vr _), none, none] [vi _] G2 Q
  refine wp_if_ne (pc := 8) (tgt := 13) d_X5_valuesFromTo_8 (by decide) (fun hc => ?_) (fun hc => ?_)
  · have h := h.1 hc
    refine wp_aload_n (pc := 13) d_X5_valuesFromTo_13 rfl ?_
    obtain ⟨ho3, h⟩ := h
    refine wp_getI (pc := 14) d_X5_valuesFromTo_14 fl_X5_27 (fun _ _ _ => rfl) ho3 ?_
    refine wp_istore_n (pc := 17) (lv' := [some (vr _), some (vi _), none]) d_X5_valuesFromTo_17 (by decide) rfl ?_
    refine wp_aload_n (pc := 18) d_X5_valuesFromTo_18 rfl ?_
    refine wp_getR (pc := 19) d_X5_valuesFromTo_19 fl_X5_46 (fun _ _ _ => rfl) ho3 ?_
    refine wp_sipush (pc := 22) (v := 11822) d_X5_valuesFromTo_22 rfl ?_
    obtain ⟨ho13, h⟩ := h
    refine wp_invV (pc := 25) (N := M_X10_accept) (As := [vi _]) (rest := []) (r := (cn_10, ct_10, 12)) d_X5_valuesFromTo_25 ml_X5_124 mk_X10_accept mv_X10_accept h0 ho13 rfl rfl (Nat.le_of_ble_eq_true rfl) ?_
    refine wpM.mono h (fun rr G5 hr => ?_)
    obtain ⟨r4, rfl, h⟩ := hr
    show wp E d M_X5_valuesFromTo 28 [some (vr _), some (vi _), none] [vi _] G5 Q
    refine wp_if_eq (pc := 28) (tgt := 42) d_X5_valuesFromTo_28 (by decide) (fun hc => ?_) (fun hc => ?_)
    · have h := h.1 hc
      refine wp_iconst (pc := 42) (v := 0) d_X5_valuesFromTo_42 rfl ?_
      exact wp_zret (pc := 43) d_X5_valuesFromTo_43 rfl rfl h
    · have h := h.2 hc
      refine wp_aload_n (pc := 31) d_X5_valuesFromTo_31 rfl ?_
      refine wp_iconst (pc := 32) (v := 1) d_X5_valuesFromTo_32 rfl ?_
      refine wp_iconst (pc := 33) (v := 0) d_X5_valuesFromTo_33 rfl ?_
      refine wp_bipush (pc := 34) (v := 99) d_X5_valuesFromTo_34 rfl ?_
      obtain ⟨ho12, h⟩ := h
      refine wp_invV (pc := 36) (N := M_X5_numeral) (As := [vi _, vi _, vi _]) (rest := []) (r := (cn_5, ct_5, 11)) d_X5_valuesFromTo_36 ml_X5_127 mk_X5_numeral mv_X5_numeral h0 ho12 rfl rfl (Nat.le_of_ble_eq_true rfl) ?_
      refine wpM.mono h (fun rr G7 hr => ?_)
      obtain ⟨r6, rfl, h⟩ := hr
      show wp E d M_X5_valuesFromTo 39 [some (vr _), some (vi _), none] [vi _] G7 Q
      refine wp_if_ne (pc := 39) (tgt := 44) d_X5_valuesFromTo_39 (by decide) (fun hc => ?_) (fun hc => ?_)
      · have h := h.1 hc
        refine wp_aload_n (pc := 44) d_X5_valuesFromTo_44 rfl ?_
        obtain ⟨ho8, h⟩ := h
        refine wp_getI (pc := 45) d_X5_valuesFromTo_45 fl_X5_27 (fun _ _ _ => rfl) ho8 ?_
        refine wp_iload_n (pc := 48) d_X5_valuesFromTo_48 rfl ?_
        refine wp_icmp_ge (pc := 49) (tgt := 65) d_X5_valuesFromTo_49 (by decide) (fun hc => ?_) (fun hc => ?_)
        · have h := h.1 hc
          refine wp_iload_n (pc := 65) d_X5_valuesFromTo_65 rfl ?_
          refine wp_istore_n (pc := 66) (lv' := [some (vr _), some (vi _), some (vi _)]) d_X5_valuesFromTo_66 (by decide) rfl ?_
          refine wp_sub ?_ h
          exact ⟨rfl, ⟨rfl, ⟨rfl, trivial⟩⟩⟩
        · have h := h.2 hc
          refine wp_aload_n (pc := 52) d_X5_valuesFromTo_52 rfl ?_
          refine wp_getR (pc := 53) d_X5_valuesFromTo_53 fl_X5_46 (fun _ _ _ => rfl) ho8 ?_
          refine wp_iconst (pc := 56) (v := 5) d_X5_valuesFromTo_56 rfl ?_
          refine wp_aload_n (pc := 57) d_X5_valuesFromTo_57 rfl ?_
          refine wp_getI (pc := 58) d_X5_valuesFromTo_58 fl_X5_30 (fun _ _ _ => rfl) ho8 ?_
          obtain ⟨ho11, h⟩ := h
          refine wp_invV (pc := 61) (N := M_X10_fail) (As := [vi _, vi _]) (rest := []) (r := (cn_10, ct_10, 12)) d_X5_valuesFromTo_61 ml_X5_117 mk_X10_fail mv_X10_fail h0 ho11 rfl rfl (Nat.le_of_ble_eq_true rfl) ?_
          refine wpM.mono h (fun rr G10 hr => ?_)
          obtain ⟨r9, rfl, h⟩ := hr
          show wp E d M_X5_valuesFromTo 64 [some (vr _), some (vi _), none] [vi _] G10 Q
          exact wp_zret (pc := 64) d_X5_valuesFromTo_64 rfl h.1.1 h.2
      · have h := h.2 hc
        refine wp_iconst (pc := 42) (v := 0) d_X5_valuesFromTo_42 rfl ?_
        exact wp_zret (pc := 43) d_X5_valuesFromTo_43 rfl rfl h
  · have h := h.2 hc
    refine wp_iconst (pc := 11) (v := 0) d_X5_valuesFromTo_11 rfl ?_
    exact wp_zret (pc := 12) d_X5_valuesFromTo_12 rfl rfl h
theorem v_X5_valuesFromTo_67 {E : EE} {d : Nat} {Q : Option AV → AH → Prop} {x0 : Nat} {x1 : Int32} {x2 : Int32} {G : AH} (h : isO E G x0 5 ∧ (((gI G x0 5) < x2 → Q (some (vi 1)) G) ∧ (¬ ((gI G x0 5) < x2) → isO E G (gR G x0 9) 14 ∧ (((nI (gN G (gR G x0 9))) ≤ (gI G x0 10) → Q (some (vi 1)) G) ∧ (¬ ((nI (gN G (gR G x0 9))) ≤ (gI G x0 10)) → ∀ G3 : AH, G3 = sI G x0 10 ((gI G x0 10) + 1) → vp_in (gI G x0 10) (gN G3 (gR G x0 9)) ∧ (∀ G7 : AH, G7 = sI G3 (gR G x0 9) (Int32.toNatClampNeg (gI G x0 10)) x2 → wp E d M_X5_valuesFromTo 67 [some (vr x0), some (vi x1), some (vi (x2 + 1))] [] G7 Q)))))) : wp E d M_X5_valuesFromTo 67 [some (vr x0), some (vi x1), some (vi x2)] [] G Q := by
  refine wp_iload_n (pc := 67) d_X5_valuesFromTo_67 rfl ?_
  refine wp_aload_n (pc := 68) d_X5_valuesFromTo_68 rfl ?_
  obtain ⟨ho1, h⟩ := h
  refine wp_getI (pc := 69) d_X5_valuesFromTo_69 fl_X5_27 (fun _ _ _ => rfl) ho1 ?_
  refine wp_icmp_gt (pc := 72) (tgt := 110) d_X5_valuesFromTo_72 (by decide) (fun hc => ?_) (fun hc => ?_)
  · have h := h.1 hc
    refine wp_iconst (pc := 110) (v := 1) d_X5_valuesFromTo_110 rfl ?_
    exact wp_zret (pc := 111) d_X5_valuesFromTo_111 rfl rfl h
  · have h := h.2 hc
    refine wp_aload_n (pc := 75) d_X5_valuesFromTo_75 rfl ?_
    refine wp_getI (pc := 76) d_X5_valuesFromTo_76 fl_X5_43 (fun _ _ _ => rfl) ho1 ?_
    refine wp_aload_n (pc := 79) d_X5_valuesFromTo_79 rfl ?_
    refine wp_getR (pc := 80) d_X5_valuesFromTo_80 fl_X5_39 (fun _ _ _ => rfl) ho1 ?_
    obtain ⟨ho2, h⟩ := h
    refine wp_alen (pc := 83) d_X5_valuesFromTo_83 ho2 (by decide) rfl ?_
    refine wp_icmp_ge (pc := 84) (tgt := 110) d_X5_valuesFromTo_84 (by decide) (fun hc => ?_) (fun hc => ?_)
    · have h := h.1 hc
      refine wp_iconst (pc := 110) (v := 1) d_X5_valuesFromTo_110 rfl ?_
      exact wp_zret (pc := 111) d_X5_valuesFromTo_111 rfl rfl h
    · have h := h.2 hc
      refine wp_aload_n (pc := 87) d_X5_valuesFromTo_87 rfl ?_
      refine wp_getR (pc := 88) d_X5_valuesFromTo_88 fl_X5_39 (fun _ _ _ => rfl) ho1 ?_
      refine wp_aload_n (pc := 91) d_X5_valuesFromTo_91 rfl ?_
      refine wp_dup (pc := 92) d_X5_valuesFromTo_92 (c1_r _) ?_
      refine wp_getI (pc := 93) d_X5_valuesFromTo_93 fl_X5_43 (fun _ _ _ => rfl) ho1 ?_
      refine wp_dup_x1 (pc := 96) d_X5_valuesFromTo_96 (c1_i _) (c1_r _) ?_
      refine wp_iconst (pc := 97) (v := 1) d_X5_valuesFromTo_97 rfl ?_
      refine wp_iadd (pc := 98) d_X5_valuesFromTo_98 ?_
      refine wp_putI (pc := 99) d_X5_valuesFromTo_99 fl_X5_43 (fun _ _ _ => rfl) (Or.inl rfl) ho1 (okI_int _) ?_
      refine wp_nm (fun G3 eG3 => ?_)
      have h := h G3 eG3
      have ho4 := isO_sI eG3 ho1
      have ho5 := isO_sI eG3 ho2
      refine wp_iload_n (pc := 102) d_X5_valuesFromTo_102 rfl ?_
      obtain ⟨hi6, h⟩ := h
      refine wp_iast (pc := 103) d_X5_valuesFromTo_103 ho5 hi6 ?_
      refine wp_nm (fun G7 eG7 => ?_)
      have h := h G7 eG7
      have ho8 := isO_sI eG7 ho4
      refine wp_iinc (pc := 104) (v := 1) (lv' := [some (vr _), some (vi _), some (vi _)]) d_X5_valuesFromTo_104 (by decide) rfl rfl rfl ?_
      refine wp_goto (pc := 107) (tgt := 67) d_X5_valuesFromTo_107 (by decide) ?_
      refine wp_sub ?_ h
      exact ⟨rfl, ⟨rfl, ⟨rfl, trivial⟩⟩⟩
theorem d_X5_ruleStatement_0 : decode prog_7_method_6_code 0 = .ok (.aload_n 0, 1) := by decide +kernel
theorem d_X5_ruleStatement_1 : decode prog_7_method_6_code 1 = .ok (.iconst 2, 1) := by decide +kernel
theorem d_X5_ruleStatement_2 : decode prog_7_method_6_code 2 = .ok (.bipush 24, 2) := by decide +kernel
theorem d_X5_ruleStatement_4 : decode prog_7_method_6_code 4 = .ok (.invokevirtual 121, 3) := by decide +kernel
theorem d_X5_ruleStatement_7 : decode prog_7_method_6_code 7 = .ok (.ifCond .eq 14, 3) := by decide +kernel
theorem d_X5_ruleStatement_10 : decode prog_7_method_6_code 10 = .ok (.aload_n 0, 1) := by decide +kernel
theorem d_X5_ruleStatement_11 : decode prog_7_method_6_code 11 = .ok (.getfield 46, 3) := by decide +kernel
theorem d_X5_ruleStatement_14 : decode prog_7_method_6_code 14 = .ok (.iconst 4, 1) := by decide +kernel
theorem d_X5_ruleStatement_15 : decode prog_7_method_6_code 15 = .ok (.invokevirtual 124, 3) := by decide +kernel
theorem d_X5_ruleStatement_18 : decode prog_7_method_6_code 18 = .ok (.ifCond .ne 5, 3) := by decide +kernel
theorem d_X5_ruleStatement_21 : decode prog_7_method_6_code 21 = .ok (.iconst 0, 1) := by decide +kernel
theorem d_X5_ruleStatement_22 : decode prog_7_method_6_code 22 = .ok (.ireturn, 1) := by decide +kernel
theorem d_X5_ruleStatement_23 : decode prog_7_method_6_code 23 = .ok (.aload_n 0, 1) := by decide +kernel
theorem d_X5_ruleStatement_24 : decode prog_7_method_6_code 24 = .ok (.iconst 0, 1) := by decide +kernel
theorem d_X5_ruleStatement_25 : decode prog_7_method_6_code 25 = .ok (.iconst 0, 1) := by decide +kernel
theorem d_X5_ruleStatement_26 : decode prog_7_method_6_code 26 = .ok (.iconst 2, 1) := by decide +kernel
theorem d_X5_ruleStatement_27 : decode prog_7_method_6_code 27 = .ok (.invokevirtual 127, 3) := by decide +kernel
theorem d_X5_ruleStatement_30 : decode prog_7_method_6_code 30 = .ok (.ifCond .ne 5, 3) := by decide +kernel
theorem d_X5_ruleStatement_33 : decode prog_7_method_6_code 33 = .ok (.iconst 0, 1) := by decide +kernel
theorem d_X5_ruleStatement_34 : decode prog_7_method_6_code 34 = .ok (.ireturn, 1) := by decide +kernel
theorem d_X5_ruleStatement_35 : decode prog_7_method_6_code 35 = .ok (.aload_n 0, 1) := by decide +kernel
theorem d_X5_ruleStatement_36 : decode prog_7_method_6_code 36 = .ok (.getfield 27, 3) := by decide +kernel
theorem d_X5_ruleStatement_39 : decode prog_7_method_6_code 39 = .ok (.istore_n 1, 1) := by decide +kernel
theorem d_X5_ruleStatement_40 : decode prog_7_method_6_code 40 = .ok (.iload_n 1, 1) := by decide +kernel
theorem d_X5_ruleStatement_41 : decode prog_7_method_6_code 41 = .ok (.ifCond .ne 32, 3) := by decide +kernel
theorem d_X5_ruleStatement_44 : decode prog_7_method_6_code 44 = .ok (.aload_n 0, 1) := by decide +kernel
theorem d_X5_ruleStatement_45 : decode prog_7_method_6_code 45 = .ok (.getfield 15, 3) := by decide +kernel
theorem d_X5_ruleStatement_48 : decode prog_7_method_6_code 48 = .ok (.getfield 151, 3) := by decide +kernel
theorem d_X5_ruleStatement_51 : decode prog_7_method_6_code 51 = .ok (.invokestatic 156, 3) := by decide +kernel
theorem d_X5_ruleStatement_54 : decode prog_7_method_6_code 54 = .ok (.bipush 12, 2) := by decide +kernel
theorem d_X5_ruleStatement_56 : decode prog_7_method_6_code 56 = .ok (.if_icmp .lt 17, 3) := by decide +kernel
theorem d_X5_ruleStatement_59 : decode prog_7_method_6_code 59 = .ok (.aload_n 0, 1) := by decide +kernel
theorem d_X5_ruleStatement_60 : decode prog_7_method_6_code 60 = .ok (.getfield 46, 3) := by decide +kernel
theorem d_X5_ruleStatement_63 : decode prog_7_method_6_code 63 = .ok (.bipush 6, 2) := by decide +kernel
theorem d_X5_ruleStatement_65 : decode prog_7_method_6_code 65 = .ok (.aload_n 0, 1) := by decide +kernel
theorem d_X5_ruleStatement_66 : decode prog_7_method_6_code 66 = .ok (.getfield 30, 3) := by decide +kernel
theorem d_X5_ruleStatement_69 : decode prog_7_method_6_code 69 = .ok (.invokevirtual 117, 3) := by decide +kernel
theorem d_X5_ruleStatement_72 : decode prog_7_method_6_code 72 = .ok (.ireturn, 1) := by decide +kernel
theorem d_X5_ruleStatement_73 : decode prog_7_method_6_code 73 = .ok (.aload_n 0, 1) := by decide +kernel
theorem d_X5_ruleStatement_74 : decode prog_7_method_6_code 74 = .ok (.getfield 46, 3) := by decide +kernel
theorem d_X5_ruleStatement_77 : decode prog_7_method_6_code 77 = .ok (.bipush 42, 2) := by decide +kernel
theorem d_X5_ruleStatement_79 : decode prog_7_method_6_code 79 = .ok (.invokevirtual 124, 3) := by decide +kernel
theorem d_X5_ruleStatement_82 : decode prog_7_method_6_code 82 = .ok (.ifCond .eq 27, 3) := by decide +kernel
theorem d_X5_ruleStatement_85 : decode prog_7_method_6_code 85 = .ok (.aload_n 0, 1) := by decide +kernel
theorem d_X5_ruleStatement_86 : decode prog_7_method_6_code 86 = .ok (.iconst 0, 1) := by decide +kernel
theorem d_X5_ruleStatement_87 : decode prog_7_method_6_code 87 = .ok (.iconst 1, 1) := by decide +kernel
theorem d_X5_ruleStatement_88 : decode prog_7_method_6_code 88 = .ok (.sipush 1000, 3) := by decide +kernel
theorem d_X5_ruleStatement_91 : decode prog_7_method_6_code 91 = .ok (.invokevirtual 127, 3) := by decide +kernel
theorem d_X5_ruleStatement_94 : decode prog_7_method_6_code 94 = .ok (.ifCond .eq 15, 3) := by decide +kernel
theorem d_X5_ruleStatement_97 : decode prog_7_method_6_code 97 = .ok (.aload_n 0, 1) := by decide +kernel
theorem d_X5_ruleStatement_98 : decode prog_7_method_6_code 98 = .ok (.getfield 46, 3) := by decide +kernel
theorem d_X5_ruleStatement_101 : decode prog_7_method_6_code 101 = .ok (.bipush 58, 2) := by decide +kernel
theorem d_X5_ruleStatement_103 : decode prog_7_method_6_code 103 = .ok (.invokevirtual 124, 3) := by decide +kernel
theorem d_X5_ruleStatement_106 : decode prog_7_method_6_code 106 = .ok (.ifCond .ne 5, 3) := by decide +kernel
theorem d_X5_ruleStatement_109 : decode prog_7_method_6_code 109 = .ok (.iconst 0, 1) := by decide +kernel
theorem d_X5_ruleStatement_110 : decode prog_7_method_6_code 110 = .ok (.ireturn, 1) := by decide +kernel
theorem d_X5_ruleStatement_111 : decode prog_7_method_6_code 111 = .ok (.aload_n 0, 1) := by decide +kernel
theorem d_X5_ruleStatement_112 : decode prog_7_method_6_code 112 = .ok (.getfield 27, 3) := by decide +kernel
theorem d_X5_ruleStatement_115 : decode prog_7_method_6_code 115 = .ok (.istore_n 2, 1) := by decide +kernel
theorem d_X5_ruleStatement_116 : decode prog_7_method_6_code 116 = .ok (.aload_n 0, 1) := by decide +kernel
theorem d_X5_ruleStatement_117 : decode prog_7_method_6_code 117 = .ok (.getfield 9, 3) := by decide +kernel
theorem d_X5_ruleStatement_120 : decode prog_7_method_6_code 120 = .ok (.getfield 134, 3) := by decide +kernel
theorem d_X5_ruleStatement_123 : decode prog_7_method_6_code 123 = .ok (.iconst 2, 1) := by decide +kernel
theorem d_X5_ruleStatement_124 : decode prog_7_method_6_code 124 = .ok (.iaload, 1) := by decide +kernel
theorem d_X5_ruleStatement_125 : decode prog_7_method_6_code 125 = .ok (.istore_n 3, 1) := by decide +kernel
theorem d_X5_ruleStatement_126 : decode prog_7_method_6_code 126 = .ok (.aload_n 0, 1) := by decide +kernel
theorem d_X5_ruleStatement_127 : decode prog_7_method_6_code 127 = .ok (.iconst 0, 1) := by decide +kernel
theorem d_X5_ruleStatement_128 : decode prog_7_method_6_code 128 = .ok (.putfield 36, 3) := by decide +kernel
theorem d_X5_ruleStatement_131 : decode prog_7_method_6_code 131 = .ok (.aload_n 0, 1) := by decide +kernel
theorem d_X5_ruleStatement_132 : decode prog_7_method_6_code 132 = .ok (.getfield 15, 3) := by decide +kernel
theorem d_X5_ruleStatement_135 : decode prog_7_method_6_code 135 = .ok (.iload_n 3, 1) := by decide +kernel
theorem d_X5_ruleStatement_136 : decode prog_7_method_6_code 136 = .ok (.invokevirtual 162, 3) := by decide +kernel
theorem d_X5_ruleStatement_139 : decode prog_7_method_6_code 139 = .ok (.aload_n 0, 1) := by decide +kernel
theorem d_X5_ruleStatement_140 : decode prog_7_method_6_code 140 = .ok (.invokevirtual 166, 3) := by decide +kernel
theorem d_X5_ruleStatement_143 : decode prog_7_method_6_code 143 = .ok (.ifCond .eq 15, 3) := by decide +kernel
theorem d_X5_ruleStatement_146 : decode prog_7_method_6_code 146 = .ok (.aload_n 0, 1) := by decide +kernel
theorem d_X5_ruleStatement_147 : decode prog_7_method_6_code 147 = .ok (.getfield 46, 3) := by decide +kernel
theorem d_X5_ruleStatement_150 : decode prog_7_method_6_code 150 = .ok (.bipush 59, 2) := by decide +kernel
theorem d_X5_ruleStatement_152 : decode prog_7_method_6_code 152 = .ok (.invokevirtual 124, 3) := by decide +kernel
theorem d_X5_ruleStatement_155 : decode prog_7_method_6_code 155 = .ok (.ifCond .ne 5, 3) := by decide +kernel
theorem d_X5_ruleStatement_158 : decode prog_7_method_6_code 158 = .ok (.iconst 0, 1) := by decide +kernel
theorem d_X5_ruleStatement_159 : decode prog_7_method_6_code 159 = .ok (.ireturn, 1) := by decide +kernel
theorem d_X5_ruleStatement_160 : decode prog_7_method_6_code 160 = .ok (.aload_n 0, 1) := by decide +kernel
theorem d_X5_ruleStatement_161 : decode prog_7_method_6_code 161 = .ok (.getfield 15, 3) := by decide +kernel
theorem d_X5_ruleStatement_164 : decode prog_7_method_6_code 164 = .ok (.iload_n 3, 1) := by decide +kernel
theorem d_X5_ruleStatement_165 : decode prog_7_method_6_code 165 = .ok (.iload_n 1, 1) := by decide +kernel
theorem d_X5_ruleStatement_166 : decode prog_7_method_6_code 166 = .ok (.invokevirtual 169, 3) := by decide +kernel
theorem d_X5_ruleStatement_169 : decode prog_7_method_6_code 169 = .ok (.aload_n 0, 1) := by decide +kernel
theorem d_X5_ruleStatement_170 : decode prog_7_method_6_code 170 = .ok (.getfield 15, 3) := by decide +kernel
theorem d_X5_ruleStatement_173 : decode prog_7_method_6_code 173 = .ok (.iload_n 3, 1) := by decide +kernel
theorem d_X5_ruleStatement_174 : decode prog_7_method_6_code 174 = .ok (.iload_n 2, 1) := by decide +kernel
theorem d_X5_ruleStatement_175 : decode prog_7_method_6_code 175 = .ok (.aload_n 0, 1) := by decide +kernel
theorem d_X5_ruleStatement_176 : decode prog_7_method_6_code 176 = .ok (.getfield 36, 3) := by decide +kernel
theorem d_X5_ruleStatement_179 : decode prog_7_method_6_code 179 = .ok (.invokevirtual 173, 3) := by decide +kernel
theorem d_X5_ruleStatement_182 : decode prog_7_method_6_code 182 = .ok (.aload_n 0, 1) := by decide +kernel
theorem d_X5_ruleStatement_183 : decode prog_7_method_6_code 183 = .ok (.getfield 9, 3) := by decide +kernel
theorem d_X5_ruleStatement_186 : decode prog_7_method_6_code 186 = .ok (.iconst 2, 1) := by decide +kernel
theorem d_X5_ruleStatement_187 : decode prog_7_method_6_code 187 = .ok (.aload_n 0, 1) := by decide +kernel
theorem d_X5_ruleStatement_188 : decode prog_7_method_6_code 188 = .ok (.getfield 19, 3) := by decide +kernel
theorem d_X5_ruleStatement_191 : decode prog_7_method_6_code 191 = .ok (.invokevirtual 137, 3) := by decide +kernel
theorem d_X5_ruleStatement_194 : decode prog_7_method_6_code 194 = .ok (.iconst 1, 1) := by decide +kernel
theorem d_X5_ruleStatement_195 : decode prog_7_method_6_code 195 = .ok (.ireturn, 1) := by decide +kernel
theorem v_X5_ruleStatement_0 {E : EE} {d : Nat} {Q : Option AV → AH → Prop} {x0 : Nat} {G : AH} (h0 : 0 < d) (h : isO E G x0 5 ∧ (wpI E (d - 1) M_X5_newName [vr x0, vi 2, vi 24] G (fun r1 G2 => (r1 = 0 → Q (some (vi 0)) G2) ∧ (¬ (r1 = 0) → isO E G2 x0 5 ∧ (isO E G2 (gR G2 x0 0) 10 ∧ (wpI E (d - 1) M_X10_accept [vr (gR G2 x0 0), vi 4] G2 (fun r4 G5 => (¬ r4 = 0 → isO E G5 x0 5 ∧ (wpI E (d - 1) M_X5_numeral [vr x0, vi 0, vi 0, vi 2] G5 (fun r6 G7 => (¬ r6 = 0 → isO E G7 x0 5 ∧ ((¬ (gI G7 x0 5) = 0 → wp E d M_X5_ruleStatement 73 [some (vr x0), some (vi (gI G7 x0 5)), none, none] [] G7 Q) ∧ ((gI G7 x0 5) = 0 → isO E G7 (gR G7 x0 2) 2 ∧ (wpI E (d - 1) M_J6_bitCount_0f7a4 [vi (gI G7 (gR G7 x0 2) 0)] G7 (fun r10 G11 => (r10 < 12 → wp E d M_X5_ruleStatement 73 [some (vr x0), some (vi (gI G7 x0 5)), none, none] [] G11 Q) ∧ (¬ (r10 < 12) → isO E G11 x0 5 ∧ (isO E G11 (gR G11 x0 0) 10 ∧ (wpI E (d - 1) M_X10_fail [vr (gR G11 x0 0), vi 6, vi (gI G11 x0 6)] G11 (fun r13 G14 => okI .boolean r13 ∧ Q (some (vi r13)) G14))))))))) ∧ (r6 = 0 → Q (some (vi 0)) G7)))) ∧ (r4 = 0 → Q (some (vi 0)) G5)))))))) : wp E d M_X5_ruleStatement 0 [some (vr x0), none, none, none] [] G Q := by
  refine wp_aload_n (pc := 0) d_X5_ruleStatement_0 rfl ?_
  refine wp_iconst (pc := 1) (v := 2) d_X5_ruleStatement_1 rfl ?_
  refine wp_bipush (pc := 2) (v := 24) d_X5_ruleStatement_2 rfl ?_
  obtain ⟨ho18, h⟩ := h
  refine wp_invV (pc := 4) (N := M_X5_newName) (As := [vi _, vi _]) (rest := []) (r := (cn_5, ct_5, 11)) d_X5_ruleStatement_4 ml_X5_121 mk_X5_newName mv_X5_newName h0 ho18 rfl rfl (Nat.le_of_ble_eq_true rfl) ?_
  refine wpM.mono h (fun rr G2 hr => ?_)
  obtain ⟨r1, rfl, h⟩ := hr
  show wp E d M_X5_ruleStatement 7 [some (vr _), none, none, none] [vi _] G2 Q
  refine wp_if_eq (pc := 7) (tgt := 21) d_X5_ruleStatement_7 (by decide) (fun hc => ?_) (fun hc => ?_)
  · have h := h.1 hc
    refine wp_iconst (pc := 21) (v := 0) d_X5_ruleStatement_21 rfl ?_
    exact wp_zret (pc := 22) d_X5_ruleStatement_22 rfl rfl h
  · have h := h.2 hc
    refine wp_aload_n (pc := 10) d_X5_ruleStatement_10 rfl ?_
    obtain ⟨ho3, h⟩ := h
    refine wp_getR (pc := 11) d_X5_ruleStatement_11 fl_X5_46 (fun _ _ _ => rfl) ho3 ?_
    refine wp_iconst (pc := 14) (v := 4) d_X5_ruleStatement_14 rfl ?_
    obtain ⟨ho17, h⟩ := h
    refine wp_invV (pc := 15) (N := M_X10_accept) (As := [vi _]) (rest := []) (r := (cn_10, ct_10, 12)) d_X5_ruleStatement_15 ml_X5_124 mk_X10_accept mv_X10_accept h0 ho17 rfl rfl (Nat.le_of_ble_eq_true rfl) ?_
    refine wpM.mono h (fun rr G5 hr => ?_)
    obtain ⟨r4, rfl, h⟩ := hr
    show wp E d M_X5_ruleStatement 18 [some (vr _), none, none, none] [vi _] G5 Q
    refine wp_if_ne (pc := 18) (tgt := 23) d_X5_ruleStatement_18 (by decide) (fun hc => ?_) (fun hc => ?_)
    · have h := h.1 hc
      refine wp_aload_n (pc := 23) d_X5_ruleStatement_23 rfl ?_
      refine wp_iconst (pc := 24) (v := 0) d_X5_ruleStatement_24 rfl ?_
      refine wp_iconst (pc := 25) (v := 0) d_X5_ruleStatement_25 rfl ?_
      refine wp_iconst (pc := 26) (v := 2) d_X5_ruleStatement_26 rfl ?_
      obtain ⟨ho16, h⟩ := h
      refine wp_invV (pc := 27) (N := M_X5_numeral) (As := [vi _, vi _, vi _]) (rest := []) (r := (cn_5, ct_5, 11)) d_X5_ruleStatement_27 ml_X5_127 mk_X5_numeral mv_X5_numeral h0 ho16 rfl rfl (Nat.le_of_ble_eq_true rfl) ?_
      refine wpM.mono h (fun rr G7 hr => ?_)
      obtain ⟨r6, rfl, h⟩ := hr
      show wp E d M_X5_ruleStatement 30 [some (vr _), none, none, none] [vi _] G7 Q
      refine wp_if_ne (pc := 30) (tgt := 35) d_X5_ruleStatement_30 (by decide) (fun hc => ?_) (fun hc => ?_)
      · have h := h.1 hc
        refine wp_aload_n (pc := 35) d_X5_ruleStatement_35 rfl ?_
        obtain ⟨ho8, h⟩ := h
        refine wp_getI (pc := 36) d_X5_ruleStatement_36 fl_X5_27 (fun _ _ _ => rfl) ho8 ?_
        refine wp_istore_n (pc := 39) (lv' := [some (vr _), some (vi _), none, none]) d_X5_ruleStatement_39 (by decide) rfl ?_
        refine wp_iload_n (pc := 40) d_X5_ruleStatement_40 rfl ?_
        refine wp_if_ne (pc := 41) (tgt := 73) d_X5_ruleStatement_41 (by decide) (fun hc => ?_) (fun hc => ?_)
        · have h := h.1 hc
          refine wp_sub ?_ h
          exact ⟨rfl, ⟨rfl, trivial⟩⟩
        · have h := h.2 hc
          refine wp_aload_n (pc := 44) d_X5_ruleStatement_44 rfl ?_
          refine wp_getR (pc := 45) d_X5_ruleStatement_45 fl_X5_15 (fun _ _ _ => rfl) ho8 ?_
          obtain ⟨ho9, h⟩ := h
          refine wp_getI (pc := 48) d_X5_ruleStatement_48 fl_X5_151 (fun _ _ _ => rfl) ho9 ?_
          refine wp_invS (pc := 51) (N := M_J6_bitCount_0f7a4) (As := [vi _]) (rest := []) d_X5_ruleStatement_51 ml_X5_156 mk_J6_bitCount_0f7a4 ms_J6_bitCount_0f7a4 h0 (Nat.le_of_ble_eq_true rfl) ?_
          refine wpM.mono h (fun rr G11 hr => ?_)
          obtain ⟨r10, rfl, h⟩ := hr
          show wp E d M_X5_ruleStatement 54 [some (vr _), some (vi _), none, none] [vi _] G11 Q
          refine wp_bipush (pc := 54) (v := 12) d_X5_ruleStatement_54 rfl ?_
          refine wp_icmp_lt (pc := 56) (tgt := 73) d_X5_ruleStatement_56 (by decide) (fun hc => ?_) (fun hc => ?_)
          · have h := h.1 hc
            refine wp_sub ?_ h
            exact ⟨rfl, ⟨rfl, trivial⟩⟩
          · have h := h.2 hc
            refine wp_aload_n (pc := 59) d_X5_ruleStatement_59 rfl ?_
            obtain ⟨ho12, h⟩ := h
            refine wp_getR (pc := 60) d_X5_ruleStatement_60 fl_X5_46 (fun _ _ _ => rfl) ho12 ?_
            refine wp_bipush (pc := 63) (v := 6) d_X5_ruleStatement_63 rfl ?_
            refine wp_aload_n (pc := 65) d_X5_ruleStatement_65 rfl ?_
            refine wp_getI (pc := 66) d_X5_ruleStatement_66 fl_X5_30 (fun _ _ _ => rfl) ho12 ?_
            obtain ⟨ho15, h⟩ := h
            refine wp_invV (pc := 69) (N := M_X10_fail) (As := [vi _, vi _]) (rest := []) (r := (cn_10, ct_10, 12)) d_X5_ruleStatement_69 ml_X5_117 mk_X10_fail mv_X10_fail h0 ho15 rfl rfl (Nat.le_of_ble_eq_true rfl) ?_
            refine wpM.mono h (fun rr G14 hr => ?_)
            obtain ⟨r13, rfl, h⟩ := hr
            show wp E d M_X5_ruleStatement 72 [some (vr _), some (vi _), none, none] [vi _] G14 Q
            exact wp_zret (pc := 72) d_X5_ruleStatement_72 rfl h.1.1 h.2
      · have h := h.2 hc
        refine wp_iconst (pc := 33) (v := 0) d_X5_ruleStatement_33 rfl ?_
        exact wp_zret (pc := 34) d_X5_ruleStatement_34 rfl rfl h
    · have h := h.2 hc
      refine wp_iconst (pc := 21) (v := 0) d_X5_ruleStatement_21 rfl ?_
      exact wp_zret (pc := 22) d_X5_ruleStatement_22 rfl rfl h
theorem v_X5_ruleStatement_73 {E : EE} {d : Nat} {Q : Option AV → AH → Prop} {x0 : Nat} {x1 : Int32} {G : AH} (h0 : 0 < d) (h : isO E G x0 5 ∧ (isO E G (gR G x0 0) 10 ∧ (wpI E (d - 1) M_X10_accept [vr (gR G x0 0), vi 42] G (fun r2 G3 => (r2 = 0 → Q (some (vi 0)) G3) ∧ (¬ (r2 = 0) → isO E G3 x0 5 ∧ (wpI E (d - 1) M_X5_numeral [vr x0, vi 0, vi 1, vi 1000] G3 (fun r4 G5 => (r4 = 0 → Q (some (vi 0)) G5) ∧ (¬ (r4 = 0) → isO E G5 x0 5 ∧ (isO E G5 (gR G5 x0 0) 10 ∧ (wpI E (d - 1) M_X10_accept [vr (gR G5 x0 0), vi 58] G5 (fun r7 G8 => (¬ r7 = 0 → isO E G8 x0 5 ∧ (isO E G8 (gR G8 x0 1) 3 ∧ (isO E G8 (gR G8 (gR G8 x0 1) 3) 14 ∧ (vp_in 2 (gN G8 (gR G8 (gR G8 x0 1) 3)) ∧ (isO E G8 (gR G8 x0 2) 2 ∧ (wpV E (d - 1) M_X2_begin [vr (gR G8 x0 2), vi (gI G8 (gR G8 (gR G8 x0 1) 3) (Int32.toNatClampNeg 2))] (sI G8 x0 8 0) (fun G13 => isO E G13 x0 5 ∧ (wpI E (d - 1) M_X5_test [vr x0] G13 (fun r14 G15 => (r14 = 0 → Q (some (vi 0)) G15) ∧ (¬ (r14 = 0) → isO E G15 x0 5 ∧ (isO E G15 (gR G15 x0 0) 10 ∧ (wpI E (d - 1) M_X10_accept [vr (gR G15 x0 0), vi 59] G15 (fun r17 G18 => (¬ r17 = 0 → isO E G18 x0 5 ∧ (isO E G18 (gR G18 x0 2) 2 ∧ (wpV E (d - 1) M_X2_finish [vr (gR G18 x0 2), vi (gI G8 (gR G8 (gR G8 x0 1) 3) (Int32.toNatClampNeg 2)), vi x1] G18 (fun G20 => isO E G20 x0 5 ∧ (isO E G20 (gR G20 x0 2) 2 ∧ (wpV E (d - 1) M_X2_describe [vr (gR G20 x0 2), vi (gI G8 (gR G8 (gR G8 x0 1) 3) (Int32.toNatClampNeg 2)), vi (gI G8 x0 5), vi (gI G20 x0 8)] G20 (fun G22 => isO E G22 x0 5 ∧ (isO E G22 (gR G22 x0 1) 3 ∧ (wpV E (d - 1) M_X3_tell [vr (gR G22 x0 1), vi 2, vj (gJ G22 x0 3)] G22 (fun G24 => Q (some (vi 1)) G24)))))))))) ∧ (r17 = 0 → Q (some (vi 0)) G18)))))))))))))) ∧ (r7 = 0 → Q (some (vi 0)) G8)))))))))))) : wp E d M_X5_ruleStatement 73 [some (vr x0), some (vi x1), none, none] [] G Q := by
  refine wp_aload_n (pc := 73) d_X5_ruleStatement_73 rfl ?_
  obtain ⟨ho1, h⟩ := h
  refine wp_getR (pc := 74) d_X5_ruleStatement_74 fl_X5_46 (fun _ _ _ => rfl) ho1 ?_
  refine wp_bipush (pc := 77) (v := 42) d_X5_ruleStatement_77 rfl ?_
  obtain ⟨ho33, h⟩ := h
  refine wp_invV (pc := 79) (N := M_X10_accept) (As := [vi _]) (rest := []) (r := (cn_10, ct_10, 12)) d_X5_ruleStatement_79 ml_X5_124 mk_X10_accept mv_X10_accept h0 ho33 rfl rfl (Nat.le_of_ble_eq_true rfl) ?_
  refine wpM.mono h (fun rr G3 hr => ?_)
  obtain ⟨r2, rfl, h⟩ := hr
  show wp E d M_X5_ruleStatement 82 [some (vr _), some (vi _), none, none] [vi _] G3 Q
  refine wp_if_eq (pc := 82) (tgt := 109) d_X5_ruleStatement_82 (by decide) (fun hc => ?_) (fun hc => ?_)
  · have h := h.1 hc
    refine wp_iconst (pc := 109) (v := 0) d_X5_ruleStatement_109 rfl ?_
    exact wp_zret (pc := 110) d_X5_ruleStatement_110 rfl rfl h
  · have h := h.2 hc
    refine wp_aload_n (pc := 85) d_X5_ruleStatement_85 rfl ?_
    refine wp_iconst (pc := 86) (v := 0) d_X5_ruleStatement_86 rfl ?_
    refine wp_iconst (pc := 87) (v := 1) d_X5_ruleStatement_87 rfl ?_
    refine wp_sipush (pc := 88) (v := 1000) d_X5_ruleStatement_88 rfl ?_
    obtain ⟨ho32, h⟩ := h
    refine wp_invV (pc := 91) (N := M_X5_numeral) (As := [vi _, vi _, vi _]) (rest := []) (r := (cn_5, ct_5, 11)) d_X5_ruleStatement_91 ml_X5_127 mk_X5_numeral mv_X5_numeral h0 ho32 rfl rfl (Nat.le_of_ble_eq_true rfl) ?_
    refine wpM.mono h (fun rr G5 hr => ?_)
    obtain ⟨r4, rfl, h⟩ := hr
    show wp E d M_X5_ruleStatement 94 [some (vr _), some (vi _), none, none] [vi _] G5 Q
    refine wp_if_eq (pc := 94) (tgt := 109) d_X5_ruleStatement_94 (by decide) (fun hc => ?_) (fun hc => ?_)
    · have h := h.1 hc
      refine wp_iconst (pc := 109) (v := 0) d_X5_ruleStatement_109 rfl ?_
      exact wp_zret (pc := 110) d_X5_ruleStatement_110 rfl rfl h
    · have h := h.2 hc
      refine wp_aload_n (pc := 97) d_X5_ruleStatement_97 rfl ?_
      obtain ⟨ho6, h⟩ := h
      refine wp_getR (pc := 98) d_X5_ruleStatement_98 fl_X5_46 (fun _ _ _ => rfl) ho6 ?_
      refine wp_bipush (pc := 101) (v := 58) d_X5_ruleStatement_101 rfl ?_
      obtain ⟨ho31, h⟩ := h
      refine wp_invV (pc := 103) (N := M_X10_accept) (As := [vi _]) (rest := []) (r := (cn_10, ct_10, 12)) d_X5_ruleStatement_103 ml_X5_124 mk_X10_accept mv_X10_accept h0 ho31 rfl rfl (Nat.le_of_ble_eq_true rfl) ?_
      refine wpM.mono h (fun rr G8 hr => ?_)
      obtain ⟨r7, rfl, h⟩ := hr
      show wp E d M_X5_ruleStatement 106 [some (vr _), some (vi _), none, none] [vi _] G8 Q
      refine wp_if_ne (pc := 106) (tgt := 111) d_X5_ruleStatement_106 (by decide) (fun hc => ?_) (fun hc => ?_)
      · have h := h.1 hc
        refine wp_aload_n (pc := 111) d_X5_ruleStatement_111 rfl ?_
        obtain ⟨ho9, h⟩ := h
        refine wp_getI (pc := 112) d_X5_ruleStatement_112 fl_X5_27 (fun _ _ _ => rfl) ho9 ?_
        refine wp_istore_n (pc := 115) (lv' := [some (vr _), some (vi _), some (vi _), none]) d_X5_ruleStatement_115 (by decide) rfl ?_
        refine wp_aload_n (pc := 116) d_X5_ruleStatement_116 rfl ?_
        refine wp_getR (pc := 117) d_X5_ruleStatement_117 fl_X5_9 (fun _ _ _ => rfl) ho9 ?_
        obtain ⟨ho10, h⟩ := h
        refine wp_getR (pc := 120) d_X5_ruleStatement_120 fl_X5_134 (fun _ _ _ => rfl) ho10 ?_
        refine wp_iconst (pc := 123) (v := 2) d_X5_ruleStatement_123 rfl ?_
        obtain ⟨ho11, h⟩ := h
        obtain ⟨hi12, h⟩ := h
        refine wp_iald (pc := 124) d_X5_ruleStatement_124 ho11 hi12 ?_
        refine wp_istore_n (pc := 125) (lv' := [some (vr _), some (vi _), some (vi _), some (vi _)]) d_X5_ruleStatement_125 (by decide) rfl ?_
        refine wp_aload_n (pc := 126) d_X5_ruleStatement_126 rfl ?_
        refine wp_iconst (pc := 127) (v := 0) d_X5_ruleStatement_127 rfl ?_
        refine wp_putI (pc := 128) d_X5_ruleStatement_128 fl_X5_36 (fun _ _ _ => rfl) (Or.inl rfl) ho9 (okI_int _) ?_
        refine wp_aload_n (pc := 131) d_X5_ruleStatement_131 rfl ?_
        refine wp_getR (pc := 132) d_X5_ruleStatement_132 fl_X5_15 (fun _ _ _ => rfl) ho9 ?_
        show wp E d M_X5_ruleStatement 135 [some (vr x0), some (vi x1), some (vi (gI G8 x0 5)), some (vi (gI G8 (gR G8 (gR G8 x0 1) 3) (Int32.toNatClampNeg 2)))] [vr (gR G8 x0 2)] (sI G8 x0 8 0) Q
        refine wp_iload_n (pc := 135) d_X5_ruleStatement_135 rfl ?_
        obtain ⟨ho30, h⟩ := h
        refine wp_invV (pc := 136) (N := M_X2_begin) (As := [vi _]) (rest := []) (r := (cn_2, ct_2, 15)) d_X5_ruleStatement_136 ml_X5_162 mk_X2_begin mv_X2_begin h0 ho30 rfl rfl (Nat.le_of_ble_eq_true rfl) ?_
        refine wpM.mono h (fun rr G13 hr => ?_)
        obtain ⟨rfl, h⟩ := hr
        show wp E d M_X5_ruleStatement 139 [some (vr _), some (vi _), some (vi _), some (vi _)] [] G13 Q
        refine wp_aload_n (pc := 139) d_X5_ruleStatement_139 rfl ?_
        obtain ⟨ho29, h⟩ := h
        refine wp_invV (pc := 140) (N := M_X5_test) (As := []) (rest := []) (r := (cn_5, ct_5, 11)) d_X5_ruleStatement_140 ml_X5_166 mk_X5_test mv_X5_test h0 ho29 rfl rfl (Nat.le_of_ble_eq_true rfl) ?_
        refine wpM.mono h (fun rr G15 hr => ?_)
        obtain ⟨r14, rfl, h⟩ := hr
        show wp E d M_X5_ruleStatement 143 [some (vr _), some (vi _), some (vi _), some (vi _)] [vi _] G15 Q
        refine wp_if_eq (pc := 143) (tgt := 158) d_X5_ruleStatement_143 (by decide) (fun hc => ?_) (fun hc => ?_)
        · have h := h.1 hc
          refine wp_iconst (pc := 158) (v := 0) d_X5_ruleStatement_158 rfl ?_
          exact wp_zret (pc := 159) d_X5_ruleStatement_159 rfl rfl h
        · have h := h.2 hc
          refine wp_aload_n (pc := 146) d_X5_ruleStatement_146 rfl ?_
          obtain ⟨ho16, h⟩ := h
          refine wp_getR (pc := 147) d_X5_ruleStatement_147 fl_X5_46 (fun _ _ _ => rfl) ho16 ?_
          refine wp_bipush (pc := 150) (v := 59) d_X5_ruleStatement_150 rfl ?_
          obtain ⟨ho28, h⟩ := h
          refine wp_invV (pc := 152) (N := M_X10_accept) (As := [vi _]) (rest := []) (r := (cn_10, ct_10, 12)) d_X5_ruleStatement_152 ml_X5_124 mk_X10_accept mv_X10_accept h0 ho28 rfl rfl (Nat.le_of_ble_eq_true rfl) ?_
          refine wpM.mono h (fun rr G18 hr => ?_)
          obtain ⟨r17, rfl, h⟩ := hr
          show wp E d M_X5_ruleStatement 155 [some (vr _), some (vi _), some (vi _), some (vi _)] [vi _] G18 Q
          refine wp_if_ne (pc := 155) (tgt := 160) d_X5_ruleStatement_155 (by decide) (fun hc => ?_) (fun hc => ?_)
          · have h := h.1 hc
            refine wp_aload_n (pc := 160) d_X5_ruleStatement_160 rfl ?_
            obtain ⟨ho19, h⟩ := h
            refine wp_getR (pc := 161) d_X5_ruleStatement_161 fl_X5_15 (fun _ _ _ => rfl) ho19 ?_
            refine wp_iload_n (pc := 164) d_X5_ruleStatement_164 rfl ?_
            refine wp_iload_n (pc := 165) d_X5_ruleStatement_165 rfl ?_
            obtain ⟨ho27, h⟩ := h
            refine wp_invV (pc := 166) (N := M_X2_finish) (As := [vi _, vi _]) (rest := []) (r := (cn_2, ct_2, 15)) d_X5_ruleStatement_166 ml_X5_169 mk_X2_finish mv_X2_finish h0 ho27 rfl rfl (Nat.le_of_ble_eq_true rfl) ?_
            refine wpM.mono h (fun rr G20 hr => ?_)
            obtain ⟨rfl, h⟩ := hr
            show wp E d M_X5_ruleStatement 169 [some (vr _), some (vi _), some (vi _), some (vi _)] [] G20 Q
            refine wp_aload_n (pc := 169) d_X5_ruleStatement_169 rfl ?_
            obtain ⟨ho21, h⟩ := h
            refine wp_getR (pc := 170) d_X5_ruleStatement_170 fl_X5_15 (fun _ _ _ => rfl) ho21 ?_
            refine wp_iload_n (pc := 173) d_X5_ruleStatement_173 rfl ?_
            refine wp_iload_n (pc := 174) d_X5_ruleStatement_174 rfl ?_
            refine wp_aload_n (pc := 175) d_X5_ruleStatement_175 rfl ?_
            refine wp_getI (pc := 176) d_X5_ruleStatement_176 fl_X5_36 (fun _ _ _ => rfl) ho21 ?_
            obtain ⟨ho26, h⟩ := h
            refine wp_invV (pc := 179) (N := M_X2_describe) (As := [vi _, vi _, vi _]) (rest := []) (r := (cn_2, ct_2, 15)) d_X5_ruleStatement_179 ml_X5_173 mk_X2_describe mv_X2_describe h0 ho26 rfl rfl (Nat.le_of_ble_eq_true rfl) ?_
            refine wpM.mono h (fun rr G22 hr => ?_)
            obtain ⟨rfl, h⟩ := hr
            show wp E d M_X5_ruleStatement 182 [some (vr _), some (vi _), some (vi _), some (vi _)] [] G22 Q
            refine wp_aload_n (pc := 182) d_X5_ruleStatement_182 rfl ?_
            obtain ⟨ho23, h⟩ := h
            refine wp_getR (pc := 183) d_X5_ruleStatement_183 fl_X5_9 (fun _ _ _ => rfl) ho23 ?_
            refine wp_iconst (pc := 186) (v := 2) d_X5_ruleStatement_186 rfl ?_
            refine wp_aload_n (pc := 187) d_X5_ruleStatement_187 rfl ?_
            refine wp_getJ (pc := 188) d_X5_ruleStatement_188 fl_X5_19 (fun _ _ _ => rfl) ho23 ?_
            obtain ⟨ho25, h⟩ := h
            refine wp_invV (pc := 191) (N := M_X3_tell) (As := [vi _, vj _]) (rest := []) (r := (cn_3, ct_3, 19)) d_X5_ruleStatement_191 ml_X5_137 mk_X3_tell mv_X3_tell h0 ho25 rfl rfl (Nat.le_of_ble_eq_true rfl) ?_
            refine wpM.mono h (fun rr G24 hr => ?_)
            obtain ⟨rfl, h⟩ := hr
            show wp E d M_X5_ruleStatement 194 [some (vr _), some (vi _), some (vi _), some (vi _)] [] G24 Q
            refine wp_iconst (pc := 194) (v := 1) d_X5_ruleStatement_194 rfl ?_
            exact wp_zret (pc := 195) d_X5_ruleStatement_195 rfl rfl h
          · have h := h.2 hc
            refine wp_iconst (pc := 158) (v := 0) d_X5_ruleStatement_158 rfl ?_
            exact wp_zret (pc := 159) d_X5_ruleStatement_159 rfl rfl h
      · have h := h.2 hc
        refine wp_iconst (pc := 109) (v := 0) d_X5_ruleStatement_109 rfl ?_
        exact wp_zret (pc := 110) d_X5_ruleStatement_110 rfl rfl h
theorem d_X5_test_0 : decode prog_7_method_12_code 0 = .ok (.aload_n 0, 1) := by decide +kernel
theorem d_X5_test_1 : decode prog_7_method_12_code 1 = .ok (.invokevirtual 190, 3) := by decide +kernel
theorem d_X5_test_4 : decode prog_7_method_12_code 4 = .ok (.ifCond .ne 5, 3) := by decide +kernel
theorem d_X5_test_7 : decode prog_7_method_12_code 7 = .ok (.iconst 0, 1) := by decide +kernel
theorem d_X5_test_8 : decode prog_7_method_12_code 8 = .ok (.ireturn, 1) := by decide +kernel
theorem d_X5_test_9 : decode prog_7_method_12_code 9 = .ok (.aload_n 0, 1) := by decide +kernel
theorem d_X5_test_10 : decode prog_7_method_12_code 10 = .ok (.getfield 46, 3) := by decide +kernel
theorem d_X5_test_13 : decode prog_7_method_12_code 13 = .ok (.sipush 11582, 3) := by decide +kernel
theorem d_X5_test_16 : decode prog_7_method_12_code 16 = .ok (.invokevirtual 78, 3) := by decide +kernel
theorem d_X5_test_19 : decode prog_7_method_12_code 19 = .ok (.ifCond .ne 5, 3) := by decide +kernel
theorem d_X5_test_22 : decode prog_7_method_12_code 22 = .ok (.iconst 1, 1) := by decide +kernel
theorem d_X5_test_23 : decode prog_7_method_12_code 23 = .ok (.ireturn, 1) := by decide +kernel
theorem d_X5_test_24 : decode prog_7_method_12_code 24 = .ok (.aload_n 0, 1) := by decide +kernel
theorem d_X5_test_25 : decode prog_7_method_12_code 25 = .ok (.sipush 11582, 3) := by decide +kernel
theorem d_X5_test_28 : decode prog_7_method_12_code 28 = .ok (.invokevirtual 193, 3) := by decide +kernel
theorem d_X5_test_31 : decode prog_7_method_12_code 31 = .ok (.ifCond .eq 10, 3) := by decide +kernel
theorem d_X5_test_34 : decode prog_7_method_12_code 34 = .ok (.aload_n 0, 1) := by decide +kernel
theorem d_X5_test_35 : decode prog_7_method_12_code 35 = .ok (.invokevirtual 166, 3) := by decide +kernel
theorem d_X5_test_38 : decode prog_7_method_12_code 38 = .ok (.ifCond .ne 5, 3) := by decide +kernel
theorem d_X5_test_41 : decode prog_7_method_12_code 41 = .ok (.iconst 0, 1) := by decide +kernel
theorem d_X5_test_42 : decode prog_7_method_12_code 42 = .ok (.ireturn, 1) := by decide +kernel
theorem d_X5_test_43 : decode prog_7_method_12_code 43 = .ok (.aload_n 0, 1) := by decide +kernel
theorem d_X5_test_44 : decode prog_7_method_12_code 44 = .ok (.dup, 1) := by decide +kernel
theorem d_X5_test_45 : decode prog_7_method_12_code 45 = .ok (.getfield 33, 3) := by decide +kernel
theorem d_X5_test_48 : decode prog_7_method_12_code 48 = .ok (.iconst 1, 1) := by decide +kernel
theorem d_X5_test_49 : decode prog_7_method_12_code 49 = .ok (.isub, 1) := by decide +kernel
theorem d_X5_test_50 : decode prog_7_method_12_code 50 = .ok (.putfield 33, 3) := by decide +kernel
theorem d_X5_test_53 : decode prog_7_method_12_code 53 = .ok (.aload_n 0, 1) := by decide +kernel
theorem d_X5_test_54 : decode prog_7_method_12_code 54 = .ok (.getfield 15, 3) := by decide +kernel
theorem d_X5_test_57 : decode prog_7_method_12_code 57 = .ok (.bipush 21, 2) := by decide +kernel
theorem d_X5_test_59 : decode prog_7_method_12_code 59 = .ok (.iconst 0, 1) := by decide +kernel
theorem d_X5_test_60 : decode prog_7_method_12_code 60 = .ok (.invokevirtual 196, 3) := by decide +kernel
theorem d_X5_test_63 : decode prog_7_method_12_code 63 = .ok (.ireturn, 1) := by decide +kernel
theorem v_X5_test_0 {E : EE} {d : Nat} {Q : Option AV → AH → Prop} {x0 : Nat} {G : AH} (h0 : 0 < d) (h : isO E G x0 5 ∧ (wpI E (d - 1) M_X5_either [vr x0] G (fun r1 G2 => (¬ r1 = 0 → isO E G2 x0 5 ∧ (isO E G2 (gR G2 x0 0) 10 ∧ (wpI E (d - 1) M_X10_is [vr (gR G2 x0 0), vi 11582] G2 (fun r4 G5 => (¬ r4 = 0 → isO E G5 x0 5 ∧ (wpI E (d - 1) M_X5_enter [vr x0, vi 11582] G5 (fun r6 G7 => (r6 = 0 → Q (some (vi 0)) G7) ∧ (¬ (r6 = 0) → isO E G7 x0 5 ∧ (wpI E (d - 1) M_X5_test [vr x0] G7 (fun r8 G9 => (¬ r8 = 0 → isO E G9 x0 5 ∧ (isO E G9 (gR G9 x0 2) 2 ∧ (wpI E (d - 1) M_X2_emit [vr (gR G9 x0 2), vi 21, vi 0] (sI G9 x0 7 ((gI G9 x0 7) - 1)) (fun r11 G12 => okI .boolean r11 ∧ Q (some (vi r11)) G12)))) ∧ (r8 = 0 → Q (some (vi 0)) G9))))))) ∧ (r4 = 0 → Q (some (vi 1)) G5))))) ∧ (r1 = 0 → Q (some (vi 0)) G2)))) : wp E d M_X5_test 0 [some (vr x0)] [] G Q := by
  refine wp_aload_n (pc := 0) d_X5_test_0 rfl ?_
  obtain ⟨ho17, h⟩ := h
  refine wp_invV (pc := 1) (N := M_X5_either) (As := []) (rest := []) (r := (cn_5, ct_5, 11)) d_X5_test_1 ml_X5_190 mk_X5_either mv_X5_either h0 ho17 rfl rfl (Nat.le_of_ble_eq_true rfl) ?_
  refine wpM.mono h (fun rr G2 hr => ?_)
  obtain ⟨r1, rfl, h⟩ := hr
  show wp E d M_X5_test 4 [some (vr _)] [vi _] G2 Q
  refine wp_if_ne (pc := 4) (tgt := 9) d_X5_test_4 (by decide) (fun hc => ?_) (fun hc => ?_)
  · have h := h.1 hc
    refine wp_aload_n (pc := 9) d_X5_test_9 rfl ?_
    obtain ⟨ho3, h⟩ := h
    refine wp_getR (pc := 10) d_X5_test_10 fl_X5_46 (fun _ _ _ => rfl) ho3 ?_
    refine wp_sipush (pc := 13) (v := 11582) d_X5_test_13 rfl ?_
    obtain ⟨ho16, h⟩ := h
    refine wp_invV (pc := 16) (N := M_X10_is) (As := [vi _]) (rest := []) (r := (cn_10, ct_10, 12)) d_X5_test_16 ml_X5_78 mk_X10_is mv_X10_is h0 ho16 rfl rfl (Nat.le_of_ble_eq_true rfl) ?_
    refine wpM.mono h (fun rr G5 hr => ?_)
    obtain ⟨r4, rfl, h⟩ := hr
    show wp E d M_X5_test 19 [some (vr _)] [vi _] G5 Q
    refine wp_if_ne (pc := 19) (tgt := 24) d_X5_test_19 (by decide) (fun hc => ?_) (fun hc => ?_)
    · have h := h.1 hc
      refine wp_aload_n (pc := 24) d_X5_test_24 rfl ?_
      refine wp_sipush (pc := 25) (v := 11582) d_X5_test_25 rfl ?_
      obtain ⟨ho15, h⟩ := h
      refine wp_invV (pc := 28) (N := M_X5_enter) (As := [vi _]) (rest := []) (r := (cn_5, ct_5, 11)) d_X5_test_28 ml_X5_193 mk_X5_enter mv_X5_enter h0 ho15 rfl rfl (Nat.le_of_ble_eq_true rfl) ?_
      refine wpM.mono h (fun rr G7 hr => ?_)
      obtain ⟨r6, rfl, h⟩ := hr
      show wp E d M_X5_test 31 [some (vr _)] [vi _] G7 Q
      refine wp_if_eq (pc := 31) (tgt := 41) d_X5_test_31 (by decide) (fun hc => ?_) (fun hc => ?_)
      · have h := h.1 hc
        refine wp_iconst (pc := 41) (v := 0) d_X5_test_41 rfl ?_
        exact wp_zret (pc := 42) d_X5_test_42 rfl rfl h
      · have h := h.2 hc
        refine wp_aload_n (pc := 34) d_X5_test_34 rfl ?_
        obtain ⟨ho14, h⟩ := h
        refine wp_invV (pc := 35) (N := M_X5_test) (As := []) (rest := []) (r := (cn_5, ct_5, 11)) d_X5_test_35 ml_X5_166 mk_X5_test mv_X5_test h0 ho14 rfl rfl (Nat.le_of_ble_eq_true rfl) ?_
        refine wpM.mono h (fun rr G9 hr => ?_)
        obtain ⟨r8, rfl, h⟩ := hr
        show wp E d M_X5_test 38 [some (vr _)] [vi _] G9 Q
        refine wp_if_ne (pc := 38) (tgt := 43) d_X5_test_38 (by decide) (fun hc => ?_) (fun hc => ?_)
        · have h := h.1 hc
          refine wp_aload_n (pc := 43) d_X5_test_43 rfl ?_
          refine wp_dup (pc := 44) d_X5_test_44 (c1_r _) ?_
          obtain ⟨ho10, h⟩ := h
          refine wp_getI (pc := 45) d_X5_test_45 fl_X5_33 (fun _ _ _ => rfl) ho10 ?_
          refine wp_iconst (pc := 48) (v := 1) d_X5_test_48 rfl ?_
          refine wp_isub (pc := 49) d_X5_test_49 ?_
          refine wp_putI (pc := 50) d_X5_test_50 fl_X5_33 (fun _ _ _ => rfl) (Or.inl rfl) ho10 (okI_int _) ?_
          refine wp_aload_n (pc := 53) d_X5_test_53 rfl ?_
          refine wp_getR (pc := 54) d_X5_test_54 fl_X5_15 (fun _ _ _ => rfl) ho10 ?_
          show wp E d M_X5_test 57 [some (vr x0)] [vr (gR G9 x0 2)] (sI G9 x0 7 ((gI G9 x0 7) - 1)) Q
          refine wp_bipush (pc := 57) (v := 21) d_X5_test_57 rfl ?_
          refine wp_iconst (pc := 59) (v := 0) d_X5_test_59 rfl ?_
          obtain ⟨ho13, h⟩ := h
          refine wp_invV (pc := 60) (N := M_X2_emit) (As := [vi _, vi _]) (rest := []) (r := (cn_2, ct_2, 15)) d_X5_test_60 ml_X5_196 mk_X2_emit mv_X2_emit h0 ho13 rfl rfl (Nat.le_of_ble_eq_true rfl) ?_
          refine wpM.mono h (fun rr G12 hr => ?_)
          obtain ⟨r11, rfl, h⟩ := hr
          show wp E d M_X5_test 63 [some (vr _)] [vi _] G12 Q
          exact wp_zret (pc := 63) d_X5_test_63 rfl h.1.1 h.2
        · have h := h.2 hc
          refine wp_iconst (pc := 41) (v := 0) d_X5_test_41 rfl ?_
          exact wp_zret (pc := 42) d_X5_test_42 rfl rfl h
    · have h := h.2 hc
      refine wp_iconst (pc := 22) (v := 1) d_X5_test_22 rfl ?_
      exact wp_zret (pc := 23) d_X5_test_23 rfl rfl h
  · have h := h.2 hc
    refine wp_iconst (pc := 7) (v := 0) d_X5_test_7 rfl ?_
    exact wp_zret (pc := 8) d_X5_test_8 rfl rfl h
theorem d_X5_either_0 : decode prog_7_method_13_code 0 = .ok (.aload_n 0, 1) := by decide +kernel
theorem d_X5_either_1 : decode prog_7_method_13_code 1 = .ok (.invokevirtual 199, 3) := by decide +kernel
theorem d_X5_either_4 : decode prog_7_method_13_code 4 = .ok (.ifCond .ne 5, 3) := by decide +kernel
theorem d_X5_either_7 : decode prog_7_method_13_code 7 = .ok (.iconst 0, 1) := by decide +kernel
theorem d_X5_either_8 : decode prog_7_method_13_code 8 = .ok (.ireturn, 1) := by decide +kernel
theorem d_X5_either_9 : decode prog_7_method_13_code 9 = .ok (.iconst 0, 1) := by decide +kernel
theorem d_X5_either_10 : decode prog_7_method_13_code 10 = .ok (.istore_n 1, 1) := by decide +kernel
theorem d_X5_either_11 : decode prog_7_method_13_code 11 = .ok (.iload_n 1, 1) := by decide +kernel
theorem d_X5_either_12 : decode prog_7_method_13_code 12 = .ok (.sipush 20000, 3) := by decide +kernel
theorem d_X5_either_15 : decode prog_7_method_13_code 15 = .ok (.if_icmp .ge 48, 3) := by decide +kernel
theorem d_X5_either_18 : decode prog_7_method_13_code 18 = .ok (.aload_n 0, 1) := by decide +kernel
theorem d_X5_either_19 : decode prog_7_method_13_code 19 = .ok (.getfield 46, 3) := by decide +kernel
theorem d_X5_either_22 : decode prog_7_method_13_code 22 = .ok (.bipush 124, 2) := by decide +kernel
theorem d_X5_either_24 : decode prog_7_method_13_code 24 = .ok (.invokevirtual 78, 3) := by decide +kernel
theorem d_X5_either_27 : decode prog_7_method_13_code 27 = .ok (.ifCond .eq 36, 3) := by decide +kernel
theorem d_X5_either_30 : decode prog_7_method_13_code 30 = .ok (.aload_n 0, 1) := by decide +kernel
theorem d_X5_either_31 : decode prog_7_method_13_code 31 = .ok (.getfield 46, 3) := by decide +kernel
theorem d_X5_either_34 : decode prog_7_method_13_code 34 = .ok (.invokevirtual 180, 3) := by decide +kernel
theorem d_X5_either_37 : decode prog_7_method_13_code 37 = .ok (.aload_n 0, 1) := by decide +kernel
theorem d_X5_either_38 : decode prog_7_method_13_code 38 = .ok (.invokevirtual 199, 3) := by decide +kernel
theorem d_X5_either_41 : decode prog_7_method_13_code 41 = .ok (.ifCond .ne 5, 3) := by decide +kernel
theorem d_X5_either_44 : decode prog_7_method_13_code 44 = .ok (.iconst 0, 1) := by decide +kernel
theorem d_X5_either_45 : decode prog_7_method_13_code 45 = .ok (.ireturn, 1) := by decide +kernel
theorem d_X5_either_46 : decode prog_7_method_13_code 46 = .ok (.aload_n 0, 1) := by decide +kernel
theorem d_X5_either_47 : decode prog_7_method_13_code 47 = .ok (.getfield 15, 3) := by decide +kernel
theorem d_X5_either_50 : decode prog_7_method_13_code 50 = .ok (.bipush 20, 2) := by decide +kernel
theorem d_X5_either_52 : decode prog_7_method_13_code 52 = .ok (.iconst 0, 1) := by decide +kernel
theorem d_X5_either_53 : decode prog_7_method_13_code 53 = .ok (.invokevirtual 196, 3) := by decide +kernel
theorem d_X5_either_56 : decode prog_7_method_13_code 56 = .ok (.pop, 1) := by decide +kernel
theorem d_X5_either_57 : decode prog_7_method_13_code 57 = .ok (.iinc 1 1, 3) := by decide +kernel
theorem d_X5_either_60 : decode prog_7_method_13_code 60 = .ok (.goto (-49), 3) := by decide +kernel
theorem d_X5_either_63 : decode prog_7_method_13_code 63 = .ok (.iconst 1, 1) := by decide +kernel
theorem d_X5_either_64 : decode prog_7_method_13_code 64 = .ok (.ireturn, 1) := by decide +kernel
theorem v_X5_either_0 {E : EE} {d : Nat} {Q : Option AV → AH → Prop} {x0 : Nat} {G : AH} (h0 : 0 < d) (h : isO E G x0 5 ∧ (wpI E (d - 1) M_X5_both [vr x0] G (fun r1 G2 => (¬ r1 = 0 → wp E d M_X5_either 11 [some (vr x0), some (vi 0)] [] G2 Q) ∧ (r1 = 0 → Q (some (vi 0)) G2)))) : wp E d M_X5_either 0 [some (vr x0), none] [] G Q := by
  refine wp_aload_n (pc := 0) d_X5_either_0 rfl ?_
  obtain ⟨ho3, h⟩ := h
  refine wp_invV (pc := 1) (N := M_X5_both) (As := []) (rest := []) (r := (cn_5, ct_5, 11)) d_X5_either_1 ml_X5_199 mk_X5_both mv_X5_both h0 ho3 rfl rfl (Nat.le_of_ble_eq_true rfl) ?_
  refine wpM.mono h (fun rr G2 hr => ?_)
  obtain ⟨r1, rfl, h⟩ := hr
  show wp E d M_X5_either 4 [some (vr _), none] [vi _] G2 Q
  refine wp_if_ne (pc := 4) (tgt := 9) d_X5_either_4 (by decide) (fun hc => ?_) (fun hc => ?_)
  · have h := h.1 hc
    refine wp_iconst (pc := 9) (v := 0) d_X5_either_9 rfl ?_
    refine wp_istore_n (pc := 10) (lv' := [some (vr _), some (vi _)]) d_X5_either_10 (by decide) rfl ?_
    refine wp_sub ?_ h
    exact ⟨rfl, ⟨rfl, trivial⟩⟩
  · have h := h.2 hc
    refine wp_iconst (pc := 7) (v := 0) d_X5_either_7 rfl ?_
    exact wp_zret (pc := 8) d_X5_either_8 rfl rfl h
theorem v_X5_either_11 {E : EE} {d : Nat} {Q : Option AV → AH → Prop} {x0 : Nat} {x1 : Int32} {G : AH} (h0 : 0 < d) (h : (20000 ≤ x1 → Q (some (vi 1)) G) ∧ (¬ (20000 ≤ x1) → isO E G x0 5 ∧ (isO E G (gR G x0 0) 10 ∧ (wpI E (d - 1) M_X10_is [vr (gR G x0 0), vi 124] G (fun r2 G3 => (r2 = 0 → Q (some (vi 1)) G3) ∧ (¬ (r2 = 0) → isO E G3 x0 5 ∧ (isO E G3 (gR G3 x0 0) 10 ∧ (wpV E (d - 1) M_X10_step [vr (gR G3 x0 0)] G3 (fun G5 => isO E G5 x0 5 ∧ (wpI E (d - 1) M_X5_both [vr x0] G5 (fun r6 G7 => (¬ r6 = 0 → isO E G7 x0 5 ∧ (isO E G7 (gR G7 x0 2) 2 ∧ (wpI E (d - 1) M_X2_emit [vr (gR G7 x0 2), vi 20, vi 0] G7 (fun r9 G10 => wp E d M_X5_either 11 [some (vr x0), some (vi (x1 + 1))] [] G10 Q)))) ∧ (r6 = 0 → Q (some (vi 0)) G7)))))))))))) : wp E d M_X5_either 11 [some (vr x0), some (vi x1)] [] G Q := by
  refine wp_iload_n (pc := 11) d_X5_either_11 rfl ?_
  refine wp_sipush (pc := 12) (v := 20000) d_X5_either_12 rfl ?_
  refine wp_icmp_ge (pc := 15) (tgt := 63) d_X5_either_15 (by decide) (fun hc => ?_) (fun hc => ?_)
  · have h := h.1 hc
    refine wp_iconst (pc := 63) (v := 1) d_X5_either_63 rfl ?_
    exact wp_zret (pc := 64) d_X5_either_64 rfl rfl h
  · have h := h.2 hc
    refine wp_aload_n (pc := 18) d_X5_either_18 rfl ?_
    obtain ⟨ho1, h⟩ := h
    refine wp_getR (pc := 19) d_X5_either_19 fl_X5_46 (fun _ _ _ => rfl) ho1 ?_
    refine wp_bipush (pc := 22) (v := 124) d_X5_either_22 rfl ?_
    obtain ⟨ho14, h⟩ := h
    refine wp_invV (pc := 24) (N := M_X10_is) (As := [vi _]) (rest := []) (r := (cn_10, ct_10, 12)) d_X5_either_24 ml_X5_78 mk_X10_is mv_X10_is h0 ho14 rfl rfl (Nat.le_of_ble_eq_true rfl) ?_
    refine wpM.mono h (fun rr G3 hr => ?_)
    obtain ⟨r2, rfl, h⟩ := hr
    show wp E d M_X5_either 27 [some (vr _), some (vi _)] [vi _] G3 Q
    refine wp_if_eq (pc := 27) (tgt := 63) d_X5_either_27 (by decide) (fun hc => ?_) (fun hc => ?_)
    · have h := h.1 hc
      refine wp_iconst (pc := 63) (v := 1) d_X5_either_63 rfl ?_
      exact wp_zret (pc := 64) d_X5_either_64 rfl rfl h
    · have h := h.2 hc
      refine wp_aload_n (pc := 30) d_X5_either_30 rfl ?_
      obtain ⟨ho4, h⟩ := h
      refine wp_getR (pc := 31) d_X5_either_31 fl_X5_46 (fun _ _ _ => rfl) ho4 ?_
      obtain ⟨ho13, h⟩ := h
      refine wp_invV (pc := 34) (N := M_X10_step) (As := []) (rest := []) (r := (cn_10, ct_10, 12)) d_X5_either_34 ml_X5_180 mk_X10_step mv_X10_step h0 ho13 rfl rfl (Nat.le_of_ble_eq_true rfl) ?_
      refine wpM.mono h (fun rr G5 hr => ?_)
      obtain ⟨rfl, h⟩ := hr
      show wp E d M_X5_either 37 [some (vr _), some (vi _)] [] G5 Q
      refine wp_aload_n (pc := 37) d_X5_either_37 rfl ?_
      obtain ⟨ho12, h⟩ := h
      refine wp_invV (pc := 38) (N := M_X5_both) (As := []) (rest := []) (r := (cn_5, ct_5, 11)) d_X5_either_38 ml_X5_199 mk_X5_both mv_X5_both h0 ho12 rfl rfl (Nat.le_of_ble_eq_true rfl) ?_
      refine wpM.mono h (fun rr G7 hr => ?_)
      obtain ⟨r6, rfl, h⟩ := hr
      show wp E d M_X5_either 41 [some (vr _), some (vi _)] [vi _] G7 Q
      refine wp_if_ne (pc := 41) (tgt := 46) d_X5_either_41 (by decide) (fun hc => ?_) (fun hc => ?_)
      · have h := h.1 hc
        refine wp_aload_n (pc := 46) d_X5_either_46 rfl ?_
        obtain ⟨ho8, h⟩ := h
        refine wp_getR (pc := 47) d_X5_either_47 fl_X5_15 (fun _ _ _ => rfl) ho8 ?_
        refine wp_bipush (pc := 50) (v := 20) d_X5_either_50 rfl ?_
        refine wp_iconst (pc := 52) (v := 0) d_X5_either_52 rfl ?_
        obtain ⟨ho11, h⟩ := h
        refine wp_invV (pc := 53) (N := M_X2_emit) (As := [vi _, vi _]) (rest := []) (r := (cn_2, ct_2, 15)) d_X5_either_53 ml_X5_196 mk_X2_emit mv_X2_emit h0 ho11 rfl rfl (Nat.le_of_ble_eq_true rfl) ?_
        refine wpM.mono h (fun rr G10 hr => ?_)
        obtain ⟨r9, rfl, h⟩ := hr
        show wp E d M_X5_either 56 [some (vr _), some (vi _)] [vi _] G10 Q
        refine wp_pop (pc := 56) d_X5_either_56 (c1_i _) ?_
        refine wp_iinc (pc := 57) (v := 1) (lv' := [some (vr _), some (vi _)]) d_X5_either_57 (by decide) rfl rfl rfl ?_
        refine wp_goto (pc := 60) (tgt := 11) d_X5_either_60 (by decide) ?_
        refine wp_sub ?_ h
        exact ⟨rfl, ⟨rfl, trivial⟩⟩
      · have h := h.2 hc
        refine wp_iconst (pc := 44) (v := 0) d_X5_either_44 rfl ?_
        exact wp_zret (pc := 45) d_X5_either_45 rfl rfl h
theorem d_X5_both_0 : decode prog_7_method_14_code 0 = .ok (.aload_n 0, 1) := by decide +kernel
theorem d_X5_both_1 : decode prog_7_method_14_code 1 = .ok (.invokevirtual 202, 3) := by decide +kernel
theorem d_X5_both_4 : decode prog_7_method_14_code 4 = .ok (.ifCond .ne 5, 3) := by decide +kernel
theorem d_X5_both_7 : decode prog_7_method_14_code 7 = .ok (.iconst 0, 1) := by decide +kernel
theorem d_X5_both_8 : decode prog_7_method_14_code 8 = .ok (.ireturn, 1) := by decide +kernel
theorem d_X5_both_9 : decode prog_7_method_14_code 9 = .ok (.iconst 0, 1) := by decide +kernel
theorem d_X5_both_10 : decode prog_7_method_14_code 10 = .ok (.istore_n 1, 1) := by decide +kernel
theorem d_X5_both_11 : decode prog_7_method_14_code 11 = .ok (.iload_n 1, 1) := by decide +kernel
theorem d_X5_both_12 : decode prog_7_method_14_code 12 = .ok (.sipush 20000, 3) := by decide +kernel
theorem d_X5_both_15 : decode prog_7_method_14_code 15 = .ok (.if_icmp .ge 48, 3) := by decide +kernel
theorem d_X5_both_18 : decode prog_7_method_14_code 18 = .ok (.aload_n 0, 1) := by decide +kernel
theorem d_X5_both_19 : decode prog_7_method_14_code 19 = .ok (.getfield 46, 3) := by decide +kernel
theorem d_X5_both_22 : decode prog_7_method_14_code 22 = .ok (.bipush 38, 2) := by decide +kernel
theorem d_X5_both_24 : decode prog_7_method_14_code 24 = .ok (.invokevirtual 78, 3) := by decide +kernel
theorem d_X5_both_27 : decode prog_7_method_14_code 27 = .ok (.ifCond .eq 36, 3) := by decide +kernel
theorem d_X5_both_30 : decode prog_7_method_14_code 30 = .ok (.aload_n 0, 1) := by decide +kernel
theorem d_X5_both_31 : decode prog_7_method_14_code 31 = .ok (.getfield 46, 3) := by decide +kernel
theorem d_X5_both_34 : decode prog_7_method_14_code 34 = .ok (.invokevirtual 180, 3) := by decide +kernel
theorem d_X5_both_37 : decode prog_7_method_14_code 37 = .ok (.aload_n 0, 1) := by decide +kernel
theorem d_X5_both_38 : decode prog_7_method_14_code 38 = .ok (.invokevirtual 202, 3) := by decide +kernel
theorem d_X5_both_41 : decode prog_7_method_14_code 41 = .ok (.ifCond .ne 5, 3) := by decide +kernel
theorem d_X5_both_44 : decode prog_7_method_14_code 44 = .ok (.iconst 0, 1) := by decide +kernel
theorem d_X5_both_45 : decode prog_7_method_14_code 45 = .ok (.ireturn, 1) := by decide +kernel
theorem d_X5_both_46 : decode prog_7_method_14_code 46 = .ok (.aload_n 0, 1) := by decide +kernel
theorem d_X5_both_47 : decode prog_7_method_14_code 47 = .ok (.getfield 15, 3) := by decide +kernel
theorem d_X5_both_50 : decode prog_7_method_14_code 50 = .ok (.bipush 19, 2) := by decide +kernel
theorem d_X5_both_52 : decode prog_7_method_14_code 52 = .ok (.iconst 0, 1) := by decide +kernel
theorem d_X5_both_53 : decode prog_7_method_14_code 53 = .ok (.invokevirtual 196, 3) := by decide +kernel
theorem d_X5_both_56 : decode prog_7_method_14_code 56 = .ok (.pop, 1) := by decide +kernel
theorem d_X5_both_57 : decode prog_7_method_14_code 57 = .ok (.iinc 1 1, 3) := by decide +kernel
theorem d_X5_both_60 : decode prog_7_method_14_code 60 = .ok (.goto (-49), 3) := by decide +kernel
theorem d_X5_both_63 : decode prog_7_method_14_code 63 = .ok (.iconst 1, 1) := by decide +kernel
theorem d_X5_both_64 : decode prog_7_method_14_code 64 = .ok (.ireturn, 1) := by decide +kernel
theorem v_X5_both_0 {E : EE} {d : Nat} {Q : Option AV → AH → Prop} {x0 : Nat} {G : AH} (h0 : 0 < d) (h : isO E G x0 5 ∧ (wpI E (d - 1) M_X5_unit [vr x0] G (fun r1 G2 => (¬ r1 = 0 → wp E d M_X5_both 11 [some (vr x0), some (vi 0)] [] G2 Q) ∧ (r1 = 0 → Q (some (vi 0)) G2)))) : wp E d M_X5_both 0 [some (vr x0), none] [] G Q := by
  refine wp_aload_n (pc := 0) d_X5_both_0 rfl ?_
  obtain ⟨ho3, h⟩ := h
  refine wp_invV (pc := 1) (N := M_X5_unit) (As := []) (rest := []) (r := (cn_5, ct_5, 11)) d_X5_both_1 ml_X5_202 mk_X5_unit mv_X5_unit h0 ho3 rfl rfl (Nat.le_of_ble_eq_true rfl) ?_
  refine wpM.mono h (fun rr G2 hr => ?_)
  obtain ⟨r1, rfl, h⟩ := hr
  show wp E d M_X5_both 4 [some (vr _), none] [vi _] G2 Q
  refine wp_if_ne (pc := 4) (tgt := 9) d_X5_both_4 (by decide) (fun hc => ?_) (fun hc => ?_)
  · have h := h.1 hc
    refine wp_iconst (pc := 9) (v := 0) d_X5_both_9 rfl ?_
    refine wp_istore_n (pc := 10) (lv' := [some (vr _), some (vi _)]) d_X5_both_10 (by decide) rfl ?_
    refine wp_sub ?_ h
    exact ⟨rfl, ⟨rfl, trivial⟩⟩
  · have h := h.2 hc
    refine wp_iconst (pc := 7) (v := 0) d_X5_both_7 rfl ?_
    exact wp_zret (pc := 8) d_X5_both_8 rfl rfl h
theorem v_X5_both_11 {E : EE} {d : Nat} {Q : Option AV → AH → Prop} {x0 : Nat} {x1 : Int32} {G : AH} (h0 : 0 < d) (h : (20000 ≤ x1 → Q (some (vi 1)) G) ∧ (¬ (20000 ≤ x1) → isO E G x0 5 ∧ (isO E G (gR G x0 0) 10 ∧ (wpI E (d - 1) M_X10_is [vr (gR G x0 0), vi 38] G (fun r2 G3 => (r2 = 0 → Q (some (vi 1)) G3) ∧ (¬ (r2 = 0) → isO E G3 x0 5 ∧ (isO E G3 (gR G3 x0 0) 10 ∧ (wpV E (d - 1) M_X10_step [vr (gR G3 x0 0)] G3 (fun G5 => isO E G5 x0 5 ∧ (wpI E (d - 1) M_X5_unit [vr x0] G5 (fun r6 G7 => (¬ r6 = 0 → isO E G7 x0 5 ∧ (isO E G7 (gR G7 x0 2) 2 ∧ (wpI E (d - 1) M_X2_emit [vr (gR G7 x0 2), vi 19, vi 0] G7 (fun r9 G10 => wp E d M_X5_both 11 [some (vr x0), some (vi (x1 + 1))] [] G10 Q)))) ∧ (r6 = 0 → Q (some (vi 0)) G7)))))))))))) : wp E d M_X5_both 11 [some (vr x0), some (vi x1)] [] G Q := by
  refine wp_iload_n (pc := 11) d_X5_both_11 rfl ?_
  refine wp_sipush (pc := 12) (v := 20000) d_X5_both_12 rfl ?_
  refine wp_icmp_ge (pc := 15) (tgt := 63) d_X5_both_15 (by decide) (fun hc => ?_) (fun hc => ?_)
  · have h := h.1 hc
    refine wp_iconst (pc := 63) (v := 1) d_X5_both_63 rfl ?_
    exact wp_zret (pc := 64) d_X5_both_64 rfl rfl h
  · have h := h.2 hc
    refine wp_aload_n (pc := 18) d_X5_both_18 rfl ?_
    obtain ⟨ho1, h⟩ := h
    refine wp_getR (pc := 19) d_X5_both_19 fl_X5_46 (fun _ _ _ => rfl) ho1 ?_
    refine wp_bipush (pc := 22) (v := 38) d_X5_both_22 rfl ?_
    obtain ⟨ho14, h⟩ := h
    refine wp_invV (pc := 24) (N := M_X10_is) (As := [vi _]) (rest := []) (r := (cn_10, ct_10, 12)) d_X5_both_24 ml_X5_78 mk_X10_is mv_X10_is h0 ho14 rfl rfl (Nat.le_of_ble_eq_true rfl) ?_
    refine wpM.mono h (fun rr G3 hr => ?_)
    obtain ⟨r2, rfl, h⟩ := hr
    show wp E d M_X5_both 27 [some (vr _), some (vi _)] [vi _] G3 Q
    refine wp_if_eq (pc := 27) (tgt := 63) d_X5_both_27 (by decide) (fun hc => ?_) (fun hc => ?_)
    · have h := h.1 hc
      refine wp_iconst (pc := 63) (v := 1) d_X5_both_63 rfl ?_
      exact wp_zret (pc := 64) d_X5_both_64 rfl rfl h
    · have h := h.2 hc
      refine wp_aload_n (pc := 30) d_X5_both_30 rfl ?_
      obtain ⟨ho4, h⟩ := h
      refine wp_getR (pc := 31) d_X5_both_31 fl_X5_46 (fun _ _ _ => rfl) ho4 ?_
      obtain ⟨ho13, h⟩ := h
      refine wp_invV (pc := 34) (N := M_X10_step) (As := []) (rest := []) (r := (cn_10, ct_10, 12)) d_X5_both_34 ml_X5_180 mk_X10_step mv_X10_step h0 ho13 rfl rfl (Nat.le_of_ble_eq_true rfl) ?_
      refine wpM.mono h (fun rr G5 hr => ?_)
      obtain ⟨rfl, h⟩ := hr
      show wp E d M_X5_both 37 [some (vr _), some (vi _)] [] G5 Q
      refine wp_aload_n (pc := 37) d_X5_both_37 rfl ?_
      obtain ⟨ho12, h⟩ := h
      refine wp_invV (pc := 38) (N := M_X5_unit) (As := []) (rest := []) (r := (cn_5, ct_5, 11)) d_X5_both_38 ml_X5_202 mk_X5_unit mv_X5_unit h0 ho12 rfl rfl (Nat.le_of_ble_eq_true rfl) ?_
      refine wpM.mono h (fun rr G7 hr => ?_)
      obtain ⟨r6, rfl, h⟩ := hr
      show wp E d M_X5_both 41 [some (vr _), some (vi _)] [vi _] G7 Q
      refine wp_if_ne (pc := 41) (tgt := 46) d_X5_both_41 (by decide) (fun hc => ?_) (fun hc => ?_)
      · have h := h.1 hc
        refine wp_aload_n (pc := 46) d_X5_both_46 rfl ?_
        obtain ⟨ho8, h⟩ := h
        refine wp_getR (pc := 47) d_X5_both_47 fl_X5_15 (fun _ _ _ => rfl) ho8 ?_
        refine wp_bipush (pc := 50) (v := 19) d_X5_both_50 rfl ?_
        refine wp_iconst (pc := 52) (v := 0) d_X5_both_52 rfl ?_
        obtain ⟨ho11, h⟩ := h
        refine wp_invV (pc := 53) (N := M_X2_emit) (As := [vi _, vi _]) (rest := []) (r := (cn_2, ct_2, 15)) d_X5_both_53 ml_X5_196 mk_X2_emit mv_X2_emit h0 ho11 rfl rfl (Nat.le_of_ble_eq_true rfl) ?_
        refine wpM.mono h (fun rr G10 hr => ?_)
        obtain ⟨r9, rfl, h⟩ := hr
        show wp E d M_X5_both 56 [some (vr _), some (vi _)] [vi _] G10 Q
        refine wp_pop (pc := 56) d_X5_both_56 (c1_i _) ?_
        refine wp_iinc (pc := 57) (v := 1) (lv' := [some (vr _), some (vi _)]) d_X5_both_57 (by decide) rfl rfl rfl ?_
        refine wp_goto (pc := 60) (tgt := 11) d_X5_both_60 (by decide) ?_
        refine wp_sub ?_ h
        exact ⟨rfl, ⟨rfl, trivial⟩⟩
      · have h := h.2 hc
        refine wp_iconst (pc := 44) (v := 0) d_X5_both_44 rfl ?_
        exact wp_zret (pc := 45) d_X5_both_45 rfl rfl h
theorem d_X5_unit_0 : decode prog_7_method_15_code 0 = .ok (.aload_n 0, 1) := by decide +kernel
theorem d_X5_unit_1 : decode prog_7_method_15_code 1 = .ok (.getfield 46, 3) := by decide +kernel
theorem d_X5_unit_4 : decode prog_7_method_15_code 4 = .ok (.bipush 126, 2) := by decide +kernel
theorem d_X5_unit_6 : decode prog_7_method_15_code 6 = .ok (.invokevirtual 78, 3) := by decide +kernel
theorem d_X5_unit_9 : decode prog_7_method_15_code 9 = .ok (.ifCond .eq 42, 3) := by decide +kernel
theorem d_X5_unit_12 : decode prog_7_method_15_code 12 = .ok (.aload_n 0, 1) := by decide +kernel
theorem d_X5_unit_13 : decode prog_7_method_15_code 13 = .ok (.bipush 126, 2) := by decide +kernel
theorem d_X5_unit_15 : decode prog_7_method_15_code 15 = .ok (.invokevirtual 193, 3) := by decide +kernel
theorem d_X5_unit_18 : decode prog_7_method_15_code 18 = .ok (.ifCond .eq 10, 3) := by decide +kernel
theorem d_X5_unit_21 : decode prog_7_method_15_code 21 = .ok (.aload_n 0, 1) := by decide +kernel
theorem d_X5_unit_22 : decode prog_7_method_15_code 22 = .ok (.invokevirtual 202, 3) := by decide +kernel
theorem d_X5_unit_25 : decode prog_7_method_15_code 25 = .ok (.ifCond .ne 5, 3) := by decide +kernel
theorem d_X5_unit_28 : decode prog_7_method_15_code 28 = .ok (.iconst 0, 1) := by decide +kernel
theorem d_X5_unit_29 : decode prog_7_method_15_code 29 = .ok (.ireturn, 1) := by decide +kernel
theorem d_X5_unit_30 : decode prog_7_method_15_code 30 = .ok (.aload_n 0, 1) := by decide +kernel
theorem d_X5_unit_31 : decode prog_7_method_15_code 31 = .ok (.dup, 1) := by decide +kernel
theorem d_X5_unit_32 : decode prog_7_method_15_code 32 = .ok (.getfield 33, 3) := by decide +kernel
theorem d_X5_unit_35 : decode prog_7_method_15_code 35 = .ok (.iconst 1, 1) := by decide +kernel
theorem d_X5_unit_36 : decode prog_7_method_15_code 36 = .ok (.isub, 1) := by decide +kernel
theorem d_X5_unit_37 : decode prog_7_method_15_code 37 = .ok (.putfield 33, 3) := by decide +kernel
theorem d_X5_unit_40 : decode prog_7_method_15_code 40 = .ok (.aload_n 0, 1) := by decide +kernel
theorem d_X5_unit_41 : decode prog_7_method_15_code 41 = .ok (.getfield 15, 3) := by decide +kernel
theorem d_X5_unit_44 : decode prog_7_method_15_code 44 = .ok (.bipush 6, 2) := by decide +kernel
theorem d_X5_unit_46 : decode prog_7_method_15_code 46 = .ok (.iconst 0, 1) := by decide +kernel
theorem d_X5_unit_47 : decode prog_7_method_15_code 47 = .ok (.invokevirtual 196, 3) := by decide +kernel
theorem d_X5_unit_50 : decode prog_7_method_15_code 50 = .ok (.ireturn, 1) := by decide +kernel
theorem d_X5_unit_51 : decode prog_7_method_15_code 51 = .ok (.aload_n 0, 1) := by decide +kernel
theorem d_X5_unit_52 : decode prog_7_method_15_code 52 = .ok (.getfield 46, 3) := by decide +kernel
theorem d_X5_unit_55 : decode prog_7_method_15_code 55 = .ok (.bipush 123, 2) := by decide +kernel
theorem d_X5_unit_57 : decode prog_7_method_15_code 57 = .ok (.invokevirtual 78, 3) := by decide +kernel
theorem d_X5_unit_60 : decode prog_7_method_15_code 60 = .ok (.ifCond .eq 34, 3) := by decide +kernel
theorem d_X5_unit_63 : decode prog_7_method_15_code 63 = .ok (.aload_n 0, 1) := by decide +kernel
theorem d_X5_unit_64 : decode prog_7_method_15_code 64 = .ok (.bipush 123, 2) := by decide +kernel
theorem d_X5_unit_66 : decode prog_7_method_15_code 66 = .ok (.invokevirtual 193, 3) := by decide +kernel
theorem d_X5_unit_69 : decode prog_7_method_15_code 69 = .ok (.ifCond .eq 23, 3) := by decide +kernel
theorem d_X5_unit_72 : decode prog_7_method_15_code 72 = .ok (.aload_n 0, 1) := by decide +kernel
theorem d_X5_unit_73 : decode prog_7_method_15_code 73 = .ok (.invokevirtual 166, 3) := by decide +kernel
theorem d_X5_unit_76 : decode prog_7_method_15_code 76 = .ok (.ifCond .eq 16, 3) := by decide +kernel
theorem d_X5_unit_79 : decode prog_7_method_15_code 79 = .ok (.aload_n 0, 1) := by decide +kernel
theorem d_X5_unit_80 : decode prog_7_method_15_code 80 = .ok (.bipush 125, 2) := by decide +kernel
theorem d_X5_unit_82 : decode prog_7_method_15_code 82 = .ok (.invokevirtual 205, 3) := by decide +kernel
theorem d_X5_unit_85 : decode prog_7_method_15_code 85 = .ok (.ifCond .eq 7, 3) := by decide +kernel
theorem d_X5_unit_88 : decode prog_7_method_15_code 88 = .ok (.iconst 1, 1) := by decide +kernel
theorem d_X5_unit_89 : decode prog_7_method_15_code 89 = .ok (.goto 4, 3) := by decide +kernel
theorem d_X5_unit_92 : decode prog_7_method_15_code 92 = .ok (.iconst 0, 1) := by decide +kernel
theorem d_X5_unit_93 : decode prog_7_method_15_code 93 = .ok (.ireturn, 1) := by decide +kernel
theorem d_X5_unit_94 : decode prog_7_method_15_code 94 = .ok (.aload_n 0, 1) := by decide +kernel
theorem d_X5_unit_95 : decode prog_7_method_15_code 95 = .ok (.getfield 46, 3) := by decide +kernel
theorem d_X5_unit_98 : decode prog_7_method_15_code 98 = .ok (.getfield 71, 3) := by decide +kernel
theorem d_X5_unit_101 : decode prog_7_method_15_code 101 = .ok (.iconst 4, 1) := by decide +kernel
theorem d_X5_unit_102 : decode prog_7_method_15_code 102 = .ok (.if_icmp .ne 107, 3) := by decide +kernel
theorem d_X5_unit_105 : decode prog_7_method_15_code 105 = .ok (.aload_n 0, 1) := by decide +kernel
theorem d_X5_unit_106 : decode prog_7_method_15_code 106 = .ok (.getfield 46, 3) := by decide +kernel
theorem d_X5_unit_109 : decode prog_7_method_15_code 109 = .ok (.getfield 183, 3) := by decide +kernel
theorem d_X5_unit_112 : decode prog_7_method_15_code 112 = .ok (.ldc2_w 208, 3) := by decide +kernel
theorem d_X5_unit_115 : decode prog_7_method_15_code 115 = .ok (.lcmp, 1) := by decide +kernel
theorem d_X5_unit_116 : decode prog_7_method_15_code 116 = .ok (.ifCond .lt 93, 3) := by decide +kernel
theorem d_X5_unit_119 : decode prog_7_method_15_code 119 = .ok (.aload_n 0, 1) := by decide +kernel
theorem d_X5_unit_120 : decode prog_7_method_15_code 120 = .ok (.getfield 46, 3) := by decide +kernel
theorem d_X5_unit_123 : decode prog_7_method_15_code 123 = .ok (.getfield 183, 3) := by decide +kernel
theorem d_X5_unit_126 : decode prog_7_method_15_code 126 = .ok (.ldc2_w 210, 3) := by decide +kernel
theorem d_X5_unit_129 : decode prog_7_method_15_code 129 = .ok (.lcmp, 1) := by decide +kernel
theorem d_X5_unit_130 : decode prog_7_method_15_code 130 = .ok (.ifCond .gt 79, 3) := by decide +kernel
theorem d_X5_unit_133 : decode prog_7_method_15_code 133 = .ok (.bipush 22, 2) := by decide +kernel
theorem d_X5_unit_135 : decode prog_7_method_15_code 135 = .ok (.aload_n 0, 1) := by decide +kernel
theorem d_X5_unit_136 : decode prog_7_method_15_code 136 = .ok (.getfield 46, 3) := by decide +kernel
theorem d_X5_unit_139 : decode prog_7_method_15_code 139 = .ok (.getfield 183, 3) := by decide +kernel
theorem d_X5_unit_142 : decode prog_7_method_15_code 142 = .ok (.l2i, 1) := by decide +kernel
theorem d_X5_unit_143 : decode prog_7_method_15_code 143 = .ok (.iadd, 1) := by decide +kernel
theorem d_X5_unit_144 : decode prog_7_method_15_code 144 = .ok (.bipush 6, 2) := by decide +kernel
theorem d_X5_unit_146 : decode prog_7_method_15_code 146 = .ok (.isub, 1) := by decide +kernel
theorem d_X5_unit_147 : decode prog_7_method_15_code 147 = .ok (.istore_n 1, 1) := by decide +kernel
theorem d_X5_unit_148 : decode prog_7_method_15_code 148 = .ok (.aload_n 0, 1) := by decide +kernel
theorem d_X5_unit_149 : decode prog_7_method_15_code 149 = .ok (.getfield 46, 3) := by decide +kernel
theorem d_X5_unit_152 : decode prog_7_method_15_code 152 = .ok (.invokevirtual 180, 3) := by decide +kernel
theorem d_X5_unit_155 : decode prog_7_method_15_code 155 = .ok (.aload_n 0, 1) := by decide +kernel
theorem d_X5_unit_156 : decode prog_7_method_15_code 156 = .ok (.getfield 15, 3) := by decide +kernel
theorem d_X5_unit_159 : decode prog_7_method_15_code 159 = .ok (.iload_n 1, 1) := by decide +kernel
theorem d_X5_unit_160 : decode prog_7_method_15_code 160 = .ok (.aload_n 0, 1) := by decide +kernel
theorem d_X5_unit_161 : decode prog_7_method_15_code 161 = .ok (.getfield 15, 3) := by decide +kernel
theorem d_X5_unit_164 : decode prog_7_method_15_code 164 = .ok (.getfield 212, 3) := by decide +kernel
theorem d_X5_unit_167 : decode prog_7_method_15_code 167 = .ok (.invokevirtual 196, 3) := by decide +kernel
theorem d_X5_unit_170 : decode prog_7_method_15_code 170 = .ok (.pop, 1) := by decide +kernel
theorem d_X5_unit_171 : decode prog_7_method_15_code 171 = .ok (.aload_n 0, 1) := by decide +kernel
theorem d_X5_unit_172 : decode prog_7_method_15_code 172 = .ok (.getfield 46, 3) := by decide +kernel
theorem d_X5_unit_175 : decode prog_7_method_15_code 175 = .ok (.bipush 40, 2) := by decide +kernel
theorem d_X5_unit_177 : decode prog_7_method_15_code 177 = .ok (.invokevirtual 124, 3) := by decide +kernel
theorem d_X5_unit_180 : decode prog_7_method_15_code 180 = .ok (.ifCond .eq 27, 3) := by decide +kernel
theorem d_X5_unit_183 : decode prog_7_method_15_code 183 = .ok (.aload_n 0, 1) := by decide +kernel
theorem d_X5_unit_184 : decode prog_7_method_15_code 184 = .ok (.iload_n 1, 1) := by decide +kernel
theorem d_X5_unit_185 : decode prog_7_method_15_code 185 = .ok (.invokevirtual 215, 3) := by decide +kernel
theorem d_X5_unit_188 : decode prog_7_method_15_code 188 = .ok (.ifCond .eq 19, 3) := by decide +kernel
theorem d_X5_unit_191 : decode prog_7_method_15_code 191 = .ok (.aload_n 0, 1) := by decide +kernel
theorem d_X5_unit_192 : decode prog_7_method_15_code 192 = .ok (.getfield 46, 3) := by decide +kernel
theorem d_X5_unit_195 : decode prog_7_method_15_code 195 = .ok (.bipush 41, 2) := by decide +kernel
theorem d_X5_unit_197 : decode prog_7_method_15_code 197 = .ok (.invokevirtual 124, 3) := by decide +kernel
theorem d_X5_unit_200 : decode prog_7_method_15_code 200 = .ok (.ifCond .eq 7, 3) := by decide +kernel
theorem d_X5_unit_203 : decode prog_7_method_15_code 203 = .ok (.iconst 1, 1) := by decide +kernel
theorem d_X5_unit_204 : decode prog_7_method_15_code 204 = .ok (.goto 4, 3) := by decide +kernel
theorem d_X5_unit_207 : decode prog_7_method_15_code 207 = .ok (.iconst 0, 1) := by decide +kernel
theorem d_X5_unit_208 : decode prog_7_method_15_code 208 = .ok (.ireturn, 1) := by decide +kernel
theorem d_X5_unit_209 : decode prog_7_method_15_code 209 = .ok (.aload_n 0, 1) := by decide +kernel
theorem d_X5_unit_210 : decode prog_7_method_15_code 210 = .ok (.invokevirtual 177, 3) := by decide +kernel
theorem d_X5_unit_213 : decode prog_7_method_15_code 213 = .ok (.ifCond .ne 5, 3) := by decide +kernel
theorem d_X5_unit_216 : decode prog_7_method_15_code 216 = .ok (.iconst 0, 1) := by decide +kernel
theorem d_X5_unit_217 : decode prog_7_method_15_code 217 = .ok (.ireturn, 1) := by decide +kernel
theorem d_X5_unit_218 : decode prog_7_method_15_code 218 = .ok (.aload_n 0, 1) := by decide +kernel
theorem d_X5_unit_219 : decode prog_7_method_15_code 219 = .ok (.invokevirtual 218, 3) := by decide +kernel
theorem d_X5_unit_222 : decode prog_7_method_15_code 222 = .ok (.istore_n 1, 1) := by decide +kernel
theorem d_X5_unit_223 : decode prog_7_method_15_code 223 = .ok (.iload_n 1, 1) := by decide +kernel
theorem d_X5_unit_224 : decode prog_7_method_15_code 224 = .ok (.ifCond .ge 11, 3) := by decide +kernel
theorem d_X5_unit_227 : decode prog_7_method_15_code 227 = .ok (.aload_n 0, 1) := by decide +kernel
theorem d_X5_unit_228 : decode prog_7_method_15_code 228 = .ok (.getfield 46, 3) := by decide +kernel
theorem d_X5_unit_231 : decode prog_7_method_15_code 231 = .ok (.invokevirtual 94, 3) := by decide +kernel
theorem d_X5_unit_234 : decode prog_7_method_15_code 234 = .ok (.ireturn, 1) := by decide +kernel
theorem d_X5_unit_235 : decode prog_7_method_15_code 235 = .ok (.aload_n 0, 1) := by decide +kernel
theorem d_X5_unit_236 : decode prog_7_method_15_code 236 = .ok (.getfield 46, 3) := by decide +kernel
theorem d_X5_unit_239 : decode prog_7_method_15_code 239 = .ok (.invokevirtual 180, 3) := by decide +kernel
theorem d_X5_unit_242 : decode prog_7_method_15_code 242 = .ok (.aload_n 0, 1) := by decide +kernel
theorem d_X5_unit_243 : decode prog_7_method_15_code 243 = .ok (.invokevirtual 177, 3) := by decide +kernel
theorem d_X5_unit_246 : decode prog_7_method_15_code 246 = .ok (.ifCond .eq 19, 3) := by decide +kernel
theorem d_X5_unit_249 : decode prog_7_method_15_code 249 = .ok (.aload_n 0, 1) := by decide +kernel
theorem d_X5_unit_250 : decode prog_7_method_15_code 250 = .ok (.getfield 15, 3) := by decide +kernel
theorem d_X5_unit_253 : decode prog_7_method_15_code 253 = .ok (.iload_n 1, 1) := by decide +kernel
theorem d_X5_unit_254 : decode prog_7_method_15_code 254 = .ok (.iconst 0, 1) := by decide +kernel
theorem d_X5_unit_255 : decode prog_7_method_15_code 255 = .ok (.invokevirtual 196, 3) := by decide +kernel
theorem d_X5_unit_258 : decode prog_7_method_15_code 258 = .ok (.ifCond .eq 7, 3) := by decide +kernel
theorem d_X5_unit_261 : decode prog_7_method_15_code 261 = .ok (.iconst 1, 1) := by decide +kernel
theorem d_X5_unit_262 : decode prog_7_method_15_code 262 = .ok (.goto 4, 3) := by decide +kernel
theorem d_X5_unit_265 : decode prog_7_method_15_code 265 = .ok (.iconst 0, 1) := by decide +kernel
theorem d_X5_unit_266 : decode prog_7_method_15_code 266 = .ok (.ireturn, 1) := by decide +kernel
theorem v_X5_unit_0 {E : EE} {d : Nat} {Q : Option AV → AH → Prop} {x0 : Nat} {G : AH} (h0 : 0 < d) (h : isO E G x0 5 ∧ (isO E G (gR G x0 0) 10 ∧ (wpI E (d - 1) M_X10_is [vr (gR G x0 0), vi 126] G (fun r2 G3 => (r2 = 0 → isO E G3 x0 5 ∧ (isO E G3 (gR G3 x0 0) 10 ∧ (wpI E (d - 1) M_X10_is [vr (gR G3 x0 0), vi 123] G3 (fun r5 G6 => (r5 = 0 → isO E G6 x0 5 ∧ (isO E G6 (gR G6 x0 0) 10 ∧ ((¬ (gI G6 (gR G6 x0 0) 6) = 4 → wp E d M_X5_unit 209 [some (vr x0), none] [] G6 Q) ∧ ((gI G6 (gR G6 x0 0) 6) = 4 → ((gJ G6 (gR G6 x0 0) 7) < 6 → wp E d M_X5_unit 209 [some (vr x0), none] [] G6 Q) ∧ (¬ ((gJ G6 (gR G6 x0 0) 7) < 6) → (12 < (gJ G6 (gR G6 x0 0) 7) → wp E d M_X5_unit 209 [some (vr x0), none] [] G6 Q) ∧ (¬ (12 < (gJ G6 (gR G6 x0 0) 7)) → wpV E (d - 1) M_X10_step [vr (gR G6 x0 0)] G6 (fun G9 => isO E G9 x0 5 ∧ (isO E G9 (gR G9 x0 2) 2 ∧ (wpI E (d - 1) M_X2_emit [vr (gR G9 x0 2), vi ((22 + (Int64.toInt32 (gJ G6 (gR G6 x0 0) 7))) - 6), vi (gI G9 (gR G9 x0 2) 3)] G9 (fun r12 G13 => isO E G13 x0 5 ∧ (isO E G13 (gR G13 x0 0) 10 ∧ (wpI E (d - 1) M_X10_accept [vr (gR G13 x0 0), vi 40] G13 (fun r15 G16 => (r15 = 0 → Q (some (vi 0)) G16) ∧ (¬ (r15 = 0) → isO E G16 x0 5 ∧ (wpI E (d - 1) M_X5_lists [vr x0, vi ((22 + (Int64.toInt32 (gJ G6 (gR G6 x0 0) 7))) - 6)] G16 (fun r17 G18 => (r17 = 0 → Q (some (vi 0)) G18) ∧ (¬ (r17 = 0) → isO E G18 x0 5 ∧ (isO E G18 (gR G18 x0 0) 10 ∧ (wpI E (d - 1) M_X10_accept [vr (gR G18 x0 0), vi 41] G18 (fun r20 G21 => (r20 = 0 → Q (some (vi 0)) G21) ∧ (¬ (r20 = 0) → Q (some (vi 1)) G21))))))))))))))))))))) ∧ (¬ (r5 = 0) → isO E G6 x0 5 ∧ (wpI E (d - 1) M_X5_enter [vr x0, vi 123] G6 (fun r25 G26 => (r25 = 0 → Q (some (vi 0)) G26) ∧ (¬ (r25 = 0) → isO E G26 x0 5 ∧ (wpI E (d - 1) M_X5_test [vr x0] G26 (fun r27 G28 => (r27 = 0 → Q (some (vi 0)) G28) ∧ (¬ (r27 = 0) → isO E G28 x0 5 ∧ (wpI E (d - 1) M_X5_leave [vr x0, vi 125] G28 (fun r29 G30 => (r29 = 0 → Q (some (vi 0)) G30) ∧ (¬ (r29 = 0) → Q (some (vi 1)) G30)))))))))))))) ∧ (¬ (r2 = 0) → isO E G3 x0 5 ∧ (wpI E (d - 1) M_X5_enter [vr x0, vi 126] G3 (fun r35 G36 => (r35 = 0 → Q (some (vi 0)) G36) ∧ (¬ (r35 = 0) → isO E G36 x0 5 ∧ (wpI E (d - 1) M_X5_unit [vr x0] G36 (fun r37 G38 => (¬ r37 = 0 → isO E G38 x0 5 ∧ (isO E G38 (gR G38 x0 2) 2 ∧ (wpI E (d - 1) M_X2_emit [vr (gR G38 x0 2), vi 6, vi 0] (sI G38 x0 7 ((gI G38 x0 7) - 1)) (fun r40 G41 => okI .boolean r40 ∧ Q (some (vi r40)) G41)))) ∧ (r37 = 0 → Q (some (vi 0)) G38))))))))))) : wp E d M_X5_unit 0 [some (vr x0), none] [] G Q := by
  refine wp_aload_n (pc := 0) d_X5_unit_0 rfl ?_
  obtain ⟨ho1, h⟩ := h
  refine wp_getR (pc := 1) d_X5_unit_1 fl_X5_46 (fun _ _ _ => rfl) ho1 ?_
  refine wp_bipush (pc := 4) (v := 126) d_X5_unit_4 rfl ?_
  obtain ⟨ho45, h⟩ := h
  refine wp_invV (pc := 6) (N := M_X10_is) (As := [vi _]) (rest := []) (r := (cn_10, ct_10, 12)) d_X5_unit_6 ml_X5_78 mk_X10_is mv_X10_is h0 ho45 rfl rfl (Nat.le_of_ble_eq_true rfl) ?_
  refine wpM.mono h (fun rr G3 hr => ?_)
  obtain ⟨r2, rfl, h⟩ := hr
  show wp E d M_X5_unit 9 [some (vr _), none] [vi _] G3 Q
  refine wp_if_eq (pc := 9) (tgt := 51) d_X5_unit_9 (by decide) (fun hc => ?_) (fun hc => ?_)
  · have h := h.1 hc
    refine wp_aload_n (pc := 51) d_X5_unit_51 rfl ?_
    obtain ⟨ho4, h⟩ := h
    refine wp_getR (pc := 52) d_X5_unit_52 fl_X5_46 (fun _ _ _ => rfl) ho4 ?_
    refine wp_bipush (pc := 55) (v := 123) d_X5_unit_55 rfl ?_
    obtain ⟨ho34, h⟩ := h
    refine wp_invV (pc := 57) (N := M_X10_is) (As := [vi _]) (rest := []) (r := (cn_10, ct_10, 12)) d_X5_unit_57 ml_X5_78 mk_X10_is mv_X10_is h0 ho34 rfl rfl (Nat.le_of_ble_eq_true rfl) ?_
    refine wpM.mono h (fun rr G6 hr => ?_)
    obtain ⟨r5, rfl, h⟩ := hr
    show wp E d M_X5_unit 60 [some (vr _), none] [vi _] G6 Q
    refine wp_if_eq (pc := 60) (tgt := 94) d_X5_unit_60 (by decide) (fun hc => ?_) (fun hc => ?_)
    · have h := h.1 hc
      refine wp_aload_n (pc := 94) d_X5_unit_94 rfl ?_
      obtain ⟨ho7, h⟩ := h
      refine wp_getR (pc := 95) d_X5_unit_95 fl_X5_46 (fun _ _ _ => rfl) ho7 ?_
      obtain ⟨ho8, h⟩ := h
      refine wp_getI (pc := 98) d_X5_unit_98 fl_X5_71 (fun _ _ _ => rfl) ho8 ?_
      refine wp_iconst (pc := 101) (v := 4) d_X5_unit_101 rfl ?_
      refine wp_icmp_ne (pc := 102) (tgt := 209) d_X5_unit_102 (by decide) (fun hc => ?_) (fun hc => ?_)
      · have h := h.1 hc
        refine wp_sub ?_ h
        exact ⟨rfl, trivial⟩
      · have h := h.2 hc
        refine wp_aload_n (pc := 105) d_X5_unit_105 rfl ?_
        refine wp_getR (pc := 106) d_X5_unit_106 fl_X5_46 (fun _ _ _ => rfl) ho7 ?_
        refine wp_getJ (pc := 109) d_X5_unit_109 fl_X5_183 (fun _ _ _ => rfl) ho8 ?_
        refine wp_ldc2 (pc := 112) (v := 6) d_X5_unit_112 cj_X5_208 ?_
        refine wp_lcmp_lt (pc := 115) (tgt := 209) d_X5_unit_115 d_X5_unit_116 (by decide) (fun hc => ?_) (fun hc => ?_)
        · have h := h.1 hc
          refine wp_sub ?_ h
          exact ⟨rfl, trivial⟩
        · have h := h.2 hc
          refine wp_aload_n (pc := 119) d_X5_unit_119 rfl ?_
          refine wp_getR (pc := 120) d_X5_unit_120 fl_X5_46 (fun _ _ _ => rfl) ho7 ?_
          refine wp_getJ (pc := 123) d_X5_unit_123 fl_X5_183 (fun _ _ _ => rfl) ho8 ?_
          refine wp_ldc2 (pc := 126) (v := 12) d_X5_unit_126 cj_X5_210 ?_
          refine wp_lcmp_gt (pc := 129) (tgt := 209) d_X5_unit_129 d_X5_unit_130 (by decide) (fun hc => ?_) (fun hc => ?_)
          · have h := h.1 hc
            refine wp_sub ?_ h
            exact ⟨rfl, trivial⟩
          · have h := h.2 hc
            refine wp_bipush (pc := 133) (v := 22) d_X5_unit_133 rfl ?_
            refine wp_aload_n (pc := 135) d_X5_unit_135 rfl ?_
            refine wp_getR (pc := 136) d_X5_unit_136 fl_X5_46 (fun _ _ _ => rfl) ho7 ?_
            refine wp_getJ (pc := 139) d_X5_unit_139 fl_X5_183 (fun _ _ _ => rfl) ho8 ?_
            refine wp_l2i (pc := 142) d_X5_unit_142 ?_
            refine wp_iadd (pc := 143) d_X5_unit_143 ?_
            refine wp_bipush (pc := 144) (v := 6) d_X5_unit_144 rfl ?_
            refine wp_isub (pc := 146) d_X5_unit_146 ?_
            refine wp_istore_n (pc := 147) (lv' := [some (vr _), some (vi _)]) d_X5_unit_147 (by decide) rfl ?_
            refine wp_aload_n (pc := 148) d_X5_unit_148 rfl ?_
            refine wp_getR (pc := 149) d_X5_unit_149 fl_X5_46 (fun _ _ _ => rfl) ho7 ?_
            refine wp_invV (pc := 152) (N := M_X10_step) (As := []) (rest := []) (r := (cn_10, ct_10, 12)) d_X5_unit_152 ml_X5_180 mk_X10_step mv_X10_step h0 ho8 rfl rfl (Nat.le_of_ble_eq_true rfl) ?_
            refine wpM.mono h (fun rr G9 hr => ?_)
            obtain ⟨rfl, h⟩ := hr
            show wp E d M_X5_unit 155 [some (vr _), some (vi _)] [] G9 Q
            refine wp_aload_n (pc := 155) d_X5_unit_155 rfl ?_
            obtain ⟨ho10, h⟩ := h
            refine wp_getR (pc := 156) d_X5_unit_156 fl_X5_15 (fun _ _ _ => rfl) ho10 ?_
            refine wp_iload_n (pc := 159) d_X5_unit_159 rfl ?_
            refine wp_aload_n (pc := 160) d_X5_unit_160 rfl ?_
            refine wp_getR (pc := 161) d_X5_unit_161 fl_X5_15 (fun _ _ _ => rfl) ho10 ?_
            obtain ⟨ho11, h⟩ := h
            refine wp_getI (pc := 164) d_X5_unit_164 fl_X5_212 (fun _ _ _ => rfl) ho11 ?_
            refine wp_invV (pc := 167) (N := M_X2_emit) (As := [vi _, vi _]) (rest := []) (r := (cn_2, ct_2, 15)) d_X5_unit_167 ml_X5_196 mk_X2_emit mv_X2_emit h0 ho11 rfl rfl (Nat.le_of_ble_eq_true rfl) ?_
            refine wpM.mono h (fun rr G13 hr => ?_)
            obtain ⟨r12, rfl, h⟩ := hr
            show wp E d M_X5_unit 170 [some (vr _), some (vi _)] [vi _] G13 Q
            refine wp_pop (pc := 170) d_X5_unit_170 (c1_i _) ?_
            refine wp_aload_n (pc := 171) d_X5_unit_171 rfl ?_
            obtain ⟨ho14, h⟩ := h
            refine wp_getR (pc := 172) d_X5_unit_172 fl_X5_46 (fun _ _ _ => rfl) ho14 ?_
            refine wp_bipush (pc := 175) (v := 40) d_X5_unit_175 rfl ?_
            obtain ⟨ho24, h⟩ := h
            refine wp_invV (pc := 177) (N := M_X10_accept) (As := [vi _]) (rest := []) (r := (cn_10, ct_10, 12)) d_X5_unit_177 ml_X5_124 mk_X10_accept mv_X10_accept h0 ho24 rfl rfl (Nat.le_of_ble_eq_true rfl) ?_
            refine wpM.mono h (fun rr G16 hr => ?_)
            obtain ⟨r15, rfl, h⟩ := hr
            show wp E d M_X5_unit 180 [some (vr _), some (vi _)] [vi _] G16 Q
            refine wp_if_eq (pc := 180) (tgt := 207) d_X5_unit_180 (by decide) (fun hc => ?_) (fun hc => ?_)
            · have h := h.1 hc
              refine wp_iconst (pc := 207) (v := 0) d_X5_unit_207 rfl ?_
              exact wp_zret (pc := 208) d_X5_unit_208 rfl rfl h
            · have h := h.2 hc
              refine wp_aload_n (pc := 183) d_X5_unit_183 rfl ?_
              refine wp_iload_n (pc := 184) d_X5_unit_184 rfl ?_
              obtain ⟨ho23, h⟩ := h
              refine wp_invV (pc := 185) (N := M_X5_lists) (As := [vi _]) (rest := []) (r := (cn_5, ct_5, 11)) d_X5_unit_185 ml_X5_215 mk_X5_lists mv_X5_lists h0 ho23 rfl rfl (Nat.le_of_ble_eq_true rfl) ?_
              refine wpM.mono h (fun rr G18 hr => ?_)
              obtain ⟨r17, rfl, h⟩ := hr
              show wp E d M_X5_unit 188 [some (vr _), some (vi _)] [vi _] G18 Q
              refine wp_if_eq (pc := 188) (tgt := 207) d_X5_unit_188 (by decide) (fun hc => ?_) (fun hc => ?_)
              · have h := h.1 hc
                refine wp_iconst (pc := 207) (v := 0) d_X5_unit_207 rfl ?_
                exact wp_zret (pc := 208) d_X5_unit_208 rfl rfl h
              · have h := h.2 hc
                refine wp_aload_n (pc := 191) d_X5_unit_191 rfl ?_
                obtain ⟨ho19, h⟩ := h
                refine wp_getR (pc := 192) d_X5_unit_192 fl_X5_46 (fun _ _ _ => rfl) ho19 ?_
                refine wp_bipush (pc := 195) (v := 41) d_X5_unit_195 rfl ?_
                obtain ⟨ho22, h⟩ := h
                refine wp_invV (pc := 197) (N := M_X10_accept) (As := [vi _]) (rest := []) (r := (cn_10, ct_10, 12)) d_X5_unit_197 ml_X5_124 mk_X10_accept mv_X10_accept h0 ho22 rfl rfl (Nat.le_of_ble_eq_true rfl) ?_
                refine wpM.mono h (fun rr G21 hr => ?_)
                obtain ⟨r20, rfl, h⟩ := hr
                show wp E d M_X5_unit 200 [some (vr _), some (vi _)] [vi _] G21 Q
                refine wp_if_eq (pc := 200) (tgt := 207) d_X5_unit_200 (by decide) (fun hc => ?_) (fun hc => ?_)
                · have h := h.1 hc
                  refine wp_iconst (pc := 207) (v := 0) d_X5_unit_207 rfl ?_
                  exact wp_zret (pc := 208) d_X5_unit_208 rfl rfl h
                · have h := h.2 hc
                  refine wp_iconst (pc := 203) (v := 1) d_X5_unit_203 rfl ?_
                  refine wp_goto (pc := 204) (tgt := 208) d_X5_unit_204 (by decide) ?_
                  exact wp_zret (pc := 208) d_X5_unit_208 rfl rfl h
    · have h := h.2 hc
      refine wp_aload_n (pc := 63) d_X5_unit_63 rfl ?_
      refine wp_bipush (pc := 64) (v := 123) d_X5_unit_64 rfl ?_
      obtain ⟨ho33, h⟩ := h
      refine wp_invV (pc := 66) (N := M_X5_enter) (As := [vi _]) (rest := []) (r := (cn_5, ct_5, 11)) d_X5_unit_66 ml_X5_193 mk_X5_enter mv_X5_enter h0 ho33 rfl rfl (Nat.le_of_ble_eq_true rfl) ?_
      refine wpM.mono h (fun rr G26 hr => ?_)
      obtain ⟨r25, rfl, h⟩ := hr
      show wp E d M_X5_unit 69 [some (vr _), none] [vi _] G26 Q
      refine wp_if_eq (pc := 69) (tgt := 92) d_X5_unit_69 (by decide) (fun hc => ?_) (fun hc => ?_)
      · have h := h.1 hc
        refine wp_iconst (pc := 92) (v := 0) d_X5_unit_92 rfl ?_
        exact wp_zret (pc := 93) d_X5_unit_93 rfl rfl h
      · have h := h.2 hc
        refine wp_aload_n (pc := 72) d_X5_unit_72 rfl ?_
        obtain ⟨ho32, h⟩ := h
        refine wp_invV (pc := 73) (N := M_X5_test) (As := []) (rest := []) (r := (cn_5, ct_5, 11)) d_X5_unit_73 ml_X5_166 mk_X5_test mv_X5_test h0 ho32 rfl rfl (Nat.le_of_ble_eq_true rfl) ?_
        refine wpM.mono h (fun rr G28 hr => ?_)
        obtain ⟨r27, rfl, h⟩ := hr
        show wp E d M_X5_unit 76 [some (vr _), none] [vi _] G28 Q
        refine wp_if_eq (pc := 76) (tgt := 92) d_X5_unit_76 (by decide) (fun hc => ?_) (fun hc => ?_)
        · have h := h.1 hc
          refine wp_iconst (pc := 92) (v := 0) d_X5_unit_92 rfl ?_
          exact wp_zret (pc := 93) d_X5_unit_93 rfl rfl h
        · have h := h.2 hc
          refine wp_aload_n (pc := 79) d_X5_unit_79 rfl ?_
          refine wp_bipush (pc := 80) (v := 125) d_X5_unit_80 rfl ?_
          obtain ⟨ho31, h⟩ := h
          refine wp_invV (pc := 82) (N := M_X5_leave) (As := [vi _]) (rest := []) (r := (cn_5, ct_5, 11)) d_X5_unit_82 ml_X5_205 mk_X5_leave mv_X5_leave h0 ho31 rfl rfl (Nat.le_of_ble_eq_true rfl) ?_
          refine wpM.mono h (fun rr G30 hr => ?_)
          obtain ⟨r29, rfl, h⟩ := hr
          show wp E d M_X5_unit 85 [some (vr _), none] [vi _] G30 Q
          refine wp_if_eq (pc := 85) (tgt := 92) d_X5_unit_85 (by decide) (fun hc => ?_) (fun hc => ?_)
          · have h := h.1 hc
            refine wp_iconst (pc := 92) (v := 0) d_X5_unit_92 rfl ?_
            exact wp_zret (pc := 93) d_X5_unit_93 rfl rfl h
          · have h := h.2 hc
            refine wp_iconst (pc := 88) (v := 1) d_X5_unit_88 rfl ?_
            refine wp_goto (pc := 89) (tgt := 93) d_X5_unit_89 (by decide) ?_
            exact wp_zret (pc := 93) d_X5_unit_93 rfl rfl h
  · have h := h.2 hc
    refine wp_aload_n (pc := 12) d_X5_unit_12 rfl ?_
    refine wp_bipush (pc := 13) (v := 126) d_X5_unit_13 rfl ?_
    obtain ⟨ho44, h⟩ := h
    refine wp_invV (pc := 15) (N := M_X5_enter) (As := [vi _]) (rest := []) (r := (cn_5, ct_5, 11)) d_X5_unit_15 ml_X5_193 mk_X5_enter mv_X5_enter h0 ho44 rfl rfl (Nat.le_of_ble_eq_true rfl) ?_
    refine wpM.mono h (fun rr G36 hr => ?_)
    obtain ⟨r35, rfl, h⟩ := hr
    show wp E d M_X5_unit 18 [some (vr _), none] [vi _] G36 Q
    refine wp_if_eq (pc := 18) (tgt := 28) d_X5_unit_18 (by decide) (fun hc => ?_) (fun hc => ?_)
    · have h := h.1 hc
      refine wp_iconst (pc := 28) (v := 0) d_X5_unit_28 rfl ?_
      exact wp_zret (pc := 29) d_X5_unit_29 rfl rfl h
    · have h := h.2 hc
      refine wp_aload_n (pc := 21) d_X5_unit_21 rfl ?_
      obtain ⟨ho43, h⟩ := h
      refine wp_invV (pc := 22) (N := M_X5_unit) (As := []) (rest := []) (r := (cn_5, ct_5, 11)) d_X5_unit_22 ml_X5_202 mk_X5_unit mv_X5_unit h0 ho43 rfl rfl (Nat.le_of_ble_eq_true rfl) ?_
      refine wpM.mono h (fun rr G38 hr => ?_)
      obtain ⟨r37, rfl, h⟩ := hr
      show wp E d M_X5_unit 25 [some (vr _), none] [vi _] G38 Q
      refine wp_if_ne (pc := 25) (tgt := 30) d_X5_unit_25 (by decide) (fun hc => ?_) (fun hc => ?_)
      · have h := h.1 hc
        refine wp_aload_n (pc := 30) d_X5_unit_30 rfl ?_
        refine wp_dup (pc := 31) d_X5_unit_31 (c1_r _) ?_
        obtain ⟨ho39, h⟩ := h
        refine wp_getI (pc := 32) d_X5_unit_32 fl_X5_33 (fun _ _ _ => rfl) ho39 ?_
        refine wp_iconst (pc := 35) (v := 1) d_X5_unit_35 rfl ?_
        refine wp_isub (pc := 36) d_X5_unit_36 ?_
        refine wp_putI (pc := 37) d_X5_unit_37 fl_X5_33 (fun _ _ _ => rfl) (Or.inl rfl) ho39 (okI_int _) ?_
        refine wp_aload_n (pc := 40) d_X5_unit_40 rfl ?_
        refine wp_getR (pc := 41) d_X5_unit_41 fl_X5_15 (fun _ _ _ => rfl) ho39 ?_
        show wp E d M_X5_unit 44 [some (vr x0), none] [vr (gR G38 x0 2)] (sI G38 x0 7 ((gI G38 x0 7) - 1)) Q
        refine wp_bipush (pc := 44) (v := 6) d_X5_unit_44 rfl ?_
        refine wp_iconst (pc := 46) (v := 0) d_X5_unit_46 rfl ?_
        obtain ⟨ho42, h⟩ := h
        refine wp_invV (pc := 47) (N := M_X2_emit) (As := [vi _, vi _]) (rest := []) (r := (cn_2, ct_2, 15)) d_X5_unit_47 ml_X5_196 mk_X2_emit mv_X2_emit h0 ho42 rfl rfl (Nat.le_of_ble_eq_true rfl) ?_
        refine wpM.mono h (fun rr G41 hr => ?_)
        obtain ⟨r40, rfl, h⟩ := hr
        show wp E d M_X5_unit 50 [some (vr _), none] [vi _] G41 Q
        exact wp_zret (pc := 50) d_X5_unit_50 rfl h.1.1 h.2
      · have h := h.2 hc
        refine wp_iconst (pc := 28) (v := 0) d_X5_unit_28 rfl ?_
        exact wp_zret (pc := 29) d_X5_unit_29 rfl rfl h
theorem v_X5_unit_209 {E : EE} {d : Nat} {Q : Option AV → AH → Prop} {x0 : Nat} {G : AH} (h0 : 0 < d) (h : isO E G x0 5 ∧ (wpI E (d - 1) M_X5_sum [vr x0] G (fun r1 G2 => (¬ r1 = 0 → isO E G2 x0 5 ∧ (wpI E (d - 1) M_X5_comparison [vr x0] G2 (fun r3 G4 => (0 ≤ r3 → isO E G4 x0 5 ∧ (isO E G4 (gR G4 x0 0) 10 ∧ (wpV E (d - 1) M_X10_step [vr (gR G4 x0 0)] G4 (fun G6 => isO E G6 x0 5 ∧ (wpI E (d - 1) M_X5_sum [vr x0] G6 (fun r7 G8 => (r7 = 0 → Q (some (vi 0)) G8) ∧ (¬ (r7 = 0) → isO E G8 x0 5 ∧ (isO E G8 (gR G8 x0 2) 2 ∧ (wpI E (d - 1) M_X2_emit [vr (gR G8 x0 2), vi r3, vi 0] G8 (fun r10 G11 => (r10 = 0 → Q (some (vi 0)) G11) ∧ (¬ (r10 = 0) → Q (some (vi 1)) G11))))))))))) ∧ (¬ (0 ≤ r3) → isO E G4 x0 5 ∧ (isO E G4 (gR G4 x0 0) 10 ∧ (wpI E (d - 1) M_X10_refuse [vr (gR G4 x0 0)] G4 (fun r16 G17 => okI .boolean r16 ∧ Q (some (vi r16)) G17))))))) ∧ (r1 = 0 → Q (some (vi 0)) G2)))) : wp E d M_X5_unit 209 [some (vr x0), none] [] G Q := by
  refine wp_aload_n (pc := 209) d_X5_unit_209 rfl ?_
  obtain ⟨ho20, h⟩ := h
  refine wp_invV (pc := 210) (N := M_X5_sum) (As := []) (rest := []) (r := (cn_5, ct_5, 11)) d_X5_unit_210 ml_X5_177 mk_X5_sum mv_X5_sum h0 ho20 rfl rfl (Nat.le_of_ble_eq_true rfl) ?_
  refine wpM.mono h (fun rr G2 hr => ?_)
  obtain ⟨r1, rfl, h⟩ := hr
  show wp E d M_X5_unit 213 [some (vr _), none] [vi _] G2 Q
  refine wp_if_ne (pc := 213) (tgt := 218) d_X5_unit_213 (by decide) (fun hc => ?_) (fun hc => ?_)
  · have h := h.1 hc
    refine wp_aload_n (pc := 218) d_X5_unit_218 rfl ?_
    obtain ⟨ho19, h⟩ := h
    refine wp_invV (pc := 219) (N := M_X5_comparison) (As := []) (rest := []) (r := (cn_5, ct_5, 11)) d_X5_unit_219 ml_X5_218 mk_X5_comparison mv_X5_comparison h0 ho19 rfl rfl (Nat.le_of_ble_eq_true rfl) ?_
    refine wpM.mono h (fun rr G4 hr => ?_)
    obtain ⟨r3, rfl, h⟩ := hr
    show wp E d M_X5_unit 222 [some (vr _), none] [vi _] G4 Q
    refine wp_istore_n (pc := 222) (lv' := [some (vr _), some (vi _)]) d_X5_unit_222 (by decide) rfl ?_
    refine wp_iload_n (pc := 223) d_X5_unit_223 rfl ?_
    refine wp_if_ge (pc := 224) (tgt := 235) d_X5_unit_224 (by decide) (fun hc => ?_) (fun hc => ?_)
    · have h := h.1 hc
      refine wp_aload_n (pc := 235) d_X5_unit_235 rfl ?_
      obtain ⟨ho5, h⟩ := h
      refine wp_getR (pc := 236) d_X5_unit_236 fl_X5_46 (fun _ _ _ => rfl) ho5 ?_
      obtain ⟨ho14, h⟩ := h
      refine wp_invV (pc := 239) (N := M_X10_step) (As := []) (rest := []) (r := (cn_10, ct_10, 12)) d_X5_unit_239 ml_X5_180 mk_X10_step mv_X10_step h0 ho14 rfl rfl (Nat.le_of_ble_eq_true rfl) ?_
      refine wpM.mono h (fun rr G6 hr => ?_)
      obtain ⟨rfl, h⟩ := hr
      show wp E d M_X5_unit 242 [some (vr _), some (vi _)] [] G6 Q
      refine wp_aload_n (pc := 242) d_X5_unit_242 rfl ?_
      obtain ⟨ho13, h⟩ := h
      refine wp_invV (pc := 243) (N := M_X5_sum) (As := []) (rest := []) (r := (cn_5, ct_5, 11)) d_X5_unit_243 ml_X5_177 mk_X5_sum mv_X5_sum h0 ho13 rfl rfl (Nat.le_of_ble_eq_true rfl) ?_
      refine wpM.mono h (fun rr G8 hr => ?_)
      obtain ⟨r7, rfl, h⟩ := hr
      show wp E d M_X5_unit 246 [some (vr _), some (vi _)] [vi _] G8 Q
      refine wp_if_eq (pc := 246) (tgt := 265) d_X5_unit_246 (by decide) (fun hc => ?_) (fun hc => ?_)
      · have h := h.1 hc
        refine wp_iconst (pc := 265) (v := 0) d_X5_unit_265 rfl ?_
        exact wp_zret (pc := 266) d_X5_unit_266 rfl rfl h
      · have h := h.2 hc
        refine wp_aload_n (pc := 249) d_X5_unit_249 rfl ?_
        obtain ⟨ho9, h⟩ := h
        refine wp_getR (pc := 250) d_X5_unit_250 fl_X5_15 (fun _ _ _ => rfl) ho9 ?_
        refine wp_iload_n (pc := 253) d_X5_unit_253 rfl ?_
        refine wp_iconst (pc := 254) (v := 0) d_X5_unit_254 rfl ?_
        obtain ⟨ho12, h⟩ := h
        refine wp_invV (pc := 255) (N := M_X2_emit) (As := [vi _, vi _]) (rest := []) (r := (cn_2, ct_2, 15)) d_X5_unit_255 ml_X5_196 mk_X2_emit mv_X2_emit h0 ho12 rfl rfl (Nat.le_of_ble_eq_true rfl) ?_
        refine wpM.mono h (fun rr G11 hr => ?_)
        obtain ⟨r10, rfl, h⟩ := hr
        show wp E d M_X5_unit 258 [some (vr _), some (vi _)] [vi _] G11 Q
        refine wp_if_eq (pc := 258) (tgt := 265) d_X5_unit_258 (by decide) (fun hc => ?_) (fun hc => ?_)
        · have h := h.1 hc
          refine wp_iconst (pc := 265) (v := 0) d_X5_unit_265 rfl ?_
          exact wp_zret (pc := 266) d_X5_unit_266 rfl rfl h
        · have h := h.2 hc
          refine wp_iconst (pc := 261) (v := 1) d_X5_unit_261 rfl ?_
          refine wp_goto (pc := 262) (tgt := 266) d_X5_unit_262 (by decide) ?_
          exact wp_zret (pc := 266) d_X5_unit_266 rfl rfl h
    · have h := h.2 hc
      refine wp_aload_n (pc := 227) d_X5_unit_227 rfl ?_
      obtain ⟨ho15, h⟩ := h
      refine wp_getR (pc := 228) d_X5_unit_228 fl_X5_46 (fun _ _ _ => rfl) ho15 ?_
      obtain ⟨ho18, h⟩ := h
      refine wp_invV (pc := 231) (N := M_X10_refuse) (As := []) (rest := []) (r := (cn_10, ct_10, 12)) d_X5_unit_231 ml_X5_94 mk_X10_refuse mv_X10_refuse h0 ho18 rfl rfl (Nat.le_of_ble_eq_true rfl) ?_
      refine wpM.mono h (fun rr G17 hr => ?_)
      obtain ⟨r16, rfl, h⟩ := hr
      show wp E d M_X5_unit 234 [some (vr _), some (vi _)] [vi _] G17 Q
      exact wp_zret (pc := 234) d_X5_unit_234 rfl h.1.1 h.2
  · have h := h.2 hc
    refine wp_iconst (pc := 216) (v := 0) d_X5_unit_216 rfl ?_
    exact wp_zret (pc := 217) d_X5_unit_217 rfl rfl h
theorem d_X5_enter_0 : decode prog_7_method_22_code 0 = .ok (.aload_n 0, 1) := by decide +kernel
theorem d_X5_enter_1 : decode prog_7_method_22_code 1 = .ok (.getfield 46, 3) := by decide +kernel
theorem d_X5_enter_4 : decode prog_7_method_22_code 4 = .ok (.iload_n 1, 1) := by decide +kernel
theorem d_X5_enter_5 : decode prog_7_method_22_code 5 = .ok (.invokevirtual 78, 3) := by decide +kernel
theorem d_X5_enter_8 : decode prog_7_method_22_code 8 = .ok (.ifCond .ne 11, 3) := by decide +kernel
theorem d_X5_enter_11 : decode prog_7_method_22_code 11 = .ok (.aload_n 0, 1) := by decide +kernel
theorem d_X5_enter_12 : decode prog_7_method_22_code 12 = .ok (.getfield 46, 3) := by decide +kernel
theorem d_X5_enter_15 : decode prog_7_method_22_code 15 = .ok (.invokevirtual 94, 3) := by decide +kernel
theorem d_X5_enter_18 : decode prog_7_method_22_code 18 = .ok (.ireturn, 1) := by decide +kernel
theorem d_X5_enter_19 : decode prog_7_method_22_code 19 = .ok (.aload_n 0, 1) := by decide +kernel
theorem d_X5_enter_20 : decode prog_7_method_22_code 20 = .ok (.getfield 33, 3) := by decide +kernel
theorem d_X5_enter_23 : decode prog_7_method_22_code 23 = .ok (.bipush 12, 2) := by decide +kernel
theorem d_X5_enter_25 : decode prog_7_method_22_code 25 = .ok (.if_icmp .lt 20, 3) := by decide +kernel
theorem d_X5_enter_28 : decode prog_7_method_22_code 28 = .ok (.aload_n 0, 1) := by decide +kernel
theorem d_X5_enter_29 : decode prog_7_method_22_code 29 = .ok (.getfield 46, 3) := by decide +kernel
theorem d_X5_enter_32 : decode prog_7_method_22_code 32 = .ok (.bipush 7, 2) := by decide +kernel
theorem d_X5_enter_34 : decode prog_7_method_22_code 34 = .ok (.aload_n 0, 1) := by decide +kernel
theorem d_X5_enter_35 : decode prog_7_method_22_code 35 = .ok (.getfield 46, 3) := by decide +kernel
theorem d_X5_enter_38 : decode prog_7_method_22_code 38 = .ok (.getfield 114, 3) := by decide +kernel
theorem d_X5_enter_41 : decode prog_7_method_22_code 41 = .ok (.invokevirtual 117, 3) := by decide +kernel
theorem d_X5_enter_44 : decode prog_7_method_22_code 44 = .ok (.ireturn, 1) := by decide +kernel
theorem d_X5_enter_45 : decode prog_7_method_22_code 45 = .ok (.aload_n 0, 1) := by decide +kernel
theorem d_X5_enter_46 : decode prog_7_method_22_code 46 = .ok (.dup, 1) := by decide +kernel
theorem d_X5_enter_47 : decode prog_7_method_22_code 47 = .ok (.getfield 33, 3) := by decide +kernel
theorem d_X5_enter_50 : decode prog_7_method_22_code 50 = .ok (.iconst 1, 1) := by decide +kernel
theorem d_X5_enter_51 : decode prog_7_method_22_code 51 = .ok (.iadd, 1) := by decide +kernel
theorem d_X5_enter_52 : decode prog_7_method_22_code 52 = .ok (.putfield 33, 3) := by decide +kernel
theorem d_X5_enter_55 : decode prog_7_method_22_code 55 = .ok (.aload_n 0, 1) := by decide +kernel
theorem d_X5_enter_56 : decode prog_7_method_22_code 56 = .ok (.getfield 46, 3) := by decide +kernel
theorem d_X5_enter_59 : decode prog_7_method_22_code 59 = .ok (.invokevirtual 180, 3) := by decide +kernel
theorem d_X5_enter_62 : decode prog_7_method_22_code 62 = .ok (.iconst 1, 1) := by decide +kernel
theorem d_X5_enter_63 : decode prog_7_method_22_code 63 = .ok (.ireturn, 1) := by decide +kernel
theorem v_X5_enter_0 {E : EE} {d : Nat} {Q : Option AV → AH → Prop} {x0 : Nat} {x1 : Int32} {G : AH} (h0 : 0 < d) (h : isO E G x0 5 ∧ (isO E G (gR G x0 0) 10 ∧ (wpI E (d - 1) M_X10_is [vr (gR G x0 0), vi x1] G (fun r2 G3 => (¬ r2 = 0 → isO E G3 x0 5 ∧ (((gI G3 x0 7) < 12 → isO E G3 (gR G3 x0 0) 10 ∧ (wpV E (d - 1) M_X10_step [vr (gR G3 x0 0)] (sI G3 x0 7 ((gI G3 x0 7) + 1)) (fun G5 => Q (some (vi 1)) G5))) ∧ (¬ ((gI G3 x0 7) < 12) → isO E G3 (gR G3 x0 0) 10 ∧ (wpI E (d - 1) M_X10_fail [vr (gR G3 x0 0), vi 7, vi (gI G3 (gR G3 x0 0) 8)] G3 (fun r8 G9 => okI .boolean r8 ∧ Q (some (vi r8)) G9))))) ∧ (r2 = 0 → isO E G3 x0 5 ∧ (isO E G3 (gR G3 x0 0) 10 ∧ (wpI E (d - 1) M_X10_refuse [vr (gR G3 x0 0)] G3 (fun r11 G12 => okI .boolean r11 ∧ Q (some (vi r11)) G12)))))))) : wp E d M_X5_enter 0 [some (vr x0), some (vi x1)] [] G Q := by
  refine wp_aload_n (pc := 0) d_X5_enter_0 rfl ?_
  obtain ⟨ho1, h⟩ := h
  refine wp_getR (pc := 1) d_X5_enter_1 fl_X5_46 (fun _ _ _ => rfl) ho1 ?_
  refine wp_iload_n (pc := 4) d_X5_enter_4 rfl ?_
  obtain ⟨ho14, h⟩ := h
  refine wp_invV (pc := 5) (N := M_X10_is) (As := [vi _]) (rest := []) (r := (cn_10, ct_10, 12)) d_X5_enter_5 ml_X5_78 mk_X10_is mv_X10_is h0 ho14 rfl rfl (Nat.le_of_ble_eq_true rfl) ?_
  refine wpM.mono h (fun rr G3 hr => ?_)
  obtain ⟨r2, rfl, h⟩ := hr
  show wp E d M_X5_enter 8 [some (vr _), some (vi _)] [vi _] G3 Q
  refine wp_if_ne (pc := 8) (tgt := 19) d_X5_enter_8 (by decide) (fun hc => ?_) (fun hc => ?_)
  · have h := h.1 hc
    refine wp_aload_n (pc := 19) d_X5_enter_19 rfl ?_
    obtain ⟨ho4, h⟩ := h
    refine wp_getI (pc := 20) d_X5_enter_20 fl_X5_33 (fun _ _ _ => rfl) ho4 ?_
    refine wp_bipush (pc := 23) (v := 12) d_X5_enter_23 rfl ?_
    refine wp_icmp_lt (pc := 25) (tgt := 45) d_X5_enter_25 (by decide) (fun hc => ?_) (fun hc => ?_)
    · have h := h.1 hc
      refine wp_aload_n (pc := 45) d_X5_enter_45 rfl ?_
      refine wp_dup (pc := 46) d_X5_enter_46 (c1_r _) ?_
      refine wp_getI (pc := 47) d_X5_enter_47 fl_X5_33 (fun _ _ _ => rfl) ho4 ?_
      refine wp_iconst (pc := 50) (v := 1) d_X5_enter_50 rfl ?_
      refine wp_iadd (pc := 51) d_X5_enter_51 ?_
      refine wp_putI (pc := 52) d_X5_enter_52 fl_X5_33 (fun _ _ _ => rfl) (Or.inl rfl) ho4 (okI_int _) ?_
      refine wp_aload_n (pc := 55) d_X5_enter_55 rfl ?_
      refine wp_getR (pc := 56) d_X5_enter_56 fl_X5_46 (fun _ _ _ => rfl) ho4 ?_
      show wp E d M_X5_enter 59 [some (vr x0), some (vi x1)] [vr (gR G3 x0 0)] (sI G3 x0 7 ((gI G3 x0 7) + 1)) Q
      obtain ⟨ho6, h⟩ := h
      refine wp_invV (pc := 59) (N := M_X10_step) (As := []) (rest := []) (r := (cn_10, ct_10, 12)) d_X5_enter_59 ml_X5_180 mk_X10_step mv_X10_step h0 ho6 rfl rfl (Nat.le_of_ble_eq_true rfl) ?_
      refine wpM.mono h (fun rr G5 hr => ?_)
      obtain ⟨rfl, h⟩ := hr
      show wp E d M_X5_enter 62 [some (vr _), some (vi _)] [] G5 Q
      refine wp_iconst (pc := 62) (v := 1) d_X5_enter_62 rfl ?_
      exact wp_zret (pc := 63) d_X5_enter_63 rfl rfl h
    · have h := h.2 hc
      refine wp_aload_n (pc := 28) d_X5_enter_28 rfl ?_
      refine wp_getR (pc := 29) d_X5_enter_29 fl_X5_46 (fun _ _ _ => rfl) ho4 ?_
      refine wp_bipush (pc := 32) (v := 7) d_X5_enter_32 rfl ?_
      refine wp_aload_n (pc := 34) d_X5_enter_34 rfl ?_
      refine wp_getR (pc := 35) d_X5_enter_35 fl_X5_46 (fun _ _ _ => rfl) ho4 ?_
      obtain ⟨ho7, h⟩ := h
      refine wp_getI (pc := 38) d_X5_enter_38 fl_X5_114 (fun _ _ _ => rfl) ho7 ?_
      refine wp_invV (pc := 41) (N := M_X10_fail) (As := [vi _, vi _]) (rest := []) (r := (cn_10, ct_10, 12)) d_X5_enter_41 ml_X5_117 mk_X10_fail mv_X10_fail h0 ho7 rfl rfl (Nat.le_of_ble_eq_true rfl) ?_
      refine wpM.mono h (fun rr G9 hr => ?_)
      obtain ⟨r8, rfl, h⟩ := hr
      show wp E d M_X5_enter 44 [some (vr _), some (vi _)] [vi _] G9 Q
      exact wp_zret (pc := 44) d_X5_enter_44 rfl h.1.1 h.2
  · have h := h.2 hc
    refine wp_aload_n (pc := 11) d_X5_enter_11 rfl ?_
    obtain ⟨ho10, h⟩ := h
    refine wp_getR (pc := 12) d_X5_enter_12 fl_X5_46 (fun _ _ _ => rfl) ho10 ?_
    obtain ⟨ho13, h⟩ := h
    refine wp_invV (pc := 15) (N := M_X10_refuse) (As := []) (rest := []) (r := (cn_10, ct_10, 12)) d_X5_enter_15 ml_X5_94 mk_X10_refuse mv_X10_refuse h0 ho13 rfl rfl (Nat.le_of_ble_eq_true rfl) ?_
    refine wpM.mono h (fun rr G12 hr => ?_)
    obtain ⟨r11, rfl, h⟩ := hr
    show wp E d M_X5_enter 18 [some (vr _), some (vi _)] [vi _] G12 Q
    exact wp_zret (pc := 18) d_X5_enter_18 rfl h.1.1 h.2
theorem d_X5_leave_0 : decode prog_7_method_23_code 0 = .ok (.aload_n 0, 1) := by decide +kernel
theorem d_X5_leave_1 : decode prog_7_method_23_code 1 = .ok (.dup, 1) := by decide +kernel
theorem d_X5_leave_2 : decode prog_7_method_23_code 2 = .ok (.getfield 33, 3) := by decide +kernel
theorem d_X5_leave_5 : decode prog_7_method_23_code 5 = .ok (.iconst 1, 1) := by decide +kernel
theorem d_X5_leave_6 : decode prog_7_method_23_code 6 = .ok (.isub, 1) := by decide +kernel
theorem d_X5_leave_7 : decode prog_7_method_23_code 7 = .ok (.putfield 33, 3) := by decide +kernel
theorem d_X5_leave_10 : decode prog_7_method_23_code 10 = .ok (.aload_n 0, 1) := by decide +kernel
theorem d_X5_leave_11 : decode prog_7_method_23_code 11 = .ok (.getfield 46, 3) := by decide +kernel
theorem d_X5_leave_14 : decode prog_7_method_23_code 14 = .ok (.iload_n 1, 1) := by decide +kernel
theorem d_X5_leave_15 : decode prog_7_method_23_code 15 = .ok (.invokevirtual 124, 3) := by decide +kernel
theorem d_X5_leave_18 : decode prog_7_method_23_code 18 = .ok (.ireturn, 1) := by decide +kernel
theorem v_X5_leave_0 {E : EE} {d : Nat} {Q : Option AV → AH → Prop} {x0 : Nat} {x1 : Int32} {G : AH} (h0 : 0 < d) (h : isO E G x0 5 ∧ (isO E G (gR G x0 0) 10 ∧ (wpI E (d - 1) M_X10_accept [vr (gR G x0 0), vi x1] (sI G x0 7 ((gI G x0 7) - 1)) (fun r2 G3 => okI .boolean r2 ∧ Q (some (vi r2)) G3)))) : wp E d M_X5_leave 0 [some (vr x0), some (vi x1)] [] G Q := by
  refine wp_aload_n (pc := 0) d_X5_leave_0 rfl ?_
  refine wp_dup (pc := 1) d_X5_leave_1 (c1_r _) ?_
  obtain ⟨ho1, h⟩ := h
  refine wp_getI (pc := 2) d_X5_leave_2 fl_X5_33 (fun _ _ _ => rfl) ho1 ?_
  refine wp_iconst (pc := 5) (v := 1) d_X5_leave_5 rfl ?_
  refine wp_isub (pc := 6) d_X5_leave_6 ?_
  refine wp_putI (pc := 7) d_X5_leave_7 fl_X5_33 (fun _ _ _ => rfl) (Or.inl rfl) ho1 (okI_int _) ?_
  refine wp_aload_n (pc := 10) d_X5_leave_10 rfl ?_
  refine wp_getR (pc := 11) d_X5_leave_11 fl_X5_46 (fun _ _ _ => rfl) ho1 ?_
  show wp E d M_X5_leave 14 [some (vr x0), some (vi x1)] [vr (gR G x0 0)] (sI G x0 7 ((gI G x0 7) - 1)) Q
  refine wp_iload_n (pc := 14) d_X5_leave_14 rfl ?_
  obtain ⟨ho4, h⟩ := h
  refine wp_invV (pc := 15) (N := M_X10_accept) (As := [vi _]) (rest := []) (r := (cn_10, ct_10, 12)) d_X5_leave_15 ml_X5_124 mk_X10_accept mv_X10_accept h0 ho4 rfl rfl (Nat.le_of_ble_eq_true rfl) ?_
  refine wpM.mono h (fun rr G3 hr => ?_)
  obtain ⟨r2, rfl, h⟩ := hr
  show wp E d M_X5_leave 18 [some (vr _), some (vi _)] [vi _] G3 Q
  exact wp_zret (pc := 18) d_X5_leave_18 rfl h.1.1 h.2
theorem d_X5_lists_0 : decode prog_7_method_24_code 0 = .ok (.iload_n 1, 1) := by decide +kernel
theorem d_X5_lists_1 : decode prog_7_method_24_code 1 = .ok (.bipush 28, 2) := by decide +kernel
theorem d_X5_lists_3 : decode prog_7_method_24_code 3 = .ok (.if_icmp .ne 11, 3) := by decide +kernel
theorem d_X5_lists_6 : decode prog_7_method_24_code 6 = .ok (.aload_n 0, 1) := by decide +kernel
theorem d_X5_lists_7 : decode prog_7_method_24_code 7 = .ok (.ldc 237, 2) := by decide +kernel
theorem d_X5_lists_9 : decode prog_7_method_24_code 9 = .ok (.iconst 4, 1) := by decide +kernel
theorem d_X5_lists_10 : decode prog_7_method_24_code 10 = .ok (.invokevirtual 239, 3) := by decide +kernel
theorem d_X5_lists_13 : decode prog_7_method_24_code 13 = .ok (.ireturn, 1) := by decide +kernel
theorem d_X5_lists_14 : decode prog_7_method_24_code 14 = .ok (.iload_n 1, 1) := by decide +kernel
theorem d_X5_lists_15 : decode prog_7_method_24_code 15 = .ok (.bipush 27, 2) := by decide +kernel
theorem d_X5_lists_17 : decode prog_7_method_24_code 17 = .ok (.if_icmp .ne 57, 3) := by decide +kernel
theorem d_X5_lists_20 : decode prog_7_method_24_code 20 = .ok (.aload_n 0, 1) := by decide +kernel
theorem d_X5_lists_21 : decode prog_7_method_24_code 21 = .ok (.iconst 0, 1) := by decide +kernel
theorem d_X5_lists_22 : decode prog_7_method_24_code 22 = .ok (.iconst 0, 1) := by decide +kernel
theorem d_X5_lists_23 : decode prog_7_method_24_code 23 = .ok (.sipush 9999, 3) := by decide +kernel
theorem d_X5_lists_26 : decode prog_7_method_24_code 26 = .ok (.invokevirtual 127, 3) := by decide +kernel
theorem d_X5_lists_29 : decode prog_7_method_24_code 29 = .ok (.ifCond .ne 5, 3) := by decide +kernel
theorem d_X5_lists_32 : decode prog_7_method_24_code 32 = .ok (.iconst 0, 1) := by decide +kernel
theorem d_X5_lists_33 : decode prog_7_method_24_code 33 = .ok (.ireturn, 1) := by decide +kernel
theorem d_X5_lists_34 : decode prog_7_method_24_code 34 = .ok (.aload_n 0, 1) := by decide +kernel
theorem d_X5_lists_35 : decode prog_7_method_24_code 35 = .ok (.getfield 15, 3) := by decide +kernel
theorem d_X5_lists_38 : decode prog_7_method_24_code 38 = .ok (.aload_n 0, 1) := by decide +kernel
theorem d_X5_lists_39 : decode prog_7_method_24_code 39 = .ok (.getfield 27, 3) := by decide +kernel
theorem d_X5_lists_42 : decode prog_7_method_24_code 42 = .ok (.invokevirtual 243, 3) := by decide +kernel
theorem d_X5_lists_45 : decode prog_7_method_24_code 45 = .ok (.pop, 1) := by decide +kernel
theorem d_X5_lists_46 : decode prog_7_method_24_code 46 = .ok (.aload_n 0, 1) := by decide +kernel
theorem d_X5_lists_47 : decode prog_7_method_24_code 47 = .ok (.getfield 46, 3) := by decide +kernel
theorem d_X5_lists_50 : decode prog_7_method_24_code 50 = .ok (.bipush 58, 2) := by decide +kernel
theorem d_X5_lists_52 : decode prog_7_method_24_code 52 = .ok (.invokevirtual 124, 3) := by decide +kernel
theorem d_X5_lists_55 : decode prog_7_method_24_code 55 = .ok (.ifCond .eq 17, 3) := by decide +kernel
theorem d_X5_lists_58 : decode prog_7_method_24_code 58 = .ok (.aload_n 0, 1) := by decide +kernel
theorem d_X5_lists_59 : decode prog_7_method_24_code 59 = .ok (.ldc 246, 2) := by decide +kernel
theorem d_X5_lists_61 : decode prog_7_method_24_code 61 = .ok (.iconst 3, 1) := by decide +kernel
theorem d_X5_lists_62 : decode prog_7_method_24_code 62 = .ok (.invokevirtual 239, 3) := by decide +kernel
theorem d_X5_lists_65 : decode prog_7_method_24_code 65 = .ok (.ifCond .eq 7, 3) := by decide +kernel
theorem d_X5_lists_68 : decode prog_7_method_24_code 68 = .ok (.iconst 1, 1) := by decide +kernel
theorem d_X5_lists_69 : decode prog_7_method_24_code 69 = .ok (.goto 4, 3) := by decide +kernel
theorem d_X5_lists_72 : decode prog_7_method_24_code 72 = .ok (.iconst 0, 1) := by decide +kernel
theorem d_X5_lists_73 : decode prog_7_method_24_code 73 = .ok (.ireturn, 1) := by decide +kernel
theorem d_X5_lists_74 : decode prog_7_method_24_code 74 = .ok (.aload_n 0, 1) := by decide +kernel
theorem d_X5_lists_75 : decode prog_7_method_24_code 75 = .ok (.iconst 1, 1) := by decide +kernel
theorem d_X5_lists_76 : decode prog_7_method_24_code 76 = .ok (.bipush 12, 2) := by decide +kernel
theorem d_X5_lists_78 : decode prog_7_method_24_code 78 = .ok (.invokevirtual 248, 3) := by decide +kernel
theorem d_X5_lists_81 : decode prog_7_method_24_code 81 = .ok (.istore_n 2, 1) := by decide +kernel
theorem d_X5_lists_82 : decode prog_7_method_24_code 82 = .ok (.iload_n 2, 1) := by decide +kernel
theorem d_X5_lists_83 : decode prog_7_method_24_code 83 = .ok (.ifCond .ge 5, 3) := by decide +kernel
theorem d_X5_lists_86 : decode prog_7_method_24_code 86 = .ok (.iconst 0, 1) := by decide +kernel
theorem d_X5_lists_87 : decode prog_7_method_24_code 87 = .ok (.ireturn, 1) := by decide +kernel
theorem d_X5_lists_88 : decode prog_7_method_24_code 88 = .ok (.iload_n 1, 1) := by decide +kernel
theorem d_X5_lists_89 : decode prog_7_method_24_code 89 = .ok (.bipush 22, 2) := by decide +kernel
theorem d_X5_lists_91 : decode prog_7_method_24_code 91 = .ok (.if_icmp .eq 9, 3) := by decide +kernel
theorem d_X5_lists_94 : decode prog_7_method_24_code 94 = .ok (.iload_n 1, 1) := by decide +kernel
theorem d_X5_lists_95 : decode prog_7_method_24_code 95 = .ok (.bipush 25, 2) := by decide +kernel
theorem d_X5_lists_97 : decode prog_7_method_24_code 97 = .ok (.if_icmp .ne 5, 3) := by decide +kernel
theorem d_X5_lists_100 : decode prog_7_method_24_code 100 = .ok (.iconst 1, 1) := by decide +kernel
theorem d_X5_lists_101 : decode prog_7_method_24_code 101 = .ok (.ireturn, 1) := by decide +kernel
theorem d_X5_lists_102 : decode prog_7_method_24_code 102 = .ok (.aload_n 0, 1) := by decide +kernel
theorem d_X5_lists_103 : decode prog_7_method_24_code 103 = .ok (.getfield 46, 3) := by decide +kernel
theorem d_X5_lists_106 : decode prog_7_method_24_code 106 = .ok (.bipush 58, 2) := by decide +kernel
theorem d_X5_lists_108 : decode prog_7_method_24_code 108 = .ok (.invokevirtual 124, 3) := by decide +kernel
theorem d_X5_lists_111 : decode prog_7_method_24_code 111 = .ok (.ifCond .ne 5, 3) := by decide +kernel
theorem d_X5_lists_114 : decode prog_7_method_24_code 114 = .ok (.iconst 0, 1) := by decide +kernel
theorem d_X5_lists_115 : decode prog_7_method_24_code 115 = .ok (.ireturn, 1) := by decide +kernel
theorem d_X5_lists_116 : decode prog_7_method_24_code 116 = .ok (.iload_n 1, 1) := by decide +kernel
theorem d_X5_lists_117 : decode prog_7_method_24_code 117 = .ok (.bipush 24, 2) := by decide +kernel
theorem d_X5_lists_119 : decode prog_7_method_24_code 119 = .ok (.if_icmp .ne 19, 3) := by decide +kernel
theorem d_X5_lists_122 : decode prog_7_method_24_code 122 = .ok (.aload_n 0, 1) := by decide +kernel
theorem d_X5_lists_123 : decode prog_7_method_24_code 123 = .ok (.iload_n 2, 1) := by decide +kernel
theorem d_X5_lists_124 : decode prog_7_method_24_code 124 = .ok (.iload_n 2, 1) := by decide +kernel
theorem d_X5_lists_125 : decode prog_7_method_24_code 125 = .ok (.invokevirtual 248, 3) := by decide +kernel
theorem d_X5_lists_128 : decode prog_7_method_24_code 128 = .ok (.iload_n 2, 1) := by decide +kernel
theorem d_X5_lists_129 : decode prog_7_method_24_code 129 = .ok (.if_icmp .ne 7, 3) := by decide +kernel
theorem d_X5_lists_132 : decode prog_7_method_24_code 132 = .ok (.iconst 1, 1) := by decide +kernel
theorem d_X5_lists_133 : decode prog_7_method_24_code 133 = .ok (.goto 4, 3) := by decide +kernel
theorem d_X5_lists_136 : decode prog_7_method_24_code 136 = .ok (.iconst 0, 1) := by decide +kernel
theorem d_X5_lists_137 : decode prog_7_method_24_code 137 = .ok (.ireturn, 1) := by decide +kernel
theorem d_X5_lists_138 : decode prog_7_method_24_code 138 = .ok (.iload_n 1, 1) := by decide +kernel
theorem d_X5_lists_139 : decode prog_7_method_24_code 139 = .ok (.bipush 23, 2) := by decide +kernel
theorem d_X5_lists_141 : decode prog_7_method_24_code 141 = .ok (.if_icmp .ne 11, 3) := by decide +kernel
theorem d_X5_lists_144 : decode prog_7_method_24_code 144 = .ok (.aload_n 0, 1) := by decide +kernel
theorem d_X5_lists_145 : decode prog_7_method_24_code 145 = .ok (.ldc 252, 2) := by decide +kernel
theorem d_X5_lists_147 : decode prog_7_method_24_code 147 = .ok (.iload_n 2, 1) := by decide +kernel
theorem d_X5_lists_148 : decode prog_7_method_24_code 148 = .ok (.invokevirtual 239, 3) := by decide +kernel
theorem d_X5_lists_151 : decode prog_7_method_24_code 151 = .ok (.ireturn, 1) := by decide +kernel
theorem d_X5_lists_152 : decode prog_7_method_24_code 152 = .ok (.aload_n 0, 1) := by decide +kernel
theorem d_X5_lists_153 : decode prog_7_method_24_code 153 = .ok (.ldc 254, 2) := by decide +kernel
theorem d_X5_lists_155 : decode prog_7_method_24_code 155 = .ok (.iconst 3, 1) := by decide +kernel
theorem d_X5_lists_156 : decode prog_7_method_24_code 156 = .ok (.invokevirtual 239, 3) := by decide +kernel
theorem d_X5_lists_159 : decode prog_7_method_24_code 159 = .ok (.ifCond .eq 31, 3) := by decide +kernel
theorem d_X5_lists_162 : decode prog_7_method_24_code 162 = .ok (.aload_n 0, 1) := by decide +kernel
theorem d_X5_lists_163 : decode prog_7_method_24_code 163 = .ok (.getfield 46, 3) := by decide +kernel
theorem d_X5_lists_166 : decode prog_7_method_24_code 166 = .ok (.bipush 58, 2) := by decide +kernel
theorem d_X5_lists_168 : decode prog_7_method_24_code 168 = .ok (.invokevirtual 124, 3) := by decide +kernel
theorem d_X5_lists_171 : decode prog_7_method_24_code 171 = .ok (.ifCond .eq 19, 3) := by decide +kernel
theorem d_X5_lists_174 : decode prog_7_method_24_code 174 = .ok (.aload_n 0, 1) := by decide +kernel
theorem d_X5_lists_175 : decode prog_7_method_24_code 175 = .ok (.iconst 0, 1) := by decide +kernel
theorem d_X5_lists_176 : decode prog_7_method_24_code 176 = .ok (.bipush 10, 2) := by decide +kernel
theorem d_X5_lists_178 : decode prog_7_method_24_code 178 = .ok (.bipush 9, 2) := by decide +kernel
theorem d_X5_lists_180 : decode prog_7_method_24_code 180 = .ok (.invokevirtual 234, 3) := by decide +kernel
theorem d_X5_lists_183 : decode prog_7_method_24_code 183 = .ok (.ifCond .eq 7, 3) := by decide +kernel
theorem d_X5_lists_186 : decode prog_7_method_24_code 186 = .ok (.iconst 1, 1) := by decide +kernel
theorem d_X5_lists_187 : decode prog_7_method_24_code 187 = .ok (.goto 4, 3) := by decide +kernel
theorem d_X5_lists_190 : decode prog_7_method_24_code 190 = .ok (.iconst 0, 1) := by decide +kernel
theorem d_X5_lists_191 : decode prog_7_method_24_code 191 = .ok (.ireturn, 1) := by decide +kernel
theorem v_X5_lists_0 {E : EE} {d : Nat} {Q : Option AV → AH → Prop} {x0 : Nat} {x1 : Int32} {G : AH} (h0 : 0 < d) (h : (¬ x1 = 28 → (¬ x1 = 27 → isO E G x0 5 ∧ (wpI E (d - 1) M_X5_names [vr x0, vi 1, vi 12] G (fun r1 G2 => (0 ≤ r1 → (x1 = 22 → Q (some (vi 1)) G2) ∧ (¬ (x1 = 22) → (¬ x1 = 25 → isO E G2 x0 5 ∧ (isO E G2 (gR G2 x0 0) 10 ∧ (wpI E (d - 1) M_X10_accept [vr (gR G2 x0 0), vi 58] G2 (fun r4 G5 => (¬ r4 = 0 → (¬ x1 = 24 → (¬ x1 = 23 → isO E G5 x0 5 ∧ (wpI E (d - 1) M_X5_groups [vr x0, vs (eK E 3), vi 3] G5 (fun r6 G7 => (r6 = 0 → Q (some (vi 0)) G7) ∧ (¬ (r6 = 0) → isO E G7 x0 5 ∧ (isO E G7 (gR G7 x0 0) 10 ∧ (wpI E (d - 1) M_X10_accept [vr (gR G7 x0 0), vi 58] G7 (fun r9 G10 => (r9 = 0 → Q (some (vi 0)) G10) ∧ (¬ (r9 = 0) → isO E G10 x0 5 ∧ (wpI E (d - 1) M_X5_numerals [vr x0, vi 0, vi 10, vi 9] G10 (fun r11 G12 => (r11 = 0 → Q (some (vi 0)) G12) ∧ (¬ (r11 = 0) → Q (some (vi 1)) G12))))))))))) ∧ (x1 = 23 → isO E G5 x0 5 ∧ (wpI E (d - 1) M_X5_groups [vr x0, vs (eK E 2), vi r1] G5 (fun r16 G17 => okI .boolean r16 ∧ Q (some (vi r16)) G17)))) ∧ (x1 = 24 → isO E G5 x0 5 ∧ (wpI E (d - 1) M_X5_names [vr x0, vi r1, vi r1] G5 (fun r19 G20 => (¬ r19 = r1 → Q (some (vi 0)) G20) ∧ (r19 = r1 → Q (some (vi 1)) G20))))) ∧ (r4 = 0 → Q (some (vi 0)) G5))))) ∧ (x1 = 25 → Q (some (vi 1)) G2))) ∧ (¬ (0 ≤ r1) → Q (some (vi 0)) G2)))) ∧ (x1 = 27 → isO E G x0 5 ∧ (wpI E (d - 1) M_X5_numeral [vr x0, vi 0, vi 0, vi 9999] G (fun r24 G25 => (¬ r24 = 0 → isO E G25 x0 5 ∧ (isO E G25 (gR G25 x0 2) 2 ∧ (wpI E (d - 1) M_X2_note [vr (gR G25 x0 2), vi (gI G25 x0 5)] G25 (fun r27 G28 => isO E G28 x0 5 ∧ (isO E G28 (gR G28 x0 0) 10 ∧ (wpI E (d - 1) M_X10_accept [vr (gR G28 x0 0), vi 58] G28 (fun r30 G31 => (r30 = 0 → Q (some (vi 0)) G31) ∧ (¬ (r30 = 0) → isO E G31 x0 5 ∧ (wpI E (d - 1) M_X5_groups [vr x0, vs (eK E 1), vi 3] G31 (fun r32 G33 => (r32 = 0 → Q (some (vi 0)) G33) ∧ (¬ (r32 = 0) → Q (some (vi 1)) G33))))))))))) ∧ (r24 = 0 → Q (some (vi 0)) G25))))) ∧ (x1 = 28 → isO E G x0 5 ∧ (wpI E (d - 1) M_X5_groups [vr x0, vs (eK E 0), vi 4] G (fun r38 G39 => okI .boolean r38 ∧ Q (some (vi r38)) G39)))) : wp E d M_X5_lists 0 [some (vr x0), some (vi x1), none] [] G Q := by
  refine wp_iload_n (pc := 0) d_X5_lists_0 rfl ?_
  refine wp_bipush (pc := 1) (v := 28) d_X5_lists_1 rfl ?_
  refine wp_icmp_ne (pc := 3) (tgt := 14) d_X5_lists_3 (by decide) (fun hc => ?_) (fun hc => ?_)
  · have h := h.1 hc
    refine wp_iload_n (pc := 14) d_X5_lists_14 rfl ?_
    refine wp_bipush (pc := 15) (v := 27) d_X5_lists_15 rfl ?_
    refine wp_icmp_ne (pc := 17) (tgt := 74) d_X5_lists_17 (by decide) (fun hc => ?_) (fun hc => ?_)
    · have h := h.1 hc
      refine wp_aload_n (pc := 74) d_X5_lists_74 rfl ?_
      refine wp_iconst (pc := 75) (v := 1) d_X5_lists_75 rfl ?_
      refine wp_bipush (pc := 76) (v := 12) d_X5_lists_76 rfl ?_
      obtain ⟨ho23, h⟩ := h
      refine wp_invV (pc := 78) (N := M_X5_names) (As := [vi _, vi _]) (rest := []) (r := (cn_5, ct_5, 11)) d_X5_lists_78 ml_X5_248 mk_X5_names mv_X5_names h0 ho23 rfl rfl (Nat.le_of_ble_eq_true rfl) ?_
      refine wpM.mono h (fun rr G2 hr => ?_)
      obtain ⟨r1, rfl, h⟩ := hr
      show wp E d M_X5_lists 81 [some (vr _), some (vi _), none] [vi _] G2 Q
      refine wp_istore_n (pc := 81) (lv' := [some (vr _), some (vi _), some (vi _)]) d_X5_lists_81 (by decide) rfl ?_
      refine wp_iload_n (pc := 82) d_X5_lists_82 rfl ?_
      refine wp_if_ge (pc := 83) (tgt := 88) d_X5_lists_83 (by decide) (fun hc => ?_) (fun hc => ?_)
      · have h := h.1 hc
        refine wp_iload_n (pc := 88) d_X5_lists_88 rfl ?_
        refine wp_bipush (pc := 89) (v := 22) d_X5_lists_89 rfl ?_
        refine wp_icmp_eq (pc := 91) (tgt := 100) d_X5_lists_91 (by decide) (fun hc => ?_) (fun hc => ?_)
        · have h := h.1 hc
          refine wp_iconst (pc := 100) (v := 1) d_X5_lists_100 rfl ?_
          exact wp_zret (pc := 101) d_X5_lists_101 rfl rfl h
        · have h := h.2 hc
          refine wp_iload_n (pc := 94) d_X5_lists_94 rfl ?_
          refine wp_bipush (pc := 95) (v := 25) d_X5_lists_95 rfl ?_
          refine wp_icmp_ne (pc := 97) (tgt := 102) d_X5_lists_97 (by decide) (fun hc => ?_) (fun hc => ?_)
          · have h := h.1 hc
            refine wp_aload_n (pc := 102) d_X5_lists_102 rfl ?_
            obtain ⟨ho3, h⟩ := h
            refine wp_getR (pc := 103) d_X5_lists_103 fl_X5_46 (fun _ _ _ => rfl) ho3 ?_
            refine wp_bipush (pc := 106) (v := 58) d_X5_lists_106 rfl ?_
            obtain ⟨ho22, h⟩ := h
            refine wp_invV (pc := 108) (N := M_X10_accept) (As := [vi _]) (rest := []) (r := (cn_10, ct_10, 12)) d_X5_lists_108 ml_X5_124 mk_X10_accept mv_X10_accept h0 ho22 rfl rfl (Nat.le_of_ble_eq_true rfl) ?_
            refine wpM.mono h (fun rr G5 hr => ?_)
            obtain ⟨r4, rfl, h⟩ := hr
            show wp E d M_X5_lists 111 [some (vr _), some (vi _), some (vi _)] [vi _] G5 Q
            refine wp_if_ne (pc := 111) (tgt := 116) d_X5_lists_111 (by decide) (fun hc => ?_) (fun hc => ?_)
            · have h := h.1 hc
              refine wp_iload_n (pc := 116) d_X5_lists_116 rfl ?_
              refine wp_bipush (pc := 117) (v := 24) d_X5_lists_117 rfl ?_
              refine wp_icmp_ne (pc := 119) (tgt := 138) d_X5_lists_119 (by decide) (fun hc => ?_) (fun hc => ?_)
              · have h := h.1 hc
                refine wp_iload_n (pc := 138) d_X5_lists_138 rfl ?_
                refine wp_bipush (pc := 139) (v := 23) d_X5_lists_139 rfl ?_
                refine wp_icmp_ne (pc := 141) (tgt := 152) d_X5_lists_141 (by decide) (fun hc => ?_) (fun hc => ?_)
                · have h := h.1 hc
                  refine wp_aload_n (pc := 152) d_X5_lists_152 rfl ?_
                  refine wp_text (pc := 153) (n := 3) d_X5_lists_153 rfl ?_
                  refine wp_iconst (pc := 155) (v := 3) d_X5_lists_155 rfl ?_
                  obtain ⟨ho15, h⟩ := h
                  refine wp_invV (pc := 156) (N := M_X5_groups) (As := [vs (eK E 3), vi _]) (rest := []) (r := (cn_5, ct_5, 11)) d_X5_lists_156 ml_X5_239 mk_X5_groups mv_X5_groups h0 ho15 rfl rfl (Nat.le_of_ble_eq_true rfl) ?_
                  refine wpM.mono h (fun rr G7 hr => ?_)
                  obtain ⟨r6, rfl, h⟩ := hr
                  show wp E d M_X5_lists 159 [some (vr _), some (vi _), some (vi _)] [vi _] G7 Q
                  refine wp_if_eq (pc := 159) (tgt := 190) d_X5_lists_159 (by decide) (fun hc => ?_) (fun hc => ?_)
                  · have h := h.1 hc
                    refine wp_iconst (pc := 190) (v := 0) d_X5_lists_190 rfl ?_
                    exact wp_zret (pc := 191) d_X5_lists_191 rfl rfl h
                  · have h := h.2 hc
                    refine wp_aload_n (pc := 162) d_X5_lists_162 rfl ?_
                    obtain ⟨ho8, h⟩ := h
                    refine wp_getR (pc := 163) d_X5_lists_163 fl_X5_46 (fun _ _ _ => rfl) ho8 ?_
                    refine wp_bipush (pc := 166) (v := 58) d_X5_lists_166 rfl ?_
                    obtain ⟨ho14, h⟩ := h
                    refine wp_invV (pc := 168) (N := M_X10_accept) (As := [vi _]) (rest := []) (r := (cn_10, ct_10, 12)) d_X5_lists_168 ml_X5_124 mk_X10_accept mv_X10_accept h0 ho14 rfl rfl (Nat.le_of_ble_eq_true rfl) ?_
                    refine wpM.mono h (fun rr G10 hr => ?_)
                    obtain ⟨r9, rfl, h⟩ := hr
                    show wp E d M_X5_lists 171 [some (vr _), some (vi _), some (vi _)] [vi _] G10 Q
                    refine wp_if_eq (pc := 171) (tgt := 190) d_X5_lists_171 (by decide) (fun hc => ?_) (fun hc => ?_)
                    · have h := h.1 hc
                      refine wp_iconst (pc := 190) (v := 0) d_X5_lists_190 rfl ?_
                      exact wp_zret (pc := 191) d_X5_lists_191 rfl rfl h
                    · have h := h.2 hc
                      refine wp_aload_n (pc := 174) d_X5_lists_174 rfl ?_
                      refine wp_iconst (pc := 175) (v := 0) d_X5_lists_175 rfl ?_
                      refine wp_bipush (pc := 176) (v := 10) d_X5_lists_176 rfl ?_
                      refine wp_bipush (pc := 178) (v := 9) d_X5_lists_178 rfl ?_
                      obtain ⟨ho13, h⟩ := h
                      refine wp_invV (pc := 180) (N := M_X5_numerals) (As := [vi _, vi _, vi _]) (rest := []) (r := (cn_5, ct_5, 11)) d_X5_lists_180 ml_X5_234 mk_X5_numerals mv_X5_numerals h0 ho13 rfl rfl (Nat.le_of_ble_eq_true rfl) ?_
                      refine wpM.mono h (fun rr G12 hr => ?_)
                      obtain ⟨r11, rfl, h⟩ := hr
                      show wp E d M_X5_lists 183 [some (vr _), some (vi _), some (vi _)] [vi _] G12 Q
                      refine wp_if_eq (pc := 183) (tgt := 190) d_X5_lists_183 (by decide) (fun hc => ?_) (fun hc => ?_)
                      · have h := h.1 hc
                        refine wp_iconst (pc := 190) (v := 0) d_X5_lists_190 rfl ?_
                        exact wp_zret (pc := 191) d_X5_lists_191 rfl rfl h
                      · have h := h.2 hc
                        refine wp_iconst (pc := 186) (v := 1) d_X5_lists_186 rfl ?_
                        refine wp_goto (pc := 187) (tgt := 191) d_X5_lists_187 (by decide) ?_
                        exact wp_zret (pc := 191) d_X5_lists_191 rfl rfl h
                · have h := h.2 hc
                  refine wp_aload_n (pc := 144) d_X5_lists_144 rfl ?_
                  refine wp_text (pc := 145) (n := 2) d_X5_lists_145 rfl ?_
                  refine wp_iload_n (pc := 147) d_X5_lists_147 rfl ?_
                  obtain ⟨ho18, h⟩ := h
                  refine wp_invV (pc := 148) (N := M_X5_groups) (As := [vs (eK E 2), vi _]) (rest := []) (r := (cn_5, ct_5, 11)) d_X5_lists_148 ml_X5_239 mk_X5_groups mv_X5_groups h0 ho18 rfl rfl (Nat.le_of_ble_eq_true rfl) ?_
                  refine wpM.mono h (fun rr G17 hr => ?_)
                  obtain ⟨r16, rfl, h⟩ := hr
                  show wp E d M_X5_lists 151 [some (vr _), some (vi _), some (vi _)] [vi _] G17 Q
                  exact wp_zret (pc := 151) d_X5_lists_151 rfl h.1.1 h.2
              · have h := h.2 hc
                refine wp_aload_n (pc := 122) d_X5_lists_122 rfl ?_
                refine wp_iload_n (pc := 123) d_X5_lists_123 rfl ?_
                refine wp_iload_n (pc := 124) d_X5_lists_124 rfl ?_
                obtain ⟨ho21, h⟩ := h
                refine wp_invV (pc := 125) (N := M_X5_names) (As := [vi _, vi _]) (rest := []) (r := (cn_5, ct_5, 11)) d_X5_lists_125 ml_X5_248 mk_X5_names mv_X5_names h0 ho21 rfl rfl (Nat.le_of_ble_eq_true rfl) ?_
                refine wpM.mono h (fun rr G20 hr => ?_)
                obtain ⟨r19, rfl, h⟩ := hr
                show wp E d M_X5_lists 128 [some (vr _), some (vi _), some (vi _)] [vi _] G20 Q
                refine wp_iload_n (pc := 128) d_X5_lists_128 rfl ?_
                refine wp_icmp_ne (pc := 129) (tgt := 136) d_X5_lists_129 (by decide) (fun hc => ?_) (fun hc => ?_)
                · have h := h.1 hc
                  refine wp_iconst (pc := 136) (v := 0) d_X5_lists_136 rfl ?_
                  exact wp_zret (pc := 137) d_X5_lists_137 rfl rfl h
                · have h := h.2 hc
                  refine wp_iconst (pc := 132) (v := 1) d_X5_lists_132 rfl ?_
                  refine wp_goto (pc := 133) (tgt := 137) d_X5_lists_133 (by decide) ?_
                  exact wp_zret (pc := 137) d_X5_lists_137 rfl rfl h
            · have h := h.2 hc
              refine wp_iconst (pc := 114) (v := 0) d_X5_lists_114 rfl ?_
              exact wp_zret (pc := 115) d_X5_lists_115 rfl rfl h
          · have h := h.2 hc
            refine wp_iconst (pc := 100) (v := 1) d_X5_lists_100 rfl ?_
            exact wp_zret (pc := 101) d_X5_lists_101 rfl rfl h
      · have h := h.2 hc
        refine wp_iconst (pc := 86) (v := 0) d_X5_lists_86 rfl ?_
        exact wp_zret (pc := 87) d_X5_lists_87 rfl rfl h
    · have h := h.2 hc
      refine wp_aload_n (pc := 20) d_X5_lists_20 rfl ?_
      refine wp_iconst (pc := 21) (v := 0) d_X5_lists_21 rfl ?_
      refine wp_iconst (pc := 22) (v := 0) d_X5_lists_22 rfl ?_
      refine wp_sipush (pc := 23) (v := 9999) d_X5_lists_23 rfl ?_
      obtain ⟨ho37, h⟩ := h
      refine wp_invV (pc := 26) (N := M_X5_numeral) (As := [vi _, vi _, vi _]) (rest := []) (r := (cn_5, ct_5, 11)) d_X5_lists_26 ml_X5_127 mk_X5_numeral mv_X5_numeral h0 ho37 rfl rfl (Nat.le_of_ble_eq_true rfl) ?_
      refine wpM.mono h (fun rr G25 hr => ?_)
      obtain ⟨r24, rfl, h⟩ := hr
      show wp E d M_X5_lists 29 [some (vr _), some (vi _), none] [vi _] G25 Q
      refine wp_if_ne (pc := 29) (tgt := 34) d_X5_lists_29 (by decide) (fun hc => ?_) (fun hc => ?_)
      · have h := h.1 hc
        refine wp_aload_n (pc := 34) d_X5_lists_34 rfl ?_
        obtain ⟨ho26, h⟩ := h
        refine wp_getR (pc := 35) d_X5_lists_35 fl_X5_15 (fun _ _ _ => rfl) ho26 ?_
        refine wp_aload_n (pc := 38) d_X5_lists_38 rfl ?_
        refine wp_getI (pc := 39) d_X5_lists_39 fl_X5_27 (fun _ _ _ => rfl) ho26 ?_
        obtain ⟨ho36, h⟩ := h
        refine wp_invV (pc := 42) (N := M_X2_note) (As := [vi _]) (rest := []) (r := (cn_2, ct_2, 15)) d_X5_lists_42 ml_X5_243 mk_X2_note mv_X2_note h0 ho36 rfl rfl (Nat.le_of_ble_eq_true rfl) ?_
        refine wpM.mono h (fun rr G28 hr => ?_)
        obtain ⟨r27, rfl, h⟩ := hr
        show wp E d M_X5_lists 45 [some (vr _), some (vi _), none] [vi _] G28 Q
        refine wp_pop (pc := 45) d_X5_lists_45 (c1_i _) ?_
        refine wp_aload_n (pc := 46) d_X5_lists_46 rfl ?_
        obtain ⟨ho29, h⟩ := h
        refine wp_getR (pc := 47) d_X5_lists_47 fl_X5_46 (fun _ _ _ => rfl) ho29 ?_
        refine wp_bipush (pc := 50) (v := 58) d_X5_lists_50 rfl ?_
        obtain ⟨ho35, h⟩ := h
        refine wp_invV (pc := 52) (N := M_X10_accept) (As := [vi _]) (rest := []) (r := (cn_10, ct_10, 12)) d_X5_lists_52 ml_X5_124 mk_X10_accept mv_X10_accept h0 ho35 rfl rfl (Nat.le_of_ble_eq_true rfl) ?_
        refine wpM.mono h (fun rr G31 hr => ?_)
        obtain ⟨r30, rfl, h⟩ := hr
        show wp E d M_X5_lists 55 [some (vr _), some (vi _), none] [vi _] G31 Q
        refine wp_if_eq (pc := 55) (tgt := 72) d_X5_lists_55 (by decide) (fun hc => ?_) (fun hc => ?_)
        · have h := h.1 hc
          refine wp_iconst (pc := 72) (v := 0) d_X5_lists_72 rfl ?_
          exact wp_zret (pc := 73) d_X5_lists_73 rfl rfl h
        · have h := h.2 hc
          refine wp_aload_n (pc := 58) d_X5_lists_58 rfl ?_
          refine wp_text (pc := 59) (n := 1) d_X5_lists_59 rfl ?_
          refine wp_iconst (pc := 61) (v := 3) d_X5_lists_61 rfl ?_
          obtain ⟨ho34, h⟩ := h
          refine wp_invV (pc := 62) (N := M_X5_groups) (As := [vs (eK E 1), vi _]) (rest := []) (r := (cn_5, ct_5, 11)) d_X5_lists_62 ml_X5_239 mk_X5_groups mv_X5_groups h0 ho34 rfl rfl (Nat.le_of_ble_eq_true rfl) ?_
          refine wpM.mono h (fun rr G33 hr => ?_)
          obtain ⟨r32, rfl, h⟩ := hr
          show wp E d M_X5_lists 65 [some (vr _), some (vi _), none] [vi _] G33 Q
          refine wp_if_eq (pc := 65) (tgt := 72) d_X5_lists_65 (by decide) (fun hc => ?_) (fun hc => ?_)
          · have h := h.1 hc
            refine wp_iconst (pc := 72) (v := 0) d_X5_lists_72 rfl ?_
            exact wp_zret (pc := 73) d_X5_lists_73 rfl rfl h
          · have h := h.2 hc
            refine wp_iconst (pc := 68) (v := 1) d_X5_lists_68 rfl ?_
            refine wp_goto (pc := 69) (tgt := 73) d_X5_lists_69 (by decide) ?_
            exact wp_zret (pc := 73) d_X5_lists_73 rfl rfl h
      · have h := h.2 hc
        refine wp_iconst (pc := 32) (v := 0) d_X5_lists_32 rfl ?_
        exact wp_zret (pc := 33) d_X5_lists_33 rfl rfl h
  · have h := h.2 hc
    refine wp_aload_n (pc := 6) d_X5_lists_6 rfl ?_
    refine wp_text (pc := 7) (n := 0) d_X5_lists_7 rfl ?_
    refine wp_iconst (pc := 9) (v := 4) d_X5_lists_9 rfl ?_
    obtain ⟨ho40, h⟩ := h
    refine wp_invV (pc := 10) (N := M_X5_groups) (As := [vs (eK E 0), vi _]) (rest := []) (r := (cn_5, ct_5, 11)) d_X5_lists_10 ml_X5_239 mk_X5_groups mv_X5_groups h0 ho40 rfl rfl (Nat.le_of_ble_eq_true rfl) ?_
    refine wpM.mono h (fun rr G39 hr => ?_)
    obtain ⟨r38, rfl, h⟩ := hr
    show wp E d M_X5_lists 13 [some (vr _), some (vi _), none] [vi _] G39 Q
    exact wp_zret (pc := 13) d_X5_lists_13 rfl h.1.1 h.2
theorem d_X5_groups_0 : decode prog_7_method_27_code 0 = .ok (.aload_n 0, 1) := by decide +kernel
theorem d_X5_groups_1 : decode prog_7_method_27_code 1 = .ok (.getfield 15, 3) := by decide +kernel
theorem d_X5_groups_4 : decode prog_7_method_27_code 4 = .ok (.iconst 0, 1) := by decide +kernel
theorem d_X5_groups_5 : decode prog_7_method_27_code 5 = .ok (.invokevirtual 243, 3) := by decide +kernel
theorem d_X5_groups_8 : decode prog_7_method_27_code 8 = .ok (.istore_n 3, 1) := by decide +kernel
theorem d_X5_groups_9 : decode prog_7_method_27_code 9 = .ok (.iconst 1, 1) := by decide +kernel
theorem d_X5_groups_10 : decode prog_7_method_27_code 10 = .ok (.istore 4, 2) := by decide +kernel
theorem d_X5_groups_12 : decode prog_7_method_27_code 12 = .ok (.iload 4, 2) := by decide +kernel
theorem d_X5_groups_14 : decode prog_7_method_27_code 14 = .ok (.bipush 40, 2) := by decide +kernel
theorem d_X5_groups_16 : decode prog_7_method_27_code 16 = .ok (.if_icmp .gt 190, 3) := by decide +kernel
theorem d_X5_groups_19 : decode prog_7_method_27_code 19 = .ok (.iconst 0, 1) := by decide +kernel
theorem d_X5_groups_20 : decode prog_7_method_27_code 20 = .ok (.istore 5, 2) := by decide +kernel
theorem d_X5_groups_22 : decode prog_7_method_27_code 22 = .ok (.iload 5, 2) := by decide +kernel
theorem d_X5_groups_24 : decode prog_7_method_27_code 24 = .ok (.iload_n 2, 1) := by decide +kernel
theorem d_X5_groups_25 : decode prog_7_method_27_code 25 = .ok (.if_icmp .ge 123, 3) := by decide +kernel
theorem d_X5_groups_28 : decode prog_7_method_27_code 28 = .ok (.aload_n 1, 1) := by decide +kernel
theorem d_X5_groups_29 : decode prog_7_method_27_code 29 = .ok (.iload 5, 2) := by decide +kernel
theorem d_X5_groups_31 : decode prog_7_method_27_code 31 = .ok (.aload_n 1, 1) := by decide +kernel
theorem d_X5_groups_32 : decode prog_7_method_27_code 32 = .ok (.invokevirtual 262, 3) := by decide +kernel
theorem d_X5_groups_35 : decode prog_7_method_27_code 35 = .ok (.iconst 1, 1) := by decide +kernel
theorem d_X5_groups_36 : decode prog_7_method_27_code 36 = .ok (.isub, 1) := by decide +kernel
theorem d_X5_groups_37 : decode prog_7_method_27_code 37 = .ok (.invokestatic 266, 3) := by decide +kernel
theorem d_X5_groups_40 : decode prog_7_method_27_code 40 = .ok (.invokevirtual 271, 3) := by decide +kernel
theorem d_X5_groups_43 : decode prog_7_method_27_code 43 = .ok (.istore 6, 2) := by decide +kernel
theorem d_X5_groups_45 : decode prog_7_method_27_code 45 = .ok (.aload_n 0, 1) := by decide +kernel
theorem d_X5_groups_46 : decode prog_7_method_27_code 46 = .ok (.getfield 46, 3) := by decide +kernel
theorem d_X5_groups_49 : decode prog_7_method_27_code 49 = .ok (.iload 5, 2) := by decide +kernel
theorem d_X5_groups_51 : decode prog_7_method_27_code 51 = .ok (.ifCond .ne 8, 3) := by decide +kernel
theorem d_X5_groups_54 : decode prog_7_method_27_code 54 = .ok (.bipush 40, 2) := by decide +kernel
theorem d_X5_groups_56 : decode prog_7_method_27_code 56 = .ok (.goto 5, 3) := by decide +kernel
theorem d_X5_groups_59 : decode prog_7_method_27_code 59 = .ok (.bipush 44, 2) := by decide +kernel
theorem d_X5_groups_61 : decode prog_7_method_27_code 61 = .ok (.invokevirtual 124, 3) := by decide +kernel
theorem d_X5_groups_64 : decode prog_7_method_27_code 64 = .ok (.ifCond .ne 5, 3) := by decide +kernel
theorem d_X5_groups_67 : decode prog_7_method_27_code 67 = .ok (.iconst 0, 1) := by decide +kernel
theorem d_X5_groups_68 : decode prog_7_method_27_code 68 = .ok (.ireturn, 1) := by decide +kernel
theorem d_X5_groups_69 : decode prog_7_method_27_code 69 = .ok (.iload 6, 2) := by decide +kernel
theorem d_X5_groups_71 : decode prog_7_method_27_code 71 = .ok (.bipush 118, 2) := by decide +kernel
theorem d_X5_groups_73 : decode prog_7_method_27_code 73 = .ok (.if_icmp .ne 13, 3) := by decide +kernel
theorem d_X5_groups_76 : decode prog_7_method_27_code 76 = .ok (.aload_n 0, 1) := by decide +kernel
theorem d_X5_groups_77 : decode prog_7_method_27_code 77 = .ok (.invokevirtual 256, 3) := by decide +kernel
theorem d_X5_groups_80 : decode prog_7_method_27_code 80 = .ok (.ifCond .eq 41, 3) := by decide +kernel
theorem d_X5_groups_83 : decode prog_7_method_27_code 83 = .ok (.goto 40, 3) := by decide +kernel
theorem d_X5_groups_86 : decode prog_7_method_27_code 86 = .ok (.aload_n 0, 1) := by decide +kernel
theorem d_X5_groups_87 : decode prog_7_method_27_code 87 = .ok (.iload 6, 2) := by decide +kernel
theorem d_X5_groups_89 : decode prog_7_method_27_code 89 = .ok (.bipush 105, 2) := by decide +kernel
theorem d_X5_groups_91 : decode prog_7_method_27_code 91 = .ok (.if_icmp .ne 7, 3) := by decide +kernel
theorem d_X5_groups_94 : decode prog_7_method_27_code 94 = .ok (.iconst 1, 1) := by decide +kernel
theorem d_X5_groups_95 : decode prog_7_method_27_code 95 = .ok (.goto 4, 3) := by decide +kernel
theorem d_X5_groups_98 : decode prog_7_method_27_code 98 = .ok (.iconst 0, 1) := by decide +kernel
theorem d_X5_groups_99 : decode prog_7_method_27_code 99 = .ok (.iconst 0, 1) := by decide +kernel
theorem d_X5_groups_100 : decode prog_7_method_27_code 100 = .ok (.iload 6, 2) := by decide +kernel
theorem d_X5_groups_102 : decode prog_7_method_27_code 102 = .ok (.bipush 115, 2) := by decide +kernel
theorem d_X5_groups_104 : decode prog_7_method_27_code 104 = .ok (.if_icmp .ne 8, 3) := by decide +kernel
theorem d_X5_groups_107 : decode prog_7_method_27_code 107 = .ok (.bipush 9, 2) := by decide +kernel
theorem d_X5_groups_109 : decode prog_7_method_27_code 109 = .ok (.goto 6, 3) := by decide +kernel
theorem d_X5_groups_112 : decode prog_7_method_27_code 112 = .ok (.sipush 9999, 3) := by decide +kernel
theorem d_X5_groups_115 : decode prog_7_method_27_code 115 = .ok (.invokevirtual 127, 3) := by decide +kernel
theorem d_X5_groups_118 : decode prog_7_method_27_code 118 = .ok (.ifCond .ne 5, 3) := by decide +kernel
theorem d_X5_groups_121 : decode prog_7_method_27_code 121 = .ok (.iconst 0, 1) := by decide +kernel
theorem d_X5_groups_122 : decode prog_7_method_27_code 122 = .ok (.ireturn, 1) := by decide +kernel
theorem d_X5_groups_123 : decode prog_7_method_27_code 123 = .ok (.iload 6, 2) := by decide +kernel
theorem d_X5_groups_125 : decode prog_7_method_27_code 125 = .ok (.bipush 118, 2) := by decide +kernel
theorem d_X5_groups_127 : decode prog_7_method_27_code 127 = .ok (.if_icmp .eq 15, 3) := by decide +kernel
theorem d_X5_groups_130 : decode prog_7_method_27_code 130 = .ok (.aload_n 0, 1) := by decide +kernel
theorem d_X5_groups_131 : decode prog_7_method_27_code 131 = .ok (.getfield 15, 3) := by decide +kernel
theorem d_X5_groups_134 : decode prog_7_method_27_code 134 = .ok (.aload_n 0, 1) := by decide +kernel
theorem d_X5_groups_135 : decode prog_7_method_27_code 135 = .ok (.getfield 27, 3) := by decide +kernel
theorem d_X5_groups_138 : decode prog_7_method_27_code 138 = .ok (.invokevirtual 243, 3) := by decide +kernel
theorem d_X5_groups_141 : decode prog_7_method_27_code 141 = .ok (.pop, 1) := by decide +kernel
theorem d_X5_groups_142 : decode prog_7_method_27_code 142 = .ok (.iinc 5 1, 3) := by decide +kernel
theorem d_X5_groups_145 : decode prog_7_method_27_code 145 = .ok (.goto (-123), 3) := by decide +kernel
theorem d_X5_groups_148 : decode prog_7_method_27_code 148 = .ok (.aload_n 0, 1) := by decide +kernel
theorem d_X5_groups_149 : decode prog_7_method_27_code 149 = .ok (.getfield 46, 3) := by decide +kernel
theorem d_X5_groups_152 : decode prog_7_method_27_code 152 = .ok (.bipush 41, 2) := by decide +kernel
theorem d_X5_groups_154 : decode prog_7_method_27_code 154 = .ok (.invokevirtual 124, 3) := by decide +kernel
theorem d_X5_groups_157 : decode prog_7_method_27_code 157 = .ok (.ifCond .ne 5, 3) := by decide +kernel
theorem d_X5_groups_160 : decode prog_7_method_27_code 160 = .ok (.iconst 0, 1) := by decide +kernel
theorem d_X5_groups_161 : decode prog_7_method_27_code 161 = .ok (.ireturn, 1) := by decide +kernel
theorem d_X5_groups_162 : decode prog_7_method_27_code 162 = .ok (.aload_n 0, 1) := by decide +kernel
theorem d_X5_groups_163 : decode prog_7_method_27_code 163 = .ok (.getfield 15, 3) := by decide +kernel
theorem d_X5_groups_166 : decode prog_7_method_27_code 166 = .ok (.iload_n 3, 1) := by decide +kernel
theorem d_X5_groups_167 : decode prog_7_method_27_code 167 = .ok (.iload 4, 2) := by decide +kernel
theorem d_X5_groups_169 : decode prog_7_method_27_code 169 = .ok (.invokevirtual 259, 3) := by decide +kernel
theorem d_X5_groups_172 : decode prog_7_method_27_code 172 = .ok (.iload 4, 2) := by decide +kernel
theorem d_X5_groups_174 : decode prog_7_method_27_code 174 = .ok (.bipush 40, 2) := by decide +kernel
theorem d_X5_groups_176 : decode prog_7_method_27_code 176 = .ok (.if_icmp .eq 15, 3) := by decide +kernel
theorem d_X5_groups_179 : decode prog_7_method_27_code 179 = .ok (.aload_n 0, 1) := by decide +kernel
theorem d_X5_groups_180 : decode prog_7_method_27_code 180 = .ok (.getfield 46, 3) := by decide +kernel
theorem d_X5_groups_183 : decode prog_7_method_27_code 183 = .ok (.bipush 44, 2) := by decide +kernel
theorem d_X5_groups_185 : decode prog_7_method_27_code 185 = .ok (.invokevirtual 78, 3) := by decide +kernel
theorem d_X5_groups_188 : decode prog_7_method_27_code 188 = .ok (.ifCond .ne 5, 3) := by decide +kernel
theorem d_X5_groups_191 : decode prog_7_method_27_code 191 = .ok (.iconst 1, 1) := by decide +kernel
theorem d_X5_groups_192 : decode prog_7_method_27_code 192 = .ok (.ireturn, 1) := by decide +kernel
theorem d_X5_groups_193 : decode prog_7_method_27_code 193 = .ok (.aload_n 0, 1) := by decide +kernel
theorem d_X5_groups_194 : decode prog_7_method_27_code 194 = .ok (.getfield 46, 3) := by decide +kernel
theorem d_X5_groups_197 : decode prog_7_method_27_code 197 = .ok (.invokevirtual 180, 3) := by decide +kernel
theorem d_X5_groups_200 : decode prog_7_method_27_code 200 = .ok (.iinc 4 1, 3) := by decide +kernel
theorem d_X5_groups_203 : decode prog_7_method_27_code 203 = .ok (.goto (-191), 3) := by decide +kernel
theorem d_X5_groups_206 : decode prog_7_method_27_code 206 = .ok (.iconst 1, 1) := by decide +kernel
theorem d_X5_groups_207 : decode prog_7_method_27_code 207 = .ok (.ireturn, 1) := by decide +kernel
theorem v_X5_groups_0 {E : EE} {d : Nat} {Q : Option AV → AH → Prop} {x0 : Nat} {x1 : Nat} {x2 : Int32} {G : AH} (h0 : 0 < d) (h : isO E G x0 5 ∧ (isO E G (gR G x0 2) 2 ∧ (wpI E (d - 1) M_X2_note [vr (gR G x0 2), vi 0] G (fun r2 G3 => wp E d M_X5_groups 12 [some (vr x0), some (vs (eK E x1)), some (vi x2), some (vi r2), some (vi 1), none, none] [] G3 Q)))) : wp E d M_X5_groups 0 [some (vr x0), some (vs (eK E x1)), some (vi x2), none, none, none, none] [] G Q := by
  refine wp_aload_n (pc := 0) d_X5_groups_0 rfl ?_
  obtain ⟨ho1, h⟩ := h
  refine wp_getR (pc := 1) d_X5_groups_1 fl_X5_15 (fun _ _ _ => rfl) ho1 ?_
  refine wp_iconst (pc := 4) (v := 0) d_X5_groups_4 rfl ?_
  obtain ⟨ho4, h⟩ := h
  refine wp_invV (pc := 5) (N := M_X2_note) (As := [vi _]) (rest := []) (r := (cn_2, ct_2, 15)) d_X5_groups_5 ml_X5_243 mk_X2_note mv_X2_note h0 ho4 rfl rfl (Nat.le_of_ble_eq_true rfl) ?_
  refine wpM.mono h (fun rr G3 hr => ?_)
  obtain ⟨r2, rfl, h⟩ := hr
  show wp E d M_X5_groups 8 [some (vr _), some (vs (eK E x1)), some (vi _), none, none, none, none] [vi _] G3 Q
  refine wp_istore_n (pc := 8) (lv' := [some (vr _), some (vs (eK E x1)), some (vi _), some (vi _), none, none, none]) d_X5_groups_8 (by decide) rfl ?_
  refine wp_iconst (pc := 9) (v := 1) d_X5_groups_9 rfl ?_
  refine wp_istore (pc := 10) (lv' := [some (vr _), some (vs (eK E x1)), some (vi _), some (vi _), some (vi _), none, none]) d_X5_groups_10 (by decide) rfl ?_
  refine wp_sub ?_ h
  exact ⟨rfl, ⟨rfl, ⟨rfl, ⟨rfl, ⟨rfl, trivial⟩⟩⟩⟩⟩
theorem v_X5_groups_12 {E : EE} {d : Nat} {Q : Option AV → AH → Prop} {x0 : Nat} {x1 : Nat} {x2 : Int32} {x3 : Int32} {x4 : Int32} {G : AH} (h : (40 < x4 → Q (some (vi 1)) G) ∧ (¬ (40 < x4) → wp E d M_X5_groups 22 [some (vr x0), some (vs (eK E x1)), some (vi x2), some (vi x3), some (vi x4), some (vi 0), none] [] G Q)) : wp E d M_X5_groups 12 [some (vr x0), some (vs (eK E x1)), some (vi x2), some (vi x3), some (vi x4), none, none] [] G Q := by
  refine wp_iload (pc := 12) d_X5_groups_12 rfl ?_
  refine wp_bipush (pc := 14) (v := 40) d_X5_groups_14 rfl ?_
  refine wp_icmp_gt (pc := 16) (tgt := 206) d_X5_groups_16 (by decide) (fun hc => ?_) (fun hc => ?_)
  · have h := h.1 hc
    refine wp_iconst (pc := 206) (v := 1) d_X5_groups_206 rfl ?_
    exact wp_zret (pc := 207) d_X5_groups_207 rfl rfl h
  · have h := h.2 hc
    refine wp_iconst (pc := 19) (v := 0) d_X5_groups_19 rfl ?_
    refine wp_istore (pc := 20) (lv' := [some (vr _), some (vs (eK E x1)), some (vi _), some (vi _), some (vi _), some (vi _), none]) d_X5_groups_20 (by decide) rfl ?_
    refine wp_sub ?_ h
    exact ⟨rfl, ⟨rfl, ⟨rfl, ⟨rfl, ⟨rfl, ⟨rfl, trivial⟩⟩⟩⟩⟩⟩
theorem v_X5_groups_22 {E : EE} {d : Nat} {Q : Option AV → AH → Prop} {x0 : Nat} {x1 : Nat} {x2 : Int32} {x3 : Int32} {x4 : Int32} {x5 : Int32} {G : AH} (h0 : 0 < d) (h : (x2 ≤ x5 → isO E G x0 5 ∧ (isO E G (gR G x0 0) 10 ∧ (wpI E (d - 1) M_X10_accept [vr (gR G x0 0), vi 41] G (fun r2 G3 => (¬ r2 = 0 → isO E G3 x0 5 ∧ (isO E G3 (gR G3 x0 2) 2 ∧ (wpV E (d - 1) M_X2_amend [vr (gR G3 x0 2), vi x3, vi x4] G3 (fun G5 => (x4 = 40 → Q (some (vi 1)) G5) ∧ (¬ (x4 = 40) → isO E G5 x0 5 ∧ (isO E G5 (gR G5 x0 0) 10 ∧ (wpI E (d - 1) M_X10_is [vr (gR G5 x0 0), vi 44] G5 (fun r7 G8 => (¬ r7 = 0 → isO E G8 x0 5 ∧ (isO E G8 (gR G8 x0 0) 10 ∧ (wpV E (d - 1) M_X10_step [vr (gR G8 x0 0)] G8 (fun G10 => wp E d M_X5_groups 12 [some (vr x0), some (vs (eK E x1)), some (vi x2), some (vi x3), some (vi (x4 + 1)), none, none] [] G10 Q)))) ∧ (r7 = 0 → Q (some (vi 1)) G8))))))))) ∧ (r2 = 0 → Q (some (vi 0)) G3))))) ∧ (¬ (x2 ≤ x5) → x1 < 22 ∧ (wpI E (d - 1) M_J0_length_8abf5 [vs (eK E x1)] G (fun r15 G16 => wpI E (d - 1) M_J0_charAt_5068e [vs (eK E x1), vi (imin x5 (r15 - 1))] G16 (fun r22 G23 => isO E G23 x0 5 ∧ ((¬ x5 = 0 → wp E d M_X5_groups 61 [some (vr x0), some (vs (eK E x1)), some (vi x2), some (vi x3), some (vi x4), some (vi x5), some (vi r22)] [vi 44, vr (gR G23 x0 0)] G23 Q) ∧ (x5 = 0 → wp E d M_X5_groups 61 [some (vr x0), some (vs (eK E x1)), some (vi x2), some (vi x3), some (vi x4), some (vi x5), some (vi r22)] [vi 40, vr (gR G23 x0 0)] G23 Q))))))) : wp E d M_X5_groups 22 [some (vr x0), some (vs (eK E x1)), some (vi x2), some (vi x3), some (vi x4), some (vi x5), none] [] G Q := by
  refine wp_iload (pc := 22) d_X5_groups_22 rfl ?_
  refine wp_iload_n (pc := 24) d_X5_groups_24 rfl ?_
  refine wp_icmp_ge (pc := 25) (tgt := 148) d_X5_groups_25 (by decide) (fun hc => ?_) (fun hc => ?_)
  · have h := h.1 hc
    refine wp_aload_n (pc := 148) d_X5_groups_148 rfl ?_
    obtain ⟨ho1, h⟩ := h
    refine wp_getR (pc := 149) d_X5_groups_149 fl_X5_46 (fun _ _ _ => rfl) ho1 ?_
    refine wp_bipush (pc := 152) (v := 41) d_X5_groups_152 rfl ?_
    obtain ⟨ho14, h⟩ := h
    refine wp_invV (pc := 154) (N := M_X10_accept) (As := [vi _]) (rest := []) (r := (cn_10, ct_10, 12)) d_X5_groups_154 ml_X5_124 mk_X10_accept mv_X10_accept h0 ho14 rfl rfl (Nat.le_of_ble_eq_true rfl) ?_
    refine wpM.mono h (fun rr G3 hr => ?_)
    obtain ⟨r2, rfl, h⟩ := hr
    show wp E d M_X5_groups 157 [some (vr _), some (vs (eK E x1)), some (vi _), some (vi _), some (vi _), some (vi _), none] [vi _] G3 Q
    refine wp_if_ne (pc := 157) (tgt := 162) d_X5_groups_157 (by decide) (fun hc => ?_) (fun hc => ?_)
    · have h := h.1 hc
      refine wp_aload_n (pc := 162) d_X5_groups_162 rfl ?_
      obtain ⟨ho4, h⟩ := h
      refine wp_getR (pc := 163) d_X5_groups_163 fl_X5_15 (fun _ _ _ => rfl) ho4 ?_
      refine wp_iload_n (pc := 166) d_X5_groups_166 rfl ?_
      refine wp_iload (pc := 167) d_X5_groups_167 rfl ?_
      obtain ⟨ho13, h⟩ := h
      refine wp_invV (pc := 169) (N := M_X2_amend) (As := [vi _, vi _]) (rest := []) (r := (cn_2, ct_2, 15)) d_X5_groups_169 ml_X5_259 mk_X2_amend mv_X2_amend h0 ho13 rfl rfl (Nat.le_of_ble_eq_true rfl) ?_
      refine wpM.mono h (fun rr G5 hr => ?_)
      obtain ⟨rfl, h⟩ := hr
      show wp E d M_X5_groups 172 [some (vr _), some (vs (eK E x1)), some (vi _), some (vi _), some (vi _), some (vi _), none] [] G5 Q
      refine wp_iload (pc := 172) d_X5_groups_172 rfl ?_
      refine wp_bipush (pc := 174) (v := 40) d_X5_groups_174 rfl ?_
      refine wp_icmp_eq (pc := 176) (tgt := 191) d_X5_groups_176 (by decide) (fun hc => ?_) (fun hc => ?_)
      · have h := h.1 hc
        refine wp_iconst (pc := 191) (v := 1) d_X5_groups_191 rfl ?_
        exact wp_zret (pc := 192) d_X5_groups_192 rfl rfl h
      · have h := h.2 hc
        refine wp_aload_n (pc := 179) d_X5_groups_179 rfl ?_
        obtain ⟨ho6, h⟩ := h
        refine wp_getR (pc := 180) d_X5_groups_180 fl_X5_46 (fun _ _ _ => rfl) ho6 ?_
        refine wp_bipush (pc := 183) (v := 44) d_X5_groups_183 rfl ?_
        obtain ⟨ho12, h⟩ := h
        refine wp_invV (pc := 185) (N := M_X10_is) (As := [vi _]) (rest := []) (r := (cn_10, ct_10, 12)) d_X5_groups_185 ml_X5_78 mk_X10_is mv_X10_is h0 ho12 rfl rfl (Nat.le_of_ble_eq_true rfl) ?_
        refine wpM.mono h (fun rr G8 hr => ?_)
        obtain ⟨r7, rfl, h⟩ := hr
        show wp E d M_X5_groups 188 [some (vr _), some (vs (eK E x1)), some (vi _), some (vi _), some (vi _), some (vi _), none] [vi _] G8 Q
        refine wp_if_ne (pc := 188) (tgt := 193) d_X5_groups_188 (by decide) (fun hc => ?_) (fun hc => ?_)
        · have h := h.1 hc
          refine wp_aload_n (pc := 193) d_X5_groups_193 rfl ?_
          obtain ⟨ho9, h⟩ := h
          refine wp_getR (pc := 194) d_X5_groups_194 fl_X5_46 (fun _ _ _ => rfl) ho9 ?_
          obtain ⟨ho11, h⟩ := h
          refine wp_invV (pc := 197) (N := M_X10_step) (As := []) (rest := []) (r := (cn_10, ct_10, 12)) d_X5_groups_197 ml_X5_180 mk_X10_step mv_X10_step h0 ho11 rfl rfl (Nat.le_of_ble_eq_true rfl) ?_
          refine wpM.mono h (fun rr G10 hr => ?_)
          obtain ⟨rfl, h⟩ := hr
          show wp E d M_X5_groups 200 [some (vr _), some (vs (eK E x1)), some (vi _), some (vi _), some (vi _), some (vi _), none] [] G10 Q
          refine wp_iinc (pc := 200) (v := 1) (lv' := [some (vr _), some (vs (eK E x1)), some (vi _), some (vi _), some (vi _), some (vi _), none]) d_X5_groups_200 (by decide) rfl rfl rfl ?_
          refine wp_goto (pc := 203) (tgt := 12) d_X5_groups_203 (by decide) ?_
          refine wp_sub ?_ h
          exact ⟨rfl, ⟨rfl, ⟨rfl, ⟨rfl, ⟨rfl, trivial⟩⟩⟩⟩⟩
        · have h := h.2 hc
          refine wp_iconst (pc := 191) (v := 1) d_X5_groups_191 rfl ?_
          exact wp_zret (pc := 192) d_X5_groups_192 rfl rfl h
    · have h := h.2 hc
      refine wp_iconst (pc := 160) (v := 0) d_X5_groups_160 rfl ?_
      exact wp_zret (pc := 161) d_X5_groups_161 rfl rfl h
  · have h := h.2 hc
    refine wp_aload_nS (pc := 28) d_X5_groups_28 rfl ?_
    refine wp_iload (pc := 29) d_X5_groups_29 rfl ?_
    refine wp_aload_nS (pc := 31) d_X5_groups_31 rfl ?_
    obtain ⟨ht21, h⟩ := h
    refine wp_invT (pc := 32) (N := M_J0_length_8abf5) (i := x1) (As := []) (rest := [vi _, vs (eK E x1)]) ht21 d_X5_groups_32 ml_X5_262 mk_J0_length_8abf5 mv_J0_length_8abf5 h0 rfl (Nat.le_of_ble_eq_true rfl) ?_
    refine wpM.mono h (fun rr G16 hr => ?_)
    obtain ⟨r15, rfl, h⟩ := hr
    show wp E d M_X5_groups 35 [some (vr _), some (vs (eK E x1)), some (vi _), some (vi _), some (vi _), some (vi _), none] [vi _, vi _, vs (eK E x1)] G16 Q
    refine wp_iconst (pc := 35) (v := 1) d_X5_groups_35 rfl ?_
    refine wp_isub (pc := 36) d_X5_groups_36 ?_
    refine wp_imin (pc := 37) d_X5_groups_37 ml_X5_266 ms_imin ii_math mc_imin h0 (Nat.le_of_ble_eq_true rfl) ?_
    refine wp_invT (pc := 40) (N := M_J0_charAt_5068e) (i := x1) (As := [vi _]) (rest := []) ht21 d_X5_groups_40 ml_X5_271 mk_J0_charAt_5068e mv_J0_charAt_5068e h0 rfl (Nat.le_of_ble_eq_true rfl) ?_
    refine wpM.mono h (fun rr G23 hr => ?_)
    obtain ⟨r22, rfl, h⟩ := hr
    show wp E d M_X5_groups 43 [some (vr _), some (vs (eK E x1)), some (vi _), some (vi _), some (vi _), some (vi _), none] [vi _] G23 Q
    refine wp_istore (pc := 43) (lv' := [some (vr _), some (vs (eK E x1)), some (vi _), some (vi _), some (vi _), some (vi _), some (vi _)]) d_X5_groups_43 (by decide) rfl ?_
    refine wp_aload_n (pc := 45) d_X5_groups_45 rfl ?_
    obtain ⟨ho24, h⟩ := h
    refine wp_getR (pc := 46) d_X5_groups_46 fl_X5_46 (fun _ _ _ => rfl) ho24 ?_
    refine wp_iload (pc := 49) d_X5_groups_49 rfl ?_
    refine wp_if_ne (pc := 51) (tgt := 59) d_X5_groups_51 (by decide) (fun hc => ?_) (fun hc => ?_)
    · have h := h.1 hc
      refine wp_bipush (pc := 59) (v := 44) d_X5_groups_59 rfl ?_
      refine wp_sub ?_ h
      exact ⟨rfl, ⟨rfl, ⟨rfl, ⟨rfl, ⟨rfl, ⟨rfl, ⟨rfl, trivial⟩⟩⟩⟩⟩⟩⟩
    · have h := h.2 hc
      refine wp_bipush (pc := 54) (v := 40) d_X5_groups_54 rfl ?_
      refine wp_goto (pc := 56) (tgt := 61) d_X5_groups_56 (by decide) ?_
      refine wp_sub ?_ h
      exact ⟨rfl, ⟨rfl, ⟨rfl, ⟨rfl, ⟨rfl, ⟨rfl, ⟨rfl, trivial⟩⟩⟩⟩⟩⟩⟩
theorem v_X5_groups_61 {E : EE} {d : Nat} {Q : Option AV → AH → Prop} {x0 : Nat} {x1 : Nat} {x2 : Int32} {x3 : Int32} {x4 : Int32} {x5 : Int32} {x6 : Int32} {t0 : Nat} {t1 : Int32} {G : AH} (h0 : 0 < d) (h : isO E G t0 10 ∧ (wpI E (d - 1) M_X10_accept [vr t0, vi t1] G (fun r1 G2 => (¬ r1 = 0 → (¬ x6 = 118 → (¬ x6 = 105 → wp E d M_X5_groups 99 [some (vr x0), some (vs (eK E x1)), some (vi x2), some (vi x3), some (vi x4), some (vi x5), some (vi x6)] [vi 0, vr x0] G2 Q) ∧ (x6 = 105 → wp E d M_X5_groups 99 [some (vr x0), some (vs (eK E x1)), some (vi x2), some (vi x3), some (vi x4), some (vi x5), some (vi x6)] [vi 1, vr x0] G2 Q)) ∧ (x6 = 118 → isO E G2 x0 5 ∧ (wpI E (d - 1) M_X5_variable [vr x0] G2 (fun r3 G4 => (r3 = 0 → Q (some (vi 0)) G4) ∧ (¬ (r3 = 0) → wp E d M_X5_groups 123 [some (vr x0), some (vs (eK E x1)), some (vi x2), some (vi x3), some (vi x4), some (vi x5), some (vi x6)] [] G4 Q))))) ∧ (r1 = 0 → Q (some (vi 0)) G2)))) : wp E d M_X5_groups 61 [some (vr x0), some (vs (eK E x1)), some (vi x2), some (vi x3), some (vi x4), some (vi x5), some (vi x6)] [vi t1, vr t0] G Q := by
  obtain ⟨ho6, h⟩ := h
  refine wp_invV (pc := 61) (N := M_X10_accept) (As := [vi _]) (rest := []) (r := (cn_10, ct_10, 12)) d_X5_groups_61 ml_X5_124 mk_X10_accept mv_X10_accept h0 ho6 rfl rfl (Nat.le_of_ble_eq_true rfl) ?_
  refine wpM.mono h (fun rr G2 hr => ?_)
  obtain ⟨r1, rfl, h⟩ := hr
  show wp E d M_X5_groups 64 [some (vr _), some (vs (eK E x1)), some (vi _), some (vi _), some (vi _), some (vi _), some (vi _)] [vi _] G2 Q
  refine wp_if_ne (pc := 64) (tgt := 69) d_X5_groups_64 (by decide) (fun hc => ?_) (fun hc => ?_)
  · have h := h.1 hc
    refine wp_iload (pc := 69) d_X5_groups_69 rfl ?_
    refine wp_bipush (pc := 71) (v := 118) d_X5_groups_71 rfl ?_
    refine wp_icmp_ne (pc := 73) (tgt := 86) d_X5_groups_73 (by decide) (fun hc => ?_) (fun hc => ?_)
    · have h := h.1 hc
      refine wp_aload_n (pc := 86) d_X5_groups_86 rfl ?_
      refine wp_iload (pc := 87) d_X5_groups_87 rfl ?_
      refine wp_bipush (pc := 89) (v := 105) d_X5_groups_89 rfl ?_
      refine wp_icmp_ne (pc := 91) (tgt := 98) d_X5_groups_91 (by decide) (fun hc => ?_) (fun hc => ?_)
      · have h := h.1 hc
        refine wp_iconst (pc := 98) (v := 0) d_X5_groups_98 rfl ?_
        refine wp_sub ?_ h
        exact ⟨rfl, ⟨rfl, ⟨rfl, ⟨rfl, ⟨rfl, ⟨rfl, ⟨rfl, trivial⟩⟩⟩⟩⟩⟩⟩
      · have h := h.2 hc
        refine wp_iconst (pc := 94) (v := 1) d_X5_groups_94 rfl ?_
        refine wp_goto (pc := 95) (tgt := 99) d_X5_groups_95 (by decide) ?_
        refine wp_sub ?_ h
        exact ⟨rfl, ⟨rfl, ⟨rfl, ⟨rfl, ⟨rfl, ⟨rfl, ⟨rfl, trivial⟩⟩⟩⟩⟩⟩⟩
    · have h := h.2 hc
      refine wp_aload_n (pc := 76) d_X5_groups_76 rfl ?_
      obtain ⟨ho5, h⟩ := h
      refine wp_invV (pc := 77) (N := M_X5_variable) (As := []) (rest := []) (r := (cn_5, ct_5, 11)) d_X5_groups_77 ml_X5_256 mk_X5_variable mv_X5_variable h0 ho5 rfl rfl (Nat.le_of_ble_eq_true rfl) ?_
      refine wpM.mono h (fun rr G4 hr => ?_)
      obtain ⟨r3, rfl, h⟩ := hr
      show wp E d M_X5_groups 80 [some (vr _), some (vs (eK E x1)), some (vi _), some (vi _), some (vi _), some (vi _), some (vi _)] [vi _] G4 Q
      refine wp_if_eq (pc := 80) (tgt := 121) d_X5_groups_80 (by decide) (fun hc => ?_) (fun hc => ?_)
      · have h := h.1 hc
        refine wp_iconst (pc := 121) (v := 0) d_X5_groups_121 rfl ?_
        exact wp_zret (pc := 122) d_X5_groups_122 rfl rfl h
      · have h := h.2 hc
        refine wp_goto (pc := 83) (tgt := 123) d_X5_groups_83 (by decide) ?_
        refine wp_sub ?_ h
        exact ⟨rfl, ⟨rfl, ⟨rfl, ⟨rfl, ⟨rfl, ⟨rfl, ⟨rfl, trivial⟩⟩⟩⟩⟩⟩⟩
  · have h := h.2 hc
    refine wp_iconst (pc := 67) (v := 0) d_X5_groups_67 rfl ?_
    exact wp_zret (pc := 68) d_X5_groups_68 rfl rfl h
theorem v_X5_groups_99 {E : EE} {d : Nat} {Q : Option AV → AH → Prop} {x0 : Nat} {x1 : Nat} {x2 : Int32} {x3 : Int32} {x4 : Int32} {x5 : Int32} {x6 : Int32} {t0 : Nat} {t1 : Int32} {G : AH} (h : (¬ x6 = 115 → wp E d M_X5_groups 115 [some (vr x0), some (vs (eK E x1)), some (vi x2), some (vi x3), some (vi x4), some (vi x5), some (vi x6)] [vi 9999, vi 0, vi t1, vr t0] G Q) ∧ (x6 = 115 → wp E d M_X5_groups 115 [some (vr x0), some (vs (eK E x1)), some (vi x2), some (vi x3), some (vi x4), some (vi x5), some (vi x6)] [vi 9, vi 0, vi t1, vr t0] G Q)) : wp E d M_X5_groups 99 [some (vr x0), some (vs (eK E x1)), some (vi x2), some (vi x3), some (vi x4), some (vi x5), some (vi x6)] [vi t1, vr t0] G Q := by
  refine wp_iconst (pc := 99) (v := 0) d_X5_groups_99 rfl ?_
  refine wp_iload (pc := 100) d_X5_groups_100 rfl ?_
  refine wp_bipush (pc := 102) (v := 115) d_X5_groups_102 rfl ?_
  refine wp_icmp_ne (pc := 104) (tgt := 112) d_X5_groups_104 (by decide) (fun hc => ?_) (fun hc => ?_)
  · have h := h.1 hc
    refine wp_sipush (pc := 112) (v := 9999) d_X5_groups_112 rfl ?_
    refine wp_sub ?_ h
    exact ⟨rfl, ⟨rfl, ⟨rfl, ⟨rfl, ⟨rfl, ⟨rfl, ⟨rfl, trivial⟩⟩⟩⟩⟩⟩⟩
  · have h := h.2 hc
    refine wp_bipush (pc := 107) (v := 9) d_X5_groups_107 rfl ?_
    refine wp_goto (pc := 109) (tgt := 115) d_X5_groups_109 (by decide) ?_
    refine wp_sub ?_ h
    exact ⟨rfl, ⟨rfl, ⟨rfl, ⟨rfl, ⟨rfl, ⟨rfl, ⟨rfl, trivial⟩⟩⟩⟩⟩⟩⟩
theorem v_X5_groups_115 {E : EE} {d : Nat} {Q : Option AV → AH → Prop} {x0 : Nat} {x1 : Nat} {x2 : Int32} {x3 : Int32} {x4 : Int32} {x5 : Int32} {x6 : Int32} {t0 : Nat} {t1 : Int32} {t2 : Int32} {t3 : Int32} {G : AH} (h0 : 0 < d) (h : isO E G t0 5 ∧ (wpI E (d - 1) M_X5_numeral [vr t0, vi t1, vi t2, vi t3] G (fun r1 G2 => (¬ r1 = 0 → wp E d M_X5_groups 123 [some (vr x0), some (vs (eK E x1)), some (vi x2), some (vi x3), some (vi x4), some (vi x5), some (vi x6)] [] G2 Q) ∧ (r1 = 0 → Q (some (vi 0)) G2)))) : wp E d M_X5_groups 115 [some (vr x0), some (vs (eK E x1)), some (vi x2), some (vi x3), some (vi x4), some (vi x5), some (vi x6)] [vi t3, vi t2, vi t1, vr t0] G Q := by
  obtain ⟨ho3, h⟩ := h
  refine wp_invV (pc := 115) (N := M_X5_numeral) (As := [vi _, vi _, vi _]) (rest := []) (r := (cn_5, ct_5, 11)) d_X5_groups_115 ml_X5_127 mk_X5_numeral mv_X5_numeral h0 ho3 rfl rfl (Nat.le_of_ble_eq_true rfl) ?_
  refine wpM.mono h (fun rr G2 hr => ?_)
  obtain ⟨r1, rfl, h⟩ := hr
  show wp E d M_X5_groups 118 [some (vr _), some (vs (eK E x1)), some (vi _), some (vi _), some (vi _), some (vi _), some (vi _)] [vi _] G2 Q
  refine wp_if_ne (pc := 118) (tgt := 123) d_X5_groups_118 (by decide) (fun hc => ?_) (fun hc => ?_)
  · have h := h.1 hc
    refine wp_sub ?_ h
    exact ⟨rfl, ⟨rfl, ⟨rfl, ⟨rfl, ⟨rfl, ⟨rfl, ⟨rfl, trivial⟩⟩⟩⟩⟩⟩⟩
  · have h := h.2 hc
    refine wp_iconst (pc := 121) (v := 0) d_X5_groups_121 rfl ?_
    exact wp_zret (pc := 122) d_X5_groups_122 rfl rfl h
theorem v_X5_groups_123 {E : EE} {d : Nat} {Q : Option AV → AH → Prop} {x0 : Nat} {x1 : Nat} {x2 : Int32} {x3 : Int32} {x4 : Int32} {x5 : Int32} {x6 : Int32} {G : AH} (h0 : 0 < d) (h : (x6 = 118 → wp E d M_X5_groups 142 [some (vr x0), some (vs (eK E x1)), some (vi x2), some (vi x3), some (vi x4), some (vi x5), some (vi x6)] [] G Q) ∧ (¬ (x6 = 118) → isO E G x0 5 ∧ (isO E G (gR G x0 2) 2 ∧ (wpI E (d - 1) M_X2_note [vr (gR G x0 2), vi (gI G x0 5)] G (fun r2 G3 => wp E d M_X5_groups 142 [some (vr x0), some (vs (eK E x1)), some (vi x2), some (vi x3), some (vi x4), some (vi x5), some (vi x6)] [] G3 Q))))) : wp E d M_X5_groups 123 [some (vr x0), some (vs (eK E x1)), some (vi x2), some (vi x3), some (vi x4), some (vi x5), some (vi x6)] [] G Q := by
  refine wp_iload (pc := 123) d_X5_groups_123 rfl ?_
  refine wp_bipush (pc := 125) (v := 118) d_X5_groups_125 rfl ?_
  refine wp_icmp_eq (pc := 127) (tgt := 142) d_X5_groups_127 (by decide) (fun hc => ?_) (fun hc => ?_)
  · have h := h.1 hc
    refine wp_sub ?_ h
    exact ⟨rfl, ⟨rfl, ⟨rfl, ⟨rfl, ⟨rfl, ⟨rfl, ⟨rfl, trivial⟩⟩⟩⟩⟩⟩⟩
  · have h := h.2 hc
    refine wp_aload_n (pc := 130) d_X5_groups_130 rfl ?_
    obtain ⟨ho1, h⟩ := h
    refine wp_getR (pc := 131) d_X5_groups_131 fl_X5_15 (fun _ _ _ => rfl) ho1 ?_
    refine wp_aload_n (pc := 134) d_X5_groups_134 rfl ?_
    refine wp_getI (pc := 135) d_X5_groups_135 fl_X5_27 (fun _ _ _ => rfl) ho1 ?_
    obtain ⟨ho4, h⟩ := h
    refine wp_invV (pc := 138) (N := M_X2_note) (As := [vi _]) (rest := []) (r := (cn_2, ct_2, 15)) d_X5_groups_138 ml_X5_243 mk_X2_note mv_X2_note h0 ho4 rfl rfl (Nat.le_of_ble_eq_true rfl) ?_
    refine wpM.mono h (fun rr G3 hr => ?_)
    obtain ⟨r2, rfl, h⟩ := hr
    show wp E d M_X5_groups 141 [some (vr _), some (vs (eK E x1)), some (vi _), some (vi _), some (vi _), some (vi _), some (vi _)] [vi _] G3 Q
    refine wp_pop (pc := 141) d_X5_groups_141 (c1_i _) ?_
    refine wp_sub ?_ h
    exact ⟨rfl, ⟨rfl, ⟨rfl, ⟨rfl, ⟨rfl, ⟨rfl, ⟨rfl, trivial⟩⟩⟩⟩⟩⟩⟩
theorem v_X5_groups_142 {E : EE} {d : Nat} {Q : Option AV → AH → Prop} {x0 : Nat} {x1 : Nat} {x2 : Int32} {x3 : Int32} {x4 : Int32} {x5 : Int32} {x6 : Int32} {G : AH} (h : wp E d M_X5_groups 22 [some (vr x0), some (vs (eK E x1)), some (vi x2), some (vi x3), some (vi x4), some (vi (x5 + 1)), none] [] G Q) : wp E d M_X5_groups 142 [some (vr x0), some (vs (eK E x1)), some (vi x2), some (vi x3), some (vi x4), some (vi x5), some (vi x6)] [] G Q := by
  refine wp_iinc (pc := 142) (v := 1) (lv' := [some (vr _), some (vs (eK E x1)), some (vi _), some (vi _), some (vi _), some (vi _), some (vi _)]) d_X5_groups_142 (by decide) rfl rfl rfl ?_
  refine wp_goto (pc := 145) (tgt := 22) d_X5_groups_145 (by decide) ?_
  refine wp_sub ?_ h
  exact ⟨rfl, ⟨rfl, ⟨rfl, ⟨rfl, ⟨rfl, ⟨rfl, trivial⟩⟩⟩⟩⟩⟩
theorem d_X5_variable_0 : decode prog_7_method_28_code 0 = .ok (.aload_n 0, 1) := by decide +kernel
theorem d_X5_variable_1 : decode prog_7_method_28_code 1 = .ok (.getfield 46, 3) := by decide +kernel
theorem d_X5_variable_4 : decode prog_7_method_28_code 4 = .ok (.getfield 71, 3) := by decide +kernel
theorem d_X5_variable_7 : decode prog_7_method_28_code 7 = .ok (.iconst 2, 1) := by decide +kernel
theorem d_X5_variable_8 : decode prog_7_method_28_code 8 = .ok (.if_icmp .eq 11, 3) := by decide +kernel
theorem d_X5_variable_11 : decode prog_7_method_28_code 11 = .ok (.aload_n 0, 1) := by decide +kernel
theorem d_X5_variable_12 : decode prog_7_method_28_code 12 = .ok (.getfield 46, 3) := by decide +kernel
theorem d_X5_variable_15 : decode prog_7_method_28_code 15 = .ok (.invokevirtual 94, 3) := by decide +kernel
theorem d_X5_variable_18 : decode prog_7_method_28_code 18 = .ok (.ireturn, 1) := by decide +kernel
theorem d_X5_variable_19 : decode prog_7_method_28_code 19 = .ok (.aload_n 0, 1) := by decide +kernel
theorem d_X5_variable_20 : decode prog_7_method_28_code 20 = .ok (.getfield 9, 3) := by decide +kernel
theorem d_X5_variable_23 : decode prog_7_method_28_code 23 = .ok (.aload_n 0, 1) := by decide +kernel
theorem d_X5_variable_24 : decode prog_7_method_28_code 24 = .ok (.getfield 46, 3) := by decide +kernel
theorem d_X5_variable_27 : decode prog_7_method_28_code 27 = .ok (.getfield 183, 3) := by decide +kernel
theorem d_X5_variable_30 : decode prog_7_method_28_code 30 = .ok (.invokevirtual 186, 3) := by decide +kernel
theorem d_X5_variable_33 : decode prog_7_method_28_code 33 = .ok (.istore_n 1, 1) := by decide +kernel
theorem d_X5_variable_34 : decode prog_7_method_28_code 34 = .ok (.iload_n 1, 1) := by decide +kernel
theorem d_X5_variable_35 : decode prog_7_method_28_code 35 = .ok (.ifCond .lt 11, 3) := by decide +kernel
theorem d_X5_variable_38 : decode prog_7_method_28_code 38 = .ok (.iload_n 1, 1) := by decide +kernel
theorem d_X5_variable_39 : decode prog_7_method_28_code 39 = .ok (.bipush 24, 2) := by decide +kernel
theorem d_X5_variable_41 : decode prog_7_method_28_code 41 = .ok (.idiv, 1) := by decide +kernel
theorem d_X5_variable_42 : decode prog_7_method_28_code 42 = .ok (.iconst 1, 1) := by decide +kernel
theorem d_X5_variable_43 : decode prog_7_method_28_code 43 = .ok (.if_icmp .eq 19, 3) := by decide +kernel
theorem d_X5_variable_46 : decode prog_7_method_28_code 46 = .ok (.aload_n 0, 1) := by decide +kernel
theorem d_X5_variable_47 : decode prog_7_method_28_code 47 = .ok (.getfield 46, 3) := by decide +kernel
theorem d_X5_variable_50 : decode prog_7_method_28_code 50 = .ok (.iconst 4, 1) := by decide +kernel
theorem d_X5_variable_51 : decode prog_7_method_28_code 51 = .ok (.aload_n 0, 1) := by decide +kernel
theorem d_X5_variable_52 : decode prog_7_method_28_code 52 = .ok (.getfield 46, 3) := by decide +kernel
theorem d_X5_variable_55 : decode prog_7_method_28_code 55 = .ok (.getfield 114, 3) := by decide +kernel
theorem d_X5_variable_58 : decode prog_7_method_28_code 58 = .ok (.invokevirtual 117, 3) := by decide +kernel
theorem d_X5_variable_61 : decode prog_7_method_28_code 61 = .ok (.ireturn, 1) := by decide +kernel
theorem d_X5_variable_62 : decode prog_7_method_28_code 62 = .ok (.iload_n 1, 1) := by decide +kernel
theorem d_X5_variable_63 : decode prog_7_method_28_code 63 = .ok (.bipush 24, 2) := by decide +kernel
theorem d_X5_variable_65 : decode prog_7_method_28_code 65 = .ok (.irem, 1) := by decide +kernel
theorem d_X5_variable_66 : decode prog_7_method_28_code 66 = .ok (.istore_n 2, 1) := by decide +kernel
theorem d_X5_variable_67 : decode prog_7_method_28_code 67 = .ok (.aload_n 0, 1) := by decide +kernel
theorem d_X5_variable_68 : decode prog_7_method_28_code 68 = .ok (.dup, 1) := by decide +kernel
theorem d_X5_variable_69 : decode prog_7_method_28_code 69 = .ok (.getfield 36, 3) := by decide +kernel
theorem d_X5_variable_72 : decode prog_7_method_28_code 72 = .ok (.iconst 1, 1) := by decide +kernel
theorem d_X5_variable_73 : decode prog_7_method_28_code 73 = .ok (.iload_n 2, 1) := by decide +kernel
theorem d_X5_variable_74 : decode prog_7_method_28_code 74 = .ok (.ishl, 1) := by decide +kernel
theorem d_X5_variable_75 : decode prog_7_method_28_code 75 = .ok (.ior, 1) := by decide +kernel
theorem d_X5_variable_76 : decode prog_7_method_28_code 76 = .ok (.putfield 36, 3) := by decide +kernel
theorem d_X5_variable_79 : decode prog_7_method_28_code 79 = .ok (.aload_n 0, 1) := by decide +kernel
theorem d_X5_variable_80 : decode prog_7_method_28_code 80 = .ok (.getfield 15, 3) := by decide +kernel
theorem d_X5_variable_83 : decode prog_7_method_28_code 83 = .ok (.iload_n 2, 1) := by decide +kernel
theorem d_X5_variable_84 : decode prog_7_method_28_code 84 = .ok (.invokevirtual 243, 3) := by decide +kernel
theorem d_X5_variable_87 : decode prog_7_method_28_code 87 = .ok (.pop, 1) := by decide +kernel
theorem d_X5_variable_88 : decode prog_7_method_28_code 88 = .ok (.aload_n 0, 1) := by decide +kernel
theorem d_X5_variable_89 : decode prog_7_method_28_code 89 = .ok (.getfield 46, 3) := by decide +kernel
theorem d_X5_variable_92 : decode prog_7_method_28_code 92 = .ok (.invokevirtual 180, 3) := by decide +kernel
theorem d_X5_variable_95 : decode prog_7_method_28_code 95 = .ok (.iconst 1, 1) := by decide +kernel
theorem d_X5_variable_96 : decode prog_7_method_28_code 96 = .ok (.ireturn, 1) := by decide +kernel
theorem v_X5_variable_0 {E : EE} {d : Nat} {Q : Option AV → AH → Prop} {x0 : Nat} {G : AH} (h0 : 0 < d) (h : isO E G x0 5 ∧ (isO E G (gR G x0 0) 10 ∧ (((gI G (gR G x0 0) 6) = 2 → isO E G (gR G x0 1) 3 ∧ (wpI E (d - 1) M_X3_lookUp [vr (gR G x0 1), vj (gJ G (gR G x0 0) 7)] G (fun r3 G4 => (r3 < 0 → wp E d M_X5_variable 46 [some (vr x0), some (vi r3), none] [] G4 Q) ∧ (¬ (r3 < 0) → ((r3 / 24) = 1 → isO E G4 x0 5 ∧ (isO E G4 (gR G4 x0 2) 2 ∧ (wpI E (d - 1) M_X2_note [vr (gR G4 x0 2), vi (r3 - r3 / 24 * 24)] (sI G4 x0 8 ((gI G4 x0 8) ||| (1 <<< ((r3 - r3 / 24 * 24) &&& 31)))) (fun r6 G7 => isO E G7 x0 5 ∧ (isO E G7 (gR G7 x0 0) 10 ∧ (wpV E (d - 1) M_X10_step [vr (gR G7 x0 0)] G7 (fun G9 => Q (some (vi 1)) G9))))))) ∧ (¬ ((r3 / 24) = 1) → wp E d M_X5_variable 46 [some (vr x0), some (vi r3), none] [] G4 Q))))) ∧ (¬ ((gI G (gR G x0 0) 6) = 2) → wpI E (d - 1) M_X10_refuse [vr (gR G x0 0)] G (fun r13 G14 => okI .boolean r13 ∧ Q (some (vi r13)) G14))))) : wp E d M_X5_variable 0 [some (vr x0), none, none] [] G Q := by
  refine wp_aload_n (pc := 0) d_X5_variable_0 rfl ?_
  obtain ⟨ho1, h⟩ := h
  refine wp_getR (pc := 1) d_X5_variable_1 fl_X5_46 (fun _ _ _ => rfl) ho1 ?_
  obtain ⟨ho2, h⟩ := h
  refine wp_getI (pc := 4) d_X5_variable_4 fl_X5_71 (fun _ _ _ => rfl) ho2 ?_
  refine wp_iconst (pc := 7) (v := 2) d_X5_variable_7 rfl ?_
  refine wp_icmp_eq (pc := 8) (tgt := 19) d_X5_variable_8 (by decide) (fun hc => ?_) (fun hc => ?_)
  · have h := h.1 hc
    refine wp_aload_n (pc := 19) d_X5_variable_19 rfl ?_
    refine wp_getR (pc := 20) d_X5_variable_20 fl_X5_9 (fun _ _ _ => rfl) ho1 ?_
    refine wp_aload_n (pc := 23) d_X5_variable_23 rfl ?_
    refine wp_getR (pc := 24) d_X5_variable_24 fl_X5_46 (fun _ _ _ => rfl) ho1 ?_
    refine wp_getJ (pc := 27) d_X5_variable_27 fl_X5_183 (fun _ _ _ => rfl) ho2 ?_
    obtain ⟨ho12, h⟩ := h
    refine wp_invV (pc := 30) (N := M_X3_lookUp) (As := [vj _]) (rest := []) (r := (cn_3, ct_3, 19)) d_X5_variable_30 ml_X5_186 mk_X3_lookUp mv_X3_lookUp h0 ho12 rfl rfl (Nat.le_of_ble_eq_true rfl) ?_
    refine wpM.mono h (fun rr G4 hr => ?_)
    obtain ⟨r3, rfl, h⟩ := hr
    show wp E d M_X5_variable 33 [some (vr _), none, none] [vi _] G4 Q
    refine wp_istore_n (pc := 33) (lv' := [some (vr _), some (vi _), none]) d_X5_variable_33 (by decide) rfl ?_
    refine wp_iload_n (pc := 34) d_X5_variable_34 rfl ?_
    refine wp_if_lt (pc := 35) (tgt := 46) d_X5_variable_35 (by decide) (fun hc => ?_) (fun hc => ?_)
    · have h := h.1 hc
      refine wp_sub ?_ h
      exact ⟨rfl, ⟨rfl, trivial⟩⟩
    · have h := h.2 hc
      refine wp_iload_n (pc := 38) d_X5_variable_38 rfl ?_
      refine wp_bipush (pc := 39) (v := 24) d_X5_variable_39 rfl ?_
      refine wp_idiv (pc := 41) d_X5_variable_41 (by decide) ?_
      refine wp_iconst (pc := 42) (v := 1) d_X5_variable_42 rfl ?_
      refine wp_icmp_eq (pc := 43) (tgt := 62) d_X5_variable_43 (by decide) (fun hc => ?_) (fun hc => ?_)
      · have h := h.1 hc
        refine wp_iload_n (pc := 62) d_X5_variable_62 rfl ?_
        refine wp_bipush (pc := 63) (v := 24) d_X5_variable_63 rfl ?_
        refine wp_irem (pc := 65) d_X5_variable_65 (by decide) ?_
        refine wp_istore_n (pc := 66) (lv' := [some (vr _), some (vi _), some (vi _)]) d_X5_variable_66 (by decide) rfl ?_
        refine wp_aload_n (pc := 67) d_X5_variable_67 rfl ?_
        refine wp_dup (pc := 68) d_X5_variable_68 (c1_r _) ?_
        obtain ⟨ho5, h⟩ := h
        refine wp_getI (pc := 69) d_X5_variable_69 fl_X5_36 (fun _ _ _ => rfl) ho5 ?_
        refine wp_iconst (pc := 72) (v := 1) d_X5_variable_72 rfl ?_
        refine wp_iload_n (pc := 73) d_X5_variable_73 rfl ?_
        refine wp_ishl (pc := 74) d_X5_variable_74 ?_
        refine wp_ior (pc := 75) d_X5_variable_75 ?_
        refine wp_putI (pc := 76) d_X5_variable_76 fl_X5_36 (fun _ _ _ => rfl) (Or.inl rfl) ho5 (okI_int _) ?_
        refine wp_aload_n (pc := 79) d_X5_variable_79 rfl ?_
        refine wp_getR (pc := 80) d_X5_variable_80 fl_X5_15 (fun _ _ _ => rfl) ho5 ?_
        show wp E d M_X5_variable 83 [some (vr x0), some (vi r3), some (vi (r3 - r3 / 24 * 24))] [vr (gR G4 x0 2)] (sI G4 x0 8 ((gI G4 x0 8) ||| (1 <<< ((r3 - r3 / 24 * 24) &&& 31)))) Q
        refine wp_iload_n (pc := 83) d_X5_variable_83 rfl ?_
        obtain ⟨ho11, h⟩ := h
        refine wp_invV (pc := 84) (N := M_X2_note) (As := [vi _]) (rest := []) (r := (cn_2, ct_2, 15)) d_X5_variable_84 ml_X5_243 mk_X2_note mv_X2_note h0 ho11 rfl rfl (Nat.le_of_ble_eq_true rfl) ?_
        refine wpM.mono h (fun rr G7 hr => ?_)
        obtain ⟨r6, rfl, h⟩ := hr
        show wp E d M_X5_variable 87 [some (vr _), some (vi _), some (vi _)] [vi _] G7 Q
        refine wp_pop (pc := 87) d_X5_variable_87 (c1_i _) ?_
        refine wp_aload_n (pc := 88) d_X5_variable_88 rfl ?_
        obtain ⟨ho8, h⟩ := h
        refine wp_getR (pc := 89) d_X5_variable_89 fl_X5_46 (fun _ _ _ => rfl) ho8 ?_
        obtain ⟨ho10, h⟩ := h
        refine wp_invV (pc := 92) (N := M_X10_step) (As := []) (rest := []) (r := (cn_10, ct_10, 12)) d_X5_variable_92 ml_X5_180 mk_X10_step mv_X10_step h0 ho10 rfl rfl (Nat.le_of_ble_eq_true rfl) ?_
        refine wpM.mono h (fun rr G9 hr => ?_)
        obtain ⟨rfl, h⟩ := hr
        show wp E d M_X5_variable 95 [some (vr _), some (vi _), some (vi _)] [] G9 Q
        refine wp_iconst (pc := 95) (v := 1) d_X5_variable_95 rfl ?_
        exact wp_zret (pc := 96) d_X5_variable_96 rfl rfl h
      · have h := h.2 hc
        refine wp_sub ?_ h
        exact ⟨rfl, ⟨rfl, trivial⟩⟩
  · have h := h.2 hc
    refine wp_aload_n (pc := 11) d_X5_variable_11 rfl ?_
    refine wp_getR (pc := 12) d_X5_variable_12 fl_X5_46 (fun _ _ _ => rfl) ho1 ?_
    refine wp_invV (pc := 15) (N := M_X10_refuse) (As := []) (rest := []) (r := (cn_10, ct_10, 12)) d_X5_variable_15 ml_X5_94 mk_X10_refuse mv_X10_refuse h0 ho2 rfl rfl (Nat.le_of_ble_eq_true rfl) ?_
    refine wpM.mono h (fun rr G14 hr => ?_)
    obtain ⟨r13, rfl, h⟩ := hr
    show wp E d M_X5_variable 18 [some (vr _), none, none] [vi _] G14 Q
    exact wp_zret (pc := 18) d_X5_variable_18 rfl h.1.1 h.2
theorem v_X5_variable_46 {E : EE} {d : Nat} {Q : Option AV → AH → Prop} {x0 : Nat} {x1 : Int32} {G : AH} (h0 : 0 < d) (h : isO E G x0 5 ∧ (isO E G (gR G x0 0) 10 ∧ (wpI E (d - 1) M_X10_fail [vr (gR G x0 0), vi 4, vi (gI G (gR G x0 0) 8)] G (fun r3 G4 => okI .boolean r3 ∧ Q (some (vi r3)) G4)))) : wp E d M_X5_variable 46 [some (vr x0), some (vi x1), none] [] G Q := by
  refine wp_aload_n (pc := 46) d_X5_variable_46 rfl ?_
  obtain ⟨ho1, h⟩ := h
  refine wp_getR (pc := 47) d_X5_variable_47 fl_X5_46 (fun _ _ _ => rfl) ho1 ?_
  refine wp_iconst (pc := 50) (v := 4) d_X5_variable_50 rfl ?_
  refine wp_aload_n (pc := 51) d_X5_variable_51 rfl ?_
  refine wp_getR (pc := 52) d_X5_variable_52 fl_X5_46 (fun _ _ _ => rfl) ho1 ?_
  obtain ⟨ho2, h⟩ := h
  refine wp_getI (pc := 55) d_X5_variable_55 fl_X5_114 (fun _ _ _ => rfl) ho2 ?_
  refine wp_invV (pc := 58) (N := M_X10_fail) (As := [vi _, vi _]) (rest := []) (r := (cn_10, ct_10, 12)) d_X5_variable_58 ml_X5_117 mk_X10_fail mv_X10_fail h0 ho2 rfl rfl (Nat.le_of_ble_eq_true rfl) ?_
  refine wpM.mono h (fun rr G4 hr => ?_)
  obtain ⟨r3, rfl, h⟩ := hr
  show wp E d M_X5_variable 61 [some (vr _), some (vi _), none] [vi _] G4 Q
  exact wp_zret (pc := 61) d_X5_variable_61 rfl h.1.1 h.2
theorem d_X5_names_0 : decode prog_7_method_25_code 0 = .ok (.aload_n 0, 1) := by decide +kernel
theorem d_X5_names_1 : decode prog_7_method_25_code 1 = .ok (.getfield 15, 3) := by decide +kernel
theorem d_X5_names_4 : decode prog_7_method_25_code 4 = .ok (.iconst 0, 1) := by decide +kernel
theorem d_X5_names_5 : decode prog_7_method_25_code 5 = .ok (.invokevirtual 243, 3) := by decide +kernel
theorem d_X5_names_8 : decode prog_7_method_25_code 8 = .ok (.istore_n 3, 1) := by decide +kernel
theorem d_X5_names_9 : decode prog_7_method_25_code 9 = .ok (.iconst 1, 1) := by decide +kernel
theorem d_X5_names_10 : decode prog_7_method_25_code 10 = .ok (.istore 4, 2) := by decide +kernel
theorem d_X5_names_12 : decode prog_7_method_25_code 12 = .ok (.iload 4, 2) := by decide +kernel
theorem d_X5_names_14 : decode prog_7_method_25_code 14 = .ok (.iload_n 2, 1) := by decide +kernel
theorem d_X5_names_15 : decode prog_7_method_25_code 15 = .ok (.if_icmp .gt 69, 3) := by decide +kernel
theorem d_X5_names_18 : decode prog_7_method_25_code 18 = .ok (.aload_n 0, 1) := by decide +kernel
theorem d_X5_names_19 : decode prog_7_method_25_code 19 = .ok (.invokevirtual 256, 3) := by decide +kernel
theorem d_X5_names_22 : decode prog_7_method_25_code 22 = .ok (.ifCond .ne 5, 3) := by decide +kernel
theorem d_X5_names_25 : decode prog_7_method_25_code 25 = .ok (.iconst (-1), 1) := by decide +kernel
theorem d_X5_names_26 : decode prog_7_method_25_code 26 = .ok (.ireturn, 1) := by decide +kernel
theorem d_X5_names_27 : decode prog_7_method_25_code 27 = .ok (.aload_n 0, 1) := by decide +kernel
theorem d_X5_names_28 : decode prog_7_method_25_code 28 = .ok (.getfield 15, 3) := by decide +kernel
theorem d_X5_names_31 : decode prog_7_method_25_code 31 = .ok (.iload_n 3, 1) := by decide +kernel
theorem d_X5_names_32 : decode prog_7_method_25_code 32 = .ok (.iload 4, 2) := by decide +kernel
theorem d_X5_names_34 : decode prog_7_method_25_code 34 = .ok (.invokevirtual 259, 3) := by decide +kernel
theorem d_X5_names_37 : decode prog_7_method_25_code 37 = .ok (.iload 4, 2) := by decide +kernel
theorem d_X5_names_39 : decode prog_7_method_25_code 39 = .ok (.iload_n 2, 1) := by decide +kernel
theorem d_X5_names_40 : decode prog_7_method_25_code 40 = .ok (.if_icmp .eq 21, 3) := by decide +kernel
theorem d_X5_names_43 : decode prog_7_method_25_code 43 = .ok (.iload 4, 2) := by decide +kernel
theorem d_X5_names_45 : decode prog_7_method_25_code 45 = .ok (.iload_n 1, 1) := by decide +kernel
theorem d_X5_names_46 : decode prog_7_method_25_code 46 = .ok (.if_icmp .lt 18, 3) := by decide +kernel
theorem d_X5_names_49 : decode prog_7_method_25_code 49 = .ok (.aload_n 0, 1) := by decide +kernel
theorem d_X5_names_50 : decode prog_7_method_25_code 50 = .ok (.getfield 46, 3) := by decide +kernel
theorem d_X5_names_53 : decode prog_7_method_25_code 53 = .ok (.bipush 44, 2) := by decide +kernel
theorem d_X5_names_55 : decode prog_7_method_25_code 55 = .ok (.invokevirtual 78, 3) := by decide +kernel
theorem d_X5_names_58 : decode prog_7_method_25_code 58 = .ok (.ifCond .ne 6, 3) := by decide +kernel
theorem d_X5_names_61 : decode prog_7_method_25_code 61 = .ok (.iload 4, 2) := by decide +kernel
theorem d_X5_names_63 : decode prog_7_method_25_code 63 = .ok (.ireturn, 1) := by decide +kernel
theorem d_X5_names_64 : decode prog_7_method_25_code 64 = .ok (.aload_n 0, 1) := by decide +kernel
theorem d_X5_names_65 : decode prog_7_method_25_code 65 = .ok (.getfield 46, 3) := by decide +kernel
theorem d_X5_names_68 : decode prog_7_method_25_code 68 = .ok (.bipush 44, 2) := by decide +kernel
theorem d_X5_names_70 : decode prog_7_method_25_code 70 = .ok (.invokevirtual 124, 3) := by decide +kernel
theorem d_X5_names_73 : decode prog_7_method_25_code 73 = .ok (.ifCond .ne 5, 3) := by decide +kernel
theorem d_X5_names_76 : decode prog_7_method_25_code 76 = .ok (.iconst (-1), 1) := by decide +kernel
theorem d_X5_names_77 : decode prog_7_method_25_code 77 = .ok (.ireturn, 1) := by decide +kernel
theorem d_X5_names_78 : decode prog_7_method_25_code 78 = .ok (.iinc 4 1, 3) := by decide +kernel
theorem d_X5_names_81 : decode prog_7_method_25_code 81 = .ok (.goto (-69), 3) := by decide +kernel
theorem d_X5_names_84 : decode prog_7_method_25_code 84 = .ok (.iconst (-1), 1) := by decide +kernel
theorem d_X5_names_85 : decode prog_7_method_25_code 85 = .ok (.ireturn, 1) := by decide +kernel
theorem v_X5_names_0 {E : EE} {d : Nat} {Q : Option AV → AH → Prop} {x0 : Nat} {x1 : Int32} {x2 : Int32} {G : AH} (h0 : 0 < d) (h : isO E G x0 5 ∧ (isO E G (gR G x0 2) 2 ∧ (wpI E (d - 1) M_X2_note [vr (gR G x0 2), vi 0] G (fun r2 G3 => wp E d M_X5_names 12 [some (vr x0), some (vi x1), some (vi x2), some (vi r2), some (vi 1)] [] G3 Q)))) : wp E d M_X5_names 0 [some (vr x0), some (vi x1), some (vi x2), none, none] [] G Q := by
  refine wp_aload_n (pc := 0) d_X5_names_0 rfl ?_
  obtain ⟨ho1, h⟩ := h
  refine wp_getR (pc := 1) d_X5_names_1 fl_X5_15 (fun _ _ _ => rfl) ho1 ?_
  refine wp_iconst (pc := 4) (v := 0) d_X5_names_4 rfl ?_
  obtain ⟨ho4, h⟩ := h
  refine wp_invV (pc := 5) (N := M_X2_note) (As := [vi _]) (rest := []) (r := (cn_2, ct_2, 15)) d_X5_names_5 ml_X5_243 mk_X2_note mv_X2_note h0 ho4 rfl rfl (Nat.le_of_ble_eq_true rfl) ?_
  refine wpM.mono h (fun rr G3 hr => ?_)
  obtain ⟨r2, rfl, h⟩ := hr
  show wp E d M_X5_names 8 [some (vr _), some (vi _), some (vi _), none, none] [vi _] G3 Q
  refine wp_istore_n (pc := 8) (lv' := [some (vr _), some (vi _), some (vi _), some (vi _), none]) d_X5_names_8 (by decide) rfl ?_
  refine wp_iconst (pc := 9) (v := 1) d_X5_names_9 rfl ?_
  refine wp_istore (pc := 10) (lv' := [some (vr _), some (vi _), some (vi _), some (vi _), some (vi _)]) d_X5_names_10 (by decide) rfl ?_
  refine wp_sub ?_ h
  exact ⟨rfl, ⟨rfl, ⟨rfl, ⟨rfl, ⟨rfl, trivial⟩⟩⟩⟩⟩
theorem v_X5_names_12 {E : EE} {d : Nat} {Q : Option AV → AH → Prop} {x0 : Nat} {x1 : Int32} {x2 : Int32} {x3 : Int32} {x4 : Int32} {G : AH} (h0 : 0 < d) (h : (x2 < x4 → Q (some (vi (-1))) G) ∧ (¬ (x2 < x4) → isO E G x0 5 ∧ (wpI E (d - 1) M_X5_variable [vr x0] G (fun r1 G2 => (¬ r1 = 0 → isO E G2 x0 5 ∧ (isO E G2 (gR G2 x0 2) 2 ∧ (wpV E (d - 1) M_X2_amend [vr (gR G2 x0 2), vi x3, vi x4] G2 (fun G4 => (x4 = x2 → Q (some (vi x4)) G4) ∧ (¬ (x4 = x2) → (x4 < x1 → wp E d M_X5_names 64 [some (vr x0), some (vi x1), some (vi x2), some (vi x3), some (vi x4)] [] G4 Q) ∧ (¬ (x4 < x1) → isO E G4 x0 5 ∧ (isO E G4 (gR G4 x0 0) 10 ∧ (wpI E (d - 1) M_X10_is [vr (gR G4 x0 0), vi 44] G4 (fun r6 G7 => (¬ r6 = 0 → wp E d M_X5_names 64 [some (vr x0), some (vi x1), some (vi x2), some (vi x3), some (vi x4)] [] G7 Q) ∧ (r6 = 0 → Q (some (vi x4)) G7)))))))))) ∧ (r1 = 0 → Q (some (vi (-1))) G2))))) : wp E d M_X5_names 12 [some (vr x0), some (vi x1), some (vi x2), some (vi x3), some (vi x4)] [] G Q := by
  refine wp_iload (pc := 12) d_X5_names_12 rfl ?_
  refine wp_iload_n (pc := 14) d_X5_names_14 rfl ?_
  refine wp_icmp_gt (pc := 15) (tgt := 84) d_X5_names_15 (by decide) (fun hc => ?_) (fun hc => ?_)
  · have h := h.1 hc
    refine wp_iconst (pc := 84) (v := (-1)) d_X5_names_84 rfl ?_
    exact wp_iret (pc := 85) d_X5_names_85 rfl h
  · have h := h.2 hc
    refine wp_aload_n (pc := 18) d_X5_names_18 rfl ?_
    obtain ⟨ho10, h⟩ := h
    refine wp_invV (pc := 19) (N := M_X5_variable) (As := []) (rest := []) (r := (cn_5, ct_5, 11)) d_X5_names_19 ml_X5_256 mk_X5_variable mv_X5_variable h0 ho10 rfl rfl (Nat.le_of_ble_eq_true rfl) ?_
    refine wpM.mono h (fun rr G2 hr => ?_)
    obtain ⟨r1, rfl, h⟩ := hr
    show wp E d M_X5_names 22 [some (vr _), some (vi _), some (vi _), some (vi _), some (vi _)] [vi _] G2 Q
    refine wp_if_ne (pc := 22) (tgt := 27) d_X5_names_22 (by decide) (fun hc => ?_) (fun hc => ?_)
    · have h := h.1 hc
      refine wp_aload_n (pc := 27) d_X5_names_27 rfl ?_
      obtain ⟨ho3, h⟩ := h
      refine wp_getR (pc := 28) d_X5_names_28 fl_X5_15 (fun _ _ _ => rfl) ho3 ?_
      refine wp_iload_n (pc := 31) d_X5_names_31 rfl ?_
      refine wp_iload (pc := 32) d_X5_names_32 rfl ?_
      obtain ⟨ho9, h⟩ := h
      refine wp_invV (pc := 34) (N := M_X2_amend) (As := [vi _, vi _]) (rest := []) (r := (cn_2, ct_2, 15)) d_X5_names_34 ml_X5_259 mk_X2_amend mv_X2_amend h0 ho9 rfl rfl (Nat.le_of_ble_eq_true rfl) ?_
      refine wpM.mono h (fun rr G4 hr => ?_)
      obtain ⟨rfl, h⟩ := hr
      show wp E d M_X5_names 37 [some (vr _), some (vi _), some (vi _), some (vi _), some (vi _)] [] G4 Q
      refine wp_iload (pc := 37) d_X5_names_37 rfl ?_
      refine wp_iload_n (pc := 39) d_X5_names_39 rfl ?_
      refine wp_icmp_eq (pc := 40) (tgt := 61) d_X5_names_40 (by decide) (fun hc => ?_) (fun hc => ?_)
      · have h := h.1 hc
        refine wp_iload (pc := 61) d_X5_names_61 rfl ?_
        exact wp_iret (pc := 63) d_X5_names_63 rfl h
      · have h := h.2 hc
        refine wp_iload (pc := 43) d_X5_names_43 rfl ?_
        refine wp_iload_n (pc := 45) d_X5_names_45 rfl ?_
        refine wp_icmp_lt (pc := 46) (tgt := 64) d_X5_names_46 (by decide) (fun hc => ?_) (fun hc => ?_)
        · have h := h.1 hc
          refine wp_sub ?_ h
          exact ⟨rfl, ⟨rfl, ⟨rfl, ⟨rfl, ⟨rfl, trivial⟩⟩⟩⟩⟩
        · have h := h.2 hc
          refine wp_aload_n (pc := 49) d_X5_names_49 rfl ?_
          obtain ⟨ho5, h⟩ := h
          refine wp_getR (pc := 50) d_X5_names_50 fl_X5_46 (fun _ _ _ => rfl) ho5 ?_
          refine wp_bipush (pc := 53) (v := 44) d_X5_names_53 rfl ?_
          obtain ⟨ho8, h⟩ := h
          refine wp_invV (pc := 55) (N := M_X10_is) (As := [vi _]) (rest := []) (r := (cn_10, ct_10, 12)) d_X5_names_55 ml_X5_78 mk_X10_is mv_X10_is h0 ho8 rfl rfl (Nat.le_of_ble_eq_true rfl) ?_
          refine wpM.mono h (fun rr G7 hr => ?_)
          obtain ⟨r6, rfl, h⟩ := hr
          show wp E d M_X5_names 58 [some (vr _), some (vi _), some (vi _), some (vi _), some (vi _)] [vi _] G7 Q
          refine wp_if_ne (pc := 58) (tgt := 64) d_X5_names_58 (by decide) (fun hc => ?_) (fun hc => ?_)
          · have h := h.1 hc
            refine wp_sub ?_ h
            exact ⟨rfl, ⟨rfl, ⟨rfl, ⟨rfl, ⟨rfl, trivial⟩⟩⟩⟩⟩
          · have h := h.2 hc
            refine wp_iload (pc := 61) d_X5_names_61 rfl ?_
            exact wp_iret (pc := 63) d_X5_names_63 rfl h
    · have h := h.2 hc
      refine wp_iconst (pc := 25) (v := (-1)) d_X5_names_25 rfl ?_
      exact wp_iret (pc := 26) d_X5_names_26 rfl h
theorem v_X5_names_64 {E : EE} {d : Nat} {Q : Option AV → AH → Prop} {x0 : Nat} {x1 : Int32} {x2 : Int32} {x3 : Int32} {x4 : Int32} {G : AH} (h0 : 0 < d) (h : isO E G x0 5 ∧ (isO E G (gR G x0 0) 10 ∧ (wpI E (d - 1) M_X10_accept [vr (gR G x0 0), vi 44] G (fun r2 G3 => (¬ r2 = 0 → wp E d M_X5_names 12 [some (vr x0), some (vi x1), some (vi x2), some (vi x3), some (vi (x4 + 1))] [] G3 Q) ∧ (r2 = 0 → Q (some (vi (-1))) G3))))) : wp E d M_X5_names 64 [some (vr x0), some (vi x1), some (vi x2), some (vi x3), some (vi x4)] [] G Q := by
  refine wp_aload_n (pc := 64) d_X5_names_64 rfl ?_
  obtain ⟨ho1, h⟩ := h
  refine wp_getR (pc := 65) d_X5_names_65 fl_X5_46 (fun _ _ _ => rfl) ho1 ?_
  refine wp_bipush (pc := 68) (v := 44) d_X5_names_68 rfl ?_
  obtain ⟨ho4, h⟩ := h
  refine wp_invV (pc := 70) (N := M_X10_accept) (As := [vi _]) (rest := []) (r := (cn_10, ct_10, 12)) d_X5_names_70 ml_X5_124 mk_X10_accept mv_X10_accept h0 ho4 rfl rfl (Nat.le_of_ble_eq_true rfl) ?_
  refine wpM.mono h (fun rr G3 hr => ?_)
  obtain ⟨r2, rfl, h⟩ := hr
  show wp E d M_X5_names 73 [some (vr _), some (vi _), some (vi _), some (vi _), some (vi _)] [vi _] G3 Q
  refine wp_if_ne (pc := 73) (tgt := 78) d_X5_names_73 (by decide) (fun hc => ?_) (fun hc => ?_)
  · have h := h.1 hc
    refine wp_iinc (pc := 78) (v := 1) (lv' := [some (vr _), some (vi _), some (vi _), some (vi _), some (vi _)]) d_X5_names_78 (by decide) rfl rfl rfl ?_
    refine wp_goto (pc := 81) (tgt := 12) d_X5_names_81 (by decide) ?_
    refine wp_sub ?_ h
    exact ⟨rfl, ⟨rfl, ⟨rfl, ⟨rfl, ⟨rfl, trivial⟩⟩⟩⟩⟩
  · have h := h.2 hc
    refine wp_iconst (pc := 76) (v := (-1)) d_X5_names_76 rfl ?_
    exact wp_iret (pc := 77) d_X5_names_77 rfl h
theorem d_X5_numerals_0 : decode prog_7_method_26_code 0 = .ok (.aload_n 0, 1) := by decide +kernel
theorem d_X5_numerals_1 : decode prog_7_method_26_code 1 = .ok (.getfield 15, 3) := by decide +kernel
theorem d_X5_numerals_4 : decode prog_7_method_26_code 4 = .ok (.iconst 0, 1) := by decide +kernel
theorem d_X5_numerals_5 : decode prog_7_method_26_code 5 = .ok (.invokevirtual 243, 3) := by decide +kernel
theorem d_X5_numerals_8 : decode prog_7_method_26_code 8 = .ok (.istore 4, 2) := by decide +kernel
theorem d_X5_numerals_10 : decode prog_7_method_26_code 10 = .ok (.iconst 1, 1) := by decide +kernel
theorem d_X5_numerals_11 : decode prog_7_method_26_code 11 = .ok (.istore 5, 2) := by decide +kernel
theorem d_X5_numerals_13 : decode prog_7_method_26_code 13 = .ok (.iload 5, 2) := by decide +kernel
theorem d_X5_numerals_15 : decode prog_7_method_26_code 15 = .ok (.iload_n 2, 1) := by decide +kernel
theorem d_X5_numerals_16 : decode prog_7_method_26_code 16 = .ok (.if_icmp .gt 71, 3) := by decide +kernel
theorem d_X5_numerals_19 : decode prog_7_method_26_code 19 = .ok (.aload_n 0, 1) := by decide +kernel
theorem d_X5_numerals_20 : decode prog_7_method_26_code 20 = .ok (.iload_n 1, 1) := by decide +kernel
theorem d_X5_numerals_21 : decode prog_7_method_26_code 21 = .ok (.iconst 0, 1) := by decide +kernel
theorem d_X5_numerals_22 : decode prog_7_method_26_code 22 = .ok (.iload_n 3, 1) := by decide +kernel
theorem d_X5_numerals_23 : decode prog_7_method_26_code 23 = .ok (.invokevirtual 127, 3) := by decide +kernel
theorem d_X5_numerals_26 : decode prog_7_method_26_code 26 = .ok (.ifCond .ne 5, 3) := by decide +kernel
theorem d_X5_numerals_29 : decode prog_7_method_26_code 29 = .ok (.iconst 0, 1) := by decide +kernel
theorem d_X5_numerals_30 : decode prog_7_method_26_code 30 = .ok (.ireturn, 1) := by decide +kernel
theorem d_X5_numerals_31 : decode prog_7_method_26_code 31 = .ok (.aload_n 0, 1) := by decide +kernel
theorem d_X5_numerals_32 : decode prog_7_method_26_code 32 = .ok (.getfield 15, 3) := by decide +kernel
theorem d_X5_numerals_35 : decode prog_7_method_26_code 35 = .ok (.aload_n 0, 1) := by decide +kernel
theorem d_X5_numerals_36 : decode prog_7_method_26_code 36 = .ok (.getfield 27, 3) := by decide +kernel
theorem d_X5_numerals_39 : decode prog_7_method_26_code 39 = .ok (.invokevirtual 243, 3) := by decide +kernel
theorem d_X5_numerals_42 : decode prog_7_method_26_code 42 = .ok (.pop, 1) := by decide +kernel
theorem d_X5_numerals_43 : decode prog_7_method_26_code 43 = .ok (.aload_n 0, 1) := by decide +kernel
theorem d_X5_numerals_44 : decode prog_7_method_26_code 44 = .ok (.getfield 15, 3) := by decide +kernel
theorem d_X5_numerals_47 : decode prog_7_method_26_code 47 = .ok (.iload 4, 2) := by decide +kernel
theorem d_X5_numerals_49 : decode prog_7_method_26_code 49 = .ok (.iload 5, 2) := by decide +kernel
theorem d_X5_numerals_51 : decode prog_7_method_26_code 51 = .ok (.invokevirtual 259, 3) := by decide +kernel
theorem d_X5_numerals_54 : decode prog_7_method_26_code 54 = .ok (.iload 5, 2) := by decide +kernel
theorem d_X5_numerals_56 : decode prog_7_method_26_code 56 = .ok (.iload_n 2, 1) := by decide +kernel
theorem d_X5_numerals_57 : decode prog_7_method_26_code 57 = .ok (.if_icmp .eq 15, 3) := by decide +kernel
theorem d_X5_numerals_60 : decode prog_7_method_26_code 60 = .ok (.aload_n 0, 1) := by decide +kernel
theorem d_X5_numerals_61 : decode prog_7_method_26_code 61 = .ok (.getfield 46, 3) := by decide +kernel
theorem d_X5_numerals_64 : decode prog_7_method_26_code 64 = .ok (.bipush 44, 2) := by decide +kernel
theorem d_X5_numerals_66 : decode prog_7_method_26_code 66 = .ok (.invokevirtual 78, 3) := by decide +kernel
theorem d_X5_numerals_69 : decode prog_7_method_26_code 69 = .ok (.ifCond .ne 5, 3) := by decide +kernel
theorem d_X5_numerals_72 : decode prog_7_method_26_code 72 = .ok (.iconst 1, 1) := by decide +kernel
theorem d_X5_numerals_73 : decode prog_7_method_26_code 73 = .ok (.ireturn, 1) := by decide +kernel
theorem d_X5_numerals_74 : decode prog_7_method_26_code 74 = .ok (.aload_n 0, 1) := by decide +kernel
theorem d_X5_numerals_75 : decode prog_7_method_26_code 75 = .ok (.getfield 46, 3) := by decide +kernel
theorem d_X5_numerals_78 : decode prog_7_method_26_code 78 = .ok (.invokevirtual 180, 3) := by decide +kernel
theorem d_X5_numerals_81 : decode prog_7_method_26_code 81 = .ok (.iinc 5 1, 3) := by decide +kernel
theorem d_X5_numerals_84 : decode prog_7_method_26_code 84 = .ok (.goto (-71), 3) := by decide +kernel
theorem d_X5_numerals_87 : decode prog_7_method_26_code 87 = .ok (.iconst 1, 1) := by decide +kernel
theorem d_X5_numerals_88 : decode prog_7_method_26_code 88 = .ok (.ireturn, 1) := by decide +kernel
theorem v_X5_numerals_0 {E : EE} {d : Nat} {Q : Option AV → AH → Prop} {x0 : Nat} {x1 : Int32} {x2 : Int32} {x3 : Int32} {G : AH} (h0 : 0 < d) (h : isO E G x0 5 ∧ (isO E G (gR G x0 2) 2 ∧ (wpI E (d - 1) M_X2_note [vr (gR G x0 2), vi 0] G (fun r2 G3 => wp E d M_X5_numerals 13 [some (vr x0), some (vi x1), some (vi x2), some (vi x3), some (vi r2), some (vi 1)] [] G3 Q)))) : wp E d M_X5_numerals 0 [some (vr x0), some (vi x1), some (vi x2), some (vi x3), none, none] [] G Q := by
  refine wp_aload_n (pc := 0) d_X5_numerals_0 rfl ?_
  obtain ⟨ho1, h⟩ := h
  refine wp_getR (pc := 1) d_X5_numerals_1 fl_X5_15 (fun _ _ _ => rfl) ho1 ?_
  refine wp_iconst (pc := 4) (v := 0) d_X5_numerals_4 rfl ?_
  obtain ⟨ho4, h⟩ := h
  refine wp_invV (pc := 5) (N := M_X2_note) (As := [vi _]) (rest := []) (r := (cn_2, ct_2, 15)) d_X5_numerals_5 ml_X5_243 mk_X2_note mv_X2_note h0 ho4 rfl rfl (Nat.le_of_ble_eq_true rfl) ?_
  refine wpM.mono h (fun rr G3 hr => ?_)
  obtain ⟨r2, rfl, h⟩ := hr
  show wp E d M_X5_numerals 8 [some (vr _), some (vi _), some (vi _), some (vi _), none, none] [vi _] G3 Q
  refine wp_istore (pc := 8) (lv' := [some (vr _), some (vi _), some (vi _), some (vi _), some (vi _), none]) d_X5_numerals_8 (by decide) rfl ?_
  refine wp_iconst (pc := 10) (v := 1) d_X5_numerals_10 rfl ?_
  refine wp_istore (pc := 11) (lv' := [some (vr _), some (vi _), some (vi _), some (vi _), some (vi _), some (vi _)]) d_X5_numerals_11 (by decide) rfl ?_
  refine wp_sub ?_ h
  exact ⟨rfl, ⟨rfl, ⟨rfl, ⟨rfl, ⟨rfl, ⟨rfl, trivial⟩⟩⟩⟩⟩⟩
theorem v_X5_numerals_13 {E : EE} {d : Nat} {Q : Option AV → AH → Prop} {x0 : Nat} {x1 : Int32} {x2 : Int32} {x3 : Int32} {x4 : Int32} {x5 : Int32} {G : AH} (h0 : 0 < d) (h : (x2 < x5 → Q (some (vi 1)) G) ∧ (¬ (x2 < x5) → isO E G x0 5 ∧ (wpI E (d - 1) M_X5_numeral [vr x0, vi x1, vi 0, vi x3] G (fun r1 G2 => (¬ r1 = 0 → isO E G2 x0 5 ∧ (isO E G2 (gR G2 x0 2) 2 ∧ (wpI E (d - 1) M_X2_note [vr (gR G2 x0 2), vi (gI G2 x0 5)] G2 (fun r4 G5 => isO E G5 x0 5 ∧ (isO E G5 (gR G5 x0 2) 2 ∧ (wpV E (d - 1) M_X2_amend [vr (gR G5 x0 2), vi x4, vi x5] G5 (fun G7 => (x5 = x2 → Q (some (vi 1)) G7) ∧ (¬ (x5 = x2) → isO E G7 x0 5 ∧ (isO E G7 (gR G7 x0 0) 10 ∧ (wpI E (d - 1) M_X10_is [vr (gR G7 x0 0), vi 44] G7 (fun r9 G10 => (¬ r9 = 0 → isO E G10 x0 5 ∧ (isO E G10 (gR G10 x0 0) 10 ∧ (wpV E (d - 1) M_X10_step [vr (gR G10 x0 0)] G10 (fun G12 => wp E d M_X5_numerals 13 [some (vr x0), some (vi x1), some (vi x2), some (vi x3), some (vi x4), some (vi (x5 + 1))] [] G12 Q)))) ∧ (r9 = 0 → Q (some (vi 1)) G10)))))))))))) ∧ (r1 = 0 → Q (some (vi 0)) G2))))) : wp E d M_X5_numerals 13 [some (vr x0), some (vi x1), some (vi x2), some (vi x3), some (vi x4), some (vi x5)] [] G Q := by
  refine wp_iload (pc := 13) d_X5_numerals_13 rfl ?_
  refine wp_iload_n (pc := 15) d_X5_numerals_15 rfl ?_
  refine wp_icmp_gt (pc := 16) (tgt := 87) d_X5_numerals_16 (by decide) (fun hc => ?_) (fun hc => ?_)
  · have h := h.1 hc
    refine wp_iconst (pc := 87) (v := 1) d_X5_numerals_87 rfl ?_
    exact wp_zret (pc := 88) d_X5_numerals_88 rfl rfl h
  · have h := h.2 hc
    refine wp_aload_n (pc := 19) d_X5_numerals_19 rfl ?_
    refine wp_iload_n (pc := 20) d_X5_numerals_20 rfl ?_
    refine wp_iconst (pc := 21) (v := 0) d_X5_numerals_21 rfl ?_
    refine wp_iload_n (pc := 22) d_X5_numerals_22 rfl ?_
    obtain ⟨ho17, h⟩ := h
    refine wp_invV (pc := 23) (N := M_X5_numeral) (As := [vi _, vi _, vi _]) (rest := []) (r := (cn_5, ct_5, 11)) d_X5_numerals_23 ml_X5_127 mk_X5_numeral mv_X5_numeral h0 ho17 rfl rfl (Nat.le_of_ble_eq_true rfl) ?_
    refine wpM.mono h (fun rr G2 hr => ?_)
    obtain ⟨r1, rfl, h⟩ := hr
    show wp E d M_X5_numerals 26 [some (vr _), some (vi _), some (vi _), some (vi _), some (vi _), some (vi _)] [vi _] G2 Q
    refine wp_if_ne (pc := 26) (tgt := 31) d_X5_numerals_26 (by decide) (fun hc => ?_) (fun hc => ?_)
    · have h := h.1 hc
      refine wp_aload_n (pc := 31) d_X5_numerals_31 rfl ?_
      obtain ⟨ho3, h⟩ := h
      refine wp_getR (pc := 32) d_X5_numerals_32 fl_X5_15 (fun _ _ _ => rfl) ho3 ?_
      refine wp_aload_n (pc := 35) d_X5_numerals_35 rfl ?_
      refine wp_getI (pc := 36) d_X5_numerals_36 fl_X5_27 (fun _ _ _ => rfl) ho3 ?_
      obtain ⟨ho16, h⟩ := h
      refine wp_invV (pc := 39) (N := M_X2_note) (As := [vi _]) (rest := []) (r := (cn_2, ct_2, 15)) d_X5_numerals_39 ml_X5_243 mk_X2_note mv_X2_note h0 ho16 rfl rfl (Nat.le_of_ble_eq_true rfl) ?_
      refine wpM.mono h (fun rr G5 hr => ?_)
      obtain ⟨r4, rfl, h⟩ := hr
      show wp E d M_X5_numerals 42 [some (vr _), some (vi _), some (vi _), some (vi _), some (vi _), some (vi _)] [vi _] G5 Q
      refine wp_pop (pc := 42) d_X5_numerals_42 (c1_i _) ?_
      refine wp_aload_n (pc := 43) d_X5_numerals_43 rfl ?_
      obtain ⟨ho6, h⟩ := h
      refine wp_getR (pc := 44) d_X5_numerals_44 fl_X5_15 (fun _ _ _ => rfl) ho6 ?_
      refine wp_iload (pc := 47) d_X5_numerals_47 rfl ?_
      refine wp_iload (pc := 49) d_X5_numerals_49 rfl ?_
      obtain ⟨ho15, h⟩ := h
      refine wp_invV (pc := 51) (N := M_X2_amend) (As := [vi _, vi _]) (rest := []) (r := (cn_2, ct_2, 15)) d_X5_numerals_51 ml_X5_259 mk_X2_amend mv_X2_amend h0 ho15 rfl rfl (Nat.le_of_ble_eq_true rfl) ?_
      refine wpM.mono h (fun rr G7 hr => ?_)
      obtain ⟨rfl, h⟩ := hr
      show wp E d M_X5_numerals 54 [some (vr _), some (vi _), some (vi _), some (vi _), some (vi _), some (vi _)] [] G7 Q
      refine wp_iload (pc := 54) d_X5_numerals_54 rfl ?_
      refine wp_iload_n (pc := 56) d_X5_numerals_56 rfl ?_
      refine wp_icmp_eq (pc := 57) (tgt := 72) d_X5_numerals_57 (by decide) (fun hc => ?_) (fun hc => ?_)
      · have h := h.1 hc
        refine wp_iconst (pc := 72) (v := 1) d_X5_numerals_72 rfl ?_
        exact wp_zret (pc := 73) d_X5_numerals_73 rfl rfl h
      · have h := h.2 hc
        refine wp_aload_n (pc := 60) d_X5_numerals_60 rfl ?_
        obtain ⟨ho8, h⟩ := h
        refine wp_getR (pc := 61) d_X5_numerals_61 fl_X5_46 (fun _ _ _ => rfl) ho8 ?_
        refine wp_bipush (pc := 64) (v := 44) d_X5_numerals_64 rfl ?_
        obtain ⟨ho14, h⟩ := h
        refine wp_invV (pc := 66) (N := M_X10_is) (As := [vi _]) (rest := []) (r := (cn_10, ct_10, 12)) d_X5_numerals_66 ml_X5_78 mk_X10_is mv_X10_is h0 ho14 rfl rfl (Nat.le_of_ble_eq_true rfl) ?_
        refine wpM.mono h (fun rr G10 hr => ?_)
        obtain ⟨r9, rfl, h⟩ := hr
        show wp E d M_X5_numerals 69 [some (vr _), some (vi _), some (vi _), some (vi _), some (vi _), some (vi _)] [vi _] G10 Q
        refine wp_if_ne (pc := 69) (tgt := 74) d_X5_numerals_69 (by decide) (fun hc => ?_) (fun hc => ?_)
        · have h := h.1 hc
          refine wp_aload_n (pc := 74) d_X5_numerals_74 rfl ?_
          obtain ⟨ho11, h⟩ := h
          refine wp_getR (pc := 75) d_X5_numerals_75 fl_X5_46 (fun _ _ _ => rfl) ho11 ?_
          obtain ⟨ho13, h⟩ := h
          refine wp_invV (pc := 78) (N := M_X10_step) (As := []) (rest := []) (r := (cn_10, ct_10, 12)) d_X5_numerals_78 ml_X5_180 mk_X10_step mv_X10_step h0 ho13 rfl rfl (Nat.le_of_ble_eq_true rfl) ?_
          refine wpM.mono h (fun rr G12 hr => ?_)
          obtain ⟨rfl, h⟩ := hr
          show wp E d M_X5_numerals 81 [some (vr _), some (vi _), some (vi _), some (vi _), some (vi _), some (vi _)] [] G12 Q
          refine wp_iinc (pc := 81) (v := 1) (lv' := [some (vr _), some (vi _), some (vi _), some (vi _), some (vi _), some (vi _)]) d_X5_numerals_81 (by decide) rfl rfl rfl ?_
          refine wp_goto (pc := 84) (tgt := 13) d_X5_numerals_84 (by decide) ?_
          refine wp_sub ?_ h
          exact ⟨rfl, ⟨rfl, ⟨rfl, ⟨rfl, ⟨rfl, ⟨rfl, trivial⟩⟩⟩⟩⟩⟩
        · have h := h.2 hc
          refine wp_iconst (pc := 72) (v := 1) d_X5_numerals_72 rfl ?_
          exact wp_zret (pc := 73) d_X5_numerals_73 rfl rfl h
    · have h := h.2 hc
      refine wp_iconst (pc := 29) (v := 0) d_X5_numerals_29 rfl ?_
      exact wp_zret (pc := 30) d_X5_numerals_30 rfl rfl h
theorem d_X5_sum_0 : decode prog_7_method_17_code 0 = .ok (.aload_n 0, 1) := by decide +kernel
theorem d_X5_sum_1 : decode prog_7_method_17_code 1 = .ok (.invokevirtual 222, 3) := by decide +kernel
theorem d_X5_sum_4 : decode prog_7_method_17_code 4 = .ok (.ifCond .ne 5, 3) := by decide +kernel
theorem d_X5_sum_7 : decode prog_7_method_17_code 7 = .ok (.iconst 0, 1) := by decide +kernel
theorem d_X5_sum_8 : decode prog_7_method_17_code 8 = .ok (.ireturn, 1) := by decide +kernel
theorem d_X5_sum_9 : decode prog_7_method_17_code 9 = .ok (.iconst 0, 1) := by decide +kernel
theorem d_X5_sum_10 : decode prog_7_method_17_code 10 = .ok (.istore_n 1, 1) := by decide +kernel
theorem d_X5_sum_11 : decode prog_7_method_17_code 11 = .ok (.iload_n 1, 1) := by decide +kernel
theorem d_X5_sum_12 : decode prog_7_method_17_code 12 = .ok (.sipush 20000, 3) := by decide +kernel
theorem d_X5_sum_15 : decode prog_7_method_17_code 15 = .ok (.if_icmp .ge 79, 3) := by decide +kernel
theorem d_X5_sum_18 : decode prog_7_method_17_code 18 = .ok (.aload_n 0, 1) := by decide +kernel
theorem d_X5_sum_19 : decode prog_7_method_17_code 19 = .ok (.getfield 46, 3) := by decide +kernel
theorem d_X5_sum_22 : decode prog_7_method_17_code 22 = .ok (.bipush 43, 2) := by decide +kernel
theorem d_X5_sum_24 : decode prog_7_method_17_code 24 = .ok (.invokevirtual 78, 3) := by decide +kernel
theorem d_X5_sum_27 : decode prog_7_method_17_code 27 = .ok (.ifCond .ne 15, 3) := by decide +kernel
theorem d_X5_sum_30 : decode prog_7_method_17_code 30 = .ok (.aload_n 0, 1) := by decide +kernel
theorem d_X5_sum_31 : decode prog_7_method_17_code 31 = .ok (.getfield 46, 3) := by decide +kernel
theorem d_X5_sum_34 : decode prog_7_method_17_code 34 = .ok (.bipush 45, 2) := by decide +kernel
theorem d_X5_sum_36 : decode prog_7_method_17_code 36 = .ok (.invokevirtual 78, 3) := by decide +kernel
theorem d_X5_sum_39 : decode prog_7_method_17_code 39 = .ok (.ifCond .eq 55, 3) := by decide +kernel
theorem d_X5_sum_42 : decode prog_7_method_17_code 42 = .ok (.aload_n 0, 1) := by decide +kernel
theorem d_X5_sum_43 : decode prog_7_method_17_code 43 = .ok (.getfield 46, 3) := by decide +kernel
theorem d_X5_sum_46 : decode prog_7_method_17_code 46 = .ok (.bipush 43, 2) := by decide +kernel
theorem d_X5_sum_48 : decode prog_7_method_17_code 48 = .ok (.invokevirtual 78, 3) := by decide +kernel
theorem d_X5_sum_51 : decode prog_7_method_17_code 51 = .ok (.ifCond .eq 8, 3) := by decide +kernel
theorem d_X5_sum_54 : decode prog_7_method_17_code 54 = .ok (.bipush 8, 2) := by decide +kernel
theorem d_X5_sum_56 : decode prog_7_method_17_code 56 = .ok (.goto 5, 3) := by decide +kernel
theorem d_X5_sum_59 : decode prog_7_method_17_code 59 = .ok (.bipush 9, 2) := by decide +kernel
theorem d_X5_sum_61 : decode prog_7_method_17_code 61 = .ok (.istore_n 2, 1) := by decide +kernel
theorem d_X5_sum_62 : decode prog_7_method_17_code 62 = .ok (.aload_n 0, 1) := by decide +kernel
theorem d_X5_sum_63 : decode prog_7_method_17_code 63 = .ok (.getfield 46, 3) := by decide +kernel
theorem d_X5_sum_66 : decode prog_7_method_17_code 66 = .ok (.invokevirtual 180, 3) := by decide +kernel
theorem d_X5_sum_69 : decode prog_7_method_17_code 69 = .ok (.aload_n 0, 1) := by decide +kernel
theorem d_X5_sum_70 : decode prog_7_method_17_code 70 = .ok (.invokevirtual 222, 3) := by decide +kernel
theorem d_X5_sum_73 : decode prog_7_method_17_code 73 = .ok (.ifCond .ne 5, 3) := by decide +kernel
theorem d_X5_sum_76 : decode prog_7_method_17_code 76 = .ok (.iconst 0, 1) := by decide +kernel
theorem d_X5_sum_77 : decode prog_7_method_17_code 77 = .ok (.ireturn, 1) := by decide +kernel
theorem d_X5_sum_78 : decode prog_7_method_17_code 78 = .ok (.aload_n 0, 1) := by decide +kernel
theorem d_X5_sum_79 : decode prog_7_method_17_code 79 = .ok (.getfield 15, 3) := by decide +kernel
theorem d_X5_sum_82 : decode prog_7_method_17_code 82 = .ok (.iload_n 2, 1) := by decide +kernel
theorem d_X5_sum_83 : decode prog_7_method_17_code 83 = .ok (.iconst 0, 1) := by decide +kernel
theorem d_X5_sum_84 : decode prog_7_method_17_code 84 = .ok (.invokevirtual 196, 3) := by decide +kernel
theorem d_X5_sum_87 : decode prog_7_method_17_code 87 = .ok (.pop, 1) := by decide +kernel
theorem d_X5_sum_88 : decode prog_7_method_17_code 88 = .ok (.iinc 1 1, 3) := by decide +kernel
theorem d_X5_sum_91 : decode prog_7_method_17_code 91 = .ok (.goto (-80), 3) := by decide +kernel
theorem d_X5_sum_94 : decode prog_7_method_17_code 94 = .ok (.iconst 1, 1) := by decide +kernel
theorem d_X5_sum_95 : decode prog_7_method_17_code 95 = .ok (.ireturn, 1) := by decide +kernel
theorem v_X5_sum_0 {E : EE} {d : Nat} {Q : Option AV → AH → Prop} {x0 : Nat} {G : AH} (h0 : 0 < d) (h : isO E G x0 5 ∧ (wpI E (d - 1) M_X5_term [vr x0] G (fun r1 G2 => (¬ r1 = 0 → wp E d M_X5_sum 11 [some (vr x0), some (vi 0), none] [] G2 Q) ∧ (r1 = 0 → Q (some (vi 0)) G2)))) : wp E d M_X5_sum 0 [some (vr x0), none, none] [] G Q := by
  refine wp_aload_n (pc := 0) d_X5_sum_0 rfl ?_
  obtain ⟨ho3, h⟩ := h
  refine wp_invV (pc := 1) (N := M_X5_term) (As := []) (rest := []) (r := (cn_5, ct_5, 11)) d_X5_sum_1 ml_X5_222 mk_X5_term mv_X5_term h0 ho3 rfl rfl (Nat.le_of_ble_eq_true rfl) ?_
  refine wpM.mono h (fun rr G2 hr => ?_)
  obtain ⟨r1, rfl, h⟩ := hr
  show wp E d M_X5_sum 4 [some (vr _), none, none] [vi _] G2 Q
  refine wp_if_ne (pc := 4) (tgt := 9) d_X5_sum_4 (by decide) (fun hc => ?_) (fun hc => ?_)
  · have h := h.1 hc
    refine wp_iconst (pc := 9) (v := 0) d_X5_sum_9 rfl ?_
    refine wp_istore_n (pc := 10) (lv' := [some (vr _), some (vi _), none]) d_X5_sum_10 (by decide) rfl ?_
    refine wp_sub ?_ h
    exact ⟨rfl, ⟨rfl, trivial⟩⟩
  · have h := h.2 hc
    refine wp_iconst (pc := 7) (v := 0) d_X5_sum_7 rfl ?_
    exact wp_zret (pc := 8) d_X5_sum_8 rfl rfl h
theorem v_X5_sum_11 {E : EE} {d : Nat} {Q : Option AV → AH → Prop} {x0 : Nat} {x1 : Int32} {G : AH} (h0 : 0 < d) (h : (20000 ≤ x1 → Q (some (vi 1)) G) ∧ (¬ (20000 ≤ x1) → isO E G x0 5 ∧ (isO E G (gR G x0 0) 10 ∧ (wpI E (d - 1) M_X10_is [vr (gR G x0 0), vi 43] G (fun r2 G3 => (¬ r2 = 0 → wp E d M_X5_sum 42 [some (vr x0), some (vi x1), none] [] G3 Q) ∧ (r2 = 0 → isO E G3 x0 5 ∧ (isO E G3 (gR G3 x0 0) 10 ∧ (wpI E (d - 1) M_X10_is [vr (gR G3 x0 0), vi 45] G3 (fun r5 G6 => (r5 = 0 → Q (some (vi 1)) G6) ∧ (¬ (r5 = 0) → wp E d M_X5_sum 42 [some (vr x0), some (vi x1), none] [] G6 Q)))))))))) : wp E d M_X5_sum 11 [some (vr x0), some (vi x1), none] [] G Q := by
  refine wp_iload_n (pc := 11) d_X5_sum_11 rfl ?_
  refine wp_sipush (pc := 12) (v := 20000) d_X5_sum_12 rfl ?_
  refine wp_icmp_ge (pc := 15) (tgt := 94) d_X5_sum_15 (by decide) (fun hc => ?_) (fun hc => ?_)
  · have h := h.1 hc
    refine wp_iconst (pc := 94) (v := 1) d_X5_sum_94 rfl ?_
    exact wp_zret (pc := 95) d_X5_sum_95 rfl rfl h
  · have h := h.2 hc
    refine wp_aload_n (pc := 18) d_X5_sum_18 rfl ?_
    obtain ⟨ho1, h⟩ := h
    refine wp_getR (pc := 19) d_X5_sum_19 fl_X5_46 (fun _ _ _ => rfl) ho1 ?_
    refine wp_bipush (pc := 22) (v := 43) d_X5_sum_22 rfl ?_
    obtain ⟨ho8, h⟩ := h
    refine wp_invV (pc := 24) (N := M_X10_is) (As := [vi _]) (rest := []) (r := (cn_10, ct_10, 12)) d_X5_sum_24 ml_X5_78 mk_X10_is mv_X10_is h0 ho8 rfl rfl (Nat.le_of_ble_eq_true rfl) ?_
    refine wpM.mono h (fun rr G3 hr => ?_)
    obtain ⟨r2, rfl, h⟩ := hr
    show wp E d M_X5_sum 27 [some (vr _), some (vi _), none] [vi _] G3 Q
    refine wp_if_ne (pc := 27) (tgt := 42) d_X5_sum_27 (by decide) (fun hc => ?_) (fun hc => ?_)
    · have h := h.1 hc
      refine wp_sub ?_ h
      exact ⟨rfl, ⟨rfl, trivial⟩⟩
    · have h := h.2 hc
      refine wp_aload_n (pc := 30) d_X5_sum_30 rfl ?_
      obtain ⟨ho4, h⟩ := h
      refine wp_getR (pc := 31) d_X5_sum_31 fl_X5_46 (fun _ _ _ => rfl) ho4 ?_
      refine wp_bipush (pc := 34) (v := 45) d_X5_sum_34 rfl ?_
      obtain ⟨ho7, h⟩ := h
      refine wp_invV (pc := 36) (N := M_X10_is) (As := [vi _]) (rest := []) (r := (cn_10, ct_10, 12)) d_X5_sum_36 ml_X5_78 mk_X10_is mv_X10_is h0 ho7 rfl rfl (Nat.le_of_ble_eq_true rfl) ?_
      refine wpM.mono h (fun rr G6 hr => ?_)
      obtain ⟨r5, rfl, h⟩ := hr
      show wp E d M_X5_sum 39 [some (vr _), some (vi _), none] [vi _] G6 Q
      refine wp_if_eq (pc := 39) (tgt := 94) d_X5_sum_39 (by decide) (fun hc => ?_) (fun hc => ?_)
      · have h := h.1 hc
        refine wp_iconst (pc := 94) (v := 1) d_X5_sum_94 rfl ?_
        exact wp_zret (pc := 95) d_X5_sum_95 rfl rfl h
      · have h := h.2 hc
        refine wp_sub ?_ h
        exact ⟨rfl, ⟨rfl, trivial⟩⟩
theorem v_X5_sum_42 {E : EE} {d : Nat} {Q : Option AV → AH → Prop} {x0 : Nat} {x1 : Int32} {G : AH} (h0 : 0 < d) (h : isO E G x0 5 ∧ (isO E G (gR G x0 0) 10 ∧ (wpI E (d - 1) M_X10_is [vr (gR G x0 0), vi 43] G (fun r2 G3 => (r2 = 0 → wp E d M_X5_sum 61 [some (vr x0), some (vi x1), none] [vi 9] G3 Q) ∧ (¬ (r2 = 0) → wp E d M_X5_sum 61 [some (vr x0), some (vi x1), none] [vi 8] G3 Q))))) : wp E d M_X5_sum 42 [some (vr x0), some (vi x1), none] [] G Q := by
  refine wp_aload_n (pc := 42) d_X5_sum_42 rfl ?_
  obtain ⟨ho1, h⟩ := h
  refine wp_getR (pc := 43) d_X5_sum_43 fl_X5_46 (fun _ _ _ => rfl) ho1 ?_
  refine wp_bipush (pc := 46) (v := 43) d_X5_sum_46 rfl ?_
  obtain ⟨ho4, h⟩ := h
  refine wp_invV (pc := 48) (N := M_X10_is) (As := [vi _]) (rest := []) (r := (cn_10, ct_10, 12)) d_X5_sum_48 ml_X5_78 mk_X10_is mv_X10_is h0 ho4 rfl rfl (Nat.le_of_ble_eq_true rfl) ?_
  refine wpM.mono h (fun rr G3 hr => ?_)
  obtain ⟨r2, rfl, h⟩ := hr
  show wp E d M_X5_sum 51 [some (vr _), some (vi _), none] [vi _] G3 Q
  refine wp_if_eq (pc := 51) (tgt := 59) d_X5_sum_51 (by decide) (fun hc => ?_) (fun hc => ?_)
  · have h := h.1 hc
    refine wp_bipush (pc := 59) (v := 9) d_X5_sum_59 rfl ?_
    refine wp_sub ?_ h
    exact ⟨rfl, ⟨rfl, trivial⟩⟩
  · have h := h.2 hc
    refine wp_bipush (pc := 54) (v := 8) d_X5_sum_54 rfl ?_
    refine wp_goto (pc := 56) (tgt := 61) d_X5_sum_56 (by decide) ?_
    refine wp_sub ?_ h
    exact ⟨rfl, ⟨rfl, trivial⟩⟩
theorem v_X5_sum_61 {E : EE} {d : Nat} {Q : Option AV → AH → Prop} {x0 : Nat} {x1 : Int32} {t0 : Int32} {G : AH} (h0 : 0 < d) (h : isO E G x0 5 ∧ (isO E G (gR G x0 0) 10 ∧ (wpV E (d - 1) M_X10_step [vr (gR G x0 0)] G (fun G2 => isO E G2 x0 5 ∧ (wpI E (d - 1) M_X5_term [vr x0] G2 (fun r3 G4 => (¬ r3 = 0 → isO E G4 x0 5 ∧ (isO E G4 (gR G4 x0 2) 2 ∧ (wpI E (d - 1) M_X2_emit [vr (gR G4 x0 2), vi t0, vi 0] G4 (fun r6 G7 => wp E d M_X5_sum 11 [some (vr x0), some (vi (x1 + 1)), none] [] G7 Q)))) ∧ (r3 = 0 → Q (some (vi 0)) G4))))))) : wp E d M_X5_sum 61 [some (vr x0), some (vi x1), none] [vi t0] G Q := by
  refine wp_istore_n (pc := 61) (lv' := [some (vr _), some (vi _), some (vi _)]) d_X5_sum_61 (by decide) rfl ?_
  refine wp_aload_n (pc := 62) d_X5_sum_62 rfl ?_
  obtain ⟨ho1, h⟩ := h
  refine wp_getR (pc := 63) d_X5_sum_63 fl_X5_46 (fun _ _ _ => rfl) ho1 ?_
  obtain ⟨ho10, h⟩ := h
  refine wp_invV (pc := 66) (N := M_X10_step) (As := []) (rest := []) (r := (cn_10, ct_10, 12)) d_X5_sum_66 ml_X5_180 mk_X10_step mv_X10_step h0 ho10 rfl rfl (Nat.le_of_ble_eq_true rfl) ?_
  refine wpM.mono h (fun rr G2 hr => ?_)
  obtain ⟨rfl, h⟩ := hr
  show wp E d M_X5_sum 69 [some (vr _), some (vi _), some (vi _)] [] G2 Q
  refine wp_aload_n (pc := 69) d_X5_sum_69 rfl ?_
  obtain ⟨ho9, h⟩ := h
  refine wp_invV (pc := 70) (N := M_X5_term) (As := []) (rest := []) (r := (cn_5, ct_5, 11)) d_X5_sum_70 ml_X5_222 mk_X5_term mv_X5_term h0 ho9 rfl rfl (Nat.le_of_ble_eq_true rfl) ?_
  refine wpM.mono h (fun rr G4 hr => ?_)
  obtain ⟨r3, rfl, h⟩ := hr
  show wp E d M_X5_sum 73 [some (vr _), some (vi _), some (vi _)] [vi _] G4 Q
  refine wp_if_ne (pc := 73) (tgt := 78) d_X5_sum_73 (by decide) (fun hc => ?_) (fun hc => ?_)
  · have h := h.1 hc
    refine wp_aload_n (pc := 78) d_X5_sum_78 rfl ?_
    obtain ⟨ho5, h⟩ := h
    refine wp_getR (pc := 79) d_X5_sum_79 fl_X5_15 (fun _ _ _ => rfl) ho5 ?_
    refine wp_iload_n (pc := 82) d_X5_sum_82 rfl ?_
    refine wp_iconst (pc := 83) (v := 0) d_X5_sum_83 rfl ?_
    obtain ⟨ho8, h⟩ := h
    refine wp_invV (pc := 84) (N := M_X2_emit) (As := [vi _, vi _]) (rest := []) (r := (cn_2, ct_2, 15)) d_X5_sum_84 ml_X5_196 mk_X2_emit mv_X2_emit h0 ho8 rfl rfl (Nat.le_of_ble_eq_true rfl) ?_
    refine wpM.mono h (fun rr G7 hr => ?_)
    obtain ⟨r6, rfl, h⟩ := hr
    show wp E d M_X5_sum 87 [some (vr _), some (vi _), some (vi _)] [vi _] G7 Q
    refine wp_pop (pc := 87) d_X5_sum_87 (c1_i _) ?_
    refine wp_iinc (pc := 88) (v := 1) (lv' := [some (vr _), some (vi _), some (vi _)]) d_X5_sum_88 (by decide) rfl rfl rfl ?_
    refine wp_goto (pc := 91) (tgt := 11) d_X5_sum_91 (by decide) ?_
    refine wp_sub ?_ h
    exact ⟨rfl, ⟨rfl, trivial⟩⟩
  · have h := h.2 hc
    refine wp_iconst (pc := 76) (v := 0) d_X5_sum_76 rfl ?_
    exact wp_zret (pc := 77) d_X5_sum_77 rfl rfl h
theorem d_X5_term_0 : decode prog_7_method_18_code 0 = .ok (.aload_n 0, 1) := by decide +kernel
theorem d_X5_term_1 : decode prog_7_method_18_code 1 = .ok (.invokevirtual 225, 3) := by decide +kernel
theorem d_X5_term_4 : decode prog_7_method_18_code 4 = .ok (.ifCond .ne 5, 3) := by decide +kernel
theorem d_X5_term_7 : decode prog_7_method_18_code 7 = .ok (.iconst 0, 1) := by decide +kernel
theorem d_X5_term_8 : decode prog_7_method_18_code 8 = .ok (.ireturn, 1) := by decide +kernel
theorem d_X5_term_9 : decode prog_7_method_18_code 9 = .ok (.iconst 0, 1) := by decide +kernel
theorem d_X5_term_10 : decode prog_7_method_18_code 10 = .ok (.istore_n 1, 1) := by decide +kernel
theorem d_X5_term_11 : decode prog_7_method_18_code 11 = .ok (.iload_n 1, 1) := by decide +kernel
theorem d_X5_term_12 : decode prog_7_method_18_code 12 = .ok (.sipush 20000, 3) := by decide +kernel
theorem d_X5_term_15 : decode prog_7_method_18_code 15 = .ok (.if_icmp .ge 48, 3) := by decide +kernel
theorem d_X5_term_18 : decode prog_7_method_18_code 18 = .ok (.aload_n 0, 1) := by decide +kernel
theorem d_X5_term_19 : decode prog_7_method_18_code 19 = .ok (.getfield 46, 3) := by decide +kernel
theorem d_X5_term_22 : decode prog_7_method_18_code 22 = .ok (.bipush 42, 2) := by decide +kernel
theorem d_X5_term_24 : decode prog_7_method_18_code 24 = .ok (.invokevirtual 78, 3) := by decide +kernel
theorem d_X5_term_27 : decode prog_7_method_18_code 27 = .ok (.ifCond .eq 36, 3) := by decide +kernel
theorem d_X5_term_30 : decode prog_7_method_18_code 30 = .ok (.aload_n 0, 1) := by decide +kernel
theorem d_X5_term_31 : decode prog_7_method_18_code 31 = .ok (.getfield 46, 3) := by decide +kernel
theorem d_X5_term_34 : decode prog_7_method_18_code 34 = .ok (.invokevirtual 180, 3) := by decide +kernel
theorem d_X5_term_37 : decode prog_7_method_18_code 37 = .ok (.aload_n 0, 1) := by decide +kernel
theorem d_X5_term_38 : decode prog_7_method_18_code 38 = .ok (.invokevirtual 225, 3) := by decide +kernel
theorem d_X5_term_41 : decode prog_7_method_18_code 41 = .ok (.ifCond .ne 5, 3) := by decide +kernel
theorem d_X5_term_44 : decode prog_7_method_18_code 44 = .ok (.iconst 0, 1) := by decide +kernel
theorem d_X5_term_45 : decode prog_7_method_18_code 45 = .ok (.ireturn, 1) := by decide +kernel
theorem d_X5_term_46 : decode prog_7_method_18_code 46 = .ok (.aload_n 0, 1) := by decide +kernel
theorem d_X5_term_47 : decode prog_7_method_18_code 47 = .ok (.getfield 15, 3) := by decide +kernel
theorem d_X5_term_50 : decode prog_7_method_18_code 50 = .ok (.bipush 10, 2) := by decide +kernel
theorem d_X5_term_52 : decode prog_7_method_18_code 52 = .ok (.iconst 0, 1) := by decide +kernel
theorem d_X5_term_53 : decode prog_7_method_18_code 53 = .ok (.invokevirtual 196, 3) := by decide +kernel
theorem d_X5_term_56 : decode prog_7_method_18_code 56 = .ok (.pop, 1) := by decide +kernel
theorem d_X5_term_57 : decode prog_7_method_18_code 57 = .ok (.iinc 1 1, 3) := by decide +kernel
theorem d_X5_term_60 : decode prog_7_method_18_code 60 = .ok (.goto (-49), 3) := by decide +kernel
theorem d_X5_term_63 : decode prog_7_method_18_code 63 = .ok (.iconst 1, 1) := by decide +kernel
theorem d_X5_term_64 : decode prog_7_method_18_code 64 = .ok (.ireturn, 1) := by decide +kernel
theorem v_X5_term_0 {E : EE} {d : Nat} {Q : Option AV → AH → Prop} {x0 : Nat} {G : AH} (h0 : 0 < d) (h : isO E G x0 5 ∧ (wpI E (d - 1) M_X5_factor [vr x0] G (fun r1 G2 => (¬ r1 = 0 → wp E d M_X5_term 11 [some (vr x0), some (vi 0)] [] G2 Q) ∧ (r1 = 0 → Q (some (vi 0)) G2)))) : wp E d M_X5_term 0 [some (vr x0), none] [] G Q := by
  refine wp_aload_n (pc := 0) d_X5_term_0 rfl ?_
  obtain ⟨ho3, h⟩ := h
  refine wp_invV (pc := 1) (N := M_X5_factor) (As := []) (rest := []) (r := (cn_5, ct_5, 11)) d_X5_term_1 ml_X5_225 mk_X5_factor mv_X5_factor h0 ho3 rfl rfl (Nat.le_of_ble_eq_true rfl) ?_
  refine wpM.mono h (fun rr G2 hr => ?_)
  obtain ⟨r1, rfl, h⟩ := hr
  show wp E d M_X5_term 4 [some (vr _), none] [vi _] G2 Q
  refine wp_if_ne (pc := 4) (tgt := 9) d_X5_term_4 (by decide) (fun hc => ?_) (fun hc => ?_)
  · have h := h.1 hc
    refine wp_iconst (pc := 9) (v := 0) d_X5_term_9 rfl ?_
    refine wp_istore_n (pc := 10) (lv' := [some (vr _), some (vi _)]) d_X5_term_10 (by decide) rfl ?_
    refine wp_sub ?_ h
    exact ⟨rfl, ⟨rfl, trivial⟩⟩
  · have h := h.2 hc
    refine wp_iconst (pc := 7) (v := 0) d_X5_term_7 rfl ?_
    exact wp_zret (pc := 8) d_X5_term_8 rfl rfl h
theorem v_X5_term_11 {E : EE} {d : Nat} {Q : Option AV → AH → Prop} {x0 : Nat} {x1 : Int32} {G : AH} (h0 : 0 < d) (h : (20000 ≤ x1 → Q (some (vi 1)) G) ∧ (¬ (20000 ≤ x1) → isO E G x0 5 ∧ (isO E G (gR G x0 0) 10 ∧ (wpI E (d - 1) M_X10_is [vr (gR G x0 0), vi 42] G (fun r2 G3 => (r2 = 0 → Q (some (vi 1)) G3) ∧ (¬ (r2 = 0) → isO E G3 x0 5 ∧ (isO E G3 (gR G3 x0 0) 10 ∧ (wpV E (d - 1) M_X10_step [vr (gR G3 x0 0)] G3 (fun G5 => isO E G5 x0 5 ∧ (wpI E (d - 1) M_X5_factor [vr x0] G5 (fun r6 G7 => (¬ r6 = 0 → isO E G7 x0 5 ∧ (isO E G7 (gR G7 x0 2) 2 ∧ (wpI E (d - 1) M_X2_emit [vr (gR G7 x0 2), vi 10, vi 0] G7 (fun r9 G10 => wp E d M_X5_term 11 [some (vr x0), some (vi (x1 + 1))] [] G10 Q)))) ∧ (r6 = 0 → Q (some (vi 0)) G7)))))))))))) : wp E d M_X5_term 11 [some (vr x0), some (vi x1)] [] G Q := by
  refine wp_iload_n (pc := 11) d_X5_term_11 rfl ?_
  refine wp_sipush (pc := 12) (v := 20000) d_X5_term_12 rfl ?_
  refine wp_icmp_ge (pc := 15) (tgt := 63) d_X5_term_15 (by decide) (fun hc => ?_) (fun hc => ?_)
  · have h := h.1 hc
    refine wp_iconst (pc := 63) (v := 1) d_X5_term_63 rfl ?_
    exact wp_zret (pc := 64) d_X5_term_64 rfl rfl h
  · have h := h.2 hc
    refine wp_aload_n (pc := 18) d_X5_term_18 rfl ?_
    obtain ⟨ho1, h⟩ := h
    refine wp_getR (pc := 19) d_X5_term_19 fl_X5_46 (fun _ _ _ => rfl) ho1 ?_
    refine wp_bipush (pc := 22) (v := 42) d_X5_term_22 rfl ?_
    obtain ⟨ho14, h⟩ := h
    refine wp_invV (pc := 24) (N := M_X10_is) (As := [vi _]) (rest := []) (r := (cn_10, ct_10, 12)) d_X5_term_24 ml_X5_78 mk_X10_is mv_X10_is h0 ho14 rfl rfl (Nat.le_of_ble_eq_true rfl) ?_
    refine wpM.mono h (fun rr G3 hr => ?_)
    obtain ⟨r2, rfl, h⟩ := hr
    show wp E d M_X5_term 27 [some (vr _), some (vi _)] [vi _] G3 Q
    refine wp_if_eq (pc := 27) (tgt := 63) d_X5_term_27 (by decide) (fun hc => ?_) (fun hc => ?_)
    · have h := h.1 hc
      refine wp_iconst (pc := 63) (v := 1) d_X5_term_63 rfl ?_
      exact wp_zret (pc := 64) d_X5_term_64 rfl rfl h
    · have h := h.2 hc
      refine wp_aload_n (pc := 30) d_X5_term_30 rfl ?_
      obtain ⟨ho4, h⟩ := h
      refine wp_getR (pc := 31) d_X5_term_31 fl_X5_46 (fun _ _ _ => rfl) ho4 ?_
      obtain ⟨ho13, h⟩ := h
      refine wp_invV (pc := 34) (N := M_X10_step) (As := []) (rest := []) (r := (cn_10, ct_10, 12)) d_X5_term_34 ml_X5_180 mk_X10_step mv_X10_step h0 ho13 rfl rfl (Nat.le_of_ble_eq_true rfl) ?_
      refine wpM.mono h (fun rr G5 hr => ?_)
      obtain ⟨rfl, h⟩ := hr
      show wp E d M_X5_term 37 [some (vr _), some (vi _)] [] G5 Q
      refine wp_aload_n (pc := 37) d_X5_term_37 rfl ?_
      obtain ⟨ho12, h⟩ := h
      refine wp_invV (pc := 38) (N := M_X5_factor) (As := []) (rest := []) (r := (cn_5, ct_5, 11)) d_X5_term_38 ml_X5_225 mk_X5_factor mv_X5_factor h0 ho12 rfl rfl (Nat.le_of_ble_eq_true rfl) ?_
      refine wpM.mono h (fun rr G7 hr => ?_)
      obtain ⟨r6, rfl, h⟩ := hr
      show wp E d M_X5_term 41 [some (vr _), some (vi _)] [vi _] G7 Q
      refine wp_if_ne (pc := 41) (tgt := 46) d_X5_term_41 (by decide) (fun hc => ?_) (fun hc => ?_)
      · have h := h.1 hc
        refine wp_aload_n (pc := 46) d_X5_term_46 rfl ?_
        obtain ⟨ho8, h⟩ := h
        refine wp_getR (pc := 47) d_X5_term_47 fl_X5_15 (fun _ _ _ => rfl) ho8 ?_
        refine wp_bipush (pc := 50) (v := 10) d_X5_term_50 rfl ?_
        refine wp_iconst (pc := 52) (v := 0) d_X5_term_52 rfl ?_
        obtain ⟨ho11, h⟩ := h
        refine wp_invV (pc := 53) (N := M_X2_emit) (As := [vi _, vi _]) (rest := []) (r := (cn_2, ct_2, 15)) d_X5_term_53 ml_X5_196 mk_X2_emit mv_X2_emit h0 ho11 rfl rfl (Nat.le_of_ble_eq_true rfl) ?_
        refine wpM.mono h (fun rr G10 hr => ?_)
        obtain ⟨r9, rfl, h⟩ := hr
        show wp E d M_X5_term 56 [some (vr _), some (vi _)] [vi _] G10 Q
        refine wp_pop (pc := 56) d_X5_term_56 (c1_i _) ?_
        refine wp_iinc (pc := 57) (v := 1) (lv' := [some (vr _), some (vi _)]) d_X5_term_57 (by decide) rfl rfl rfl ?_
        refine wp_goto (pc := 60) (tgt := 11) d_X5_term_60 (by decide) ?_
        refine wp_sub ?_ h
        exact ⟨rfl, ⟨rfl, trivial⟩⟩
      · have h := h.2 hc
        refine wp_iconst (pc := 44) (v := 0) d_X5_term_44 rfl ?_
        exact wp_zret (pc := 45) d_X5_term_45 rfl rfl h
theorem d_X5_factor_0 : decode prog_7_method_19_code 0 = .ok (.aload_n 0, 1) := by decide +kernel
theorem d_X5_factor_1 : decode prog_7_method_19_code 1 = .ok (.getfield 46, 3) := by decide +kernel
theorem d_X5_factor_4 : decode prog_7_method_19_code 4 = .ok (.getfield 71, 3) := by decide +kernel
theorem d_X5_factor_7 : decode prog_7_method_19_code 7 = .ok (.iconst 2, 1) := by decide +kernel
theorem d_X5_factor_8 : decode prog_7_method_19_code 8 = .ok (.if_icmp .ne 8, 3) := by decide +kernel
theorem d_X5_factor_11 : decode prog_7_method_19_code 11 = .ok (.aload_n 0, 1) := by decide +kernel
theorem d_X5_factor_12 : decode prog_7_method_19_code 12 = .ok (.invokevirtual 228, 3) := by decide +kernel
theorem d_X5_factor_15 : decode prog_7_method_19_code 15 = .ok (.ireturn, 1) := by decide +kernel
theorem d_X5_factor_16 : decode prog_7_method_19_code 16 = .ok (.aload_n 0, 1) := by decide +kernel
theorem d_X5_factor_17 : decode prog_7_method_19_code 17 = .ok (.getfield 46, 3) := by decide +kernel
theorem d_X5_factor_20 : decode prog_7_method_19_code 20 = .ok (.getfield 71, 3) := by decide +kernel
theorem d_X5_factor_23 : decode prog_7_method_19_code 23 = .ok (.iconst 3, 1) := by decide +kernel
theorem d_X5_factor_24 : decode prog_7_method_19_code 24 = .ok (.if_icmp .ne 29, 3) := by decide +kernel
theorem d_X5_factor_27 : decode prog_7_method_19_code 27 = .ok (.aload_n 0, 1) := by decide +kernel
theorem d_X5_factor_28 : decode prog_7_method_19_code 28 = .ok (.getfield 15, 3) := by decide +kernel
theorem d_X5_factor_31 : decode prog_7_method_19_code 31 = .ok (.iconst 0, 1) := by decide +kernel
theorem d_X5_factor_32 : decode prog_7_method_19_code 32 = .ok (.aload_n 0, 1) := by decide +kernel
theorem d_X5_factor_33 : decode prog_7_method_19_code 33 = .ok (.getfield 46, 3) := by decide +kernel
theorem d_X5_factor_36 : decode prog_7_method_19_code 36 = .ok (.getfield 183, 3) := by decide +kernel
theorem d_X5_factor_39 : decode prog_7_method_19_code 39 = .ok (.l2i, 1) := by decide +kernel
theorem d_X5_factor_40 : decode prog_7_method_19_code 40 = .ok (.invokevirtual 196, 3) := by decide +kernel
theorem d_X5_factor_43 : decode prog_7_method_19_code 43 = .ok (.pop, 1) := by decide +kernel
theorem d_X5_factor_44 : decode prog_7_method_19_code 44 = .ok (.aload_n 0, 1) := by decide +kernel
theorem d_X5_factor_45 : decode prog_7_method_19_code 45 = .ok (.getfield 46, 3) := by decide +kernel
theorem d_X5_factor_48 : decode prog_7_method_19_code 48 = .ok (.invokevirtual 180, 3) := by decide +kernel
theorem d_X5_factor_51 : decode prog_7_method_19_code 51 = .ok (.iconst 1, 1) := by decide +kernel
theorem d_X5_factor_52 : decode prog_7_method_19_code 52 = .ok (.ireturn, 1) := by decide +kernel
theorem d_X5_factor_53 : decode prog_7_method_19_code 53 = .ok (.aload_n 0, 1) := by decide +kernel
theorem d_X5_factor_54 : decode prog_7_method_19_code 54 = .ok (.getfield 46, 3) := by decide +kernel
theorem d_X5_factor_57 : decode prog_7_method_19_code 57 = .ok (.bipush 45, 2) := by decide +kernel
theorem d_X5_factor_59 : decode prog_7_method_19_code 59 = .ok (.invokevirtual 78, 3) := by decide +kernel
theorem d_X5_factor_62 : decode prog_7_method_19_code 62 = .ok (.ifCond .eq 41, 3) := by decide +kernel
theorem d_X5_factor_65 : decode prog_7_method_19_code 65 = .ok (.aload_n 0, 1) := by decide +kernel
theorem d_X5_factor_66 : decode prog_7_method_19_code 66 = .ok (.bipush 45, 2) := by decide +kernel
theorem d_X5_factor_68 : decode prog_7_method_19_code 68 = .ok (.invokevirtual 193, 3) := by decide +kernel
theorem d_X5_factor_71 : decode prog_7_method_19_code 71 = .ok (.ifCond .eq 10, 3) := by decide +kernel
theorem d_X5_factor_74 : decode prog_7_method_19_code 74 = .ok (.aload_n 0, 1) := by decide +kernel
theorem d_X5_factor_75 : decode prog_7_method_19_code 75 = .ok (.invokevirtual 225, 3) := by decide +kernel
theorem d_X5_factor_78 : decode prog_7_method_19_code 78 = .ok (.ifCond .ne 5, 3) := by decide +kernel
theorem d_X5_factor_81 : decode prog_7_method_19_code 81 = .ok (.iconst 0, 1) := by decide +kernel
theorem d_X5_factor_82 : decode prog_7_method_19_code 82 = .ok (.ireturn, 1) := by decide +kernel
theorem d_X5_factor_83 : decode prog_7_method_19_code 83 = .ok (.aload_n 0, 1) := by decide +kernel
theorem d_X5_factor_84 : decode prog_7_method_19_code 84 = .ok (.dup, 1) := by decide +kernel
theorem d_X5_factor_85 : decode prog_7_method_19_code 85 = .ok (.getfield 33, 3) := by decide +kernel
theorem d_X5_factor_88 : decode prog_7_method_19_code 88 = .ok (.iconst 1, 1) := by decide +kernel
theorem d_X5_factor_89 : decode prog_7_method_19_code 89 = .ok (.isub, 1) := by decide +kernel
theorem d_X5_factor_90 : decode prog_7_method_19_code 90 = .ok (.putfield 33, 3) := by decide +kernel
theorem d_X5_factor_93 : decode prog_7_method_19_code 93 = .ok (.aload_n 0, 1) := by decide +kernel
theorem d_X5_factor_94 : decode prog_7_method_19_code 94 = .ok (.getfield 15, 3) := by decide +kernel
theorem d_X5_factor_97 : decode prog_7_method_19_code 97 = .ok (.iconst 3, 1) := by decide +kernel
theorem d_X5_factor_98 : decode prog_7_method_19_code 98 = .ok (.iconst 0, 1) := by decide +kernel
theorem d_X5_factor_99 : decode prog_7_method_19_code 99 = .ok (.invokevirtual 196, 3) := by decide +kernel
theorem d_X5_factor_102 : decode prog_7_method_19_code 102 = .ok (.ireturn, 1) := by decide +kernel
theorem d_X5_factor_103 : decode prog_7_method_19_code 103 = .ok (.aload_n 0, 1) := by decide +kernel
theorem d_X5_factor_104 : decode prog_7_method_19_code 104 = .ok (.getfield 46, 3) := by decide +kernel
theorem d_X5_factor_107 : decode prog_7_method_19_code 107 = .ok (.bipush 40, 2) := by decide +kernel
theorem d_X5_factor_109 : decode prog_7_method_19_code 109 = .ok (.invokevirtual 78, 3) := by decide +kernel
theorem d_X5_factor_112 : decode prog_7_method_19_code 112 = .ok (.ifCond .eq 34, 3) := by decide +kernel
theorem d_X5_factor_115 : decode prog_7_method_19_code 115 = .ok (.aload_n 0, 1) := by decide +kernel
theorem d_X5_factor_116 : decode prog_7_method_19_code 116 = .ok (.bipush 40, 2) := by decide +kernel
theorem d_X5_factor_118 : decode prog_7_method_19_code 118 = .ok (.invokevirtual 193, 3) := by decide +kernel
theorem d_X5_factor_121 : decode prog_7_method_19_code 121 = .ok (.ifCond .eq 23, 3) := by decide +kernel
theorem d_X5_factor_124 : decode prog_7_method_19_code 124 = .ok (.aload_n 0, 1) := by decide +kernel
theorem d_X5_factor_125 : decode prog_7_method_19_code 125 = .ok (.invokevirtual 177, 3) := by decide +kernel
theorem d_X5_factor_128 : decode prog_7_method_19_code 128 = .ok (.ifCond .eq 16, 3) := by decide +kernel
theorem d_X5_factor_131 : decode prog_7_method_19_code 131 = .ok (.aload_n 0, 1) := by decide +kernel
theorem d_X5_factor_132 : decode prog_7_method_19_code 132 = .ok (.bipush 41, 2) := by decide +kernel
theorem d_X5_factor_134 : decode prog_7_method_19_code 134 = .ok (.invokevirtual 205, 3) := by decide +kernel
theorem d_X5_factor_137 : decode prog_7_method_19_code 137 = .ok (.ifCond .eq 7, 3) := by decide +kernel
theorem d_X5_factor_140 : decode prog_7_method_19_code 140 = .ok (.iconst 1, 1) := by decide +kernel
theorem d_X5_factor_141 : decode prog_7_method_19_code 141 = .ok (.goto 4, 3) := by decide +kernel
theorem d_X5_factor_144 : decode prog_7_method_19_code 144 = .ok (.iconst 0, 1) := by decide +kernel
theorem d_X5_factor_145 : decode prog_7_method_19_code 145 = .ok (.ireturn, 1) := by decide +kernel
theorem d_X5_factor_146 : decode prog_7_method_19_code 146 = .ok (.aload_n 0, 1) := by decide +kernel
theorem d_X5_factor_147 : decode prog_7_method_19_code 147 = .ok (.getfield 46, 3) := by decide +kernel
theorem d_X5_factor_150 : decode prog_7_method_19_code 150 = .ok (.bipush 91, 2) := by decide +kernel
theorem d_X5_factor_152 : decode prog_7_method_19_code 152 = .ok (.invokevirtual 78, 3) := by decide +kernel
theorem d_X5_factor_155 : decode prog_7_method_19_code 155 = .ok (.ifCond .eq 46, 3) := by decide +kernel
theorem d_X5_factor_158 : decode prog_7_method_19_code 158 = .ok (.aload_n 0, 1) := by decide +kernel
theorem d_X5_factor_159 : decode prog_7_method_19_code 159 = .ok (.bipush 91, 2) := by decide +kernel
theorem d_X5_factor_161 : decode prog_7_method_19_code 161 = .ok (.invokevirtual 193, 3) := by decide +kernel
theorem d_X5_factor_164 : decode prog_7_method_19_code 164 = .ok (.ifCond .eq 35, 3) := by decide +kernel
theorem d_X5_factor_167 : decode prog_7_method_19_code 167 = .ok (.aload_n 0, 1) := by decide +kernel
theorem d_X5_factor_168 : decode prog_7_method_19_code 168 = .ok (.invokevirtual 166, 3) := by decide +kernel
theorem d_X5_factor_171 : decode prog_7_method_19_code 171 = .ok (.ifCond .eq 28, 3) := by decide +kernel
theorem d_X5_factor_174 : decode prog_7_method_19_code 174 = .ok (.aload_n 0, 1) := by decide +kernel
theorem d_X5_factor_175 : decode prog_7_method_19_code 175 = .ok (.bipush 93, 2) := by decide +kernel
theorem d_X5_factor_177 : decode prog_7_method_19_code 177 = .ok (.invokevirtual 205, 3) := by decide +kernel
theorem d_X5_factor_180 : decode prog_7_method_19_code 180 = .ok (.ifCond .eq 19, 3) := by decide +kernel
theorem d_X5_factor_183 : decode prog_7_method_19_code 183 = .ok (.aload_n 0, 1) := by decide +kernel
theorem d_X5_factor_184 : decode prog_7_method_19_code 184 = .ok (.getfield 15, 3) := by decide +kernel
theorem d_X5_factor_187 : decode prog_7_method_19_code 187 = .ok (.iconst 5, 1) := by decide +kernel
theorem d_X5_factor_188 : decode prog_7_method_19_code 188 = .ok (.iconst 0, 1) := by decide +kernel
theorem d_X5_factor_189 : decode prog_7_method_19_code 189 = .ok (.invokevirtual 196, 3) := by decide +kernel
theorem d_X5_factor_192 : decode prog_7_method_19_code 192 = .ok (.ifCond .eq 7, 3) := by decide +kernel
theorem d_X5_factor_195 : decode prog_7_method_19_code 195 = .ok (.iconst 1, 1) := by decide +kernel
theorem d_X5_factor_196 : decode prog_7_method_19_code 196 = .ok (.goto 4, 3) := by decide +kernel
theorem d_X5_factor_199 : decode prog_7_method_19_code 199 = .ok (.iconst 0, 1) := by decide +kernel
theorem d_X5_factor_200 : decode prog_7_method_19_code 200 = .ok (.ireturn, 1) := by decide +kernel
theorem d_X5_factor_201 : decode prog_7_method_19_code 201 = .ok (.aload_n 0, 1) := by decide +kernel
theorem d_X5_factor_202 : decode prog_7_method_19_code 202 = .ok (.getfield 46, 3) := by decide +kernel
theorem d_X5_factor_205 : decode prog_7_method_19_code 205 = .ok (.bipush 13, 2) := by decide +kernel
theorem d_X5_factor_207 : decode prog_7_method_19_code 207 = .ok (.invokevirtual 78, 3) := by decide +kernel
theorem d_X5_factor_210 : decode prog_7_method_19_code 210 = .ok (.ifCond .eq 53, 3) := by decide +kernel
theorem d_X5_factor_213 : decode prog_7_method_19_code 213 = .ok (.aload_n 0, 1) := by decide +kernel
theorem d_X5_factor_214 : decode prog_7_method_19_code 214 = .ok (.getfield 46, 3) := by decide +kernel
theorem d_X5_factor_217 : decode prog_7_method_19_code 217 = .ok (.invokevirtual 180, 3) := by decide +kernel
theorem d_X5_factor_220 : decode prog_7_method_19_code 220 = .ok (.aload_n 0, 1) := by decide +kernel
theorem d_X5_factor_221 : decode prog_7_method_19_code 221 = .ok (.bipush 40, 2) := by decide +kernel
theorem d_X5_factor_223 : decode prog_7_method_19_code 223 = .ok (.invokevirtual 193, 3) := by decide +kernel
theorem d_X5_factor_226 : decode prog_7_method_19_code 226 = .ok (.ifCond .eq 35, 3) := by decide +kernel
theorem d_X5_factor_229 : decode prog_7_method_19_code 229 = .ok (.aload_n 0, 1) := by decide +kernel
theorem d_X5_factor_230 : decode prog_7_method_19_code 230 = .ok (.invokevirtual 177, 3) := by decide +kernel
theorem d_X5_factor_233 : decode prog_7_method_19_code 233 = .ok (.ifCond .eq 28, 3) := by decide +kernel
theorem d_X5_factor_236 : decode prog_7_method_19_code 236 = .ok (.aload_n 0, 1) := by decide +kernel
theorem d_X5_factor_237 : decode prog_7_method_19_code 237 = .ok (.bipush 41, 2) := by decide +kernel
theorem d_X5_factor_239 : decode prog_7_method_19_code 239 = .ok (.invokevirtual 205, 3) := by decide +kernel
theorem d_X5_factor_242 : decode prog_7_method_19_code 242 = .ok (.ifCond .eq 19, 3) := by decide +kernel
theorem d_X5_factor_245 : decode prog_7_method_19_code 245 = .ok (.aload_n 0, 1) := by decide +kernel
theorem d_X5_factor_246 : decode prog_7_method_19_code 246 = .ok (.getfield 15, 3) := by decide +kernel
theorem d_X5_factor_249 : decode prog_7_method_19_code 249 = .ok (.iconst 4, 1) := by decide +kernel
theorem d_X5_factor_250 : decode prog_7_method_19_code 250 = .ok (.iconst 0, 1) := by decide +kernel
theorem d_X5_factor_251 : decode prog_7_method_19_code 251 = .ok (.invokevirtual 196, 3) := by decide +kernel
theorem d_X5_factor_254 : decode prog_7_method_19_code 254 = .ok (.ifCond .eq 7, 3) := by decide +kernel
theorem d_X5_factor_257 : decode prog_7_method_19_code 257 = .ok (.iconst 1, 1) := by decide +kernel
theorem d_X5_factor_258 : decode prog_7_method_19_code 258 = .ok (.goto 4, 3) := by decide +kernel
theorem d_X5_factor_261 : decode prog_7_method_19_code 261 = .ok (.iconst 0, 1) := by decide +kernel
theorem d_X5_factor_262 : decode prog_7_method_19_code 262 = .ok (.ireturn, 1) := by decide +kernel
theorem d_X5_factor_263 : decode prog_7_method_19_code 263 = .ok (.aload_n 0, 1) := by decide +kernel
theorem d_X5_factor_264 : decode prog_7_method_19_code 264 = .ok (.getfield 46, 3) := by decide +kernel
theorem d_X5_factor_267 : decode prog_7_method_19_code 267 = .ok (.bipush 14, 2) := by decide +kernel
theorem d_X5_factor_269 : decode prog_7_method_19_code 269 = .ok (.invokevirtual 78, 3) := by decide +kernel
theorem d_X5_factor_272 : decode prog_7_method_19_code 272 = .ok (.ifCond .eq 10, 3) := by decide +kernel
theorem d_X5_factor_275 : decode prog_7_method_19_code 275 = .ok (.aload_n 0, 1) := by decide +kernel
theorem d_X5_factor_276 : decode prog_7_method_19_code 276 = .ok (.bipush 11, 2) := by decide +kernel
theorem d_X5_factor_278 : decode prog_7_method_19_code 278 = .ok (.invokevirtual 231, 3) := by decide +kernel
theorem d_X5_factor_281 : decode prog_7_method_19_code 281 = .ok (.ireturn, 1) := by decide +kernel
theorem d_X5_factor_282 : decode prog_7_method_19_code 282 = .ok (.aload_n 0, 1) := by decide +kernel
theorem d_X5_factor_283 : decode prog_7_method_19_code 283 = .ok (.getfield 46, 3) := by decide +kernel
theorem d_X5_factor_286 : decode prog_7_method_19_code 286 = .ok (.bipush 15, 2) := by decide +kernel
theorem d_X5_factor_288 : decode prog_7_method_19_code 288 = .ok (.invokevirtual 78, 3) := by decide +kernel
theorem d_X5_factor_291 : decode prog_7_method_19_code 291 = .ok (.ifCond .eq 10, 3) := by decide +kernel
theorem d_X5_factor_294 : decode prog_7_method_19_code 294 = .ok (.aload_n 0, 1) := by decide +kernel
theorem d_X5_factor_295 : decode prog_7_method_19_code 295 = .ok (.bipush 12, 2) := by decide +kernel
theorem d_X5_factor_297 : decode prog_7_method_19_code 297 = .ok (.invokevirtual 231, 3) := by decide +kernel
theorem d_X5_factor_300 : decode prog_7_method_19_code 300 = .ok (.ireturn, 1) := by decide +kernel
theorem d_X5_factor_301 : decode prog_7_method_19_code 301 = .ok (.aload_n 0, 1) := by decide +kernel
theorem d_X5_factor_302 : decode prog_7_method_19_code 302 = .ok (.getfield 46, 3) := by decide +kernel
theorem d_X5_factor_305 : decode prog_7_method_19_code 305 = .ok (.bipush 16, 2) := by decide +kernel
theorem d_X5_factor_307 : decode prog_7_method_19_code 307 = .ok (.invokevirtual 78, 3) := by decide +kernel
theorem d_X5_factor_310 : decode prog_7_method_19_code 310 = .ok (.ifCond .eq 85, 3) := by decide +kernel
theorem d_X5_factor_313 : decode prog_7_method_19_code 313 = .ok (.aload_n 0, 1) := by decide +kernel
theorem d_X5_factor_314 : decode prog_7_method_19_code 314 = .ok (.getfield 46, 3) := by decide +kernel
theorem d_X5_factor_317 : decode prog_7_method_19_code 317 = .ok (.invokevirtual 180, 3) := by decide +kernel
theorem d_X5_factor_320 : decode prog_7_method_19_code 320 = .ok (.aload_n 0, 1) := by decide +kernel
theorem d_X5_factor_321 : decode prog_7_method_19_code 321 = .ok (.bipush 40, 2) := by decide +kernel
theorem d_X5_factor_323 : decode prog_7_method_19_code 323 = .ok (.invokevirtual 193, 3) := by decide +kernel
theorem d_X5_factor_326 : decode prog_7_method_19_code 326 = .ok (.ifCond .eq 67, 3) := by decide +kernel
theorem d_X5_factor_329 : decode prog_7_method_19_code 329 = .ok (.aload_n 0, 1) := by decide +kernel
theorem d_X5_factor_330 : decode prog_7_method_19_code 330 = .ok (.invokevirtual 177, 3) := by decide +kernel
theorem d_X5_factor_333 : decode prog_7_method_19_code 333 = .ok (.ifCond .eq 60, 3) := by decide +kernel
theorem d_X5_factor_336 : decode prog_7_method_19_code 336 = .ok (.aload_n 0, 1) := by decide +kernel
theorem d_X5_factor_337 : decode prog_7_method_19_code 337 = .ok (.getfield 46, 3) := by decide +kernel
theorem d_X5_factor_340 : decode prog_7_method_19_code 340 = .ok (.bipush 58, 2) := by decide +kernel
theorem d_X5_factor_342 : decode prog_7_method_19_code 342 = .ok (.invokevirtual 124, 3) := by decide +kernel
theorem d_X5_factor_345 : decode prog_7_method_19_code 345 = .ok (.ifCond .eq 48, 3) := by decide +kernel
theorem d_X5_factor_348 : decode prog_7_method_19_code 348 = .ok (.aload_n 0, 1) := by decide +kernel
theorem d_X5_factor_349 : decode prog_7_method_19_code 349 = .ok (.getfield 15, 3) := by decide +kernel
theorem d_X5_factor_352 : decode prog_7_method_19_code 352 = .ok (.bipush 7, 2) := by decide +kernel
theorem d_X5_factor_354 : decode prog_7_method_19_code 354 = .ok (.aload_n 0, 1) := by decide +kernel
theorem d_X5_factor_355 : decode prog_7_method_19_code 355 = .ok (.getfield 15, 3) := by decide +kernel
theorem d_X5_factor_358 : decode prog_7_method_19_code 358 = .ok (.getfield 212, 3) := by decide +kernel
theorem d_X5_factor_361 : decode prog_7_method_19_code 361 = .ok (.invokevirtual 196, 3) := by decide +kernel
theorem d_X5_factor_364 : decode prog_7_method_19_code 364 = .ok (.ifCond .eq 29, 3) := by decide +kernel
theorem d_X5_factor_367 : decode prog_7_method_19_code 367 = .ok (.aload_n 0, 1) := by decide +kernel
theorem d_X5_factor_368 : decode prog_7_method_19_code 368 = .ok (.iconst 1, 1) := by decide +kernel
theorem d_X5_factor_369 : decode prog_7_method_19_code 369 = .ok (.bipush 20, 2) := by decide +kernel
theorem d_X5_factor_371 : decode prog_7_method_19_code 371 = .ok (.sipush 9999, 3) := by decide +kernel
theorem d_X5_factor_374 : decode prog_7_method_19_code 374 = .ok (.invokevirtual 234, 3) := by decide +kernel
theorem d_X5_factor_377 : decode prog_7_method_19_code 377 = .ok (.ifCond .eq 16, 3) := by decide +kernel
theorem d_X5_factor_380 : decode prog_7_method_19_code 380 = .ok (.aload_n 0, 1) := by decide +kernel
theorem d_X5_factor_381 : decode prog_7_method_19_code 381 = .ok (.bipush 41, 2) := by decide +kernel
theorem d_X5_factor_383 : decode prog_7_method_19_code 383 = .ok (.invokevirtual 205, 3) := by decide +kernel
theorem d_X5_factor_386 : decode prog_7_method_19_code 386 = .ok (.ifCond .eq 7, 3) := by decide +kernel
theorem d_X5_factor_389 : decode prog_7_method_19_code 389 = .ok (.iconst 1, 1) := by decide +kernel
theorem d_X5_factor_390 : decode prog_7_method_19_code 390 = .ok (.goto 4, 3) := by decide +kernel
theorem d_X5_factor_393 : decode prog_7_method_19_code 393 = .ok (.iconst 0, 1) := by decide +kernel
theorem d_X5_factor_394 : decode prog_7_method_19_code 394 = .ok (.ireturn, 1) := by decide +kernel
theorem d_X5_factor_395 : decode prog_7_method_19_code 395 = .ok (.aload_n 0, 1) := by decide +kernel
theorem d_X5_factor_396 : decode prog_7_method_19_code 396 = .ok (.getfield 46, 3) := by decide +kernel
theorem d_X5_factor_399 : decode prog_7_method_19_code 399 = .ok (.invokevirtual 94, 3) := by decide +kernel
theorem d_X5_factor_402 : decode prog_7_method_19_code 402 = .ok (.ireturn, 1) := by decide +kernel
theorem v_X5_factor_0 {E : EE} {d : Nat} {Q : Option AV → AH → Prop} {x0 : Nat} {G : AH} (h0 : 0 < d) (h : isO E G x0 5 ∧ (isO E G (gR G x0 0) 10 ∧ ((¬ (gI G (gR G x0 0) 6) = 2 → (¬ (gI G (gR G x0 0) 6) = 3 → wpI E (d - 1) M_X10_is [vr (gR G x0 0), vi 45] G (fun r3 G4 => (r3 = 0 → isO E G4 x0 5 ∧ (isO E G4 (gR G4 x0 0) 10 ∧ (wpI E (d - 1) M_X10_is [vr (gR G4 x0 0), vi 40] G4 (fun r6 G7 => (r6 = 0 → isO E G7 x0 5 ∧ (isO E G7 (gR G7 x0 0) 10 ∧ (wpI E (d - 1) M_X10_is [vr (gR G7 x0 0), vi 91] G7 (fun r9 G10 => (r9 = 0 → isO E G10 x0 5 ∧ (isO E G10 (gR G10 x0 0) 10 ∧ (wpI E (d - 1) M_X10_is [vr (gR G10 x0 0), vi 13] G10 (fun r12 G13 => (r12 = 0 → isO E G13 x0 5 ∧ (isO E G13 (gR G13 x0 0) 10 ∧ (wpI E (d - 1) M_X10_is [vr (gR G13 x0 0), vi 14] G13 (fun r15 G16 => (r15 = 0 → isO E G16 x0 5 ∧ (isO E G16 (gR G16 x0 0) 10 ∧ (wpI E (d - 1) M_X10_is [vr (gR G16 x0 0), vi 15] G16 (fun r18 G19 => (r18 = 0 → isO E G19 x0 5 ∧ (isO E G19 (gR G19 x0 0) 10 ∧ (wpI E (d - 1) M_X10_is [vr (gR G19 x0 0), vi 16] G19 (fun r21 G22 => (r21 = 0 → isO E G22 x0 5 ∧ (isO E G22 (gR G22 x0 0) 10 ∧ (wpI E (d - 1) M_X10_refuse [vr (gR G22 x0 0)] G22 (fun r24 G25 => okI .boolean r24 ∧ Q (some (vi r24)) G25)))) ∧ (¬ (r21 = 0) → isO E G22 x0 5 ∧ (isO E G22 (gR G22 x0 0) 10 ∧ (wpV E (d - 1) M_X10_step [vr (gR G22 x0 0)] G22 (fun G28 => isO E G28 x0 5 ∧ (wpI E (d - 1) M_X5_enter [vr x0, vi 40] G28 (fun r29 G30 => (r29 = 0 → Q (some (vi 0)) G30) ∧ (¬ (r29 = 0) → isO E G30 x0 5 ∧ (wpI E (d - 1) M_X5_sum [vr x0] G30 (fun r31 G32 => (r31 = 0 → Q (some (vi 0)) G32) ∧ (¬ (r31 = 0) → isO E G32 x0 5 ∧ (isO E G32 (gR G32 x0 0) 10 ∧ (wpI E (d - 1) M_X10_accept [vr (gR G32 x0 0), vi 58] G32 (fun r34 G35 => (r34 = 0 → Q (some (vi 0)) G35) ∧ (¬ (r34 = 0) → isO E G35 x0 5 ∧ (isO E G35 (gR G35 x0 2) 2 ∧ (wpI E (d - 1) M_X2_emit [vr (gR G35 x0 2), vi 7, vi (gI G35 (gR G35 x0 2) 3)] G35 (fun r38 G39 => (r38 = 0 → Q (some (vi 0)) G39) ∧ (¬ (r38 = 0) → isO E G39 x0 5 ∧ (wpI E (d - 1) M_X5_numerals [vr x0, vi 1, vi 20, vi 9999] G39 (fun r40 G41 => (r40 = 0 → Q (some (vi 0)) G41) ∧ (¬ (r40 = 0) → isO E G41 x0 5 ∧ (wpI E (d - 1) M_X5_leave [vr x0, vi 41] G41 (fun r42 G43 => (r42 = 0 → Q (some (vi 0)) G43) ∧ (¬ (r42 = 0) → Q (some (vi 1)) G43)))))))))))))))))))))))))))) ∧ (¬ (r18 = 0) → isO E G19 x0 5 ∧ (wpI E (d - 1) M_X5_extreme [vr x0, vi 12] G19 (fun r51 G52 => okI .boolean r51 ∧ Q (some (vi r51)) G52))))))) ∧ (¬ (r15 = 0) → isO E G16 x0 5 ∧ (wpI E (d - 1) M_X5_extreme [vr x0, vi 11] G16 (fun r55 G56 => okI .boolean r55 ∧ Q (some (vi r55)) G56))))))) ∧ (¬ (r12 = 0) → isO E G13 x0 5 ∧ (isO E G13 (gR G13 x0 0) 10 ∧ (wpV E (d - 1) M_X10_step [vr (gR G13 x0 0)] G13 (fun G60 => isO E G60 x0 5 ∧ (wpI E (d - 1) M_X5_enter [vr x0, vi 40] G60 (fun r61 G62 => (r61 = 0 → Q (some (vi 0)) G62) ∧ (¬ (r61 = 0) → isO E G62 x0 5 ∧ (wpI E (d - 1) M_X5_sum [vr x0] G62 (fun r63 G64 => (r63 = 0 → Q (some (vi 0)) G64) ∧ (¬ (r63 = 0) → isO E G64 x0 5 ∧ (wpI E (d - 1) M_X5_leave [vr x0, vi 41] G64 (fun r65 G66 => (r65 = 0 → Q (some (vi 0)) G66) ∧ (¬ (r65 = 0) → isO E G66 x0 5 ∧ (isO E G66 (gR G66 x0 2) 2 ∧ (wpI E (d - 1) M_X2_emit [vr (gR G66 x0 2), vi 4, vi 0] G66 (fun r68 G69 => (r68 = 0 → Q (some (vi 0)) G69) ∧ (¬ (r68 = 0) → Q (some (vi 1)) G69))))))))))))))))))))) ∧ (¬ (r9 = 0) → isO E G10 x0 5 ∧ (wpI E (d - 1) M_X5_enter [vr x0, vi 91] G10 (fun r76 G77 => (r76 = 0 → Q (some (vi 0)) G77) ∧ (¬ (r76 = 0) → isO E G77 x0 5 ∧ (wpI E (d - 1) M_X5_test [vr x0] G77 (fun r78 G79 => (r78 = 0 → Q (some (vi 0)) G79) ∧ (¬ (r78 = 0) → isO E G79 x0 5 ∧ (wpI E (d - 1) M_X5_leave [vr x0, vi 93] G79 (fun r80 G81 => (r80 = 0 → Q (some (vi 0)) G81) ∧ (¬ (r80 = 0) → isO E G81 x0 5 ∧ (isO E G81 (gR G81 x0 2) 2 ∧ (wpI E (d - 1) M_X2_emit [vr (gR G81 x0 2), vi 5, vi 0] G81 (fun r83 G84 => (r83 = 0 → Q (some (vi 0)) G84) ∧ (¬ (r83 = 0) → Q (some (vi 1)) G84)))))))))))))))))) ∧ (¬ (r6 = 0) → isO E G7 x0 5 ∧ (wpI E (d - 1) M_X5_enter [vr x0, vi 40] G7 (fun r90 G91 => (r90 = 0 → Q (some (vi 0)) G91) ∧ (¬ (r90 = 0) → isO E G91 x0 5 ∧ (wpI E (d - 1) M_X5_sum [vr x0] G91 (fun r92 G93 => (r92 = 0 → Q (some (vi 0)) G93) ∧ (¬ (r92 = 0) → isO E G93 x0 5 ∧ (wpI E (d - 1) M_X5_leave [vr x0, vi 41] G93 (fun r94 G95 => (r94 = 0 → Q (some (vi 0)) G95) ∧ (¬ (r94 = 0) → Q (some (vi 1)) G95)))))))))))))) ∧ (¬ (r3 = 0) → isO E G4 x0 5 ∧ (wpI E (d - 1) M_X5_enter [vr x0, vi 45] G4 (fun r100 G101 => (r100 = 0 → Q (some (vi 0)) G101) ∧ (¬ (r100 = 0) → isO E G101 x0 5 ∧ (wpI E (d - 1) M_X5_factor [vr x0] G101 (fun r102 G103 => (¬ r102 = 0 → isO E G103 x0 5 ∧ (isO E G103 (gR G103 x0 2) 2 ∧ (wpI E (d - 1) M_X2_emit [vr (gR G103 x0 2), vi 3, vi 0] (sI G103 x0 7 ((gI G103 x0 7) - 1)) (fun r105 G106 => okI .boolean r105 ∧ Q (some (vi r105)) G106)))) ∧ (r102 = 0 → Q (some (vi 0)) G103))))))))) ∧ ((gI G (gR G x0 0) 6) = 3 → isO E G (gR G x0 2) 2 ∧ (wpI E (d - 1) M_X2_emit [vr (gR G x0 2), vi 0, vi (Int64.toInt32 (gJ G (gR G x0 0) 7))] G (fun r110 G111 => isO E G111 x0 5 ∧ (isO E G111 (gR G111 x0 0) 10 ∧ (wpV E (d - 1) M_X10_step [vr (gR G111 x0 0)] G111 (fun G113 => Q (some (vi 1)) G113))))))) ∧ ((gI G (gR G x0 0) 6) = 2 → wpI E (d - 1) M_X5_namedFactor [vr x0] G (fun r116 G117 => okI .boolean r116 ∧ Q (some (vi r116)) G117))))) : wp E d M_X5_factor 0 [some (vr x0)] [] G Q := by
  refine wp_aload_n (pc := 0) d_X5_factor_0 rfl ?_
  obtain ⟨ho1, h⟩ := h
  refine wp_getR (pc := 1) d_X5_factor_1 fl_X5_46 (fun _ _ _ => rfl) ho1 ?_
  obtain ⟨ho2, h⟩ := h
  refine wp_getI (pc := 4) d_X5_factor_4 fl_X5_71 (fun _ _ _ => rfl) ho2 ?_
  refine wp_iconst (pc := 7) (v := 2) d_X5_factor_7 rfl ?_
  refine wp_icmp_ne (pc := 8) (tgt := 16) d_X5_factor_8 (by decide) (fun hc => ?_) (fun hc => ?_)
  · have h := h.1 hc
    refine wp_aload_n (pc := 16) d_X5_factor_16 rfl ?_
    refine wp_getR (pc := 17) d_X5_factor_17 fl_X5_46 (fun _ _ _ => rfl) ho1 ?_
    refine wp_getI (pc := 20) d_X5_factor_20 fl_X5_71 (fun _ _ _ => rfl) ho2 ?_
    refine wp_iconst (pc := 23) (v := 3) d_X5_factor_23 rfl ?_
    refine wp_icmp_ne (pc := 24) (tgt := 53) d_X5_factor_24 (by decide) (fun hc => ?_) (fun hc => ?_)
    · have h := h.1 hc
      refine wp_aload_n (pc := 53) d_X5_factor_53 rfl ?_
      refine wp_getR (pc := 54) d_X5_factor_54 fl_X5_46 (fun _ _ _ => rfl) ho1 ?_
      refine wp_bipush (pc := 57) (v := 45) d_X5_factor_57 rfl ?_
      refine wp_invV (pc := 59) (N := M_X10_is) (As := [vi _]) (rest := []) (r := (cn_10, ct_10, 12)) d_X5_factor_59 ml_X5_78 mk_X10_is mv_X10_is h0 ho2 rfl rfl (Nat.le_of_ble_eq_true rfl) ?_
      refine wpM.mono h (fun rr G4 hr => ?_)
      obtain ⟨r3, rfl, h⟩ := hr
      show wp E d M_X5_factor 62 [some (vr _)] [vi _] G4 Q
      refine wp_if_eq (pc := 62) (tgt := 103) d_X5_factor_62 (by decide) (fun hc => ?_) (fun hc => ?_)
      · have h := h.1 hc
        refine wp_aload_n (pc := 103) d_X5_factor_103 rfl ?_
        obtain ⟨ho5, h⟩ := h
        refine wp_getR (pc := 104) d_X5_factor_104 fl_X5_46 (fun _ _ _ => rfl) ho5 ?_
        refine wp_bipush (pc := 107) (v := 40) d_X5_factor_107 rfl ?_
        obtain ⟨ho99, h⟩ := h
        refine wp_invV (pc := 109) (N := M_X10_is) (As := [vi _]) (rest := []) (r := (cn_10, ct_10, 12)) d_X5_factor_109 ml_X5_78 mk_X10_is mv_X10_is h0 ho99 rfl rfl (Nat.le_of_ble_eq_true rfl) ?_
        refine wpM.mono h (fun rr G7 hr => ?_)
        obtain ⟨r6, rfl, h⟩ := hr
        show wp E d M_X5_factor 112 [some (vr _)] [vi _] G7 Q
        refine wp_if_eq (pc := 112) (tgt := 146) d_X5_factor_112 (by decide) (fun hc => ?_) (fun hc => ?_)
        · have h := h.1 hc
          refine wp_aload_n (pc := 146) d_X5_factor_146 rfl ?_
          obtain ⟨ho8, h⟩ := h
          refine wp_getR (pc := 147) d_X5_factor_147 fl_X5_46 (fun _ _ _ => rfl) ho8 ?_
          refine wp_bipush (pc := 150) (v := 91) d_X5_factor_150 rfl ?_
          obtain ⟨ho89, h⟩ := h
          refine wp_invV (pc := 152) (N := M_X10_is) (As := [vi _]) (rest := []) (r := (cn_10, ct_10, 12)) d_X5_factor_152 ml_X5_78 mk_X10_is mv_X10_is h0 ho89 rfl rfl (Nat.le_of_ble_eq_true rfl) ?_
          refine wpM.mono h (fun rr G10 hr => ?_)
          obtain ⟨r9, rfl, h⟩ := hr
          show wp E d M_X5_factor 155 [some (vr _)] [vi _] G10 Q
          refine wp_if_eq (pc := 155) (tgt := 201) d_X5_factor_155 (by decide) (fun hc => ?_) (fun hc => ?_)
          · have h := h.1 hc
            refine wp_aload_n (pc := 201) d_X5_factor_201 rfl ?_
            obtain ⟨ho11, h⟩ := h
            refine wp_getR (pc := 202) d_X5_factor_202 fl_X5_46 (fun _ _ _ => rfl) ho11 ?_
            refine wp_bipush (pc := 205) (v := 13) d_X5_factor_205 rfl ?_
            obtain ⟨ho75, h⟩ := h
            refine wp_invV (pc := 207) (N := M_X10_is) (As := [vi _]) (rest := []) (r := (cn_10, ct_10, 12)) d_X5_factor_207 ml_X5_78 mk_X10_is mv_X10_is h0 ho75 rfl rfl (Nat.le_of_ble_eq_true rfl) ?_
            refine wpM.mono h (fun rr G13 hr => ?_)
            obtain ⟨r12, rfl, h⟩ := hr
            show wp E d M_X5_factor 210 [some (vr _)] [vi _] G13 Q
            refine wp_if_eq (pc := 210) (tgt := 263) d_X5_factor_210 (by decide) (fun hc => ?_) (fun hc => ?_)
            · have h := h.1 hc
              refine wp_aload_n (pc := 263) d_X5_factor_263 rfl ?_
              obtain ⟨ho14, h⟩ := h
              refine wp_getR (pc := 264) d_X5_factor_264 fl_X5_46 (fun _ _ _ => rfl) ho14 ?_
              refine wp_bipush (pc := 267) (v := 14) d_X5_factor_267 rfl ?_
              obtain ⟨ho58, h⟩ := h
              refine wp_invV (pc := 269) (N := M_X10_is) (As := [vi _]) (rest := []) (r := (cn_10, ct_10, 12)) d_X5_factor_269 ml_X5_78 mk_X10_is mv_X10_is h0 ho58 rfl rfl (Nat.le_of_ble_eq_true rfl) ?_
              refine wpM.mono h (fun rr G16 hr => ?_)
              obtain ⟨r15, rfl, h⟩ := hr
              show wp E d M_X5_factor 272 [some (vr _)] [vi _] G16 Q
              refine wp_if_eq (pc := 272) (tgt := 282) d_X5_factor_272 (by decide) (fun hc => ?_) (fun hc => ?_)
              · have h := h.1 hc
                refine wp_aload_n (pc := 282) d_X5_factor_282 rfl ?_
                obtain ⟨ho17, h⟩ := h
                refine wp_getR (pc := 283) d_X5_factor_283 fl_X5_46 (fun _ _ _ => rfl) ho17 ?_
                refine wp_bipush (pc := 286) (v := 15) d_X5_factor_286 rfl ?_
                obtain ⟨ho54, h⟩ := h
                refine wp_invV (pc := 288) (N := M_X10_is) (As := [vi _]) (rest := []) (r := (cn_10, ct_10, 12)) d_X5_factor_288 ml_X5_78 mk_X10_is mv_X10_is h0 ho54 rfl rfl (Nat.le_of_ble_eq_true rfl) ?_
                refine wpM.mono h (fun rr G19 hr => ?_)
                obtain ⟨r18, rfl, h⟩ := hr
                show wp E d M_X5_factor 291 [some (vr _)] [vi _] G19 Q
                refine wp_if_eq (pc := 291) (tgt := 301) d_X5_factor_291 (by decide) (fun hc => ?_) (fun hc => ?_)
                · have h := h.1 hc
                  refine wp_aload_n (pc := 301) d_X5_factor_301 rfl ?_
                  obtain ⟨ho20, h⟩ := h
                  refine wp_getR (pc := 302) d_X5_factor_302 fl_X5_46 (fun _ _ _ => rfl) ho20 ?_
                  refine wp_bipush (pc := 305) (v := 16) d_X5_factor_305 rfl ?_
                  obtain ⟨ho50, h⟩ := h
                  refine wp_invV (pc := 307) (N := M_X10_is) (As := [vi _]) (rest := []) (r := (cn_10, ct_10, 12)) d_X5_factor_307 ml_X5_78 mk_X10_is mv_X10_is h0 ho50 rfl rfl (Nat.le_of_ble_eq_true rfl) ?_
                  refine wpM.mono h (fun rr G22 hr => ?_)
                  obtain ⟨r21, rfl, h⟩ := hr
                  show wp E d M_X5_factor 310 [some (vr _)] [vi _] G22 Q
                  refine wp_if_eq (pc := 310) (tgt := 395) d_X5_factor_310 (by decide) (fun hc => ?_) (fun hc => ?_)
                  · have h := h.1 hc
                    refine wp_aload_n (pc := 395) d_X5_factor_395 rfl ?_
                    obtain ⟨ho23, h⟩ := h
                    refine wp_getR (pc := 396) d_X5_factor_396 fl_X5_46 (fun _ _ _ => rfl) ho23 ?_
                    obtain ⟨ho26, h⟩ := h
                    refine wp_invV (pc := 399) (N := M_X10_refuse) (As := []) (rest := []) (r := (cn_10, ct_10, 12)) d_X5_factor_399 ml_X5_94 mk_X10_refuse mv_X10_refuse h0 ho26 rfl rfl (Nat.le_of_ble_eq_true rfl) ?_
                    refine wpM.mono h (fun rr G25 hr => ?_)
                    obtain ⟨r24, rfl, h⟩ := hr
                    show wp E d M_X5_factor 402 [some (vr _)] [vi _] G25 Q
                    exact wp_zret (pc := 402) d_X5_factor_402 rfl h.1.1 h.2
                  · have h := h.2 hc
                    refine wp_aload_n (pc := 313) d_X5_factor_313 rfl ?_
                    obtain ⟨ho27, h⟩ := h
                    refine wp_getR (pc := 314) d_X5_factor_314 fl_X5_46 (fun _ _ _ => rfl) ho27 ?_
                    obtain ⟨ho49, h⟩ := h
                    refine wp_invV (pc := 317) (N := M_X10_step) (As := []) (rest := []) (r := (cn_10, ct_10, 12)) d_X5_factor_317 ml_X5_180 mk_X10_step mv_X10_step h0 ho49 rfl rfl (Nat.le_of_ble_eq_true rfl) ?_
                    refine wpM.mono h (fun rr G28 hr => ?_)
                    obtain ⟨rfl, h⟩ := hr
                    show wp E d M_X5_factor 320 [some (vr _)] [] G28 Q
                    refine wp_aload_n (pc := 320) d_X5_factor_320 rfl ?_
                    refine wp_bipush (pc := 321) (v := 40) d_X5_factor_321 rfl ?_
                    obtain ⟨ho48, h⟩ := h
                    refine wp_invV (pc := 323) (N := M_X5_enter) (As := [vi _]) (rest := []) (r := (cn_5, ct_5, 11)) d_X5_factor_323 ml_X5_193 mk_X5_enter mv_X5_enter h0 ho48 rfl rfl (Nat.le_of_ble_eq_true rfl) ?_
                    refine wpM.mono h (fun rr G30 hr => ?_)
                    obtain ⟨r29, rfl, h⟩ := hr
                    show wp E d M_X5_factor 326 [some (vr _)] [vi _] G30 Q
                    refine wp_if_eq (pc := 326) (tgt := 393) d_X5_factor_326 (by decide) (fun hc => ?_) (fun hc => ?_)
                    · have h := h.1 hc
                      refine wp_iconst (pc := 393) (v := 0) d_X5_factor_393 rfl ?_
                      exact wp_zret (pc := 394) d_X5_factor_394 rfl rfl h
                    · have h := h.2 hc
                      refine wp_aload_n (pc := 329) d_X5_factor_329 rfl ?_
                      obtain ⟨ho47, h⟩ := h
                      refine wp_invV (pc := 330) (N := M_X5_sum) (As := []) (rest := []) (r := (cn_5, ct_5, 11)) d_X5_factor_330 ml_X5_177 mk_X5_sum mv_X5_sum h0 ho47 rfl rfl (Nat.le_of_ble_eq_true rfl) ?_
                      refine wpM.mono h (fun rr G32 hr => ?_)
                      obtain ⟨r31, rfl, h⟩ := hr
                      show wp E d M_X5_factor 333 [some (vr _)] [vi _] G32 Q
                      refine wp_if_eq (pc := 333) (tgt := 393) d_X5_factor_333 (by decide) (fun hc => ?_) (fun hc => ?_)
                      · have h := h.1 hc
                        refine wp_iconst (pc := 393) (v := 0) d_X5_factor_393 rfl ?_
                        exact wp_zret (pc := 394) d_X5_factor_394 rfl rfl h
                      · have h := h.2 hc
                        refine wp_aload_n (pc := 336) d_X5_factor_336 rfl ?_
                        obtain ⟨ho33, h⟩ := h
                        refine wp_getR (pc := 337) d_X5_factor_337 fl_X5_46 (fun _ _ _ => rfl) ho33 ?_
                        refine wp_bipush (pc := 340) (v := 58) d_X5_factor_340 rfl ?_
                        obtain ⟨ho46, h⟩ := h
                        refine wp_invV (pc := 342) (N := M_X10_accept) (As := [vi _]) (rest := []) (r := (cn_10, ct_10, 12)) d_X5_factor_342 ml_X5_124 mk_X10_accept mv_X10_accept h0 ho46 rfl rfl (Nat.le_of_ble_eq_true rfl) ?_
                        refine wpM.mono h (fun rr G35 hr => ?_)
                        obtain ⟨r34, rfl, h⟩ := hr
                        show wp E d M_X5_factor 345 [some (vr _)] [vi _] G35 Q
                        refine wp_if_eq (pc := 345) (tgt := 393) d_X5_factor_345 (by decide) (fun hc => ?_) (fun hc => ?_)
                        · have h := h.1 hc
                          refine wp_iconst (pc := 393) (v := 0) d_X5_factor_393 rfl ?_
                          exact wp_zret (pc := 394) d_X5_factor_394 rfl rfl h
                        · have h := h.2 hc
                          refine wp_aload_n (pc := 348) d_X5_factor_348 rfl ?_
                          obtain ⟨ho36, h⟩ := h
                          refine wp_getR (pc := 349) d_X5_factor_349 fl_X5_15 (fun _ _ _ => rfl) ho36 ?_
                          refine wp_bipush (pc := 352) (v := 7) d_X5_factor_352 rfl ?_
                          refine wp_aload_n (pc := 354) d_X5_factor_354 rfl ?_
                          refine wp_getR (pc := 355) d_X5_factor_355 fl_X5_15 (fun _ _ _ => rfl) ho36 ?_
                          obtain ⟨ho37, h⟩ := h
                          refine wp_getI (pc := 358) d_X5_factor_358 fl_X5_212 (fun _ _ _ => rfl) ho37 ?_
                          refine wp_invV (pc := 361) (N := M_X2_emit) (As := [vi _, vi _]) (rest := []) (r := (cn_2, ct_2, 15)) d_X5_factor_361 ml_X5_196 mk_X2_emit mv_X2_emit h0 ho37 rfl rfl (Nat.le_of_ble_eq_true rfl) ?_
                          refine wpM.mono h (fun rr G39 hr => ?_)
                          obtain ⟨r38, rfl, h⟩ := hr
                          show wp E d M_X5_factor 364 [some (vr _)] [vi _] G39 Q
                          refine wp_if_eq (pc := 364) (tgt := 393) d_X5_factor_364 (by decide) (fun hc => ?_) (fun hc => ?_)
                          · have h := h.1 hc
                            refine wp_iconst (pc := 393) (v := 0) d_X5_factor_393 rfl ?_
                            exact wp_zret (pc := 394) d_X5_factor_394 rfl rfl h
                          · have h := h.2 hc
                            refine wp_aload_n (pc := 367) d_X5_factor_367 rfl ?_
                            refine wp_iconst (pc := 368) (v := 1) d_X5_factor_368 rfl ?_
                            refine wp_bipush (pc := 369) (v := 20) d_X5_factor_369 rfl ?_
                            refine wp_sipush (pc := 371) (v := 9999) d_X5_factor_371 rfl ?_
                            obtain ⟨ho45, h⟩ := h
                            refine wp_invV (pc := 374) (N := M_X5_numerals) (As := [vi _, vi _, vi _]) (rest := []) (r := (cn_5, ct_5, 11)) d_X5_factor_374 ml_X5_234 mk_X5_numerals mv_X5_numerals h0 ho45 rfl rfl (Nat.le_of_ble_eq_true rfl) ?_
                            refine wpM.mono h (fun rr G41 hr => ?_)
                            obtain ⟨r40, rfl, h⟩ := hr
                            show wp E d M_X5_factor 377 [some (vr _)] [vi _] G41 Q
                            refine wp_if_eq (pc := 377) (tgt := 393) d_X5_factor_377 (by decide) (fun hc => ?_) (fun hc => ?_)
                            · have h := h.1 hc
                              refine wp_iconst (pc := 393) (v := 0) d_X5_factor_393 rfl ?_
                              exact wp_zret (pc := 394) d_X5_factor_394 rfl rfl h
                            · have h := h.2 hc
                              refine wp_aload_n (pc := 380) d_X5_factor_380 rfl ?_
                              refine wp_bipush (pc := 381) (v := 41) d_X5_factor_381 rfl ?_
                              obtain ⟨ho44, h⟩ := h
                              refine wp_invV (pc := 383) (N := M_X5_leave) (As := [vi _]) (rest := []) (r := (cn_5, ct_5, 11)) d_X5_factor_383 ml_X5_205 mk_X5_leave mv_X5_leave h0 ho44 rfl rfl (Nat.le_of_ble_eq_true rfl) ?_
                              refine wpM.mono h (fun rr G43 hr => ?_)
                              obtain ⟨r42, rfl, h⟩ := hr
                              show wp E d M_X5_factor 386 [some (vr _)] [vi _] G43 Q
                              refine wp_if_eq (pc := 386) (tgt := 393) d_X5_factor_386 (by decide) (fun hc => ?_) (fun hc => ?_)
                              · have h := h.1 hc
                                refine wp_iconst (pc := 393) (v := 0) d_X5_factor_393 rfl ?_
                                exact wp_zret (pc := 394) d_X5_factor_394 rfl rfl h
                              · have h := h.2 hc
                                refine wp_iconst (pc := 389) (v := 1) d_X5_factor_389 rfl ?_
                                refine wp_goto (pc := 390) (tgt := 394) d_X5_factor_390 (by decide) ?_
                                exact wp_zret (pc := 394) d_X5_factor_394 rfl rfl h
                · have h := h.2 hc
                  refine wp_aload_n (pc := 294) d_X5_factor_294 rfl ?_
                  refine wp_bipush (pc := 295) (v := 12) d_X5_factor_295 rfl ?_
                  obtain ⟨ho53, h⟩ := h
                  refine wp_invV (pc := 297) (N := M_X5_extreme) (As := [vi _]) (rest := []) (r := (cn_5, ct_5, 11)) d_X5_factor_297 ml_X5_231 mk_X5_extreme mv_X5_extreme h0 ho53 rfl rfl (Nat.le_of_ble_eq_true rfl) ?_
                  refine wpM.mono h (fun rr G52 hr => ?_)
                  obtain ⟨r51, rfl, h⟩ := hr
                  show wp E d M_X5_factor 300 [some (vr _)] [vi _] G52 Q
                  exact wp_zret (pc := 300) d_X5_factor_300 rfl h.1.1 h.2
              · have h := h.2 hc
                refine wp_aload_n (pc := 275) d_X5_factor_275 rfl ?_
                refine wp_bipush (pc := 276) (v := 11) d_X5_factor_276 rfl ?_
                obtain ⟨ho57, h⟩ := h
                refine wp_invV (pc := 278) (N := M_X5_extreme) (As := [vi _]) (rest := []) (r := (cn_5, ct_5, 11)) d_X5_factor_278 ml_X5_231 mk_X5_extreme mv_X5_extreme h0 ho57 rfl rfl (Nat.le_of_ble_eq_true rfl) ?_
                refine wpM.mono h (fun rr G56 hr => ?_)
                obtain ⟨r55, rfl, h⟩ := hr
                show wp E d M_X5_factor 281 [some (vr _)] [vi _] G56 Q
                exact wp_zret (pc := 281) d_X5_factor_281 rfl h.1.1 h.2
            · have h := h.2 hc
              refine wp_aload_n (pc := 213) d_X5_factor_213 rfl ?_
              obtain ⟨ho59, h⟩ := h
              refine wp_getR (pc := 214) d_X5_factor_214 fl_X5_46 (fun _ _ _ => rfl) ho59 ?_
              obtain ⟨ho74, h⟩ := h
              refine wp_invV (pc := 217) (N := M_X10_step) (As := []) (rest := []) (r := (cn_10, ct_10, 12)) d_X5_factor_217 ml_X5_180 mk_X10_step mv_X10_step h0 ho74 rfl rfl (Nat.le_of_ble_eq_true rfl) ?_
              refine wpM.mono h (fun rr G60 hr => ?_)
              obtain ⟨rfl, h⟩ := hr
              show wp E d M_X5_factor 220 [some (vr _)] [] G60 Q
              refine wp_aload_n (pc := 220) d_X5_factor_220 rfl ?_
              refine wp_bipush (pc := 221) (v := 40) d_X5_factor_221 rfl ?_
              obtain ⟨ho73, h⟩ := h
              refine wp_invV (pc := 223) (N := M_X5_enter) (As := [vi _]) (rest := []) (r := (cn_5, ct_5, 11)) d_X5_factor_223 ml_X5_193 mk_X5_enter mv_X5_enter h0 ho73 rfl rfl (Nat.le_of_ble_eq_true rfl) ?_
              refine wpM.mono h (fun rr G62 hr => ?_)
              obtain ⟨r61, rfl, h⟩ := hr
              show wp E d M_X5_factor 226 [some (vr _)] [vi _] G62 Q
              refine wp_if_eq (pc := 226) (tgt := 261) d_X5_factor_226 (by decide) (fun hc => ?_) (fun hc => ?_)
              · have h := h.1 hc
                refine wp_iconst (pc := 261) (v := 0) d_X5_factor_261 rfl ?_
                exact wp_zret (pc := 262) d_X5_factor_262 rfl rfl h
              · have h := h.2 hc
                refine wp_aload_n (pc := 229) d_X5_factor_229 rfl ?_
                obtain ⟨ho72, h⟩ := h
                refine wp_invV (pc := 230) (N := M_X5_sum) (As := []) (rest := []) (r := (cn_5, ct_5, 11)) d_X5_factor_230 ml_X5_177 mk_X5_sum mv_X5_sum h0 ho72 rfl rfl (Nat.le_of_ble_eq_true rfl) ?_
                refine wpM.mono h (fun rr G64 hr => ?_)
                obtain ⟨r63, rfl, h⟩ := hr
                show wp E d M_X5_factor 233 [some (vr _)] [vi _] G64 Q
                refine wp_if_eq (pc := 233) (tgt := 261) d_X5_factor_233 (by decide) (fun hc => ?_) (fun hc => ?_)
                · have h := h.1 hc
                  refine wp_iconst (pc := 261) (v := 0) d_X5_factor_261 rfl ?_
                  exact wp_zret (pc := 262) d_X5_factor_262 rfl rfl h
                · have h := h.2 hc
                  refine wp_aload_n (pc := 236) d_X5_factor_236 rfl ?_
                  refine wp_bipush (pc := 237) (v := 41) d_X5_factor_237 rfl ?_
                  obtain ⟨ho71, h⟩ := h
                  refine wp_invV (pc := 239) (N := M_X5_leave) (As := [vi _]) (rest := []) (r := (cn_5, ct_5, 11)) d_X5_factor_239 ml_X5_205 mk_X5_leave mv_X5_leave h0 ho71 rfl rfl (Nat.le_of_ble_eq_true rfl) ?_
                  refine wpM.mono h (fun rr G66 hr => ?_)
                  obtain ⟨r65, rfl, h⟩ := hr
                  show wp E d M_X5_factor 242 [some (vr _)] [vi _] G66 Q
                  refine wp_if_eq (pc := 242) (tgt := 261) d_X5_factor_242 (by decide) (fun hc => ?_) (fun hc => ?_)
                  · have h := h.1 hc
                    refine wp_iconst (pc := 261) (v := 0) d_X5_factor_261 rfl ?_
                    exact wp_zret (pc := 262) d_X5_factor_262 rfl rfl h
                  · have h := h.2 hc
                    refine wp_aload_n (pc := 245) d_X5_factor_245 rfl ?_
                    obtain ⟨ho67, h⟩ := h
                    refine wp_getR (pc := 246) d_X5_factor_246 fl_X5_15 (fun _ _ _ => rfl) ho67 ?_
                    refine wp_iconst (pc := 249) (v := 4) d_X5_factor_249 rfl ?_
                    refine wp_iconst (pc := 250) (v := 0) d_X5_factor_250 rfl ?_
                    obtain ⟨ho70, h⟩ := h
                    refine wp_invV (pc := 251) (N := M_X2_emit) (As := [vi _, vi _]) (rest := []) (r := (cn_2, ct_2, 15)) d_X5_factor_251 ml_X5_196 mk_X2_emit mv_X2_emit h0 ho70 rfl rfl (Nat.le_of_ble_eq_true rfl) ?_
                    refine wpM.mono h (fun rr G69 hr => ?_)
                    obtain ⟨r68, rfl, h⟩ := hr
                    show wp E d M_X5_factor 254 [some (vr _)] [vi _] G69 Q
                    refine wp_if_eq (pc := 254) (tgt := 261) d_X5_factor_254 (by decide) (fun hc => ?_) (fun hc => ?_)
                    · have h := h.1 hc
                      refine wp_iconst (pc := 261) (v := 0) d_X5_factor_261 rfl ?_
                      exact wp_zret (pc := 262) d_X5_factor_262 rfl rfl h
                    · have h := h.2 hc
                      refine wp_iconst (pc := 257) (v := 1) d_X5_factor_257 rfl ?_
                      refine wp_goto (pc := 258) (tgt := 262) d_X5_factor_258 (by decide) ?_
                      exact wp_zret (pc := 262) d_X5_factor_262 rfl rfl h
          · have h := h.2 hc
            refine wp_aload_n (pc := 158) d_X5_factor_158 rfl ?_
            refine wp_bipush (pc := 159) (v := 91) d_X5_factor_159 rfl ?_
            obtain ⟨ho88, h⟩ := h
            refine wp_invV (pc := 161) (N := M_X5_enter) (As := [vi _]) (rest := []) (r := (cn_5, ct_5, 11)) d_X5_factor_161 ml_X5_193 mk_X5_enter mv_X5_enter h0 ho88 rfl rfl (Nat.le_of_ble_eq_true rfl) ?_
            refine wpM.mono h (fun rr G77 hr => ?_)
            obtain ⟨r76, rfl, h⟩ := hr
            show wp E d M_X5_factor 164 [some (vr _)] [vi _] G77 Q
            refine wp_if_eq (pc := 164) (tgt := 199) d_X5_factor_164 (by decide) (fun hc => ?_) (fun hc => ?_)
            · have h := h.1 hc
              refine wp_iconst (pc := 199) (v := 0) d_X5_factor_199 rfl ?_
              exact wp_zret (pc := 200) d_X5_factor_200 rfl rfl h
            · have h := h.2 hc
              refine wp_aload_n (pc := 167) d_X5_factor_167 rfl ?_
              obtain ⟨ho87, h⟩ := h
              refine wp_invV (pc := 168) (N := M_X5_test) (As := []) (rest := []) (r := (cn_5, ct_5, 11)) d_X5_factor_168 ml_X5_166 mk_X5_test mv_X5_test h0 ho87 rfl rfl (Nat.le_of_ble_eq_true rfl) ?_
              refine wpM.mono h (fun rr G79 hr => ?_)
              obtain ⟨r78, rfl, h⟩ := hr
              show wp E d M_X5_factor 171 [some (vr _)] [vi _] G79 Q
              refine wp_if_eq (pc := 171) (tgt := 199) d_X5_factor_171 (by decide) (fun hc => ?_) (fun hc => ?_)
              · have h := h.1 hc
                refine wp_iconst (pc := 199) (v := 0) d_X5_factor_199 rfl ?_
                exact wp_zret (pc := 200) d_X5_factor_200 rfl rfl h
              · have h := h.2 hc
                refine wp_aload_n (pc := 174) d_X5_factor_174 rfl ?_
                refine wp_bipush (pc := 175) (v := 93) d_X5_factor_175 rfl ?_
                obtain ⟨ho86, h⟩ := h
                refine wp_invV (pc := 177) (N := M_X5_leave) (As := [vi _]) (rest := []) (r := (cn_5, ct_5, 11)) d_X5_factor_177 ml_X5_205 mk_X5_leave mv_X5_leave h0 ho86 rfl rfl (Nat.le_of_ble_eq_true rfl) ?_
                refine wpM.mono h (fun rr G81 hr => ?_)
                obtain ⟨r80, rfl, h⟩ := hr
                show wp E d M_X5_factor 180 [some (vr _)] [vi _] G81 Q
                refine wp_if_eq (pc := 180) (tgt := 199) d_X5_factor_180 (by decide) (fun hc => ?_) (fun hc => ?_)
                · have h := h.1 hc
                  refine wp_iconst (pc := 199) (v := 0) d_X5_factor_199 rfl ?_
                  exact wp_zret (pc := 200) d_X5_factor_200 rfl rfl h
                · have h := h.2 hc
                  refine wp_aload_n (pc := 183) d_X5_factor_183 rfl ?_
                  obtain ⟨ho82, h⟩ := h
                  refine wp_getR (pc := 184) d_X5_factor_184 fl_X5_15 (fun _ _ _ => rfl) ho82 ?_
                  refine wp_iconst (pc := 187) (v := 5) d_X5_factor_187 rfl ?_
                  refine wp_iconst (pc := 188) (v := 0) d_X5_factor_188 rfl ?_
                  obtain ⟨ho85, h⟩ := h
                  refine wp_invV (pc := 189) (N := M_X2_emit) (As := [vi _, vi _]) (rest := []) (r := (cn_2, ct_2, 15)) d_X5_factor_189 ml_X5_196 mk_X2_emit mv_X2_emit h0 ho85 rfl rfl (Nat.le_of_ble_eq_true rfl) ?_
                  refine wpM.mono h (fun rr G84 hr => ?_)
                  obtain ⟨r83, rfl, h⟩ := hr
                  show wp E d M_X5_factor 192 [some (vr _)] [vi _] G84 Q
                  refine wp_if_eq (pc := 192) (tgt := 199) d_X5_factor_192 (by decide) (fun hc => ?_) (fun hc => ?_)
                  · have h := h.1 hc
                    refine wp_iconst (pc := 199) (v := 0) d_X5_factor_199 rfl ?_
                    exact wp_zret (pc := 200) d_X5_factor_200 rfl rfl h
                  · have h := h.2 hc
                    refine wp_iconst (pc := 195) (v := 1) d_X5_factor_195 rfl ?_
                    refine wp_goto (pc := 196) (tgt := 200) d_X5_factor_196 (by decide) ?_
                    exact wp_zret (pc := 200) d_X5_factor_200 rfl rfl h
        · have h := h.2 hc
          refine wp_aload_n (pc := 115) d_X5_factor_115 rfl ?_
          refine wp_bipush (pc := 116) (v := 40) d_X5_factor_116 rfl ?_
          obtain ⟨ho98, h⟩ := h
          refine wp_invV (pc := 118) (N := M_X5_enter) (As := [vi _]) (rest := []) (r := (cn_5, ct_5, 11)) d_X5_factor_118 ml_X5_193 mk_X5_enter mv_X5_enter h0 ho98 rfl rfl (Nat.le_of_ble_eq_true rfl) ?_
          refine wpM.mono h (fun rr G91 hr => ?_)
          obtain ⟨r90, rfl, h⟩ := hr
          show wp E d M_X5_factor 121 [some (vr _)] [vi _] G91 Q
          refine wp_if_eq (pc := 121) (tgt := 144) d_X5_factor_121 (by decide) (fun hc => ?_) (fun hc => ?_)
          · have h := h.1 hc
            refine wp_iconst (pc := 144) (v := 0) d_X5_factor_144 rfl ?_
            exact wp_zret (pc := 145) d_X5_factor_145 rfl rfl h
          · have h := h.2 hc
            refine wp_aload_n (pc := 124) d_X5_factor_124 rfl ?_
            obtain ⟨ho97, h⟩ := h
            refine wp_invV (pc := 125) (N := M_X5_sum) (As := []) (rest := []) (r := (cn_5, ct_5, 11)) d_X5_factor_125 ml_X5_177 mk_X5_sum mv_X5_sum h0 ho97 rfl rfl (Nat.le_of_ble_eq_true rfl) ?_
            refine wpM.mono h (fun rr G93 hr => ?_)
            obtain ⟨r92, rfl, h⟩ := hr
            show wp E d M_X5_factor 128 [some (vr _)] [vi _] G93 Q
            refine wp_if_eq (pc := 128) (tgt := 144) d_X5_factor_128 (by decide) (fun hc => ?_) (fun hc => ?_)
            · have h := h.1 hc
              refine wp_iconst (pc := 144) (v := 0) d_X5_factor_144 rfl ?_
              exact wp_zret (pc := 145) d_X5_factor_145 rfl rfl h
            · have h := h.2 hc
              refine wp_aload_n (pc := 131) d_X5_factor_131 rfl ?_
              refine wp_bipush (pc := 132) (v := 41) d_X5_factor_132 rfl ?_
              obtain ⟨ho96, h⟩ := h
              refine wp_invV (pc := 134) (N := M_X5_leave) (As := [vi _]) (rest := []) (r := (cn_5, ct_5, 11)) d_X5_factor_134 ml_X5_205 mk_X5_leave mv_X5_leave h0 ho96 rfl rfl (Nat.le_of_ble_eq_true rfl) ?_
              refine wpM.mono h (fun rr G95 hr => ?_)
              obtain ⟨r94, rfl, h⟩ := hr
              show wp E d M_X5_factor 137 [some (vr _)] [vi _] G95 Q
              refine wp_if_eq (pc := 137) (tgt := 144) d_X5_factor_137 (by decide) (fun hc => ?_) (fun hc => ?_)
              · have h := h.1 hc
                refine wp_iconst (pc := 144) (v := 0) d_X5_factor_144 rfl ?_
                exact wp_zret (pc := 145) d_X5_factor_145 rfl rfl h
              · have h := h.2 hc
                refine wp_iconst (pc := 140) (v := 1) d_X5_factor_140 rfl ?_
                refine wp_goto (pc := 141) (tgt := 145) d_X5_factor_141 (by decide) ?_
                exact wp_zret (pc := 145) d_X5_factor_145 rfl rfl h
      · have h := h.2 hc
        refine wp_aload_n (pc := 65) d_X5_factor_65 rfl ?_
        refine wp_bipush (pc := 66) (v := 45) d_X5_factor_66 rfl ?_
        obtain ⟨ho109, h⟩ := h
        refine wp_invV (pc := 68) (N := M_X5_enter) (As := [vi _]) (rest := []) (r := (cn_5, ct_5, 11)) d_X5_factor_68 ml_X5_193 mk_X5_enter mv_X5_enter h0 ho109 rfl rfl (Nat.le_of_ble_eq_true rfl) ?_
        refine wpM.mono h (fun rr G101 hr => ?_)
        obtain ⟨r100, rfl, h⟩ := hr
        show wp E d M_X5_factor 71 [some (vr _)] [vi _] G101 Q
        refine wp_if_eq (pc := 71) (tgt := 81) d_X5_factor_71 (by decide) (fun hc => ?_) (fun hc => ?_)
        · have h := h.1 hc
          refine wp_iconst (pc := 81) (v := 0) d_X5_factor_81 rfl ?_
          exact wp_zret (pc := 82) d_X5_factor_82 rfl rfl h
        · have h := h.2 hc
          refine wp_aload_n (pc := 74) d_X5_factor_74 rfl ?_
          obtain ⟨ho108, h⟩ := h
          refine wp_invV (pc := 75) (N := M_X5_factor) (As := []) (rest := []) (r := (cn_5, ct_5, 11)) d_X5_factor_75 ml_X5_225 mk_X5_factor mv_X5_factor h0 ho108 rfl rfl (Nat.le_of_ble_eq_true rfl) ?_
          refine wpM.mono h (fun rr G103 hr => ?_)
          obtain ⟨r102, rfl, h⟩ := hr
          show wp E d M_X5_factor 78 [some (vr _)] [vi _] G103 Q
          refine wp_if_ne (pc := 78) (tgt := 83) d_X5_factor_78 (by decide) (fun hc => ?_) (fun hc => ?_)
          · have h := h.1 hc
            refine wp_aload_n (pc := 83) d_X5_factor_83 rfl ?_
            refine wp_dup (pc := 84) d_X5_factor_84 (c1_r _) ?_
            obtain ⟨ho104, h⟩ := h
            refine wp_getI (pc := 85) d_X5_factor_85 fl_X5_33 (fun _ _ _ => rfl) ho104 ?_
            refine wp_iconst (pc := 88) (v := 1) d_X5_factor_88 rfl ?_
            refine wp_isub (pc := 89) d_X5_factor_89 ?_
            refine wp_putI (pc := 90) d_X5_factor_90 fl_X5_33 (fun _ _ _ => rfl) (Or.inl rfl) ho104 (okI_int _) ?_
            refine wp_aload_n (pc := 93) d_X5_factor_93 rfl ?_
            refine wp_getR (pc := 94) d_X5_factor_94 fl_X5_15 (fun _ _ _ => rfl) ho104 ?_
            show wp E d M_X5_factor 97 [some (vr x0)] [vr (gR G103 x0 2)] (sI G103 x0 7 ((gI G103 x0 7) - 1)) Q
            refine wp_iconst (pc := 97) (v := 3) d_X5_factor_97 rfl ?_
            refine wp_iconst (pc := 98) (v := 0) d_X5_factor_98 rfl ?_
            obtain ⟨ho107, h⟩ := h
            refine wp_invV (pc := 99) (N := M_X2_emit) (As := [vi _, vi _]) (rest := []) (r := (cn_2, ct_2, 15)) d_X5_factor_99 ml_X5_196 mk_X2_emit mv_X2_emit h0 ho107 rfl rfl (Nat.le_of_ble_eq_true rfl) ?_
            refine wpM.mono h (fun rr G106 hr => ?_)
            obtain ⟨r105, rfl, h⟩ := hr
            show wp E d M_X5_factor 102 [some (vr _)] [vi _] G106 Q
            exact wp_zret (pc := 102) d_X5_factor_102 rfl h.1.1 h.2
          · have h := h.2 hc
            refine wp_iconst (pc := 81) (v := 0) d_X5_factor_81 rfl ?_
            exact wp_zret (pc := 82) d_X5_factor_82 rfl rfl h
    · have h := h.2 hc
      refine wp_aload_n (pc := 27) d_X5_factor_27 rfl ?_
      refine wp_getR (pc := 28) d_X5_factor_28 fl_X5_15 (fun _ _ _ => rfl) ho1 ?_
      refine wp_iconst (pc := 31) (v := 0) d_X5_factor_31 rfl ?_
      refine wp_aload_n (pc := 32) d_X5_factor_32 rfl ?_
      refine wp_getR (pc := 33) d_X5_factor_33 fl_X5_46 (fun _ _ _ => rfl) ho1 ?_
      refine wp_getJ (pc := 36) d_X5_factor_36 fl_X5_183 (fun _ _ _ => rfl) ho2 ?_
      refine wp_l2i (pc := 39) d_X5_factor_39 ?_
      obtain ⟨ho115, h⟩ := h
      refine wp_invV (pc := 40) (N := M_X2_emit) (As := [vi _, vi _]) (rest := []) (r := (cn_2, ct_2, 15)) d_X5_factor_40 ml_X5_196 mk_X2_emit mv_X2_emit h0 ho115 rfl rfl (Nat.le_of_ble_eq_true rfl) ?_
      refine wpM.mono h (fun rr G111 hr => ?_)
      obtain ⟨r110, rfl, h⟩ := hr
      show wp E d M_X5_factor 43 [some (vr _)] [vi _] G111 Q
      refine wp_pop (pc := 43) d_X5_factor_43 (c1_i _) ?_
      refine wp_aload_n (pc := 44) d_X5_factor_44 rfl ?_
      obtain ⟨ho112, h⟩ := h
      refine wp_getR (pc := 45) d_X5_factor_45 fl_X5_46 (fun _ _ _ => rfl) ho112 ?_
      obtain ⟨ho114, h⟩ := h
      refine wp_invV (pc := 48) (N := M_X10_step) (As := []) (rest := []) (r := (cn_10, ct_10, 12)) d_X5_factor_48 ml_X5_180 mk_X10_step mv_X10_step h0 ho114 rfl rfl (Nat.le_of_ble_eq_true rfl) ?_
      refine wpM.mono h (fun rr G113 hr => ?_)
      obtain ⟨rfl, h⟩ := hr
      show wp E d M_X5_factor 51 [some (vr _)] [] G113 Q
      refine wp_iconst (pc := 51) (v := 1) d_X5_factor_51 rfl ?_
      exact wp_zret (pc := 52) d_X5_factor_52 rfl rfl h
  · have h := h.2 hc
    refine wp_aload_n (pc := 11) d_X5_factor_11 rfl ?_
    refine wp_invV (pc := 12) (N := M_X5_namedFactor) (As := []) (rest := []) (r := (cn_5, ct_5, 11)) d_X5_factor_12 ml_X5_228 mk_X5_namedFactor mv_X5_namedFactor h0 ho1 rfl rfl (Nat.le_of_ble_eq_true rfl) ?_
    refine wpM.mono h (fun rr G117 hr => ?_)
    obtain ⟨r116, rfl, h⟩ := hr
    show wp E d M_X5_factor 15 [some (vr _)] [vi _] G117 Q
    exact wp_zret (pc := 15) d_X5_factor_15 rfl h.1.1 h.2
