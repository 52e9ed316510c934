/-! decode rows and regions (by program): X10_init X10_scan X10_afterBlanks X10_write X10_step X10_isLetter X10_readName X10_isFigure X10_readNumber X10_readSign X10_fail X10_is X10_refuse X10_accept X7_init X7_clear X7_add X7_placeOfValue X7_moved X7_placeOf X7_valueOf X7_lowest X7_following X7_isVar X7_agreeing X9_init X9_renew X9_beatsHand X9_gather X9_setOf X9_isBetter X9_scoreOf X9_keepValue X9_keepBest X9_gatherFor X9_walkFront X9_sortByPair X9_sink X9_isBehind X9_isSamePair -/
theorem d_X10_init_0 : decode prog_12_method_1_code 0 = .ok (.aload_n 0, 1) := by decide +kernel
theorem d_X10_init_1 : decode prog_12_method_1_code 1 = .ok (.invokespecial 3, 3) := by decide +kernel
theorem d_X10_init_4 : decode prog_12_method_1_code 4 = .ok (.aload_n 0, 1) := by decide +kernel
theorem d_X10_init_5 : decode prog_12_method_1_code 5 = .ok (.bipush 64, 2) := by decide +kernel
theorem d_X10_init_7 : decode prog_12_method_1_code 7 = .ok (.newarray .int, 2) := by decide +kernel
theorem d_X10_init_9 : decode prog_12_method_1_code 9 = .ok (.putfield 11, 3) := by decide +kernel
theorem d_X10_init_12 : decode prog_12_method_1_code 12 = .ok (.aload_n 0, 1) := by decide +kernel
theorem d_X10_init_13 : decode prog_12_method_1_code 13 = .ok (.bipush 64, 2) := by decide +kernel
theorem d_X10_init_15 : decode prog_12_method_1_code 15 = .ok (.newarray .long, 2) := by decide +kernel
theorem d_X10_init_17 : decode prog_12_method_1_code 17 = .ok (.putfield 15, 3) := by decide +kernel
theorem d_X10_init_20 : decode prog_12_method_1_code 20 = .ok (.aload_n 0, 1) := by decide +kernel
theorem d_X10_init_21 : decode prog_12_method_1_code 21 = .ok (.bipush 64, 2) := by decide +kernel
theorem d_X10_init_23 : decode prog_12_method_1_code 23 = .ok (.newarray .int, 2) := by decide +kernel
theorem d_X10_init_25 : decode prog_12_method_1_code 25 = .ok (.putfield 19, 3) := by decide +kernel
theorem d_X10_init_28 : decode prog_12_method_1_code 28 = .ok (.aload_n 0, 1) := by decide +kernel
theorem d_X10_init_29 : decode prog_12_method_1_code 29 = .ok (.bipush 64, 2) := by decide +kernel
theorem d_X10_init_31 : decode prog_12_method_1_code 31 = .ok (.newarray .int, 2) := by decide +kernel
theorem d_X10_init_33 : decode prog_12_method_1_code 33 = .ok (.putfield 22, 3) := by decide +kernel
theorem d_X10_init_36 : decode prog_12_method_1_code 36 = .ok (.aload_n 0, 1) := by decide +kernel
theorem d_X10_init_37 : decode prog_12_method_1_code 37 = .ok (.iconst 0, 1) := by decide +kernel
theorem d_X10_init_38 : decode prog_12_method_1_code 38 = .ok (.putfield 25, 3) := by decide +kernel
theorem d_X10_init_41 : decode prog_12_method_1_code 41 = .ok (.aload_n 0, 1) := by decide +kernel
theorem d_X10_init_42 : decode prog_12_method_1_code 42 = .ok (.iconst 0, 1) := by decide +kernel
theorem d_X10_init_43 : decode prog_12_method_1_code 43 = .ok (.putfield 29, 3) := by decide +kernel
theorem d_X10_init_46 : decode prog_12_method_1_code 46 = .ok (.aload_n 0, 1) := by decide +kernel
theorem d_X10_init_47 : decode prog_12_method_1_code 47 = .ok (.iconst 0, 1) := by decide +kernel
theorem d_X10_init_48 : decode prog_12_method_1_code 48 = .ok (.putfield 32, 3) := by decide +kernel
theorem d_X10_init_51 : decode prog_12_method_1_code 51 = .ok (.aload_n 0, 1) := by decide +kernel
theorem d_X10_init_52 : decode prog_12_method_1_code 52 = .ok (.lconst 0, 1) := by decide +kernel
theorem d_X10_init_53 : decode prog_12_method_1_code 53 = .ok (.putfield 35, 3) := by decide +kernel
theorem d_X10_init_56 : decode prog_12_method_1_code 56 = .ok (.aload_n 0, 1) := by decide +kernel
theorem d_X10_init_57 : decode prog_12_method_1_code 57 = .ok (.iconst 0, 1) := by decide +kernel
theorem d_X10_init_58 : decode prog_12_method_1_code 58 = .ok (.putfield 39, 3) := by decide +kernel
theorem d_X10_init_61 : decode prog_12_method_1_code 61 = .ok (.aload_n 0, 1) := by decide +kernel
theorem d_X10_init_62 : decode prog_12_method_1_code 62 = .ok (.iconst 0, 1) := by decide +kernel
theorem d_X10_init_63 : decode prog_12_method_1_code 63 = .ok (.putfield 42, 3) := by decide +kernel
theorem d_X10_init_66 : decode prog_12_method_1_code 66 = .ok (.aload_n 0, 1) := by decide +kernel
theorem d_X10_init_67 : decode prog_12_method_1_code 67 = .ok (.iconst 0, 1) := by decide +kernel
theorem d_X10_init_68 : decode prog_12_method_1_code 68 = .ok (.putfield 45, 3) := by decide +kernel
theorem d_X10_init_71 : decode prog_12_method_1_code 71 = .ok (.aload_n 0, 1) := by decide +kernel
theorem d_X10_init_72 : decode prog_12_method_1_code 72 = .ok (.iconst 0, 1) := by decide +kernel
theorem d_X10_init_73 : decode prog_12_method_1_code 73 = .ok (.putfield 48, 3) := by decide +kernel
theorem d_X10_init_76 : decode prog_12_method_1_code 76 = .ok (.return_, 1) := by decide +kernel
theorem v_X10_init_0 {E : EE} {d : Nat} {Q : Option AV → AH → Prop} {x0 : Nat} {G : AH} (h0 : 0 < d) (h : isO E G x0 10 ∧ (eB E ≤ gT G ∧ (∀ G6 : AH, G6 = nw G 14 (Int32.toNatClampNeg 64) (Int32.toNatClampNeg 64) → ∀ G10 : AH, G10 = sR G6 x0 0 (gT G) → ∀ G16 : AH, G16 = nw G10 15 (Int32.toNatClampNeg 64) (Int32.toNatClampNeg 64) → ∀ G20 : AH, G20 = sR G16 x0 1 (gT G10) → ∀ G26 : AH, G26 = nw G20 14 (Int32.toNatClampNeg 64) (Int32.toNatClampNeg 64) → ∀ G30 : AH, G30 = sR G26 x0 2 (gT G20) → ∀ G36 : AH, G36 = nw G30 14 (Int32.toNatClampNeg 64) (Int32.toNatClampNeg 64) → ∀ G40 : AH, G40 = sR G36 x0 3 (gT G30) → ∀ G43 : AH, G43 = sI G40 x0 4 0 → ∀ G46 : AH, G46 = sI G43 x0 5 0 → ∀ G49 : AH, G49 = sI G46 x0 6 0 → ∀ G52 : AH, G52 = sJ G49 x0 7 0 → ∀ G55 : AH, G55 = sI G52 x0 8 0 → ∀ G58 : AH, G58 = sI G55 x0 9 0 → ∀ G61 : AH, G61 = sI G58 x0 10 0 → ∀ G64 : AH, G64 = sI G61 x0 11 0 → Q none G64))) : wp E d M_X10_init 0 [some (vr x0)] [] G Q := by
  refine wp_aload_n (pc := 0) d_X10_init_0 rfl ?_
  obtain ⟨ho1, h⟩ := h
  refine wp_objI (pc := 1) d_X10_init_1 ml_X10_3 in_obj mc_obj h0 ho1 (Nat.le_of_ble_eq_true rfl) ?_
  refine wp_aload_n (pc := 4) d_X10_init_4 rfl ?_
  refine wp_bipush (pc := 5) (v := 64) d_X10_init_5 rfl ?_
  obtain ⟨hb2, h⟩ := h
  refine wp_newa (pc := 7) (t0 := 1) (kd := 14) d_X10_init_7 rfl (fun _ q => by cases q) ac_int (by decide) (fun _ => rfl) rfl (by decide) (by decide) (by decide) ?_
  refine wp_nm (fun G6 eG6 => ?_)
  have h := h G6 eG6
  have ho7 := isO_nwE eG6 ho1
  have hb8 := base_nwE eG6 hb2
  have ho9 := isO_newE eG6 hb2
  refine wp_putR (pc := 9) d_X10_init_9 fl_X10_11 (fun _ _ _ => rfl) (Or.inr ⟨_, rfl⟩) (Or.inl rfl) ho7 ?_
  refine wp_nm (fun G10 eG10 => ?_)
  have h := h G10 eG10
  have ho11 := isO_sR eG10 ho7
  have hb12 := base_sR eG10 hb8
  refine wp_aload_n (pc := 12) d_X10_init_12 rfl ?_
  refine wp_bipush (pc := 13) (v := 64) d_X10_init_13 rfl ?_
  refine wp_newa (pc := 15) (t0 := 2) (kd := 15) d_X10_init_15 rfl (fun _ q => by cases q) ac_long (by decide) (fun _ => rfl) rfl (by decide) (by decide) (by decide) ?_
  refine wp_nm (fun G16 eG16 => ?_)
  have h := h G16 eG16
  have ho17 := isO_nwE eG16 ho11
  have hb18 := base_nwE eG16 hb12
  have ho19 := isO_newE eG16 hb12
  refine wp_putR (pc := 17) d_X10_init_17 fl_X10_15 (fun _ _ _ => rfl) (Or.inr ⟨_, rfl⟩) (Or.inl rfl) ho17 ?_
  refine wp_nm (fun G20 eG20 => ?_)
  have h := h G20 eG20
  have ho21 := isO_sR eG20 ho17
  have hb22 := base_sR eG20 hb18
  refine wp_aload_n (pc := 20) d_X10_init_20 rfl ?_
  refine wp_bipush (pc := 21) (v := 64) d_X10_init_21 rfl ?_
  refine wp_newa (pc := 23) (t0 := 1) (kd := 14) d_X10_init_23 rfl (fun _ q => by cases q) ac_int (by decide) (fun _ => rfl) rfl (by decide) (by decide) (by decide) ?_
  refine wp_nm (fun G26 eG26 => ?_)
  have h := h G26 eG26
  have ho27 := isO_nwE eG26 ho21
  have hb28 := base_nwE eG26 hb22
  have ho29 := isO_newE eG26 hb22
  refine wp_putR (pc := 25) d_X10_init_25 fl_X10_19 (fun _ _ _ => rfl) (Or.inr ⟨_, rfl⟩) (Or.inl rfl) ho27 ?_
  refine wp_nm (fun G30 eG30 => ?_)
  have h := h G30 eG30
  have ho31 := isO_sR eG30 ho27
  have hb32 := base_sR eG30 hb28
  refine wp_aload_n (pc := 28) d_X10_init_28 rfl ?_
  refine wp_bipush (pc := 29) (v := 64) d_X10_init_29 rfl ?_
  refine wp_newa (pc := 31) (t0 := 1) (kd := 14) d_X10_init_31 rfl (fun _ q => by cases q) ac_int (by decide) (fun _ => rfl) rfl (by decide) (by decide) (by decide) ?_
  refine wp_nm (fun G36 eG36 => ?_)
  have h := h G36 eG36
  have ho37 := isO_nwE eG36 ho31
  have hb38 := base_nwE eG36 hb32
  have ho39 := isO_newE eG36 hb32
  refine wp_putR (pc := 33) d_X10_init_33 fl_X10_22 (fun _ _ _ => rfl) (Or.inr ⟨_, rfl⟩) (Or.inl rfl) ho37 ?_
  refine wp_nm (fun G40 eG40 => ?_)
  have h := h G40 eG40
  have ho41 := isO_sR eG40 ho37
  have hb42 := base_sR eG40 hb38
  refine wp_aload_n (pc := 36) d_X10_init_36 rfl ?_
  refine wp_iconst (pc := 37) (v := 0) d_X10_init_37 rfl ?_
  refine wp_putI (pc := 38) d_X10_init_38 fl_X10_25 (fun _ _ _ => rfl) (Or.inl rfl) ho41 (okI_int _) ?_
  refine wp_nm (fun G43 eG43 => ?_)
  have h := h G43 eG43
  have ho44 := isO_sI eG43 ho41
  have hb45 := base_sI eG43 hb42
  refine wp_aload_n (pc := 41) d_X10_init_41 rfl ?_
  refine wp_iconst (pc := 42) (v := 0) d_X10_init_42 rfl ?_
  refine wp_putI (pc := 43) d_X10_init_43 fl_X10_29 (fun _ _ _ => rfl) (Or.inl rfl) ho44 (okI_int _) ?_
  refine wp_nm (fun G46 eG46 => ?_)
  have h := h G46 eG46
  have ho47 := isO_sI eG46 ho44
  have hb48 := base_sI eG46 hb45
  refine wp_aload_n (pc := 46) d_X10_init_46 rfl ?_
  refine wp_iconst (pc := 47) (v := 0) d_X10_init_47 rfl ?_
  refine wp_putI (pc := 48) d_X10_init_48 fl_X10_32 (fun _ _ _ => rfl) (Or.inl rfl) ho47 (okI_int _) ?_
  refine wp_nm (fun G49 eG49 => ?_)
  have h := h G49 eG49
  have ho50 := isO_sI eG49 ho47
  have hb51 := base_sI eG49 hb48
  refine wp_aload_n (pc := 51) d_X10_init_51 rfl ?_
  refine wp_lconst (pc := 52) (v := 0) d_X10_init_52 rfl ?_
  refine wp_putJ (pc := 53) d_X10_init_53 fl_X10_35 (fun _ _ _ => rfl) rfl (Or.inl rfl) ho50 ?_
  refine wp_nm (fun G52 eG52 => ?_)
  have h := h G52 eG52
  have ho53 := isO_sJ eG52 ho50
  have hb54 := base_sJ eG52 hb51
  refine wp_aload_n (pc := 56) d_X10_init_56 rfl ?_
  refine wp_iconst (pc := 57) (v := 0) d_X10_init_57 rfl ?_
  refine wp_putI (pc := 58) d_X10_init_58 fl_X10_39 (fun _ _ _ => rfl) (Or.inl rfl) ho53 (okI_int _) ?_
  refine wp_nm (fun G55 eG55 => ?_)
  have h := h G55 eG55
  have ho56 := isO_sI eG55 ho53
  have hb57 := base_sI eG55 hb54
  refine wp_aload_n (pc := 61) d_X10_init_61 rfl ?_
  refine wp_iconst (pc := 62) (v := 0) d_X10_init_62 rfl ?_
  refine wp_putI (pc := 63) d_X10_init_63 fl_X10_42 (fun _ _ _ => rfl) (Or.inl rfl) ho56 (okI_int _) ?_
  refine wp_nm (fun G58 eG58 => ?_)
  have h := h G58 eG58
  have ho59 := isO_sI eG58 ho56
  have hb60 := base_sI eG58 hb57
  refine wp_aload_n (pc := 66) d_X10_init_66 rfl ?_
  refine wp_iconst (pc := 67) (v := 0) d_X10_init_67 rfl ?_
  refine wp_putI (pc := 68) d_X10_init_68 fl_X10_45 (fun _ _ _ => rfl) (Or.inl rfl) ho59 (okI_int _) ?_
  refine wp_nm (fun G61 eG61 => ?_)
  have h := h G61 eG61
  have ho62 := isO_sI eG61 ho59
  have hb63 := base_sI eG61 hb60
  refine wp_aload_n (pc := 71) d_X10_init_71 rfl ?_
  refine wp_iconst (pc := 72) (v := 0) d_X10_init_72 rfl ?_
  refine wp_putI (pc := 73) d_X10_init_73 fl_X10_48 (fun _ _ _ => rfl) (Or.inl rfl) ho62 (okI_int _) ?_
  refine wp_nm (fun G64 eG64 => ?_)
  have h := h G64 eG64
  have ho65 := isO_sI eG64 ho62
  have hb66 := base_sI eG64 hb63
  exact wp_vret (pc := 76) d_X10_init_76 rfl h
theorem d_X10_scan_0 : decode prog_12_method_2_code 0 = .ok (.aload_n 0, 1) := by decide +kernel
theorem d_X10_scan_1 : decode prog_12_method_2_code 1 = .ok (.iconst 0, 1) := by decide +kernel
theorem d_X10_scan_2 : decode prog_12_method_2_code 2 = .ok (.putfield 29, 3) := by decide +kernel
theorem d_X10_scan_5 : decode prog_12_method_2_code 5 = .ok (.aload_n 0, 1) := by decide +kernel
theorem d_X10_scan_6 : decode prog_12_method_2_code 6 = .ok (.iconst 0, 1) := by decide +kernel
theorem d_X10_scan_7 : decode prog_12_method_2_code 7 = .ok (.putfield 45, 3) := by decide +kernel
theorem d_X10_scan_10 : decode prog_12_method_2_code 10 = .ok (.aload_n 0, 1) := by decide +kernel
theorem d_X10_scan_11 : decode prog_12_method_2_code 11 = .ok (.iconst 0, 1) := by decide +kernel
theorem d_X10_scan_12 : decode prog_12_method_2_code 12 = .ok (.putfield 48, 3) := by decide +kernel
theorem d_X10_scan_15 : decode prog_12_method_2_code 15 = .ok (.iconst 0, 1) := by decide +kernel
theorem d_X10_scan_16 : decode prog_12_method_2_code 16 = .ok (.istore_n 2, 1) := by decide +kernel
theorem d_X10_scan_17 : decode prog_12_method_2_code 17 = .ok (.iconst 0, 1) := by decide +kernel
theorem d_X10_scan_18 : decode prog_12_method_2_code 18 = .ok (.istore_n 3, 1) := by decide +kernel
theorem d_X10_scan_19 : decode prog_12_method_2_code 19 = .ok (.iload_n 3, 1) := by decide +kernel
theorem d_X10_scan_20 : decode prog_12_method_2_code 20 = .ok (.aload_n 1, 1) := by decide +kernel
theorem d_X10_scan_21 : decode prog_12_method_2_code 21 = .ok (.getfield 51, 3) := by decide +kernel
theorem d_X10_scan_24 : decode prog_12_method_2_code 24 = .ok (.if_icmp .gt 101, 3) := by decide +kernel
theorem d_X10_scan_27 : decode prog_12_method_2_code 27 = .ok (.aload_n 1, 1) := by decide +kernel
theorem d_X10_scan_28 : decode prog_12_method_2_code 28 = .ok (.iload_n 2, 1) := by decide +kernel
theorem d_X10_scan_29 : decode prog_12_method_2_code 29 = .ok (.invokestatic 56, 3) := by decide +kernel
theorem d_X10_scan_32 : decode prog_12_method_2_code 32 = .ok (.istore_n 2, 1) := by decide +kernel
theorem d_X10_scan_33 : decode prog_12_method_2_code 33 = .ok (.aload_n 1, 1) := by decide +kernel
theorem d_X10_scan_34 : decode prog_12_method_2_code 34 = .ok (.iload_n 2, 1) := by decide +kernel
theorem d_X10_scan_35 : decode prog_12_method_2_code 35 = .ok (.invokevirtual 60, 3) := by decide +kernel
theorem d_X10_scan_38 : decode prog_12_method_2_code 38 = .ok (.istore 4, 2) := by decide +kernel
theorem d_X10_scan_40 : decode prog_12_method_2_code 40 = .ok (.iload 4, 2) := by decide +kernel
theorem d_X10_scan_42 : decode prog_12_method_2_code 42 = .ok (.ifCond .ge 6, 3) := by decide +kernel
theorem d_X10_scan_45 : decode prog_12_method_2_code 45 = .ok (.goto 80, 3) := by decide +kernel
theorem d_X10_scan_48 : decode prog_12_method_2_code 48 = .ok (.iload 4, 2) := by decide +kernel
theorem d_X10_scan_50 : decode prog_12_method_2_code 50 = .ok (.invokestatic 64, 3) := by decide +kernel
theorem d_X10_scan_53 : decode prog_12_method_2_code 53 = .ok (.ifCond .eq 13, 3) := by decide +kernel
theorem d_X10_scan_56 : decode prog_12_method_2_code 56 = .ok (.aload_n 0, 1) := by decide +kernel
theorem d_X10_scan_57 : decode prog_12_method_2_code 57 = .ok (.aload_n 1, 1) := by decide +kernel
theorem d_X10_scan_58 : decode prog_12_method_2_code 58 = .ok (.iload_n 2, 1) := by decide +kernel
theorem d_X10_scan_59 : decode prog_12_method_2_code 59 = .ok (.invokevirtual 68, 3) := by decide +kernel
theorem d_X10_scan_62 : decode prog_12_method_2_code 62 = .ok (.istore_n 2, 1) := by decide +kernel
theorem d_X10_scan_63 : decode prog_12_method_2_code 63 = .ok (.goto 28, 3) := by decide +kernel
theorem d_X10_scan_66 : decode prog_12_method_2_code 66 = .ok (.iload 4, 2) := by decide +kernel
theorem d_X10_scan_68 : decode prog_12_method_2_code 68 = .ok (.invokestatic 71, 3) := by decide +kernel
theorem d_X10_scan_71 : decode prog_12_method_2_code 71 = .ok (.ifCond .eq 13, 3) := by decide +kernel
theorem d_X10_scan_74 : decode prog_12_method_2_code 74 = .ok (.aload_n 0, 1) := by decide +kernel
theorem d_X10_scan_75 : decode prog_12_method_2_code 75 = .ok (.aload_n 1, 1) := by decide +kernel
theorem d_X10_scan_76 : decode prog_12_method_2_code 76 = .ok (.iload_n 2, 1) := by decide +kernel
theorem d_X10_scan_77 : decode prog_12_method_2_code 77 = .ok (.invokevirtual 74, 3) := by decide +kernel
theorem d_X10_scan_80 : decode prog_12_method_2_code 80 = .ok (.istore_n 2, 1) := by decide +kernel
theorem d_X10_scan_81 : decode prog_12_method_2_code 81 = .ok (.goto 10, 3) := by decide +kernel
theorem d_X10_scan_84 : decode prog_12_method_2_code 84 = .ok (.aload_n 0, 1) := by decide +kernel
theorem d_X10_scan_85 : decode prog_12_method_2_code 85 = .ok (.aload_n 1, 1) := by decide +kernel
theorem d_X10_scan_86 : decode prog_12_method_2_code 86 = .ok (.iload_n 2, 1) := by decide +kernel
theorem d_X10_scan_87 : decode prog_12_method_2_code 87 = .ok (.invokevirtual 77, 3) := by decide +kernel
theorem d_X10_scan_90 : decode prog_12_method_2_code 90 = .ok (.istore_n 2, 1) := by decide +kernel
theorem d_X10_scan_125 : decode prog_12_method_2_code 125 = .ok (.aload_n 0, 1) := by decide +kernel
theorem d_X10_scan_126 : decode prog_12_method_2_code 126 = .ok (.iconst 0, 1) := by decide +kernel
theorem d_X10_scan_127 : decode prog_12_method_2_code 127 = .ok (.lconst 0, 1) := by decide +kernel
theorem d_X10_scan_128 : decode prog_12_method_2_code 128 = .ok (.aload_n 1, 1) := by decide +kernel
theorem d_X10_scan_129 : decode prog_12_method_2_code 129 = .ok (.getfield 51, 3) := by decide +kernel
theorem d_X10_scan_132 : decode prog_12_method_2_code 132 = .ok (.aload_n 1, 1) := by decide +kernel
theorem d_X10_scan_133 : decode prog_12_method_2_code 133 = .ok (.getfield 51, 3) := by decide +kernel
theorem d_X10_scan_136 : decode prog_12_method_2_code 136 = .ok (.invokevirtual 80, 3) := by decide +kernel
theorem d_X10_scan_139 : decode prog_12_method_2_code 139 = .ok (.pop, 1) := by decide +kernel
theorem d_X10_scan_140 : decode prog_12_method_2_code 140 = .ok (.aload_n 0, 1) := by decide +kernel
theorem d_X10_scan_141 : decode prog_12_method_2_code 141 = .ok (.iconst (-1), 1) := by decide +kernel
theorem d_X10_scan_142 : decode prog_12_method_2_code 142 = .ok (.putfield 25, 3) := by decide +kernel
theorem d_X10_scan_145 : decode prog_12_method_2_code 145 = .ok (.aload_n 0, 1) := by decide +kernel
theorem d_X10_scan_146 : decode prog_12_method_2_code 146 = .ok (.invokevirtual 84, 3) := by decide +kernel
theorem d_X10_scan_149 : decode prog_12_method_2_code 149 = .ok (.return_, 1) := by decide +kernel
theorem v_X10_scan_0 {E : EE} {d : Nat} {Q : Option AV → AH → Prop} {x0 : Nat} {x1 : Nat} {G : AH} (h : isO E G x0 10 ∧ (∀ G2 : AH, G2 = sI G x0 5 0 → ∀ G4 : AH, G4 = sI G2 x0 10 0 → ∀ G6 : AH, G6 = sI G4 x0 11 0 → wp E d M_X10_scan 19 [some (vr x0), some (vr x1), some (vi 0), some (vi 0), none] [] G6 Q)) : wp E d M_X10_scan 0 [some (vr x0), some (vr x1), none, none, none] [] G Q := by
  refine wp_aload_n (pc := 0) d_X10_scan_0 rfl ?_
  refine wp_iconst (pc := 1) (v := 0) d_X10_scan_1 rfl ?_
  obtain ⟨ho1, h⟩ := h
  refine wp_putI (pc := 2) d_X10_scan_2 fl_X10_29 (fun _ _ _ => rfl) (Or.inl rfl) ho1 (okI_int _) ?_
  refine wp_nm (fun G2 eG2 => ?_)
  have h := h G2 eG2
  have ho3 := isO_sI eG2 ho1
  refine wp_aload_n (pc := 5) d_X10_scan_5 rfl ?_
  refine wp_iconst (pc := 6) (v := 0) d_X10_scan_6 rfl ?_
  refine wp_putI (pc := 7) d_X10_scan_7 fl_X10_45 (fun _ _ _ => rfl) (Or.inl rfl) ho3 (okI_int _) ?_
  refine wp_nm (fun G4 eG4 => ?_)
  have h := h G4 eG4
  have ho5 := isO_sI eG4 ho3
  refine wp_aload_n (pc := 10) d_X10_scan_10 rfl ?_
  refine wp_iconst (pc := 11) (v := 0) d_X10_scan_11 rfl ?_
  refine wp_putI (pc := 12) d_X10_scan_12 fl_X10_48 (fun _ _ _ => rfl) (Or.inl rfl) ho5 (okI_int _) ?_
  refine wp_nm (fun G6 eG6 => ?_)
  have h := h G6 eG6
  have ho7 := isO_sI eG6 ho5
  refine wp_iconst (pc := 15) (v := 0) d_X10_scan_15 rfl ?_
  refine wp_istore_n (pc := 16) (lv' := [some (vr _), some (vr _), some (vi _), none, none]) d_X10_scan_16 (by decide) rfl ?_
  refine wp_iconst (pc := 17) (v := 0) d_X10_scan_17 rfl ?_
  refine wp_istore_n (pc := 18) (lv' := [some (vr _), some (vr _), some (vi _), some (vi _), none]) d_X10_scan_18 (by decide) rfl ?_
  refine wp_sub ?_ h
  exact ⟨rfl, ⟨rfl, ⟨rfl, ⟨rfl, trivial⟩⟩⟩⟩
theorem v_X10_scan_19 {E : EE} {d : Nat} {Q : Option AV → AH → Prop} {x0 : Nat} {x1 : Nat} {x2 : Int32} {x3 : Int32} {G : AH} (h0 : 0 < d) (h : isO E G x1 0 ∧ (((gI G x1 1) < x3 → wp E d M_X10_scan 125 [some (vr x0), some (vr x1), some (vi x2), some (vi x3), none] [] G Q) ∧ (¬ ((gI G x1 1) < x3) → wpI E (d - 1) M_X10_afterBlanks [vr x1, vi x2] G (fun r2 G3 => isO E G3 x1 0 ∧ (wpI E (d - 1) M_X0_at [vr x1, vi r2] G3 (fun r4 G5 => (0 ≤ r4 → wpI E (d - 1) M_X10_isLetter [vi r4] G5 (fun r6 G7 => (r6 = 0 → wpI E (d - 1) M_X10_isFigure [vi r4] G7 (fun r8 G9 => (r8 = 0 → isO E G9 x0 10 ∧ (wpI E (d - 1) M_X10_readSign [vr x0, vr x1, vi r2] G9 (fun r10 G11 => wp E d M_X10_scan 91 [some (vr x0), some (vr x1), some (vi r10), some (vi x3), some (vi r4)] [] G11 Q))) ∧ (¬ (r8 = 0) → isO E G9 x0 10 ∧ (wpI E (d - 1) M_X10_readNumber [vr x0, vr x1, vi r2] G9 (fun r13 G14 => wp E d M_X10_scan 91 [some (vr x0), some (vr x1), some (vi r13), some (vi x3), some (vi r4)] [] G14 Q))))) ∧ (¬ (r6 = 0) → isO E G7 x0 10 ∧ (wpI E (d - 1) M_X10_readName [vr x0, vr x1, vi r2] G7 (fun r16 G17 => wp E d M_X10_scan 91 [some (vr x0), some (vr x1), some (vi r16), some (vi x3), some (vi r4)] [] G17 Q))))) ∧ (¬ (0 ≤ r4) → wp E d M_X10_scan 125 [some (vr x0), some (vr x1), some (vi r2), some (vi x3), none] [] G5 Q))))))) : wp E d M_X10_scan 19 [some (vr x0), some (vr x1), some (vi x2), some (vi x3), none] [] G Q := by
  refine wp_iload_n (pc := 19) d_X10_scan_19 rfl ?_
  refine wp_aload_n (pc := 20) d_X10_scan_20 rfl ?_
  obtain ⟨ho1, h⟩ := h
  refine wp_getI (pc := 21) d_X10_scan_21 fl_X10_51 (fun _ _ _ => rfl) ho1 ?_
  refine wp_icmp_gt (pc := 24) (tgt := 125) d_X10_scan_24 (by decide) (fun hc => ?_) (fun hc => ?_)
  · have h := h.1 hc
    refine wp_sub ?_ h
    exact ⟨rfl, ⟨rfl, ⟨rfl, ⟨rfl, trivial⟩⟩⟩⟩
  · have h := h.2 hc
    refine wp_aload_n (pc := 27) d_X10_scan_27 rfl ?_
    refine wp_iload_n (pc := 28) d_X10_scan_28 rfl ?_
    refine wp_invS (pc := 29) (N := M_X10_afterBlanks) (As := [vr _, vi _]) (rest := []) d_X10_scan_29 ml_X10_56 mk_X10_afterBlanks ms_X10_afterBlanks h0 (Nat.le_of_ble_eq_true rfl) ?_
    refine wpM.mono h (fun rr G3 hr => ?_)
    obtain ⟨r2, rfl, h⟩ := hr
    show wp E d M_X10_scan 32 [some (vr _), some (vr _), some (vi _), some (vi _), none] [vi _] G3 Q
    refine wp_istore_n (pc := 32) (lv' := [some (vr _), some (vr _), some (vi _), some (vi _), none]) d_X10_scan_32 (by decide) rfl ?_
    refine wp_aload_n (pc := 33) d_X10_scan_33 rfl ?_
    refine wp_iload_n (pc := 34) d_X10_scan_34 rfl ?_
    obtain ⟨ho19, h⟩ := h
    refine wp_invV (pc := 35) (N := M_X0_at) (As := [vi _]) (rest := []) (r := (cn_0, ct_0, 2)) d_X10_scan_35 ml_X10_60 mk_X0_at mv_X0_at h0 ho19 rfl rfl (Nat.le_of_ble_eq_true rfl) ?_
    refine wpM.mono h (fun rr G5 hr => ?_)
    obtain ⟨r4, rfl, h⟩ := hr
    show wp E d M_X10_scan 38 [some (vr _), some (vr _), some (vi _), some (vi _), none] [vi _] G5 Q
    refine wp_istore (pc := 38) (lv' := [some (vr _), some (vr _), some (vi _), some (vi _), some (vi _)]) d_X10_scan_38 (by decide) rfl ?_
    refine wp_iload (pc := 40) d_X10_scan_40 rfl ?_
    refine wp_if_ge (pc := 42) (tgt := 48) d_X10_scan_42 (by decide) (fun hc => ?_) (fun hc => ?_)
    · have h := h.1 hc
      refine wp_iload (pc := 48) d_X10_scan_48 rfl ?_
      refine wp_invS (pc := 50) (N := M_X10_isLetter) (As := [vi _]) (rest := []) d_X10_scan_50 ml_X10_64 mk_X10_isLetter ms_X10_isLetter h0 (Nat.le_of_ble_eq_true rfl) ?_
      refine wpM.mono h (fun rr G7 hr => ?_)
      obtain ⟨r6, rfl, h⟩ := hr
      show wp E d M_X10_scan 53 [some (vr _), some (vr _), some (vi _), some (vi _), some (vi _)] [vi _] G7 Q
      refine wp_if_eq (pc := 53) (tgt := 66) d_X10_scan_53 (by decide) (fun hc => ?_) (fun hc => ?_)
      · have h := h.1 hc
        refine wp_iload (pc := 66) d_X10_scan_66 rfl ?_
        refine wp_invS (pc := 68) (N := M_X10_isFigure) (As := [vi _]) (rest := []) d_X10_scan_68 ml_X10_71 mk_X10_isFigure ms_X10_isFigure h0 (Nat.le_of_ble_eq_true rfl) ?_
        refine wpM.mono h (fun rr G9 hr => ?_)
        obtain ⟨r8, rfl, h⟩ := hr
        show wp E d M_X10_scan 71 [some (vr _), some (vr _), some (vi _), some (vi _), some (vi _)] [vi _] G9 Q
        refine wp_if_eq (pc := 71) (tgt := 84) d_X10_scan_71 (by decide) (fun hc => ?_) (fun hc => ?_)
        · have h := h.1 hc
          refine wp_aload_n (pc := 84) d_X10_scan_84 rfl ?_
          refine wp_aload_n (pc := 85) d_X10_scan_85 rfl ?_
          refine wp_iload_n (pc := 86) d_X10_scan_86 rfl ?_
          obtain ⟨ho12, h⟩ := h
          refine wp_invV (pc := 87) (N := M_X10_readSign) (As := [vr _, vi _]) (rest := []) (r := (cn_10, ct_10, 12)) d_X10_scan_87 ml_X10_77 mk_X10_readSign mv_X10_readSign h0 ho12 rfl rfl (Nat.le_of_ble_eq_true rfl) ?_
          refine wpM.mono h (fun rr G11 hr => ?_)
          obtain ⟨r10, rfl, h⟩ := hr
          show wp E d M_X10_scan 90 [some (vr _), some (vr _), some (vi _), some (vi _), some (vi _)] [vi _] G11 Q
          refine wp_istore_n (pc := 90) (lv' := [some (vr _), some (vr _), some (vi _), some (vi _), some (vi _)]) d_X10_scan_90 (by decide) rfl ?_
          refine wp_sub ?_ h
          exact ⟨rfl, ⟨rfl, ⟨rfl, ⟨rfl, ⟨rfl, trivial⟩⟩⟩⟩⟩
        · have h := h.2 hc
          refine wp_aload_n (pc := 74) d_X10_scan_74 rfl ?_
          refine wp_aload_n (pc := 75) d_X10_scan_75 rfl ?_
          refine wp_iload_n (pc := 76) d_X10_scan_76 rfl ?_
          obtain ⟨ho15, h⟩ := h
          refine wp_invV (pc := 77) (N := M_X10_readNumber) (As := [vr _, vi _]) (rest := []) (r := (cn_10, ct_10, 12)) d_X10_scan_77 ml_X10_74 mk_X10_readNumber mv_X10_readNumber h0 ho15 rfl rfl (Nat.le_of_ble_eq_true rfl) ?_
          refine wpM.mono h (fun rr G14 hr => ?_)
          obtain ⟨r13, rfl, h⟩ := hr
          show wp E d M_X10_scan 80 [some (vr _), some (vr _), some (vi _), some (vi _), some (vi _)] [vi _] G14 Q
          refine wp_istore_n (pc := 80) (lv' := [some (vr _), some (vr _), some (vi _), some (vi _), some (vi _)]) d_X10_scan_80 (by decide) rfl ?_
          refine wp_goto (pc := 81) (tgt := 91) d_X10_scan_81 (by decide) ?_
          refine wp_sub ?_ h
          exact ⟨rfl, ⟨rfl, ⟨rfl, ⟨rfl, ⟨rfl, trivial⟩⟩⟩⟩⟩
      · have h := h.2 hc
        refine wp_aload_n (pc := 56) d_X10_scan_56 rfl ?_
        refine wp_aload_n (pc := 57) d_X10_scan_57 rfl ?_
        refine wp_iload_n (pc := 58) d_X10_scan_58 rfl ?_
        obtain ⟨ho18, h⟩ := h
        refine wp_invV (pc := 59) (N := M_X10_readName) (As := [vr _, vi _]) (rest := []) (r := (cn_10, ct_10, 12)) d_X10_scan_59 ml_X10_68 mk_X10_readName mv_X10_readName h0 ho18 rfl rfl (Nat.le_of_ble_eq_true rfl) ?_
        refine wpM.mono h (fun rr G17 hr => ?_)
        obtain ⟨r16, rfl, h⟩ := hr
        show wp E d M_X10_scan 62 [some (vr _), some (vr _), some (vi _), some (vi _), some (vi _)] [vi _] G17 Q
        refine wp_istore_n (pc := 62) (lv' := [some (vr _), some (vr _), some (vi _), some (vi _), some (vi _)]) d_X10_scan_62 (by decide) rfl ?_
        refine wp_goto (pc := 63) (tgt := 91) d_X10_scan_63 (by decide) ?_
        refine wp_sub ?_ h
        exact ⟨rfl, ⟨rfl, ⟨rfl, ⟨rfl, ⟨rfl, trivial⟩⟩⟩⟩⟩
    · have h := h.2 hc
      refine wp_goto (pc := 45) (tgt := 125) d_X10_scan_45 (by decide) ?_
      refine wp_sub ?_ h
      exact ⟨rfl, ⟨rfl, ⟨rfl, ⟨rfl, trivial⟩⟩⟩⟩
theorem v_X10_scan_125 {E : EE} {d : Nat} {Q : Option AV → AH → Prop} {x0 : Nat} {x1 : Nat} {x2 : Int32} {x3 : Int32} {G : AH} (h0 : 0 < d) (h : isO E G x1 0 ∧ (isO E G x0 10 ∧ (wpI E (d - 1) M_X10_write [vr x0, vi 0, vj 0, vi (gI G x1 1), vi (gI G x1 1)] G (fun r2 G3 => isO E G3 x0 10 ∧ (wpV E (d - 1) M_X10_step [vr x0] (sI G3 x0 4 (-1)) (fun G5 => Q none G5)))))) : wp E d M_X10_scan 125 [some (vr x0), some (vr x1), some (vi x2), some (vi x3), none] [] G Q := by
  refine wp_aload_n (pc := 125) d_X10_scan_125 rfl ?_
  refine wp_iconst (pc := 126) (v := 0) d_X10_scan_126 rfl ?_
  refine wp_lconst (pc := 127) (v := 0) d_X10_scan_127 rfl ?_
  refine wp_aload_n (pc := 128) d_X10_scan_128 rfl ?_
  obtain ⟨ho1, h⟩ := h
  refine wp_getI (pc := 129) d_X10_scan_129 fl_X10_51 (fun _ _ _ => rfl) ho1 ?_
  refine wp_aload_n (pc := 132) d_X10_scan_132 rfl ?_
  refine wp_getI (pc := 133) d_X10_scan_133 fl_X10_51 (fun _ _ _ => rfl) ho1 ?_
  obtain ⟨ho6, h⟩ := h
  refine wp_invV (pc := 136) (N := M_X10_write) (As := [vi _, vj _, vi _, vi _]) (rest := []) (r := (cn_10, ct_10, 12)) d_X10_scan_136 ml_X10_80 mk_X10_write mv_X10_write h0 ho6 rfl rfl (Nat.le_of_ble_eq_true rfl) ?_
  refine wpM.mono h (fun rr G3 hr => ?_)
  obtain ⟨r2, rfl, h⟩ := hr
  show wp E d M_X10_scan 139 [some (vr _), some (vr _), some (vi _), some (vi _), none] [vi _] G3 Q
  refine wp_pop (pc := 139) d_X10_scan_139 (c1_i _) ?_
  refine wp_aload_n (pc := 140) d_X10_scan_140 rfl ?_
  refine wp_iconst (pc := 141) (v := (-1)) d_X10_scan_141 rfl ?_
  obtain ⟨ho4, h⟩ := h
  refine wp_putI (pc := 142) d_X10_scan_142 fl_X10_25 (fun _ _ _ => rfl) (Or.inl rfl) ho4 (okI_int _) ?_
  refine wp_aload_n (pc := 145) d_X10_scan_145 rfl ?_
  refine wp_invV (pc := 146) (N := M_X10_step) (As := []) (rest := []) (r := (cn_10, ct_10, 12)) d_X10_scan_146 ml_X10_84 mk_X10_step mv_X10_step h0 ho4 rfl rfl (Nat.le_of_ble_eq_true rfl) ?_
  refine wpM.mono h (fun rr G5 hr => ?_)
  obtain ⟨rfl, h⟩ := hr
  show wp E d M_X10_scan 149 [some (vr _), some (vr _), some (vi _), some (vi _), none] [] G5 Q
  exact wp_vret (pc := 149) d_X10_scan_149 rfl h
theorem d_X10_afterBlanks_0 : decode prog_12_method_10_code 0 = .ok (.iconst 0, 1) := by decide +kernel
theorem d_X10_afterBlanks_1 : decode prog_12_method_10_code 1 = .ok (.istore_n 2, 1) := by decide +kernel
theorem d_X10_afterBlanks_2 : decode prog_12_method_10_code 2 = .ok (.iload_n 1, 1) := by decide +kernel
theorem d_X10_afterBlanks_3 : decode prog_12_method_10_code 3 = .ok (.istore_n 3, 1) := by decide +kernel
theorem d_X10_afterBlanks_4 : decode prog_12_method_10_code 4 = .ok (.iload_n 3, 1) := by decide +kernel
theorem d_X10_afterBlanks_5 : decode prog_12_method_10_code 5 = .ok (.aload_n 0, 1) := by decide +kernel
theorem d_X10_afterBlanks_6 : decode prog_12_method_10_code 6 = .ok (.getfield 51, 3) := by decide +kernel
theorem d_X10_afterBlanks_9 : decode prog_12_method_10_code 9 = .ok (.if_icmp .ge 67, 3) := by decide +kernel
theorem d_X10_afterBlanks_12 : decode prog_12_method_10_code 12 = .ok (.aload_n 0, 1) := by decide +kernel
theorem d_X10_afterBlanks_13 : decode prog_12_method_10_code 13 = .ok (.iload_n 3, 1) := by decide +kernel
theorem d_X10_afterBlanks_14 : decode prog_12_method_10_code 14 = .ok (.invokevirtual 60, 3) := by decide +kernel
theorem d_X10_afterBlanks_17 : decode prog_12_method_10_code 17 = .ok (.istore 4, 2) := by decide +kernel
theorem d_X10_afterBlanks_19 : decode prog_12_method_10_code 19 = .ok (.iload 4, 2) := by decide +kernel
theorem d_X10_afterBlanks_21 : decode prog_12_method_10_code 21 = .ok (.bipush 10, 2) := by decide +kernel
theorem d_X10_afterBlanks_23 : decode prog_12_method_10_code 23 = .ok (.if_icmp .ne 8, 3) := by decide +kernel
theorem d_X10_afterBlanks_26 : decode prog_12_method_10_code 26 = .ok (.iconst 0, 1) := by decide +kernel
theorem d_X10_afterBlanks_27 : decode prog_12_method_10_code 27 = .ok (.istore_n 2, 1) := by decide +kernel
theorem d_X10_afterBlanks_28 : decode prog_12_method_10_code 28 = .ok (.goto 42, 3) := by decide +kernel
theorem d_X10_afterBlanks_31 : decode prog_12_method_10_code 31 = .ok (.iload 4, 2) := by decide +kernel
theorem d_X10_afterBlanks_33 : decode prog_12_method_10_code 33 = .ok (.bipush 37, 2) := by decide +kernel
theorem d_X10_afterBlanks_35 : decode prog_12_method_10_code 35 = .ok (.if_icmp .ne 8, 3) := by decide +kernel
theorem d_X10_afterBlanks_38 : decode prog_12_method_10_code 38 = .ok (.iconst 1, 1) := by decide +kernel
theorem d_X10_afterBlanks_39 : decode prog_12_method_10_code 39 = .ok (.istore_n 2, 1) := by decide +kernel
theorem d_X10_afterBlanks_40 : decode prog_12_method_10_code 40 = .ok (.goto 30, 3) := by decide +kernel
theorem d_X10_afterBlanks_43 : decode prog_12_method_10_code 43 = .ok (.iload_n 2, 1) := by decide +kernel
theorem d_X10_afterBlanks_44 : decode prog_12_method_10_code 44 = .ok (.ifCond .ne 26, 3) := by decide +kernel
theorem d_X10_afterBlanks_47 : decode prog_12_method_10_code 47 = .ok (.iload 4, 2) := by decide +kernel
theorem d_X10_afterBlanks_49 : decode prog_12_method_10_code 49 = .ok (.bipush 32, 2) := by decide +kernel
theorem d_X10_afterBlanks_51 : decode prog_12_method_10_code 51 = .ok (.if_icmp .eq 19, 3) := by decide +kernel
theorem d_X10_afterBlanks_54 : decode prog_12_method_10_code 54 = .ok (.iload 4, 2) := by decide +kernel
theorem d_X10_afterBlanks_56 : decode prog_12_method_10_code 56 = .ok (.bipush 9, 2) := by decide +kernel
theorem d_X10_afterBlanks_58 : decode prog_12_method_10_code 58 = .ok (.if_icmp .eq 12, 3) := by decide +kernel
theorem d_X10_afterBlanks_61 : decode prog_12_method_10_code 61 = .ok (.iload 4, 2) := by decide +kernel
theorem d_X10_afterBlanks_63 : decode prog_12_method_10_code 63 = .ok (.bipush 13, 2) := by decide +kernel
theorem d_X10_afterBlanks_65 : decode prog_12_method_10_code 65 = .ok (.if_icmp .eq 5, 3) := by decide +kernel
theorem d_X10_afterBlanks_68 : decode prog_12_method_10_code 68 = .ok (.iload_n 3, 1) := by decide +kernel
theorem d_X10_afterBlanks_69 : decode prog_12_method_10_code 69 = .ok (.ireturn, 1) := by decide +kernel
theorem d_X10_afterBlanks_76 : decode prog_12_method_10_code 76 = .ok (.aload_n 0, 1) := by decide +kernel
theorem d_X10_afterBlanks_77 : decode prog_12_method_10_code 77 = .ok (.getfield 51, 3) := by decide +kernel
theorem d_X10_afterBlanks_80 : decode prog_12_method_10_code 80 = .ok (.ireturn, 1) := by decide +kernel
theorem v_X10_afterBlanks_0 {E : EE} {d : Nat} {Q : Option AV → AH → Prop} {x0 : Nat} {x1 : Int32} {G : AH} (h : wp E d M_X10_afterBlanks 4 [some (vr x0), some (vi x1), some (vi 0), some (vi x1), none] [] G Q) : wp E d M_X10_afterBlanks 0 [some (vr x0), some (vi x1), none, none, none] [] G Q := by
  refine wp_iconst (pc := 0) (v := 0) d_X10_afterBlanks_0 rfl ?_
  refine wp_istore_n (pc := 1) (lv' := [some (vr _), some (vi _), some (vi _), none, none]) d_X10_afterBlanks_1 (by decide) rfl ?_
  refine wp_iload_n (pc := 2) d_X10_afterBlanks_2 rfl ?_
  refine wp_istore_n (pc := 3) (lv' := [some (vr _), some (vi _), some (vi _), some (vi _), none]) d_X10_afterBlanks_3 (by decide) rfl ?_
  refine wp_sub ?_ h
  exact ⟨rfl, ⟨rfl, ⟨rfl, ⟨rfl, trivial⟩⟩⟩⟩
theorem v_X10_afterBlanks_4 {E : EE} {d : Nat} {Q : Option AV → AH → Prop} {x0 : Nat} {x1 : Int32} {x2 : Int32} {x3 : Int32} {G : AH} (h0 : 0 < d) (h : isO E G x0 0 ∧ (((gI G x0 1) ≤ x3 → Q (some (vi (gI G x0 1))) G) ∧ (¬ ((gI G x0 1) ≤ x3) → wpI E (d - 1) M_X0_at [vr x0, vi x3] G (fun r2 G3 => (¬ r2 = 10 → (¬ r2 = 37 → (¬ x2 = 0 → wp E d M_X10_afterBlanks 70 [some (vr x0), some (vi x1), some (vi x2), some (vi x3), some (vi r2)] [] G3 Q) ∧ (x2 = 0 → (r2 = 32 → wp E d M_X10_afterBlanks 70 [some (vr x0), some (vi x1), some (vi x2), some (vi x3), some (vi r2)] [] G3 Q) ∧ (¬ (r2 = 32) → (r2 = 9 → wp E d M_X10_afterBlanks 70 [some (vr x0), some (vi x1), some (vi x2), some (vi x3), some (vi r2)] [] G3 Q) ∧ (¬ (r2 = 9) → (r2 = 13 → wp E d M_X10_afterBlanks 70 [some (vr x0), some (vi x1), some (vi x2), some (vi x3), some (vi r2)] [] G3 Q) ∧ (¬ (r2 = 13) → Q (some (vi x3)) G3))))) ∧ (r2 = 37 → wp E d M_X10_afterBlanks 70 [some (vr x0), some (vi x1), some (vi 1), some (vi x3), some (vi r2)] [] G3 Q)) ∧ (r2 = 10 → wp E d M_X10_afterBlanks 70 [some (vr x0), some (vi x1), some (vi 0), some (vi x3), some (vi r2)] [] G3 Q))))) : wp E d M_X10_afterBlanks 4 [some (vr x0), some (vi x1), some (vi x2), some (vi x3), none] [] G Q := by
  refine wp_iload_n (pc := 4) d_X10_afterBlanks_4 rfl ?_
  refine wp_aload_n (pc := 5) d_X10_afterBlanks_5 rfl ?_
  obtain ⟨ho1, h⟩ := h
  refine wp_getI (pc := 6) d_X10_afterBlanks_6 fl_X10_51 (fun _ _ _ => rfl) ho1 ?_
  refine wp_icmp_ge (pc := 9) (tgt := 76) d_X10_afterBlanks_9 (by decide) (fun hc => ?_) (fun hc => ?_)
  · have h := h.1 hc
    refine wp_aload_n (pc := 76) d_X10_afterBlanks_76 rfl ?_
    refine wp_getI (pc := 77) d_X10_afterBlanks_77 fl_X10_51 (fun _ _ _ => rfl) ho1 ?_
    exact wp_iret (pc := 80) d_X10_afterBlanks_80 rfl h
  · have h := h.2 hc
    refine wp_aload_n (pc := 12) d_X10_afterBlanks_12 rfl ?_
    refine wp_iload_n (pc := 13) d_X10_afterBlanks_13 rfl ?_
    refine wp_invV (pc := 14) (N := M_X0_at) (As := [vi _]) (rest := []) (r := (cn_0, ct_0, 2)) d_X10_afterBlanks_14 ml_X10_60 mk_X0_at mv_X0_at h0 ho1 rfl rfl (Nat.le_of_ble_eq_true rfl) ?_
    refine wpM.mono h (fun rr G3 hr => ?_)
    obtain ⟨r2, rfl, h⟩ := hr
    show wp E d M_X10_afterBlanks 17 [some (vr _), some (vi _), some (vi _), some (vi _), none] [vi _] G3 Q
    refine wp_istore (pc := 17) (lv' := [some (vr _), some (vi _), some (vi _), some (vi _), some (vi _)]) d_X10_afterBlanks_17 (by decide) rfl ?_
    refine wp_iload (pc := 19) d_X10_afterBlanks_19 rfl ?_
    refine wp_bipush (pc := 21) (v := 10) d_X10_afterBlanks_21 rfl ?_
    refine wp_icmp_ne (pc := 23) (tgt := 31) d_X10_afterBlanks_23 (by decide) (fun hc => ?_) (fun hc => ?_)
    · have h := h.1 hc
      refine wp_iload (pc := 31) d_X10_afterBlanks_31 rfl ?_
      refine wp_bipush (pc := 33) (v := 37) d_X10_afterBlanks_33 rfl ?_
      refine wp_icmp_ne (pc := 35) (tgt := 43) d_X10_afterBlanks_35 (by decide) (fun hc => ?_) (fun hc => ?_)
      · have h := h.1 hc
        refine wp_iload_n (pc := 43) d_X10_afterBlanks_43 rfl ?_
        refine wp_if_ne (pc := 44) (tgt := 70) d_X10_afterBlanks_44 (by decide) (fun hc => ?_) (fun hc => ?_)
        · have h := h.1 hc
          refine wp_sub ?_ h
          exact ⟨rfl, ⟨rfl, ⟨rfl, ⟨rfl, ⟨rfl, trivial⟩⟩⟩⟩⟩
        · have h := h.2 hc
          refine wp_iload (pc := 47) d_X10_afterBlanks_47 rfl ?_
          refine wp_bipush (pc := 49) (v := 32) d_X10_afterBlanks_49 rfl ?_
          refine wp_icmp_eq (pc := 51) (tgt := 70) d_X10_afterBlanks_51 (by decide) (fun hc => ?_) (fun hc => ?_)
          · have h := h.1 hc
            refine wp_sub ?_ h
            exact ⟨rfl, ⟨rfl, ⟨rfl, ⟨rfl, ⟨rfl, trivial⟩⟩⟩⟩⟩
          · have h := h.2 hc
            refine wp_iload (pc := 54) d_X10_afterBlanks_54 rfl ?_
            refine wp_bipush (pc := 56) (v := 9) d_X10_afterBlanks_56 rfl ?_
            refine wp_icmp_eq (pc := 58) (tgt := 70) d_X10_afterBlanks_58 (by decide) (fun hc => ?_) (fun hc => ?_)
            · have h := h.1 hc
              refine wp_sub ?_ h
              exact ⟨rfl, ⟨rfl, ⟨rfl, ⟨rfl, ⟨rfl, trivial⟩⟩⟩⟩⟩
            · have h := h.2 hc
              refine wp_iload (pc := 61) d_X10_afterBlanks_61 rfl ?_
              refine wp_bipush (pc := 63) (v := 13) d_X10_afterBlanks_63 rfl ?_
              refine wp_icmp_eq (pc := 65) (tgt := 70) d_X10_afterBlanks_65 (by decide) (fun hc => ?_) (fun hc => ?_)
              · have h := h.1 hc
                refine wp_sub ?_ h
                exact ⟨rfl, ⟨rfl, ⟨rfl, ⟨rfl, ⟨rfl, trivial⟩⟩⟩⟩⟩
              · have h := h.2 hc
                refine wp_iload_n (pc := 68) d_X10_afterBlanks_68 rfl ?_
                exact wp_iret (pc := 69) d_X10_afterBlanks_69 rfl h
      · have h := h.2 hc
        refine wp_iconst (pc := 38) (v := 1) d_X10_afterBlanks_38 rfl ?_
        refine wp_istore_n (pc := 39) (lv' := [some (vr _), some (vi _), some (vi _), some (vi _), some (vi _)]) d_X10_afterBlanks_39 (by decide) rfl ?_
        refine wp_goto (pc := 40) (tgt := 70) d_X10_afterBlanks_40 (by decide) ?_
        refine wp_sub ?_ h
        exact ⟨rfl, ⟨rfl, ⟨rfl, ⟨rfl, ⟨rfl, trivial⟩⟩⟩⟩⟩
    · have h := h.2 hc
      refine wp_iconst (pc := 26) (v := 0) d_X10_afterBlanks_26 rfl ?_
      refine wp_istore_n (pc := 27) (lv' := [some (vr _), some (vi _), some (vi _), some (vi _), some (vi _)]) d_X10_afterBlanks_27 (by decide) rfl ?_
      refine wp_goto (pc := 28) (tgt := 70) d_X10_afterBlanks_28 (by decide) ?_
      refine wp_sub ?_ h
      exact ⟨rfl, ⟨rfl, ⟨rfl, ⟨rfl, ⟨rfl, trivial⟩⟩⟩⟩⟩
theorem d_X10_write_0 : decode prog_12_method_14_code 0 = .ok (.aload_n 0, 1) := by decide +kernel
theorem d_X10_write_1 : decode prog_12_method_14_code 1 = .ok (.getfield 29, 3) := by decide +kernel
theorem d_X10_write_4 : decode prog_12_method_14_code 4 = .ok (.aload_n 0, 1) := by decide +kernel
theorem d_X10_write_5 : decode prog_12_method_14_code 5 = .ok (.getfield 11, 3) := by decide +kernel
theorem d_X10_write_8 : decode prog_12_method_14_code 8 = .ok (.arraylength, 1) := by decide +kernel
theorem d_X10_write_9 : decode prog_12_method_14_code 9 = .ok (.if_icmp .lt 71, 3) := by decide +kernel
theorem d_X10_write_12 : decode prog_12_method_14_code 12 = .ok (.aload_n 0, 1) := by decide +kernel
theorem d_X10_write_13 : decode prog_12_method_14_code 13 = .ok (.aload_n 0, 1) := by decide +kernel
theorem d_X10_write_14 : decode prog_12_method_14_code 14 = .ok (.getfield 11, 3) := by decide +kernel
theorem d_X10_write_17 : decode prog_12_method_14_code 17 = .ok (.iconst 2, 1) := by decide +kernel
theorem d_X10_write_18 : decode prog_12_method_14_code 18 = .ok (.aload_n 0, 1) := by decide +kernel
theorem d_X10_write_19 : decode prog_12_method_14_code 19 = .ok (.getfield 29, 3) := by decide +kernel
theorem d_X10_write_22 : decode prog_12_method_14_code 22 = .ok (.imul, 1) := by decide +kernel
theorem d_X10_write_23 : decode prog_12_method_14_code 23 = .ok (.invokestatic 105, 3) := by decide +kernel
theorem d_X10_write_26 : decode prog_12_method_14_code 26 = .ok (.putfield 11, 3) := by decide +kernel
theorem d_X10_write_29 : decode prog_12_method_14_code 29 = .ok (.aload_n 0, 1) := by decide +kernel
theorem d_X10_write_30 : decode prog_12_method_14_code 30 = .ok (.aload_n 0, 1) := by decide +kernel
theorem d_X10_write_31 : decode prog_12_method_14_code 31 = .ok (.getfield 15, 3) := by decide +kernel
theorem d_X10_write_34 : decode prog_12_method_14_code 34 = .ok (.iconst 2, 1) := by decide +kernel
theorem d_X10_write_35 : decode prog_12_method_14_code 35 = .ok (.aload_n 0, 1) := by decide +kernel
theorem d_X10_write_36 : decode prog_12_method_14_code 36 = .ok (.getfield 29, 3) := by decide +kernel
theorem d_X10_write_39 : decode prog_12_method_14_code 39 = .ok (.imul, 1) := by decide +kernel
theorem d_X10_write_40 : decode prog_12_method_14_code 40 = .ok (.invokestatic 111, 3) := by decide +kernel
theorem d_X10_write_43 : decode prog_12_method_14_code 43 = .ok (.putfield 15, 3) := by decide +kernel
theorem d_X10_write_46 : decode prog_12_method_14_code 46 = .ok (.aload_n 0, 1) := by decide +kernel
theorem d_X10_write_47 : decode prog_12_method_14_code 47 = .ok (.aload_n 0, 1) := by decide +kernel
theorem d_X10_write_48 : decode prog_12_method_14_code 48 = .ok (.getfield 19, 3) := by decide +kernel
theorem d_X10_write_51 : decode prog_12_method_14_code 51 = .ok (.iconst 2, 1) := by decide +kernel
theorem d_X10_write_52 : decode prog_12_method_14_code 52 = .ok (.aload_n 0, 1) := by decide +kernel
theorem d_X10_write_53 : decode prog_12_method_14_code 53 = .ok (.getfield 29, 3) := by decide +kernel
theorem d_X10_write_56 : decode prog_12_method_14_code 56 = .ok (.imul, 1) := by decide +kernel
theorem d_X10_write_57 : decode prog_12_method_14_code 57 = .ok (.invokestatic 105, 3) := by decide +kernel
theorem d_X10_write_60 : decode prog_12_method_14_code 60 = .ok (.putfield 19, 3) := by decide +kernel
theorem d_X10_write_63 : decode prog_12_method_14_code 63 = .ok (.aload_n 0, 1) := by decide +kernel
theorem d_X10_write_64 : decode prog_12_method_14_code 64 = .ok (.aload_n 0, 1) := by decide +kernel
theorem d_X10_write_65 : decode prog_12_method_14_code 65 = .ok (.getfield 22, 3) := by decide +kernel
theorem d_X10_write_68 : decode prog_12_method_14_code 68 = .ok (.iconst 2, 1) := by decide +kernel
theorem d_X10_write_69 : decode prog_12_method_14_code 69 = .ok (.aload_n 0, 1) := by decide +kernel
theorem d_X10_write_70 : decode prog_12_method_14_code 70 = .ok (.getfield 29, 3) := by decide +kernel
theorem d_X10_write_73 : decode prog_12_method_14_code 73 = .ok (.imul, 1) := by decide +kernel
theorem d_X10_write_74 : decode prog_12_method_14_code 74 = .ok (.invokestatic 105, 3) := by decide +kernel
theorem d_X10_write_77 : decode prog_12_method_14_code 77 = .ok (.putfield 22, 3) := by decide +kernel
theorem d_X10_write_80 : decode prog_12_method_14_code 80 = .ok (.aload_n 0, 1) := by decide +kernel
theorem d_X10_write_81 : decode prog_12_method_14_code 81 = .ok (.getfield 11, 3) := by decide +kernel
theorem d_X10_write_84 : decode prog_12_method_14_code 84 = .ok (.aload_n 0, 1) := by decide +kernel
theorem d_X10_write_85 : decode prog_12_method_14_code 85 = .ok (.getfield 29, 3) := by decide +kernel
theorem d_X10_write_88 : decode prog_12_method_14_code 88 = .ok (.iload_n 1, 1) := by decide +kernel
theorem d_X10_write_89 : decode prog_12_method_14_code 89 = .ok (.iastore, 1) := by decide +kernel
theorem d_X10_write_90 : decode prog_12_method_14_code 90 = .ok (.aload_n 0, 1) := by decide +kernel
theorem d_X10_write_91 : decode prog_12_method_14_code 91 = .ok (.getfield 15, 3) := by decide +kernel
theorem d_X10_write_94 : decode prog_12_method_14_code 94 = .ok (.aload_n 0, 1) := by decide +kernel
theorem d_X10_write_95 : decode prog_12_method_14_code 95 = .ok (.getfield 29, 3) := by decide +kernel
theorem d_X10_write_98 : decode prog_12_method_14_code 98 = .ok (.lload_n 2, 1) := by decide +kernel
theorem d_X10_write_99 : decode prog_12_method_14_code 99 = .ok (.lastore, 1) := by decide +kernel
theorem d_X10_write_100 : decode prog_12_method_14_code 100 = .ok (.aload_n 0, 1) := by decide +kernel
theorem d_X10_write_101 : decode prog_12_method_14_code 101 = .ok (.getfield 19, 3) := by decide +kernel
theorem d_X10_write_104 : decode prog_12_method_14_code 104 = .ok (.aload_n 0, 1) := by decide +kernel
theorem d_X10_write_105 : decode prog_12_method_14_code 105 = .ok (.getfield 29, 3) := by decide +kernel
theorem d_X10_write_108 : decode prog_12_method_14_code 108 = .ok (.iload 4, 2) := by decide +kernel
theorem d_X10_write_110 : decode prog_12_method_14_code 110 = .ok (.iastore, 1) := by decide +kernel
theorem d_X10_write_111 : decode prog_12_method_14_code 111 = .ok (.aload_n 0, 1) := by decide +kernel
theorem d_X10_write_112 : decode prog_12_method_14_code 112 = .ok (.getfield 22, 3) := by decide +kernel
theorem d_X10_write_115 : decode prog_12_method_14_code 115 = .ok (.aload_n 0, 1) := by decide +kernel
theorem d_X10_write_116 : decode prog_12_method_14_code 116 = .ok (.getfield 29, 3) := by decide +kernel
theorem d_X10_write_119 : decode prog_12_method_14_code 119 = .ok (.iload 5, 2) := by decide +kernel
theorem d_X10_write_121 : decode prog_12_method_14_code 121 = .ok (.iastore, 1) := by decide +kernel
theorem d_X10_write_122 : decode prog_12_method_14_code 122 = .ok (.iload 5, 2) := by decide +kernel
theorem d_X10_write_124 : decode prog_12_method_14_code 124 = .ok (.ireturn, 1) := by decide +kernel
theorem v_X10_write_0 {E : EE} {d : Nat} {Q : Option AV → AH → Prop} {x0 : Nat} {x1 : Int32} {x2 : Int64} {x4 : Int32} {x5 : Int32} {G : AH} (h0 : 0 < d) (h : isO E G x0 10 ∧ (isO E G (gR G x0 0) 14 ∧ (((gI G x0 5) < (nI (gN G (gR G x0 0))) → wp E d M_X10_write 80 [some (vr x0), some (vi x1), some (vj x2), none, some (vi x4), some (vi x5)] [] G Q) ∧ (¬ ((gI G x0 5) < (nI (gN G (gR G x0 0)))) → wpR E (d - 1) M_J7_copyOf_59c91 [vr (gR G x0 0), vi (2 * (gI G x0 5))] G (fun r3 G4 => isO E G4 x0 10 ∧ (∀ G6 : AH, G6 = sR G4 x0 0 r3 → wpR E (d - 1) M_J7_copyOf_c38d5 [vr (gR G6 x0 1), vi (2 * (gI G6 x0 5))] G6 (fun r8 G9 => isO E G9 x0 10 ∧ (∀ G11 : AH, G11 = sR G9 x0 1 r8 → wpR E (d - 1) M_J7_copyOf_59c91 [vr (gR G11 x0 2), vi (2 * (gI G11 x0 5))] G11 (fun r13 G14 => isO E G14 x0 10 ∧ (∀ G16 : AH, G16 = sR G14 x0 2 r13 → wpR E (d - 1) M_J7_copyOf_59c91 [vr (gR G16 x0 3), vi (2 * (gI G16 x0 5))] G16 (fun r18 G19 => isO E G19 x0 10 ∧ (∀ G21 : AH, G21 = sR G19 x0 3 r18 → wp E d M_X10_write 80 [some (vr x0), some (vi x1), some (vj x2), none, some (vi x4), some (vi x5)] [] G21 Q)))))))))))) : wp E d M_X10_write 0 [some (vr x0), some (vi x1), some (vj x2), none, some (vi x4), some (vi x5)] [] G Q := by
  refine wp_aload_n (pc := 0) d_X10_write_0 rfl ?_
  obtain ⟨ho1, h⟩ := h
  refine wp_getI (pc := 1) d_X10_write_1 fl_X10_29 (fun _ _ _ => rfl) ho1 ?_
  refine wp_aload_n (pc := 4) d_X10_write_4 rfl ?_
  refine wp_getR (pc := 5) d_X10_write_5 fl_X10_11 (fun _ _ _ => rfl) ho1 ?_
  obtain ⟨ho2, h⟩ := h
  refine wp_alen (pc := 8) d_X10_write_8 ho2 (by decide) rfl ?_
  refine wp_icmp_lt (pc := 9) (tgt := 80) d_X10_write_9 (by decide) (fun hc => ?_) (fun hc => ?_)
  · have h := h.1 hc
    refine wp_sub ?_ h
    exact ⟨rfl, ⟨rfl, ⟨rfl, ⟨rfl, ⟨rfl, trivial⟩⟩⟩⟩⟩
  · have h := h.2 hc
    refine wp_aload_n (pc := 12) d_X10_write_12 rfl ?_
    refine wp_aload_n (pc := 13) d_X10_write_13 rfl ?_
    refine wp_getR (pc := 14) d_X10_write_14 fl_X10_11 (fun _ _ _ => rfl) ho1 ?_
    refine wp_iconst (pc := 17) (v := 2) d_X10_write_17 rfl ?_
    refine wp_aload_n (pc := 18) d_X10_write_18 rfl ?_
    refine wp_getI (pc := 19) d_X10_write_19 fl_X10_29 (fun _ _ _ => rfl) ho1 ?_
    refine wp_imul (pc := 22) d_X10_write_22 ?_
    refine wp_invS (pc := 23) (N := M_J7_copyOf_59c91) (As := [vr _, vi _]) (rest := [vr _]) d_X10_write_23 ml_X10_105 mk_J7_copyOf_59c91 ms_J7_copyOf_59c91 h0 (Nat.le_of_ble_eq_true rfl) ?_
    refine wpM.mono h (fun rr G4 hr => ?_)
    obtain ⟨r3, rfl, h⟩ := hr
    show wp E d M_X10_write 26 [some (vr _), some (vi _), some (vj _), none, some (vi _), some (vi _)] [vr _, vr _] G4 Q
    obtain ⟨ho5, h⟩ := h
    refine wp_putR (pc := 26) d_X10_write_26 fl_X10_11 (fun _ _ _ => rfl) (Or.inr ⟨_, rfl⟩) (Or.inl rfl) ho5 ?_
    refine wp_nm (fun G6 eG6 => ?_)
    have h := h G6 eG6
    have ho7 := isO_sR eG6 ho5
    refine wp_aload_n (pc := 29) d_X10_write_29 rfl ?_
    refine wp_aload_n (pc := 30) d_X10_write_30 rfl ?_
    refine wp_getR (pc := 31) d_X10_write_31 fl_X10_15 (fun _ _ _ => rfl) ho7 ?_
    refine wp_iconst (pc := 34) (v := 2) d_X10_write_34 rfl ?_
    refine wp_aload_n (pc := 35) d_X10_write_35 rfl ?_
    refine wp_getI (pc := 36) d_X10_write_36 fl_X10_29 (fun _ _ _ => rfl) ho7 ?_
    refine wp_imul (pc := 39) d_X10_write_39 ?_
    refine wp_invS (pc := 40) (N := M_J7_copyOf_c38d5) (As := [vr _, vi _]) (rest := [vr _]) d_X10_write_40 ml_X10_111 mk_J7_copyOf_c38d5 ms_J7_copyOf_c38d5 h0 (Nat.le_of_ble_eq_true rfl) ?_
    refine wpM.mono h (fun rr G9 hr => ?_)
    obtain ⟨r8, rfl, h⟩ := hr
    show wp E d M_X10_write 43 [some (vr _), some (vi _), some (vj _), none, some (vi _), some (vi _)] [vr _, vr _] G9 Q
    obtain ⟨ho10, h⟩ := h
    refine wp_putR (pc := 43) d_X10_write_43 fl_X10_15 (fun _ _ _ => rfl) (Or.inr ⟨_, rfl⟩) (Or.inl rfl) ho10 ?_
    refine wp_nm (fun G11 eG11 => ?_)
    have h := h G11 eG11
    have ho12 := isO_sR eG11 ho10
    refine wp_aload_n (pc := 46) d_X10_write_46 rfl ?_
    refine wp_aload_n (pc := 47) d_X10_write_47 rfl ?_
    refine wp_getR (pc := 48) d_X10_write_48 fl_X10_19 (fun _ _ _ => rfl) ho12 ?_
    refine wp_iconst (pc := 51) (v := 2) d_X10_write_51 rfl ?_
    refine wp_aload_n (pc := 52) d_X10_write_52 rfl ?_
    refine wp_getI (pc := 53) d_X10_write_53 fl_X10_29 (fun _ _ _ => rfl) ho12 ?_
    refine wp_imul (pc := 56) d_X10_write_56 ?_
    refine wp_invS (pc := 57) (N := M_J7_copyOf_59c91) (As := [vr _, vi _]) (rest := [vr _]) d_X10_write_57 ml_X10_105 mk_J7_copyOf_59c91 ms_J7_copyOf_59c91 h0 (Nat.le_of_ble_eq_true rfl) ?_
    refine wpM.mono h (fun rr G14 hr => ?_)
    obtain ⟨r13, rfl, h⟩ := hr
    show wp E d M_X10_write 60 [some (vr _), some (vi _), some (vj _), none, some (vi _), some (vi _)] [vr _, vr _] G14 Q
    obtain ⟨ho15, h⟩ := h
    refine wp_putR (pc := 60) d_X10_write_60 fl_X10_19 (fun _ _ _ => rfl) (Or.inr ⟨_, rfl⟩) (Or.inl rfl) ho15 ?_
    refine wp_nm (fun G16 eG16 => ?_)
    have h := h G16 eG16
    have ho17 := isO_sR eG16 ho15
    refine wp_aload_n (pc := 63) d_X10_write_63 rfl ?_
    refine wp_aload_n (pc := 64) d_X10_write_64 rfl ?_
    refine wp_getR (pc := 65) d_X10_write_65 fl_X10_22 (fun _ _ _ => rfl) ho17 ?_
    refine wp_iconst (pc := 68) (v := 2) d_X10_write_68 rfl ?_
    refine wp_aload_n (pc := 69) d_X10_write_69 rfl ?_
    refine wp_getI (pc := 70) d_X10_write_70 fl_X10_29 (fun _ _ _ => rfl) ho17 ?_
    refine wp_imul (pc := 73) d_X10_write_73 ?_
    refine wp_invS (pc := 74) (N := M_J7_copyOf_59c91) (As := [vr _, vi _]) (rest := [vr _]) d_X10_write_74 ml_X10_105 mk_J7_copyOf_59c91 ms_J7_copyOf_59c91 h0 (Nat.le_of_ble_eq_true rfl) ?_
    refine wpM.mono h (fun rr G19 hr => ?_)
    obtain ⟨r18, rfl, h⟩ := hr
    show wp E d M_X10_write 77 [some (vr _), some (vi _), some (vj _), none, some (vi _), some (vi _)] [vr _, vr _] G19 Q
    obtain ⟨ho20, h⟩ := h
    refine wp_putR (pc := 77) d_X10_write_77 fl_X10_22 (fun _ _ _ => rfl) (Or.inr ⟨_, rfl⟩) (Or.inl rfl) ho20 ?_
    refine wp_nm (fun G21 eG21 => ?_)
    have h := h G21 eG21
    have ho22 := isO_sR eG21 ho20
    refine wp_sub ?_ h
    exact ⟨rfl, ⟨rfl, ⟨rfl, ⟨rfl, ⟨rfl, trivial⟩⟩⟩⟩⟩
theorem v_X10_write_80 {E : EE} {d : Nat} {Q : Option AV → AH → Prop} {x0 : Nat} {x1 : Int32} {x2 : Int64} {x4 : Int32} {x5 : Int32} {G : AH} (h : isO E G x0 10 ∧ (isO E G (gR G x0 0) 14 ∧ (vp_in (gI G x0 5) (gN G (gR G x0 0)) ∧ (∀ G4 : AH, G4 = sI G (gR G x0 0) (Int32.toNatClampNeg (gI G x0 5)) x1 → isO E G4 (gR G4 x0 1) 15 ∧ (vp_in (gI G4 x0 5) (gN G4 (gR G4 x0 1)) ∧ (∀ G8 : AH, G8 = sJ G4 (gR G4 x0 1) (Int32.toNatClampNeg (gI G4 x0 5)) x2 → isO E G8 (gR G8 x0 2) 14 ∧ (vp_in (gI G8 x0 5) (gN G8 (gR G8 x0 2)) ∧ (∀ G12 : AH, G12 = sI G8 (gR G8 x0 2) (Int32.toNatClampNeg (gI G8 x0 5)) x4 → isO E G12 (gR G12 x0 3) 14 ∧ (vp_in (gI G12 x0 5) (gN G12 (gR G12 x0 3)) ∧ (∀ G16 : AH, G16 = sI G12 (gR G12 x0 3) (Int32.toNatClampNeg (gI G12 x0 5)) x5 → Q (some (vi x5)) G16)))))))))) : wp E d M_X10_write 80 [some (vr x0), some (vi x1), some (vj x2), none, some (vi x4), some (vi x5)] [] G Q := by
  refine wp_aload_n (pc := 80) d_X10_write_80 rfl ?_
  obtain ⟨ho1, h⟩ := h
  refine wp_getR (pc := 81) d_X10_write_81 fl_X10_11 (fun _ _ _ => rfl) ho1 ?_
  refine wp_aload_n (pc := 84) d_X10_write_84 rfl ?_
  refine wp_getI (pc := 85) d_X10_write_85 fl_X10_29 (fun _ _ _ => rfl) ho1 ?_
  refine wp_iload_n (pc := 88) d_X10_write_88 rfl ?_
  obtain ⟨ho2, h⟩ := h
  obtain ⟨hi3, h⟩ := h
  refine wp_iast (pc := 89) d_X10_write_89 ho2 hi3 ?_
  refine wp_nm (fun G4 eG4 => ?_)
  have h := h G4 eG4
  have ho5 := isO_sI eG4 ho1
  refine wp_aload_n (pc := 90) d_X10_write_90 rfl ?_
  refine wp_getR (pc := 91) d_X10_write_91 fl_X10_15 (fun _ _ _ => rfl) ho5 ?_
  refine wp_aload_n (pc := 94) d_X10_write_94 rfl ?_
  refine wp_getI (pc := 95) d_X10_write_95 fl_X10_29 (fun _ _ _ => rfl) ho5 ?_
  refine wp_lload_n (pc := 98) d_X10_write_98 rfl ?_
  obtain ⟨ho6, h⟩ := h
  obtain ⟨hi7, h⟩ := h
  refine wp_last (pc := 99) d_X10_write_99 ho6 hi7 ?_
  refine wp_nm (fun G8 eG8 => ?_)
  have h := h G8 eG8
  have ho9 := isO_sJ eG8 ho5
  refine wp_aload_n (pc := 100) d_X10_write_100 rfl ?_
  refine wp_getR (pc := 101) d_X10_write_101 fl_X10_19 (fun _ _ _ => rfl) ho9 ?_
  refine wp_aload_n (pc := 104) d_X10_write_104 rfl ?_
  refine wp_getI (pc := 105) d_X10_write_105 fl_X10_29 (fun _ _ _ => rfl) ho9 ?_
  refine wp_iload (pc := 108) d_X10_write_108 rfl ?_
  obtain ⟨ho10, h⟩ := h
  obtain ⟨hi11, h⟩ := h
  refine wp_iast (pc := 110) d_X10_write_110 ho10 hi11 ?_
  refine wp_nm (fun G12 eG12 => ?_)
  have h := h G12 eG12
  have ho13 := isO_sI eG12 ho9
  refine wp_aload_n (pc := 111) d_X10_write_111 rfl ?_
  refine wp_getR (pc := 112) d_X10_write_112 fl_X10_22 (fun _ _ _ => rfl) ho13 ?_
  refine wp_aload_n (pc := 115) d_X10_write_115 rfl ?_
  refine wp_getI (pc := 116) d_X10_write_116 fl_X10_29 (fun _ _ _ => rfl) ho13 ?_
  refine wp_iload (pc := 119) d_X10_write_119 rfl ?_
  obtain ⟨ho14, h⟩ := h
  obtain ⟨hi15, h⟩ := h
  refine wp_iast (pc := 121) d_X10_write_121 ho14 hi15 ?_
  refine wp_nm (fun G16 eG16 => ?_)
  have h := h G16 eG16
  have ho17 := isO_sI eG16 ho13
  refine wp_iload (pc := 122) d_X10_write_122 rfl ?_
  exact wp_iret (pc := 124) d_X10_write_124 rfl h
theorem d_X10_step_0 : decode prog_12_method_3_code 0 = .ok (.aload_n 0, 1) := by decide +kernel
theorem d_X10_step_1 : decode prog_12_method_3_code 1 = .ok (.getfield 25, 3) := by decide +kernel
theorem d_X10_step_4 : decode prog_12_method_3_code 4 = .ok (.aload_n 0, 1) := by decide +kernel
theorem d_X10_step_5 : decode prog_12_method_3_code 5 = .ok (.getfield 29, 3) := by decide +kernel
theorem d_X10_step_8 : decode prog_12_method_3_code 8 = .ok (.if_icmp .ge 13, 3) := by decide +kernel
theorem d_X10_step_11 : decode prog_12_method_3_code 11 = .ok (.aload_n 0, 1) := by decide +kernel
theorem d_X10_step_12 : decode prog_12_method_3_code 12 = .ok (.dup, 1) := by decide +kernel
theorem d_X10_step_13 : decode prog_12_method_3_code 13 = .ok (.getfield 25, 3) := by decide +kernel
theorem d_X10_step_16 : decode prog_12_method_3_code 16 = .ok (.iconst 1, 1) := by decide +kernel
theorem d_X10_step_17 : decode prog_12_method_3_code 17 = .ok (.iadd, 1) := by decide +kernel
theorem d_X10_step_18 : decode prog_12_method_3_code 18 = .ok (.putfield 25, 3) := by decide +kernel
theorem d_X10_step_21 : decode prog_12_method_3_code 21 = .ok (.aload_n 0, 1) := by decide +kernel
theorem d_X10_step_22 : decode prog_12_method_3_code 22 = .ok (.getfield 25, 3) := by decide +kernel
theorem d_X10_step_25 : decode prog_12_method_3_code 25 = .ok (.ifCond .lt 15, 3) := by decide +kernel
theorem d_X10_step_28 : decode prog_12_method_3_code 28 = .ok (.aload_n 0, 1) := by decide +kernel
theorem d_X10_step_29 : decode prog_12_method_3_code 29 = .ok (.getfield 25, 3) := by decide +kernel
theorem d_X10_step_32 : decode prog_12_method_3_code 32 = .ok (.aload_n 0, 1) := by decide +kernel
theorem d_X10_step_33 : decode prog_12_method_3_code 33 = .ok (.getfield 11, 3) := by decide +kernel
theorem d_X10_step_36 : decode prog_12_method_3_code 36 = .ok (.arraylength, 1) := by decide +kernel
theorem d_X10_step_37 : decode prog_12_method_3_code 37 = .ok (.if_icmp .lt 4, 3) := by decide +kernel
theorem d_X10_step_40 : decode prog_12_method_3_code 40 = .ok (.return_, 1) := by decide +kernel
theorem d_X10_step_41 : decode prog_12_method_3_code 41 = .ok (.aload_n 0, 1) := by decide +kernel
theorem d_X10_step_42 : decode prog_12_method_3_code 42 = .ok (.aload_n 0, 1) := by decide +kernel
theorem d_X10_step_43 : decode prog_12_method_3_code 43 = .ok (.getfield 11, 3) := by decide +kernel
theorem d_X10_step_46 : decode prog_12_method_3_code 46 = .ok (.aload_n 0, 1) := by decide +kernel
theorem d_X10_step_47 : decode prog_12_method_3_code 47 = .ok (.getfield 25, 3) := by decide +kernel
theorem d_X10_step_50 : decode prog_12_method_3_code 50 = .ok (.iaload, 1) := by decide +kernel
theorem d_X10_step_51 : decode prog_12_method_3_code 51 = .ok (.putfield 32, 3) := by decide +kernel
theorem d_X10_step_54 : decode prog_12_method_3_code 54 = .ok (.aload_n 0, 1) := by decide +kernel
theorem d_X10_step_55 : decode prog_12_method_3_code 55 = .ok (.aload_n 0, 1) := by decide +kernel
theorem d_X10_step_56 : decode prog_12_method_3_code 56 = .ok (.getfield 15, 3) := by decide +kernel
theorem d_X10_step_59 : decode prog_12_method_3_code 59 = .ok (.aload_n 0, 1) := by decide +kernel
theorem d_X10_step_60 : decode prog_12_method_3_code 60 = .ok (.getfield 25, 3) := by decide +kernel
theorem d_X10_step_63 : decode prog_12_method_3_code 63 = .ok (.laload, 1) := by decide +kernel
theorem d_X10_step_64 : decode prog_12_method_3_code 64 = .ok (.putfield 35, 3) := by decide +kernel
theorem d_X10_step_67 : decode prog_12_method_3_code 67 = .ok (.aload_n 0, 1) := by decide +kernel
theorem d_X10_step_68 : decode prog_12_method_3_code 68 = .ok (.aload_n 0, 1) := by decide +kernel
theorem d_X10_step_69 : decode prog_12_method_3_code 69 = .ok (.getfield 19, 3) := by decide +kernel
theorem d_X10_step_72 : decode prog_12_method_3_code 72 = .ok (.aload_n 0, 1) := by decide +kernel
theorem d_X10_step_73 : decode prog_12_method_3_code 73 = .ok (.getfield 25, 3) := by decide +kernel
theorem d_X10_step_76 : decode prog_12_method_3_code 76 = .ok (.iaload, 1) := by decide +kernel
theorem d_X10_step_77 : decode prog_12_method_3_code 77 = .ok (.putfield 39, 3) := by decide +kernel
theorem d_X10_step_80 : decode prog_12_method_3_code 80 = .ok (.aload_n 0, 1) := by decide +kernel
theorem d_X10_step_81 : decode prog_12_method_3_code 81 = .ok (.aload_n 0, 1) := by decide +kernel
theorem d_X10_step_82 : decode prog_12_method_3_code 82 = .ok (.getfield 22, 3) := by decide +kernel
theorem d_X10_step_85 : decode prog_12_method_3_code 85 = .ok (.aload_n 0, 1) := by decide +kernel
theorem d_X10_step_86 : decode prog_12_method_3_code 86 = .ok (.getfield 25, 3) := by decide +kernel
theorem d_X10_step_89 : decode prog_12_method_3_code 89 = .ok (.iaload, 1) := by decide +kernel
theorem d_X10_step_90 : decode prog_12_method_3_code 90 = .ok (.putfield 42, 3) := by decide +kernel
theorem d_X10_step_93 : decode prog_12_method_3_code 93 = .ok (.return_, 1) := by decide +kernel
theorem v_X10_step_0 {E : EE} {d : Nat} {Q : Option AV → AH → Prop} {x0 : Nat} {G : AH} (h : isO E G x0 10 ∧ (((gI G x0 5) ≤ (gI G x0 4) → wp E d M_X10_step 21 [some (vr x0)] [] G Q) ∧ (¬ ((gI G x0 5) ≤ (gI G x0 4)) → wp E d M_X10_step 21 [some (vr x0)] [] (sI G x0 4 ((gI G x0 4) + 1)) Q))) : wp E d M_X10_step 0 [some (vr x0)] [] G Q := by
  refine wp_aload_n (pc := 0) d_X10_step_0 rfl ?_
  obtain ⟨ho1, h⟩ := h
  refine wp_getI (pc := 1) d_X10_step_1 fl_X10_25 (fun _ _ _ => rfl) ho1 ?_
  refine wp_aload_n (pc := 4) d_X10_step_4 rfl ?_
  refine wp_getI (pc := 5) d_X10_step_5 fl_X10_29 (fun _ _ _ => rfl) ho1 ?_
  refine wp_icmp_ge (pc := 8) (tgt := 21) d_X10_step_8 (by decide) (fun hc => ?_) (fun hc => ?_)
  · have h := h.1 hc
    refine wp_sub ?_ h
    exact ⟨rfl, trivial⟩
  · have h := h.2 hc
    refine wp_aload_n (pc := 11) d_X10_step_11 rfl ?_
    refine wp_dup (pc := 12) d_X10_step_12 (c1_r _) ?_
    refine wp_getI (pc := 13) d_X10_step_13 fl_X10_25 (fun _ _ _ => rfl) ho1 ?_
    refine wp_iconst (pc := 16) (v := 1) d_X10_step_16 rfl ?_
    refine wp_iadd (pc := 17) d_X10_step_17 ?_
    refine wp_putI (pc := 18) d_X10_step_18 fl_X10_25 (fun _ _ _ => rfl) (Or.inl rfl) ho1 (okI_int _) ?_
    refine wp_sub ?_ h
    exact ⟨rfl, trivial⟩
theorem v_X10_step_21 {E : EE} {d : Nat} {Q : Option AV → AH → Prop} {x0 : Nat} {G : AH} (h : isO E G x0 10 ∧ (((gI G x0 4) < 0 → Q none G) ∧ (¬ ((gI G x0 4) < 0) → isO E G (gR G x0 0) 14 ∧ (((gI G x0 4) < (nI (gN G (gR G x0 0))) → vp_in (gI G x0 4) (gN G (gR G x0 0)) ∧ (∀ G4 : AH, G4 = sI G x0 6 (gI G (gR G x0 0) (Int32.toNatClampNeg (gI G x0 4))) → isO E G4 (gR G4 x0 1) 15 ∧ (vp_in (gI G4 x0 4) (gN G4 (gR G4 x0 1)) ∧ (∀ G8 : AH, G8 = sJ G4 x0 7 (gJ G4 (gR G4 x0 1) (Int32.toNatClampNeg (gI G4 x0 4))) → isO E G8 (gR G8 x0 2) 14 ∧ (vp_in (gI G8 x0 4) (gN G8 (gR G8 x0 2)) ∧ (∀ G12 : AH, G12 = sI G8 x0 8 (gI G8 (gR G8 x0 2) (Int32.toNatClampNeg (gI G8 x0 4))) → isO E G12 (gR G12 x0 3) 14 ∧ (vp_in (gI G12 x0 4) (gN G12 (gR G12 x0 3)) ∧ (∀ G16 : AH, G16 = sI G12 x0 9 (gI G12 (gR G12 x0 3) (Int32.toNatClampNeg (gI G12 x0 4))) → Q none G16)))))))) ∧ (¬ ((gI G x0 4) < (nI (gN G (gR G x0 0)))) → Q none G))))) : wp E d M_X10_step 21 [some (vr x0)] [] G Q := by
  refine wp_aload_n (pc := 21) d_X10_step_21 rfl ?_
  obtain ⟨ho1, h⟩ := h
  refine wp_getI (pc := 22) d_X10_step_22 fl_X10_25 (fun _ _ _ => rfl) ho1 ?_
  refine wp_if_lt (pc := 25) (tgt := 40) d_X10_step_25 (by decide) (fun hc => ?_) (fun hc => ?_)
  · have h := h.1 hc
    exact wp_vret (pc := 40) d_X10_step_40 rfl h
  · have h := h.2 hc
    refine wp_aload_n (pc := 28) d_X10_step_28 rfl ?_
    refine wp_getI (pc := 29) d_X10_step_29 fl_X10_25 (fun _ _ _ => rfl) ho1 ?_
    refine wp_aload_n (pc := 32) d_X10_step_32 rfl ?_
    refine wp_getR (pc := 33) d_X10_step_33 fl_X10_11 (fun _ _ _ => rfl) ho1 ?_
    obtain ⟨ho2, h⟩ := h
    refine wp_alen (pc := 36) d_X10_step_36 ho2 (by decide) rfl ?_
    refine wp_icmp_lt (pc := 37) (tgt := 41) d_X10_step_37 (by decide) (fun hc => ?_) (fun hc => ?_)
    · have h := h.1 hc
      refine wp_aload_n (pc := 41) d_X10_step_41 rfl ?_
      refine wp_aload_n (pc := 42) d_X10_step_42 rfl ?_
      refine wp_getR (pc := 43) d_X10_step_43 fl_X10_11 (fun _ _ _ => rfl) ho1 ?_
      refine wp_aload_n (pc := 46) d_X10_step_46 rfl ?_
      refine wp_getI (pc := 47) d_X10_step_47 fl_X10_25 (fun _ _ _ => rfl) ho1 ?_
      obtain ⟨hi3, h⟩ := h
      refine wp_iald (pc := 50) d_X10_step_50 ho2 hi3 ?_
      refine wp_putI (pc := 51) d_X10_step_51 fl_X10_32 (fun _ _ _ => rfl) (Or.inl rfl) ho1 (okI_int _) ?_
      refine wp_nm (fun G4 eG4 => ?_)
      have h := h G4 eG4
      have ho5 := isO_sI eG4 ho1
      refine wp_aload_n (pc := 54) d_X10_step_54 rfl ?_
      refine wp_aload_n (pc := 55) d_X10_step_55 rfl ?_
      refine wp_getR (pc := 56) d_X10_step_56 fl_X10_15 (fun _ _ _ => rfl) ho5 ?_
      refine wp_aload_n (pc := 59) d_X10_step_59 rfl ?_
      refine wp_getI (pc := 60) d_X10_step_60 fl_X10_25 (fun _ _ _ => rfl) ho5 ?_
      obtain ⟨ho6, h⟩ := h
      obtain ⟨hi7, h⟩ := h
      refine wp_lald (pc := 63) d_X10_step_63 ho6 hi7 ?_
      refine wp_putJ (pc := 64) d_X10_step_64 fl_X10_35 (fun _ _ _ => rfl) rfl (Or.inl rfl) ho5 ?_
      refine wp_nm (fun G8 eG8 => ?_)
      have h := h G8 eG8
      have ho9 := isO_sJ eG8 ho5
      refine wp_aload_n (pc := 67) d_X10_step_67 rfl ?_
      refine wp_aload_n (pc := 68) d_X10_step_68 rfl ?_
      refine wp_getR (pc := 69) d_X10_step_69 fl_X10_19 (fun _ _ _ => rfl) ho9 ?_
      refine wp_aload_n (pc := 72) d_X10_step_72 rfl ?_
      refine wp_getI (pc := 73) d_X10_step_73 fl_X10_25 (fun _ _ _ => rfl) ho9 ?_
      obtain ⟨ho10, h⟩ := h
      obtain ⟨hi11, h⟩ := h
      refine wp_iald (pc := 76) d_X10_step_76 ho10 hi11 ?_
      refine wp_putI (pc := 77) d_X10_step_77 fl_X10_39 (fun _ _ _ => rfl) (Or.inl rfl) ho9 (okI_int _) ?_
      refine wp_nm (fun G12 eG12 => ?_)
      have h := h G12 eG12
      have ho13 := isO_sI eG12 ho9
      refine wp_aload_n (pc := 80) d_X10_step_80 rfl ?_
      refine wp_aload_n (pc := 81) d_X10_step_81 rfl ?_
      refine wp_getR (pc := 82) d_X10_step_82 fl_X10_22 (fun _ _ _ => rfl) ho13 ?_
      refine wp_aload_n (pc := 85) d_X10_step_85 rfl ?_
      refine wp_getI (pc := 86) d_X10_step_86 fl_X10_25 (fun _ _ _ => rfl) ho13 ?_
      obtain ⟨ho14, h⟩ := h
      obtain ⟨hi15, h⟩ := h
      refine wp_iald (pc := 89) d_X10_step_89 ho14 hi15 ?_
      refine wp_putI (pc := 90) d_X10_step_90 fl_X10_42 (fun _ _ _ => rfl) (Or.inl rfl) ho13 (okI_int _) ?_
      refine wp_nm (fun G16 eG16 => ?_)
      have h := h G16 eG16
      have ho17 := isO_sI eG16 ho13
      exact wp_vret (pc := 93) d_X10_step_93 rfl h
    · have h := h.2 hc
      exact wp_vret (pc := 40) d_X10_step_40 rfl h
theorem d_X10_is_0 : decode prog_12_method_4_code 0 = .ok (.aload_n 0, 1) := by decide +kernel
theorem d_X10_is_1 : decode prog_12_method_4_code 1 = .ok (.getfield 32, 3) := by decide +kernel
theorem d_X10_is_4 : decode prog_12_method_4_code 4 = .ok (.iconst 4, 1) := by decide +kernel
theorem d_X10_is_5 : decode prog_12_method_4_code 5 = .ok (.if_icmp .ne 17, 3) := by decide +kernel
theorem d_X10_is_8 : decode prog_12_method_4_code 8 = .ok (.aload_n 0, 1) := by decide +kernel
theorem d_X10_is_9 : decode prog_12_method_4_code 9 = .ok (.getfield 35, 3) := by decide +kernel
theorem d_X10_is_12 : decode prog_12_method_4_code 12 = .ok (.iload_n 1, 1) := by decide +kernel
theorem d_X10_is_13 : decode prog_12_method_4_code 13 = .ok (.i2l, 1) := by decide +kernel
theorem d_X10_is_14 : decode prog_12_method_4_code 14 = .ok (.lcmp, 1) := by decide +kernel
theorem d_X10_is_15 : decode prog_12_method_4_code 15 = .ok (.ifCond .ne 7, 3) := by decide +kernel
theorem d_X10_is_18 : decode prog_12_method_4_code 18 = .ok (.iconst 1, 1) := by decide +kernel
theorem d_X10_is_19 : decode prog_12_method_4_code 19 = .ok (.goto 4, 3) := by decide +kernel
theorem d_X10_is_22 : decode prog_12_method_4_code 22 = .ok (.iconst 0, 1) := by decide +kernel
theorem d_X10_is_23 : decode prog_12_method_4_code 23 = .ok (.ireturn, 1) := by decide +kernel
theorem v_X10_is_0 {E : EE} {d : Nat} {Q : Option AV → AH → Prop} {x0 : Nat} {x1 : Int32} {G : AH} (h : isO E G x0 10 ∧ ((¬ (gI G x0 6) = 4 → Q (some (vi 0)) G) ∧ ((gI G x0 6) = 4 → (¬ (gJ G x0 7) = (Int32.toInt64 x1) → Q (some (vi 0)) G) ∧ ((gJ G x0 7) = (Int32.toInt64 x1) → Q (some (vi 1)) G)))) : wp E d M_X10_is 0 [some (vr x0), some (vi x1)] [] G Q := by
  refine wp_aload_n (pc := 0) d_X10_is_0 rfl ?_
  obtain ⟨ho1, h⟩ := h
  refine wp_getI (pc := 1) d_X10_is_1 fl_X10_32 (fun _ _ _ => rfl) ho1 ?_
  refine wp_iconst (pc := 4) (v := 4) d_X10_is_4 rfl ?_
  refine wp_icmp_ne (pc := 5) (tgt := 22) d_X10_is_5 (by decide) (fun hc => ?_) (fun hc => ?_)
  · have h := h.1 hc
    refine wp_iconst (pc := 22) (v := 0) d_X10_is_22 rfl ?_
    exact wp_zret (pc := 23) d_X10_is_23 rfl rfl h
  · have h := h.2 hc
    refine wp_aload_n (pc := 8) d_X10_is_8 rfl ?_
    refine wp_getJ (pc := 9) d_X10_is_9 fl_X10_35 (fun _ _ _ => rfl) ho1 ?_
    refine wp_iload_n (pc := 12) d_X10_is_12 rfl ?_
    refine wp_i2l (pc := 13) d_X10_is_13 ?_
    refine wp_lcmp_ne (pc := 14) (tgt := 22) d_X10_is_14 d_X10_is_15 (by decide) (fun hc => ?_) (fun hc => ?_)
    · have h := h.1 hc
      refine wp_iconst (pc := 22) (v := 0) d_X10_is_22 rfl ?_
      exact wp_zret (pc := 23) d_X10_is_23 rfl rfl h
    · have h := h.2 hc
      refine wp_iconst (pc := 18) (v := 1) d_X10_is_18 rfl ?_
      refine wp_goto (pc := 19) (tgt := 23) d_X10_is_19 (by decide) ?_
      exact wp_zret (pc := 23) d_X10_is_23 rfl rfl h
theorem d_X10_refuse_0 : decode prog_12_method_6_code 0 = .ok (.aload_n 0, 1) := by decide +kernel
theorem d_X10_refuse_1 : decode prog_12_method_6_code 1 = .ok (.aload_n 0, 1) := by decide +kernel
theorem d_X10_refuse_2 : decode prog_12_method_6_code 2 = .ok (.getfield 32, 3) := by decide +kernel
theorem d_X10_refuse_5 : decode prog_12_method_6_code 5 = .ok (.iconst 1, 1) := by decide +kernel
theorem d_X10_refuse_6 : decode prog_12_method_6_code 6 = .ok (.if_icmp .ne 7, 3) := by decide +kernel
theorem d_X10_refuse_9 : decode prog_12_method_6_code 9 = .ok (.iconst 1, 1) := by decide +kernel
theorem d_X10_refuse_10 : decode prog_12_method_6_code 10 = .ok (.goto 4, 3) := by decide +kernel
theorem d_X10_refuse_13 : decode prog_12_method_6_code 13 = .ok (.iconst 2, 1) := by decide +kernel
theorem d_X10_refuse_14 : decode prog_12_method_6_code 14 = .ok (.putfield 45, 3) := by decide +kernel
theorem d_X10_refuse_17 : decode prog_12_method_6_code 17 = .ok (.aload_n 0, 1) := by decide +kernel
theorem d_X10_refuse_18 : decode prog_12_method_6_code 18 = .ok (.aload_n 0, 1) := by decide +kernel
theorem d_X10_refuse_19 : decode prog_12_method_6_code 19 = .ok (.getfield 39, 3) := by decide +kernel
theorem d_X10_refuse_22 : decode prog_12_method_6_code 22 = .ok (.putfield 48, 3) := by decide +kernel
theorem d_X10_refuse_25 : decode prog_12_method_6_code 25 = .ok (.iconst 0, 1) := by decide +kernel
theorem d_X10_refuse_26 : decode prog_12_method_6_code 26 = .ok (.ireturn, 1) := by decide +kernel
theorem v_X10_refuse_0 {E : EE} {d : Nat} {Q : Option AV → AH → Prop} {x0 : Nat} {G : AH} (h : isO E G x0 10 ∧ ((¬ (gI G x0 6) = 1 → wp E d M_X10_refuse 14 [some (vr x0)] [vi 2, vr x0] G Q) ∧ ((gI G x0 6) = 1 → wp E d M_X10_refuse 14 [some (vr x0)] [vi 1, vr x0] G Q))) : wp E d M_X10_refuse 0 [some (vr x0)] [] G Q := by
  refine wp_aload_n (pc := 0) d_X10_refuse_0 rfl ?_
  refine wp_aload_n (pc := 1) d_X10_refuse_1 rfl ?_
  obtain ⟨ho1, h⟩ := h
  refine wp_getI (pc := 2) d_X10_refuse_2 fl_X10_32 (fun _ _ _ => rfl) ho1 ?_
  refine wp_iconst (pc := 5) (v := 1) d_X10_refuse_5 rfl ?_
  refine wp_icmp_ne (pc := 6) (tgt := 13) d_X10_refuse_6 (by decide) (fun hc => ?_) (fun hc => ?_)
  · have h := h.1 hc
    refine wp_iconst (pc := 13) (v := 2) d_X10_refuse_13 rfl ?_
    refine wp_sub ?_ h
    exact ⟨rfl, trivial⟩
  · have h := h.2 hc
    refine wp_iconst (pc := 9) (v := 1) d_X10_refuse_9 rfl ?_
    refine wp_goto (pc := 10) (tgt := 14) d_X10_refuse_10 (by decide) ?_
    refine wp_sub ?_ h
    exact ⟨rfl, trivial⟩
theorem v_X10_refuse_14 {E : EE} {d : Nat} {Q : Option AV → AH → Prop} {x0 : Nat} {t0 : Nat} {t1 : Int32} {G : AH} (h : isO E G t0 10 ∧ (∀ G2 : AH, G2 = sI G t0 10 t1 → isO E G2 x0 10 ∧ (∀ G4 : AH, G4 = sI G2 x0 11 (gI G2 x0 8) → Q (some (vi 0)) G4))) : wp E d M_X10_refuse 14 [some (vr x0)] [vi t1, vr t0] G Q := by
  obtain ⟨ho1, h⟩ := h
  refine wp_putI (pc := 14) d_X10_refuse_14 fl_X10_45 (fun _ _ _ => rfl) (Or.inl rfl) ho1 (okI_int _) ?_
  refine wp_nm (fun G2 eG2 => ?_)
  have h := h G2 eG2
  refine wp_aload_n (pc := 17) d_X10_refuse_17 rfl ?_
  refine wp_aload_n (pc := 18) d_X10_refuse_18 rfl ?_
  obtain ⟨ho3, h⟩ := h
  refine wp_getI (pc := 19) d_X10_refuse_19 fl_X10_39 (fun _ _ _ => rfl) ho3 ?_
  refine wp_putI (pc := 22) d_X10_refuse_22 fl_X10_48 (fun _ _ _ => rfl) (Or.inl rfl) ho3 (okI_int _) ?_
  refine wp_nm (fun G4 eG4 => ?_)
  have h := h G4 eG4
  have ho5 := isO_sI eG4 ho3
  refine wp_iconst (pc := 25) (v := 0) d_X10_refuse_25 rfl ?_
  exact wp_zret (pc := 26) d_X10_refuse_26 rfl rfl h
theorem d_X7_init_0 : decode prog_9_method_1_code 0 = .ok (.aload_n 0, 1) := by decide +kernel
theorem d_X7_init_1 : decode prog_9_method_1_code 1 = .ok (.invokespecial 3, 3) := by decide +kernel
theorem d_X7_init_4 : decode prog_9_method_1_code 4 = .ok (.aload_n 0, 1) := by decide +kernel
theorem d_X7_init_5 : decode prog_9_method_1_code 5 = .ok (.iconst 0, 1) := by decide +kernel
theorem d_X7_init_6 : decode prog_9_method_1_code 6 = .ok (.putfield 9, 3) := by decide +kernel
theorem d_X7_init_9 : decode prog_9_method_1_code 9 = .ok (.aload_n 0, 1) := by decide +kernel
theorem d_X7_init_10 : decode prog_9_method_1_code 10 = .ok (.iconst 1, 1) := by decide +kernel
theorem d_X7_init_11 : decode prog_9_method_1_code 11 = .ok (.putfield 15, 3) := by decide +kernel
theorem d_X7_init_14 : decode prog_9_method_1_code 14 = .ok (.aload_n 0, 1) := by decide +kernel
theorem d_X7_init_15 : decode prog_9_method_1_code 15 = .ok (.bipush 12, 2) := by decide +kernel
theorem d_X7_init_17 : decode prog_9_method_1_code 17 = .ok (.newarray .int, 2) := by decide +kernel
theorem d_X7_init_19 : decode prog_9_method_1_code 19 = .ok (.putfield 18, 3) := by decide +kernel
theorem d_X7_init_22 : decode prog_9_method_1_code 22 = .ok (.aload_n 0, 1) := by decide +kernel
theorem d_X7_init_23 : decode prog_9_method_1_code 23 = .ok (.sipush 240, 3) := by decide +kernel
theorem d_X7_init_26 : decode prog_9_method_1_code 26 = .ok (.newarray .int, 2) := by decide +kernel
theorem d_X7_init_28 : decode prog_9_method_1_code 28 = .ok (.putfield 22, 3) := by decide +kernel
theorem d_X7_init_31 : decode prog_9_method_1_code 31 = .ok (.aload_n 0, 1) := by decide +kernel
theorem d_X7_init_32 : decode prog_9_method_1_code 32 = .ok (.bipush 12, 2) := by decide +kernel
theorem d_X7_init_34 : decode prog_9_method_1_code 34 = .ok (.newarray .int, 2) := by decide +kernel
theorem d_X7_init_36 : decode prog_9_method_1_code 36 = .ok (.putfield 25, 3) := by decide +kernel
theorem d_X7_init_39 : decode prog_9_method_1_code 39 = .ok (.return_, 1) := by decide +kernel
theorem v_X7_init_0 {E : EE} {d : Nat} {Q : Option AV → AH → Prop} {x0 : Nat} {G : AH} (h0 : 0 < d) (h : isO E G x0 7 ∧ (∀ G2 : AH, G2 = sI G x0 0 0 → ∀ G4 : AH, G4 = sI G2 x0 1 1 → eB E ≤ gT G4 ∧ (∀ G10 : AH, G10 = nw G4 14 (Int32.toNatClampNeg 12) (Int32.toNatClampNeg 12) → ∀ G14 : AH, G14 = sR G10 x0 2 (gT G4) → ∀ G20 : AH, G20 = nw G14 14 (Int32.toNatClampNeg 240) (Int32.toNatClampNeg 240) → ∀ G24 : AH, G24 = sR G20 x0 3 (gT G14) → ∀ G30 : AH, G30 = nw G24 14 (Int32.toNatClampNeg 12) (Int32.toNatClampNeg 12) → ∀ G34 : AH, G34 = sR G30 x0 4 (gT G24) → Q none G34))) : wp E d M_X7_init 0 [some (vr x0)] [] G Q := by
  refine wp_aload_n (pc := 0) d_X7_init_0 rfl ?_
  obtain ⟨ho1, h⟩ := h
  refine wp_objI (pc := 1) d_X7_init_1 ml_X7_3 in_obj mc_obj h0 ho1 (Nat.le_of_ble_eq_true rfl) ?_
  refine wp_aload_n (pc := 4) d_X7_init_4 rfl ?_
  refine wp_iconst (pc := 5) (v := 0) d_X7_init_5 rfl ?_
  refine wp_putI (pc := 6) d_X7_init_6 fl_X7_9 (fun _ _ _ => rfl) (Or.inl rfl) ho1 (okI_int _) ?_
  refine wp_nm (fun G2 eG2 => ?_)
  have h := h G2 eG2
  have ho3 := isO_sI eG2 ho1
  refine wp_aload_n (pc := 9) d_X7_init_9 rfl ?_
  refine wp_iconst (pc := 10) (v := 1) d_X7_init_10 rfl ?_
  refine wp_putI (pc := 11) d_X7_init_11 fl_X7_15 (fun _ _ _ => rfl) (Or.inl rfl) ho3 (okI_int _) ?_
  refine wp_nm (fun G4 eG4 => ?_)
  have h := h G4 eG4
  have ho5 := isO_sI eG4 ho3
  refine wp_aload_n (pc := 14) d_X7_init_14 rfl ?_
  refine wp_bipush (pc := 15) (v := 12) d_X7_init_15 rfl ?_
  obtain ⟨hb6, h⟩ := h
  refine wp_newa (pc := 17) (t0 := 1) (kd := 14) d_X7_init_17 rfl (fun _ q => by cases q) ac_int (by decide) (fun _ => rfl) rfl (by decide) (by decide) (by decide) ?_
  refine wp_nm (fun G10 eG10 => ?_)
  have h := h G10 eG10
  have ho11 := isO_nwE eG10 ho5
  have hb12 := base_nwE eG10 hb6
  have ho13 := isO_newE eG10 hb6
  refine wp_putR (pc := 19) d_X7_init_19 fl_X7_18 (fun _ _ _ => rfl) (Or.inr ⟨_, rfl⟩) (Or.inr ⟨rfl, rfl, rfl⟩) ho11 ?_
  refine wp_nm (fun G14 eG14 => ?_)
  have h := h G14 eG14
  have ho15 := isO_sR eG14 ho11
  have hb16 := base_sR eG14 hb12
  refine wp_aload_n (pc := 22) d_X7_init_22 rfl ?_
  refine wp_sipush (pc := 23) (v := 240) d_X7_init_23 rfl ?_
  refine wp_newa (pc := 26) (t0 := 1) (kd := 14) d_X7_init_26 rfl (fun _ q => by cases q) ac_int (by decide) (fun _ => rfl) rfl (by decide) (by decide) (by decide) ?_
  refine wp_nm (fun G20 eG20 => ?_)
  have h := h G20 eG20
  have ho21 := isO_nwE eG20 ho15
  have hb22 := base_nwE eG20 hb16
  have ho23 := isO_newE eG20 hb16
  refine wp_putR (pc := 28) d_X7_init_28 fl_X7_22 (fun _ _ _ => rfl) (Or.inr ⟨_, rfl⟩) (Or.inr ⟨rfl, rfl, rfl⟩) ho21 ?_
  refine wp_nm (fun G24 eG24 => ?_)
  have h := h G24 eG24
  have ho25 := isO_sR eG24 ho21
  have hb26 := base_sR eG24 hb22
  refine wp_aload_n (pc := 31) d_X7_init_31 rfl ?_
  refine wp_bipush (pc := 32) (v := 12) d_X7_init_32 rfl ?_
  refine wp_newa (pc := 34) (t0 := 1) (kd := 14) d_X7_init_34 rfl (fun _ q => by cases q) ac_int (by decide) (fun _ => rfl) rfl (by decide) (by decide) (by decide) ?_
  refine wp_nm (fun G30 eG30 => ?_)
  have h := h G30 eG30
  have ho31 := isO_nwE eG30 ho25
  have hb32 := base_nwE eG30 hb26
  have ho33 := isO_newE eG30 hb26
  refine wp_putR (pc := 36) d_X7_init_36 fl_X7_25 (fun _ _ _ => rfl) (Or.inr ⟨_, rfl⟩) (Or.inr ⟨rfl, rfl, rfl⟩) ho31 ?_
  refine wp_nm (fun G34 eG34 => ?_)
  have h := h G34 eG34
  have ho35 := isO_sR eG34 ho31
  have hb36 := base_sR eG34 hb32
  exact wp_vret (pc := 39) d_X7_init_39 rfl h
theorem d_X7_clear_0 : decode prog_9_method_2_code 0 = .ok (.aload_n 0, 1) := by decide +kernel
theorem d_X7_clear_1 : decode prog_9_method_2_code 1 = .ok (.iconst 0, 1) := by decide +kernel
theorem d_X7_clear_2 : decode prog_9_method_2_code 2 = .ok (.putfield 9, 3) := by decide +kernel
theorem d_X7_clear_5 : decode prog_9_method_2_code 5 = .ok (.aload_n 0, 1) := by decide +kernel
theorem d_X7_clear_6 : decode prog_9_method_2_code 6 = .ok (.iconst 1, 1) := by decide +kernel
theorem d_X7_clear_7 : decode prog_9_method_2_code 7 = .ok (.putfield 15, 3) := by decide +kernel
theorem d_X7_clear_10 : decode prog_9_method_2_code 10 = .ok (.return_, 1) := by decide +kernel
theorem v_X7_clear_0 {E : EE} {d : Nat} {Q : Option AV → AH → Prop} {x0 : Nat} {G : AH} (h : isO E G x0 7 ∧ (∀ G2 : AH, G2 = sI G x0 0 0 → ∀ G4 : AH, G4 = sI G2 x0 1 1 → Q none G4)) : wp E d M_X7_clear 0 [some (vr x0)] [] G Q := by
  refine wp_aload_n (pc := 0) d_X7_clear_0 rfl ?_
  refine wp_iconst (pc := 1) (v := 0) d_X7_clear_1 rfl ?_
  obtain ⟨ho1, h⟩ := h
  refine wp_putI (pc := 2) d_X7_clear_2 fl_X7_9 (fun _ _ _ => rfl) (Or.inl rfl) ho1 (okI_int _) ?_
  refine wp_nm (fun G2 eG2 => ?_)
  have h := h G2 eG2
  have ho3 := isO_sI eG2 ho1
  refine wp_aload_n (pc := 5) d_X7_clear_5 rfl ?_
  refine wp_iconst (pc := 6) (v := 1) d_X7_clear_6 rfl ?_
  refine wp_putI (pc := 7) d_X7_clear_7 fl_X7_15 (fun _ _ _ => rfl) (Or.inl rfl) ho3 (okI_int _) ?_
  refine wp_nm (fun G4 eG4 => ?_)
  have h := h G4 eG4
  have ho5 := isO_sI eG4 ho3
  exact wp_vret (pc := 10) d_X7_clear_10 rfl h
theorem d_X9_init_0 : decode prog_11_method_1_code 0 = .ok (.aload_n 0, 1) := by decide +kernel
theorem d_X9_init_1 : decode prog_11_method_1_code 1 = .ok (.invokespecial 3, 3) := by decide +kernel
theorem d_X9_init_4 : decode prog_11_method_1_code 4 = .ok (.aload_n 0, 1) := by decide +kernel
theorem d_X9_init_5 : decode prog_11_method_1_code 5 = .ok (.iconst 0, 1) := by decide +kernel
theorem d_X9_init_6 : decode prog_11_method_1_code 6 = .ok (.putfield 9, 3) := by decide +kernel
theorem d_X9_init_9 : decode prog_11_method_1_code 9 = .ok (.aload_n 0, 1) := by decide +kernel
theorem d_X9_init_10 : decode prog_11_method_1_code 10 = .ok (.iconst 0, 1) := by decide +kernel
theorem d_X9_init_11 : decode prog_11_method_1_code 11 = .ok (.putfield 15, 3) := by decide +kernel
theorem d_X9_init_14 : decode prog_11_method_1_code 14 = .ok (.aload_n 0, 1) := by decide +kernel
theorem d_X9_init_15 : decode prog_11_method_1_code 15 = .ok (.iconst 0, 1) := by decide +kernel
theorem d_X9_init_16 : decode prog_11_method_1_code 16 = .ok (.newarray .int, 2) := by decide +kernel
theorem d_X9_init_18 : decode prog_11_method_1_code 18 = .ok (.putfield 19, 3) := by decide +kernel
theorem d_X9_init_21 : decode prog_11_method_1_code 21 = .ok (.aload_n 0, 1) := by decide +kernel
theorem d_X9_init_22 : decode prog_11_method_1_code 22 = .ok (.iconst 0, 1) := by decide +kernel
theorem d_X9_init_23 : decode prog_11_method_1_code 23 = .ok (.putfield 23, 3) := by decide +kernel
theorem d_X9_init_26 : decode prog_11_method_1_code 26 = .ok (.aload_n 0, 1) := by decide +kernel
theorem d_X9_init_27 : decode prog_11_method_1_code 27 = .ok (.iconst 0, 1) := by decide +kernel
theorem d_X9_init_28 : decode prog_11_method_1_code 28 = .ok (.putfield 26, 3) := by decide +kernel
theorem d_X9_init_31 : decode prog_11_method_1_code 31 = .ok (.aload_n 0, 1) := by decide +kernel
theorem d_X9_init_32 : decode prog_11_method_1_code 32 = .ok (.iconst 0, 1) := by decide +kernel
theorem d_X9_init_33 : decode prog_11_method_1_code 33 = .ok (.putfield 29, 3) := by decide +kernel
theorem d_X9_init_36 : decode prog_11_method_1_code 36 = .ok (.aload_n 0, 1) := by decide +kernel
theorem d_X9_init_37 : decode prog_11_method_1_code 37 = .ok (.iconst 0, 1) := by decide +kernel
theorem d_X9_init_38 : decode prog_11_method_1_code 38 = .ok (.newarray .long, 2) := by decide +kernel
theorem d_X9_init_40 : decode prog_11_method_1_code 40 = .ok (.putfield 32, 3) := by decide +kernel
theorem d_X9_init_43 : decode prog_11_method_1_code 43 = .ok (.aload_n 0, 1) := by decide +kernel
theorem d_X9_init_44 : decode prog_11_method_1_code 44 = .ok (.iconst 0, 1) := by decide +kernel
theorem d_X9_init_45 : decode prog_11_method_1_code 45 = .ok (.newarray .int, 2) := by decide +kernel
theorem d_X9_init_47 : decode prog_11_method_1_code 47 = .ok (.putfield 36, 3) := by decide +kernel
theorem d_X9_init_50 : decode prog_11_method_1_code 50 = .ok (.return_, 1) := by decide +kernel
theorem v_X9_init_0 {E : EE} {d : Nat} {Q : Option AV → AH → Prop} {x0 : Nat} {G : AH} (h0 : 0 < d) (h : isO E G x0 9 ∧ (∀ G2 : AH, G2 = sI G x0 0 0 → ∀ G4 : AH, G4 = sI G2 x0 1 0 → eB E ≤ gT G4 ∧ (∀ G10 : AH, G10 = nw G4 14 (Int32.toNatClampNeg 0) (Int32.toNatClampNeg 0) → ∀ G14 : AH, G14 = sR G10 x0 2 (gT G4) → ∀ G17 : AH, G17 = sI G14 x0 3 0 → ∀ G20 : AH, G20 = sI G17 x0 4 0 → ∀ G23 : AH, G23 = sI G20 x0 5 0 → ∀ G29 : AH, G29 = nw G23 15 (Int32.toNatClampNeg 0) (Int32.toNatClampNeg 0) → ∀ G33 : AH, G33 = sR G29 x0 6 (gT G23) → ∀ G39 : AH, G39 = nw G33 14 (Int32.toNatClampNeg 0) (Int32.toNatClampNeg 0) → ∀ G43 : AH, G43 = sR G39 x0 7 (gT G33) → Q none G43))) : wp E d M_X9_init 0 [some (vr x0)] [] G Q := by
  refine wp_aload_n (pc := 0) d_X9_init_0 rfl ?_
  obtain ⟨ho1, h⟩ := h
  refine wp_objI (pc := 1) d_X9_init_1 ml_X9_3 in_obj mc_obj h0 ho1 (Nat.le_of_ble_eq_true rfl) ?_
  refine wp_aload_n (pc := 4) d_X9_init_4 rfl ?_
  refine wp_iconst (pc := 5) (v := 0) d_X9_init_5 rfl ?_
  refine wp_putI (pc := 6) d_X9_init_6 fl_X9_9 (fun _ _ _ => rfl) (Or.inl rfl) ho1 okI_z0 ?_
  refine wp_nm (fun G2 eG2 => ?_)
  have h := h G2 eG2
  have ho3 := isO_sI eG2 ho1
  refine wp_aload_n (pc := 9) d_X9_init_9 rfl ?_
  refine wp_iconst (pc := 10) (v := 0) d_X9_init_10 rfl ?_
  refine wp_putI (pc := 11) d_X9_init_11 fl_X9_15 (fun _ _ _ => rfl) (Or.inl rfl) ho3 (okI_int _) ?_
  refine wp_nm (fun G4 eG4 => ?_)
  have h := h G4 eG4
  have ho5 := isO_sI eG4 ho3
  refine wp_aload_n (pc := 14) d_X9_init_14 rfl ?_
  refine wp_iconst (pc := 15) (v := 0) d_X9_init_15 rfl ?_
  obtain ⟨hb6, h⟩ := h
  refine wp_newa (pc := 16) (t0 := 1) (kd := 14) d_X9_init_16 rfl (fun _ q => by cases q) ac_int (by decide) (fun _ => rfl) rfl (by decide) (by decide) (by decide) ?_
  refine wp_nm (fun G10 eG10 => ?_)
  have h := h G10 eG10
  have ho11 := isO_nwE eG10 ho5
  have hb12 := base_nwE eG10 hb6
  have ho13 := isO_newE eG10 hb6
  refine wp_putR (pc := 18) d_X9_init_18 fl_X9_19 (fun _ _ _ => rfl) (Or.inr ⟨_, rfl⟩) (Or.inl rfl) ho11 ?_
  refine wp_nm (fun G14 eG14 => ?_)
  have h := h G14 eG14
  have ho15 := isO_sR eG14 ho11
  have hb16 := base_sR eG14 hb12
  refine wp_aload_n (pc := 21) d_X9_init_21 rfl ?_
  refine wp_iconst (pc := 22) (v := 0) d_X9_init_22 rfl ?_
  refine wp_putI (pc := 23) d_X9_init_23 fl_X9_23 (fun _ _ _ => rfl) (Or.inl rfl) ho15 (okI_int _) ?_
  refine wp_nm (fun G17 eG17 => ?_)
  have h := h G17 eG17
  have ho18 := isO_sI eG17 ho15
  have hb19 := base_sI eG17 hb16
  refine wp_aload_n (pc := 26) d_X9_init_26 rfl ?_
  refine wp_iconst (pc := 27) (v := 0) d_X9_init_27 rfl ?_
  refine wp_putI (pc := 28) d_X9_init_28 fl_X9_26 (fun _ _ _ => rfl) (Or.inl rfl) ho18 (okI_int _) ?_
  refine wp_nm (fun G20 eG20 => ?_)
  have h := h G20 eG20
  have ho21 := isO_sI eG20 ho18
  have hb22 := base_sI eG20 hb19
  refine wp_aload_n (pc := 31) d_X9_init_31 rfl ?_
  refine wp_iconst (pc := 32) (v := 0) d_X9_init_32 rfl ?_
  refine wp_putI (pc := 33) d_X9_init_33 fl_X9_29 (fun _ _ _ => rfl) (Or.inl rfl) ho21 (okI_int _) ?_
  refine wp_nm (fun G23 eG23 => ?_)
  have h := h G23 eG23
  have ho24 := isO_sI eG23 ho21
  have hb25 := base_sI eG23 hb22
  refine wp_aload_n (pc := 36) d_X9_init_36 rfl ?_
  refine wp_iconst (pc := 37) (v := 0) d_X9_init_37 rfl ?_
  refine wp_newa (pc := 38) (t0 := 2) (kd := 15) d_X9_init_38 rfl (fun _ q => by cases q) ac_long (by decide) (fun _ => rfl) rfl (by decide) (by decide) (by decide) ?_
  refine wp_nm (fun G29 eG29 => ?_)
  have h := h G29 eG29
  have ho30 := isO_nwE eG29 ho24
  have hb31 := base_nwE eG29 hb25
  have ho32 := isO_newE eG29 hb25
  refine wp_putR (pc := 40) d_X9_init_40 fl_X9_32 (fun _ _ _ => rfl) (Or.inr ⟨_, rfl⟩) (Or.inl rfl) ho30 ?_
  refine wp_nm (fun G33 eG33 => ?_)
  have h := h G33 eG33
  have ho34 := isO_sR eG33 ho30
  have hb35 := base_sR eG33 hb31
  refine wp_aload_n (pc := 43) d_X9_init_43 rfl ?_
  refine wp_iconst (pc := 44) (v := 0) d_X9_init_44 rfl ?_
  refine wp_newa (pc := 45) (t0 := 1) (kd := 14) d_X9_init_45 rfl (fun _ q => by cases q) ac_int (by decide) (fun _ => rfl) rfl (by decide) (by decide) (by decide) ?_
  refine wp_nm (fun G39 eG39 => ?_)
  have h := h G39 eG39
  have ho40 := isO_nwE eG39 ho34
  have hb41 := base_nwE eG39 hb35
  have ho42 := isO_newE eG39 hb35
  refine wp_putR (pc := 47) d_X9_init_47 fl_X9_36 (fun _ _ _ => rfl) (Or.inr ⟨_, rfl⟩) (Or.inl rfl) ho40 ?_
  refine wp_nm (fun G43 eG43 => ?_)
  have h := h G43 eG43
  have ho44 := isO_sR eG43 ho40
  have hb45 := base_sR eG43 hb41
  exact wp_vret (pc := 50) d_X9_init_50 rfl h
