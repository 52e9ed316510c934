/-! decode rows and regions (by program): X10_init X10_scan X10_afterBlanks X10_write X10_step X10_isLetter X10_readName X10_isFigure X10_readNumber X10_readSign X10_fail X10_is X10_refuse X10_accept X7_init X7_clear X7_add X7_placeOfValue X7_moved X7_placeOf X7_valueOf X7_lowest X7_following X7_isVar X7_agreeing X9_init X9_renew X9_beatsHand X9_gather X9_setOf X9_isBetter X9_scoreOf X9_keepValue X9_keepBest X9_gatherFor X9_walkFront X9_sortByPair X9_sink X9_isBehind X9_isSamePair -/
theorem d_X10_init_0 : decode prog_12_method_1_code 0 = .ok (.aload_n 0, 1) := by decide +kernel
theorem d_X10_init_1 : decode prog_12_method_1_code 1 = .ok (.invokespecial 3, 3) := by decide +kernel
theorem d_X10_init_4 : decode prog_12_method_1_code 4 = .ok (.aload_n 0, 1) := by decide +kernel
theorem d_X10_init_5 : decode prog_12_method_1_code 5 = .ok (.bipush 64, 2) := by decide +kernel
theorem d_X10_init_7 : decode prog_12_method_1_code 7 = .ok (.newarray .int, 2) := by decide +kernel
theorem d_X10_init_9 : decode prog_12_method_1_code 9 = .ok (.putfield 11, 3) := by decide +kernel
theorem d_X10_init_12 : decode prog_12_method_1_code 12 = .ok (.aload_n 0, 1) := by decide +kernel
theorem d_X10_init_13 : decode prog_12_method_1_code 13 = .ok (.bipush 64, 2) := by decide +kernel
theorem d_X10_init_15 : decode prog_12_method_1_code 15 = .ok (.newarray .long, 2) := by decide +kernel
theorem d_X10_init_17 : decode prog_12_method_1_code 17 = .ok (.putfield 15, 3) := by decide +kernel
theorem d_X10_init_20 : decode prog_12_method_1_code 20 = .ok (.aload_n 0, 1) := by decide +kernel
theorem d_X10_init_21 : decode prog_12_method_1_code 21 = .ok (.bipush 64, 2) := by decide +kernel
theorem d_X10_init_23 : decode prog_12_method_1_code 23 = .ok (.newarray .int, 2) := by decide +kernel
theorem d_X10_init_25 : decode prog_12_method_1_code 25 = .ok (.putfield 19, 3) := by decide +kernel
theorem d_X10_init_28 : decode prog_12_method_1_code 28 = .ok (.aload_n 0, 1) := by decide +kernel
theorem d_X10_init_29 : decode prog_12_method_1_code 29 = .ok (.bipush 64, 2) := by decide +kernel
theorem d_X10_init_31 : decode prog_12_method_1_code 31 = .ok (.newarray .int, 2) := by decide +kernel
theorem d_X10_init_33 : decode prog_12_method_1_code 33 = .ok (.putfield 22, 3) := by decide +kernel
theorem d_X10_init_36 : decode prog_12_method_1_code 36 = .ok (.aload_n 0, 1) := by decide +kernel
theorem d_X10_init_37 : decode prog_12_method_1_code 37 = .ok (.iconst 0, 1) := by decide +kernel
theorem d_X10_init_38 : decode prog_12_method_1_code 38 = .ok (.putfield 25, 3) := by decide +kernel
theorem d_X10_init_41 : decode prog_12_method_1_code 41 = .ok (.aload_n 0, 1) := by decide +kernel
theorem d_X10_init_42 : decode prog_12_method_1_code 42 = .ok (.iconst 0, 1) := by decide +kernel
theorem d_X10_init_43 : decode prog_12_method_1_code 43 = .ok (.putfield 29, 3) := by decide +kernel
theorem d_X10_init_46 : decode prog_12_method_1_code 46 = .ok (.aload_n 0, 1) := by decide +kernel
theorem d_X10_init_47 : decode prog_12_method_1_code 47 = .ok (.iconst 0, 1) := by decide +kernel
theorem d_X10_init_48 : decode prog_12_method_1_code 48 = .ok (.putfield 32, 3) := by decide +kernel
theorem d_X10_init_51 : decode prog_12_method_1_code 51 = .ok (.aload_n 0, 1) := by decide +kernel
theorem d_X10_init_52 : decode prog_12_method_1_code 52 = .ok (.lconst 0, 1) := by decide +kernel
theorem d_X10_init_53 : decode prog_12_method_1_code 53 = .ok (.putfield 35, 3) := by decide +kernel
theorem d_X10_init_56 : decode prog_12_method_1_code 56 = .ok (.aload_n 0, 1) := by decide +kernel
theorem d_X10_init_57 : decode prog_12_method_1_code 57 = .ok (.iconst 0, 1) := by decide +kernel
theorem d_X10_init_58 : decode prog_12_method_1_code 58 = .ok (.putfield 39, 3) := by decide +kernel
theorem d_X10_init_61 : decode prog_12_method_1_code 61 = .ok (.aload_n 0, 1) := by decide +kernel
theorem d_X10_init_62 : decode prog_12_method_1_code 62 = .ok (.iconst 0, 1) := by decide +kernel
theorem d_X10_init_63 : decode prog_12_method_1_code 63 = .ok (.putfield 42, 3) := by decide +kernel
theorem d_X10_init_66 : decode prog_12_method_1_code 66 = .ok (.aload_n 0, 1) := by decide +kernel
theorem d_X10_init_67 : decode prog_12_method_1_code 67 = .ok (.iconst 0, 1) := by decide +kernel
theorem d_X10_init_68 : decode prog_12_method_1_code 68 = .ok (.putfield 45, 3) := by decide +kernel
theorem d_X10_init_71 : decode prog_12_method_1_code 71 = .ok (.aload_n 0, 1) := by decide +kernel
theorem d_X10_init_72 : decode prog_12_method_1_code 72 = .ok (.iconst 0, 1) := by decide +kernel
theorem d_X10_init_73 : decode prog_12_method_1_code 73 = .ok (.putfield 48, 3) := by decide +kernel
theorem d_X10_init_76 : decode prog_12_method_1_code 76 = .ok (.return_, 1) := by decide +kernel
theorem v_X10_init_0 {E : EE} {d : Nat} {Q : Option AV → AH → Prop} {x0 : Nat} {G : AH} (h0 : 0 < d) (h : isO E G x0 10 ∧ (eB E ≤ gT G ∧ (∀ G6 : AH, G6 = nw G 14 (Int32.toNatClampNeg 64) (Int32.toNatClampNeg 64) → ∀ G10 : AH, G10 = sR G6 x0 0 (gT G) → ∀ G16 : AH, G16 = nw G10 15 (Int32.toNatClampNeg 64) (Int32.toNatClampNeg 64) → ∀ G20 : AH, G20 = sR G16 x0 1 (gT G10) → ∀ G26 : AH, G26 = nw G20 14 (Int32.toNatClampNeg 64) (Int32.toNatClampNeg 64) → ∀ G30 : AH, G30 = sR G26 x0 2 (gT G20) → ∀ G36 : AH, G36 = nw G30 14 (Int32.toNatClampNeg 64) (Int32.toNatClampNeg 64) → ∀ G40 : AH, G40 = sR G36 x0 3 (gT G30) → ∀ G43 : AH, G43 = sI G40 x0 4 0 → ∀ G46 : AH, G46 = sI G43 x0 5 0 → ∀ G49 : AH, G49 = sI G46 x0 6 0 → ∀ G52 : AH, G52 = sJ G49 x0 7 0 → ∀ G55 : AH, G55 = sI G52 x0 8 0 → ∀ G58 : AH, G58 = sI G55 x0 9 0 → ∀ G61 : AH, G61 = sI G58 x0 10 0 → ∀ G64 : AH, G64 = sI G61 x0 11 0 → Q none G64))) : wp E d M_X10_init 0 [some (vr x0)] [] G Q := by
  refine wp_aload_n (pc := 0) d_X10_init_0 rfl ?_
  obtain ⟨ho1, h⟩ := h
  refine wp_objI (pc := 1) d_X10_init_1 ml_X10_3 in_obj mc_obj h0 ho1 (Nat.le_of_ble_eq_true rfl) ?_
  refine wp_aload_n (pc := 4) d_X10_init_4 rfl ?_
  refine wp_bipush (pc := 5) (v := 64) d_X10_init_5 rfl ?_
  obtain ⟨hb2, h⟩ := h
  refine wp_newa (pc := 7) (t0 := 1) (kd := 14) d_X10_init_7 rfl (fun _ q => by cases q) ac_int (by decide) (fun _ => rfl) rfl (by decide) (by decide) (by decide) ?_
  refine wp_nm (fun G6 eG6 => ?_)
  have h := h G6 eG6
  have ho7 := isO_nwE eG6 ho1
  have hb8 := base_nwE eG6 hb2
  have ho9 := isO_newE eG6 hb2
  refine wp_putR (pc := 9) d_X10_init_9 fl_X10_11 (fun _ _ _ => rfl) (Or.inr ⟨_, rfl⟩) (Or.inl rfl) ho7 ?_
  refine wp_nm (fun G10 eG10 => ?_)
  have h := h G10 eG10
  have ho11 := isO_sR eG10 ho7
  have hb12 := base_sR eG10 hb8
  refine wp_aload_n (pc := 12) d_X10_init_12 rfl ?_
  refine wp_bipush (pc := 13) (v := 64) d_X10_init_13 rfl ?_
  refine wp_newa (pc := 15) (t0 := 2) (kd := 15) d_X10_init_15 rfl (fun _ q => by cases q) ac_long (by decide) (fun _ => rfl) rfl (by decide) (by decide) (by decide) ?_
  refine wp_nm (fun G16 eG16 => ?_)
  have h := h G16 eG16
  have ho17 := isO_nwE eG16 ho11
  have hb18 := base_nwE eG16 hb12
  have ho19 := isO_newE eG16 hb12
  refine wp_putR (pc := 17) d_X10_init_17 fl_X10_15 (fun _ _ _ => rfl) (Or.inr ⟨_, rfl⟩) (Or.inl rfl) ho17 ?_
  refine wp_nm (fun G20 eG20 => ?_)
  have h := h G20 eG20
  have ho21 := isO_sR eG20 ho17
  have hb22 := base_sR eG20 hb18
  refine wp_aload_n (pc := 20) d_X10_init_20 rfl ?_
  refine wp_bipush (pc := 21) (v := 64) d_X10_init_21 rfl ?_
  refine wp_newa (pc := 23) (t0 := 1) (kd := 14) d_X10_init_23 rfl (fun _ q => by cases q) ac_int (by decide) (fun _ => rfl) rfl (by decide) (by decide) (by decide) ?_
  refine wp_nm (fun G26 eG26 => ?_)
  have h := h G26 eG26
  have ho27 := isO_nwE eG26 ho21
  have hb28 := base_nwE eG26 hb22
  have ho29 := isO_newE eG26 hb22
  refine wp_putR (pc := 25) d_X10_init_25 fl_X10_19 (fun _ _ _ => rfl) (Or.inr ⟨_, rfl⟩) (Or.inl rfl) ho27 ?_
  refine wp_nm (fun G30 eG30 => ?_)
  have h := h G30 eG30
  have ho31 := isO_sR eG30 ho27
  have hb32 := base_sR eG30 hb28
  refine wp_aload_n (pc := 28) d_X10_init_28 rfl ?_
  refine wp_bipush (pc := 29) (v := 64) d_X10_init_29 rfl ?_
  refine wp_newa (pc := 31) (t0 := 1) (kd := 14) d_X10_init_31 rfl (fun _ q => by cases q) ac_int (by decide) (fun _ => rfl) rfl (by decide) (by decide) (by decide) ?_
  refine wp_nm (fun G36 eG36 => ?_)
  have h := h G36 eG36
  have ho37 := isO_nwE eG36 ho31
  have hb38 := base_nwE eG36 hb32
  have ho39 := isO_newE eG36 hb32
  refine wp_putR (pc := 33) d_X10_init_33 fl_X10_22 (fun _ _ _ => rfl) (Or.inr ⟨_, rfl⟩) (Or.inl rfl) ho37 ?_
  refine wp_nm (fun G40 eG40 => ?_)
  have h := h G40 eG40
  have ho41 := isO_sR eG40 ho37
  have hb42 := base_sR eG40 hb38
  refine wp_aload_n (pc := 36) d_X10_init_36 rfl ?_
  refine wp_iconst (pc := 37) (v := 0) d_X10_init_37 rfl ?_
  refine wp_putI (pc := 38) d_X10_init_38 fl_X10_25 (fun _ _ _ => rfl) (Or.inl rfl) ho41 (okI_int _) ?_
  refine wp_nm (fun G43 eG43 => ?_)
  have h := h G43 eG43
  have ho44 := isO_sI eG43 ho41
  have hb45 := base_sI eG43 hb42
  refine wp_aload_n (pc := 41) d_X10_init_41 rfl ?_
  refine wp_iconst (pc := 42) (v := 0) d_X10_init_42 rfl ?_
  refine wp_putI (pc := 43) d_X10_init_43 fl_X10_29 (fun _ _ _ => rfl) (Or.inl rfl) ho44 (okI_int _) ?_
  refine wp_nm (fun G46 eG46 => ?_)
  have h := h G46 eG46
  have ho47 := isO_sI eG46 ho44
  have hb48 := base_sI eG46 hb45
  refine wp_aload_n (pc := 46) d_X10_init_46 rfl ?_
  refine wp_iconst (pc := 47) (v := 0) d_X10_init_47 rfl ?_
  refine wp_putI (pc := 48) d_X10_init_48 fl_X10_32 (fun _ _ _ => rfl) (Or.inl rfl) ho47 (okI_int _) ?_
  refine wp_nm (fun G49 eG49 => ?_)
  have h := h G49 eG49
  have ho50 := isO_sI eG49 ho47
  have hb51 := base_sI eG49 hb48
  refine wp_aload_n (pc := 51) d_X10_init_51 rfl ?_
  refine wp_lconst (pc := 52) (v := 0) d_X10_init_52 rfl ?_
  refine wp_putJ (pc := 53) d_X10_init_53 fl_X10_35 (fun _ _ _ => rfl) rfl (Or.inl rfl) ho50 ?_
  refine wp_nm (fun G52 eG52 => ?_)
  have h := h G52 eG52
  have ho53 := isO_sJ eG52 ho50
  have hb54 := base_sJ eG52 hb51
  refine wp_aload_n (pc := 56) d_X10_init_56 rfl ?_
  refine wp_iconst (pc := 57) (v := 0) d_X10_init_57 rfl ?_
  refine wp_putI (pc := 58) d_X10_init_58 fl_X10_39 (fun _ _ _ => rfl) (Or.inl rfl) ho53 (okI_int _) ?_
  refine wp_nm (fun G55 eG55 => ?_)
  have h := h G55 eG55
  have ho56 := isO_sI eG55 ho53
  have hb57 := base_sI eG55 hb54
  refine wp_aload_n (pc := 61) d_X10_init_61 rfl ?_
  refine wp_iconst (pc := 62) (v := 0) d_X10_init_62 rfl ?_
  refine wp_putI (pc := 63) d_X10_init_63 fl_X10_42 (fun _ _ _ => rfl) (Or.inl rfl) ho56 (okI_int _) ?_
  refine wp_nm (fun G58 eG58 => ?_)
  have h := h G58 eG58
  have ho59 := isO_sI eG58 ho56
  have hb60 := base_sI eG58 hb57
  refine wp_aload_n (pc := 66) d_X10_init_66 rfl ?_
  refine wp_iconst (pc := 67) (v := 0) d_X10_init_67 rfl ?_
  refine wp_putI (pc := 68) d_X10_init_68 fl_X10_45 (fun _ _ _ => rfl) (Or.inl rfl) ho59 (okI_int _) ?_
  refine wp_nm (fun G61 eG61 => ?_)
  have h := h G61 eG61
  have ho62 := isO_sI eG61 ho59
  have hb63 := base_sI eG61 hb60
  refine wp_aload_n (pc := 71) d_X10_init_71 rfl ?_
  refine wp_iconst (pc := 72) (v := 0) d_X10_init_72 rfl ?_
  refine wp_putI (pc := 73) d_X10_init_73 fl_X10_48 (fun _ _ _ => rfl) (Or.inl rfl) ho62 (okI_int _) ?_
  refine wp_nm (fun G64 eG64 => ?_)
  have h := h G64 eG64
  have ho65 := isO_sI eG64 ho62
  have hb66 := base_sI eG64 hb63
  exact wp_vret (pc := 76) d_X10_init_76 rfl h
theorem d_X10_scan_0 : decode prog_12_method_2_code 0 = .ok (.aload_n 0, 1) := by decide +kernel
theorem d_X10_scan_1 : decode prog_12_method_2_code 1 = .ok (.iconst 0, 1) := by decide +kernel
theorem d_X10_scan_2 : decode prog_12_method_2_code 2 = .ok (.putfield 29, 3) := by decide +kernel
theorem d_X10_scan_5 : decode prog_12_method_2_code 5 = .ok (.aload_n 0, 1) := by decide +kernel
theorem d_X10_scan_6 : decode prog_12_method_2_code 6 = .ok (.iconst 0, 1) := by decide +kernel
theorem d_X10_scan_7 : decode prog_12_method_2_code 7 = .ok (.putfield 45, 3) := by decide +kernel
theorem d_X10_scan_10 : decode prog_12_method_2_code 10 = .ok (.aload_n 0, 1) := by decide +kernel
theorem d_X10_scan_11 : decode prog_12_method_2_code 11 = .ok (.iconst 0, 1) := by decide +kernel
theorem d_X10_scan_12 : decode prog_12_method_2_code 12 = .ok (.putfield 48, 3) := by decide +kernel
theorem d_X10_scan_15 : decode prog_12_method_2_code 15 = .ok (.iconst 0, 1) := by decide +kernel
theorem d_X10_scan_16 : decode prog_12_method_2_code 16 = .ok (.istore_n 2, 1) := by decide +kernel
theorem d_X10_scan_17 : decode prog_12_method_2_code 17 = .ok (.iconst 0, 1) := by decide +kernel
theorem d_X10_scan_18 : decode prog_12_method_2_code 18 = .ok (.istore_n 3, 1) := by decide +kernel
theorem d_X10_scan_19 : decode prog_12_method_2_code 19 = .ok (.iload_n 3, 1) := by decide +kernel
theorem d_X10_scan_20 : decode prog_12_method_2_code 20 = .ok (.aload_n 1, 1) := by decide +kernel
theorem d_X10_scan_21 : decode prog_12_method_2_code 21 = .ok (.getfield 51, 3) := by decide +kernel
theorem d_X10_scan_24 : decode prog_12_method_2_code 24 = .ok (.if_icmp .gt 101, 3) := by decide +kernel
theorem d_X10_scan_27 : decode prog_12_method_2_code 27 = .ok (.aload_n 1, 1) := by decide +kernel
theorem d_X10_scan_28 : decode prog_12_method_2_code 28 = .ok (.iload_n 2, 1) := by decide +kernel
theorem d_X10_scan_29 : decode prog_12_method_2_code 29 = .ok (.invokestatic 56, 3) := by decide +kernel
theorem d_X10_scan_32 : decode prog_12_method_2_code 32 = .ok (.istore_n 2, 1) := by decide +kernel
theorem d_X10_scan_33 : decode prog_12_method_2_code 33 = .ok (.aload_n 1, 1) := by decide +kernel
theorem d_X10_scan_34 : decode prog_12_method_2_code 34 = .ok (.iload_n 2, 1) := by decide +kernel
theorem d_X10_scan_35 : decode prog_12_method_2_code 35 = .ok (.invokevirtual 60, 3) := by decide +kernel
theorem d_X10_scan_38 : decode prog_12_method_2_code 38 = .ok (.istore 4, 2) := by decide +kernel
theorem d_X10_scan_40 : decode prog_12_method_2_code 40 = .ok (.iload 4, 2) := by decide +kernel
theorem d_X10_scan_42 : decode prog_12_method_2_code 42 = .ok (.ifCond .ge 6, 3) := by decide +kernel
theorem d_X10_scan_45 : decode prog_12_method_2_code 45 = .ok (.goto 80, 3) := by decide +kernel
theorem d_X10_scan_48 : decode prog_12_method_2_code 48 = .ok (.iload 4, 2) := by decide +kernel
theorem d_X10_scan_50 : decode prog_12_method_2_code 50 = .ok (.invokestatic 64, 3) := by decide +kernel
theorem d_X10_scan_53 : decode prog_12_method_2_code 53 = .ok (.ifCond .eq 13, 3) := by decide +kernel
theorem d_X10_scan_56 : decode prog_12_method_2_code 56 = .ok (.aload_n 0, 1) := by decide +kernel
theorem d_X10_scan_57 : decode prog_12_method_2_code 57 = .ok (.aload_n 1, 1) := by decide +kernel
theorem d_X10_scan_58 : decode prog_12_method_2_code 58 = .ok (.iload_n 2, 1) := by decide +kernel
theorem d_X10_scan_59 : decode prog_12_method_2_code 59 = .ok (.invokevirtual 68, 3) := by decide +kernel
theorem d_X10_scan_62 : decode prog_12_method_2_code 62 = .ok (.istore_n 2, 1) := by decide +kernel
theorem d_X10_scan_63 : decode prog_12_method_2_code 63 = .ok (.goto 28, 3) := by decide +kernel
theorem d_X10_scan_66 : decode prog_12_method_2_code 66 = .ok (.iload 4, 2) := by decide +kernel
theorem d_X10_scan_68 : decode prog_12_method_2_code 68 = .ok (.invokestatic 71, 3) := by decide +kernel
theorem d_X10_scan_71 : decode prog_12_method_2_code 71 = .ok (.ifCond .eq 13, 3) := by decide +kernel
theorem d_X10_scan_74 : decode prog_12_method_2_code 74 = .ok (.aload_n 0, 1) := by decide +kernel
theorem d_X10_scan_75 : decode prog_12_method_2_code 75 = .ok (.aload_n 1, 1) := by decide +kernel
theorem d_X10_scan_76 : decode prog_12_method_2_code 76 = .ok (.iload_n 2, 1) := by decide +kernel
theorem d_X10_scan_77 : decode prog_12_method_2_code 77 = .ok (.invokevirtual 74, 3) := by decide +kernel
theorem d_X10_scan_80 : decode prog_12_method_2_code 80 = .ok (.istore_n 2, 1) := by decide +kernel
theorem d_X10_scan_81 : decode prog_12_method_2_code 81 = .ok (.goto 10, 3) := by decide +kernel
theorem d_X10_scan_84 : decode prog_12_method_2_code 84 = .ok (.aload_n 0, 1) := by decide +kernel
theorem d_X10_scan_85 : decode prog_12_method_2_code 85 = .ok (.aload_n 1, 1) := by decide +kernel
theorem d_X10_scan_86 : decode prog_12_method_2_code 86 = .ok (.iload_n 2, 1) := by decide +kernel
theorem d_X10_scan_87 : decode prog_12_method_2_code 87 = .ok (.invokevirtual 77, 3) := by decide +kernel
theorem d_X10_scan_90 : decode prog_12_method_2_code 90 = .ok (.istore_n 2, 1) := by decide +kernel
theorem d_X10_scan_91 : decode prog_12_method_2_code 91 = .ok (.aload_n 0, 1) := by decide +kernel
theorem d_X10_scan_92 : decode prog_12_method_2_code 92 = .ok (.dup, 1) := by decide +kernel
theorem d_X10_scan_93 : decode prog_12_method_2_code 93 = .ok (.getfield 29, 3) := by decide +kernel
theorem d_X10_scan_96 : decode prog_12_method_2_code 96 = .ok (.iconst 1, 1) := by decide +kernel
theorem d_X10_scan_97 : decode prog_12_method_2_code 97 = .ok (.iadd, 1) := by decide +kernel
theorem d_X10_scan_98 : decode prog_12_method_2_code 98 = .ok (.putfield 29, 3) := by decide +kernel
theorem d_X10_scan_101 : decode prog_12_method_2_code 101 = .ok (.aload_n 0, 1) := by decide +kernel
theorem d_X10_scan_102 : decode prog_12_method_2_code 102 = .ok (.getfield 11, 3) := by decide +kernel
theorem d_X10_scan_105 : decode prog_12_method_2_code 105 = .ok (.aload_n 0, 1) := by decide +kernel
theorem d_X10_scan_106 : decode prog_12_method_2_code 106 = .ok (.getfield 29, 3) := by decide +kernel
theorem d_X10_scan_109 : decode prog_12_method_2_code 109 = .ok (.iconst 1, 1) := by decide +kernel
theorem d_X10_scan_110 : decode prog_12_method_2_code 110 = .ok (.isub, 1) := by decide +kernel
theorem d_X10_scan_111 : decode prog_12_method_2_code 111 = .ok (.iaload, 1) := by decide +kernel
theorem d_X10_scan_112 : decode prog_12_method_2_code 112 = .ok (.iconst 1, 1) := by decide +kernel
theorem d_X10_scan_113 : decode prog_12_method_2_code 113 = .ok (.if_icmp .ne 6, 3) := by decide +kernel
theorem d_X10_scan_116 : decode prog_12_method_2_code 116 = .ok (.goto 9, 3) := by decide +kernel
theorem d_X10_scan_119 : decode prog_12_method_2_code 119 = .ok (.iinc 3 1, 3) := by decide +kernel
theorem d_X10_scan_122 : decode prog_12_method_2_code 122 = .ok (.goto (-103), 3) := by decide +kernel
theorem d_X10_scan_125 : decode prog_12_method_2_code 125 = .ok (.aload_n 0, 1) := by decide +kernel
theorem d_X10_scan_126 : decode prog_12_method_2_code 126 = .ok (.iconst 0, 1) := by decide +kernel
theorem d_X10_scan_127 : decode prog_12_method_2_code 127 = .ok (.lconst 0, 1) := by decide +kernel
theorem d_X10_scan_128 : decode prog_12_method_2_code 128 = .ok (.aload_n 1, 1) := by decide +kernel
theorem d_X10_scan_129 : decode prog_12_method_2_code 129 = .ok (.getfield 51, 3) := by decide +kernel
theorem d_X10_scan_132 : decode prog_12_method_2_code 132 = .ok (.aload_n 1, 1) := by decide +kernel
theorem d_X10_scan_133 : decode prog_12_method_2_code 133 = .ok (.getfield 51, 3) := by decide +kernel
theorem d_X10_scan_136 : decode prog_12_method_2_code 136 = .ok (.invokevirtual 80, 3) := by decide +kernel
theorem d_X10_scan_139 : decode prog_12_method_2_code 139 = .ok (.pop, 1) := by decide +kernel
theorem d_X10_scan_140 : decode prog_12_method_2_code 140 = .ok (.aload_n 0, 1) := by decide +kernel
theorem d_X10_scan_141 : decode prog_12_method_2_code 141 = .ok (.iconst (-1), 1) := by decide +kernel
theorem d_X10_scan_142 : decode prog_12_method_2_code 142 = .ok (.putfield 25, 3) := by decide +kernel
theorem d_X10_scan_145 : decode prog_12_method_2_code 145 = .ok (.aload_n 0, 1) := by decide +kernel
theorem d_X10_scan_146 : decode prog_12_method_2_code 146 = .ok (.invokevirtual 84, 3) := by decide +kernel
theorem d_X10_scan_149 : decode prog_12_method_2_code 149 = .ok (.return_, 1) := by decide +kernel
theorem v_X10_scan_0 {E : EE} {d : Nat} {Q : Option AV → AH → Prop} {x0 : Nat} {x1 : Nat} {G : AH} (h : isO E G x0 10 ∧ (∀ G2 : AH, G2 = sI G x0 5 0 → ∀ G4 : AH, G4 = sI G2 x0 10 0 → ∀ G6 : AH, G6 = sI G4 x0 11 0 → wp E d M_X10_scan 19 [some (vr x0), some (vr x1), some (vi 0), some (vi 0), none] [] G6 Q)) : wp E d M_X10_scan 0 [some (vr x0), some (vr x1), none, none, none] [] G Q := by
  refine wp_aload_n (pc := 0) d_X10_scan_0 rfl ?_
  refine wp_iconst (pc := 1) (v := 0) d_X10_scan_1 rfl ?_
  obtain ⟨ho1, h⟩ := h
  refine wp_putI (pc := 2) d_X10_scan_2 fl_X10_29 (fun _ _ _ => rfl) (Or.inl rfl) ho1 (okI_int _) ?_
  refine wp_nm (fun G2 eG2 => ?_)
  have h := h G2 eG2
  have ho3 := isO_sI eG2 ho1
  refine wp_aload_n (pc := 5) d_X10_scan_5 rfl ?_
  refine wp_iconst (pc := 6) (v := 0) d_X10_scan_6 rfl ?_
  refine wp_putI (pc := 7) d_X10_scan_7 fl_X10_45 (fun _ _ _ => rfl) (Or.inl rfl) ho3 (okI_int _) ?_
  refine wp_nm (fun G4 eG4 => ?_)
  have h := h G4 eG4
  have ho5 := isO_sI eG4 ho3
  refine wp_aload_n (pc := 10) d_X10_scan_10 rfl ?_
  refine wp_iconst (pc := 11) (v := 0) d_X10_scan_11 rfl ?_
  refine wp_putI (pc := 12) d_X10_scan_12 fl_X10_48 (fun _ _ _ => rfl) (Or.inl rfl) ho5 (okI_int _) ?_
  refine wp_nm (fun G6 eG6 => ?_)
  have h := h G6 eG6
  have ho7 := isO_sI eG6 ho5
  refine wp_iconst (pc := 15) (v := 0) d_X10_scan_15 rfl ?_
  refine wp_istore_n (pc := 16) (lv' := [some (vr _), some (vr _), some (vi _), none, none]) d_X10_scan_16 (by decide) rfl ?_
  refine wp_iconst (pc := 17) (v := 0) d_X10_scan_17 rfl ?_
  refine wp_istore_n (pc := 18) (lv' := [some (vr _), some (vr _), some (vi _), some (vi _), none]) d_X10_scan_18 (by decide) rfl ?_
  refine wp_sub ?_ h
  exact ⟨rfl, ⟨rfl, ⟨rfl, ⟨rfl, trivial⟩⟩⟩⟩
theorem v_X10_scan_19 {E : EE} {d : Nat} {Q : Option AV → AH → Prop} {x0 : Nat} {x1 : Nat} {x2 : Int32} {x3 : Int32} {G : AH} (h0 : 0 < d) (h : isO E G x1 0 ∧ (((gI G x1 1) < x3 → wp E d M_X10_scan 125 [some (vr x0), some (vr x1), some (vi x2), some (vi x3), none] [] G Q) ∧ (¬ ((gI G x1 1) < x3) → wpI E (d - 1) M_X10_afterBlanks [vr x1, vi x2] G (fun r2 G3 => isO E G3 x1 0 ∧ (wpI E (d - 1) M_X0_at [vr x1, vi r2] G3 (fun r4 G5 => (0 ≤ r4 → wpI E (d - 1) M_X10_isLetter [vi r4] G5 (fun r6 G7 => (r6 = 0 → wpI E (d - 1) M_X10_isFigure [vi r4] G7 (fun r8 G9 => (r8 = 0 → isO E G9 x0 10 ∧ (wpI E (d - 1) M_X10_readSign [vr x0, vr x1, vi r2] G9 (fun r10 G11 => wp E d M_X10_scan 91 [some (vr x0), some (vr x1), some (vi r10), some (vi x3), some (vi r4)] [] G11 Q))) ∧ (¬ (r8 = 0) → isO E G9 x0 10 ∧ (wpI E (d - 1) M_X10_readNumber [vr x0, vr x1, vi r2] G9 (fun r13 G14 => wp E d M_X10_scan 91 [some (vr x0), some (vr x1), some (vi r13), some (vi x3), some (vi r4)] [] G14 Q))))) ∧ (¬ (r6 = 0) → isO E G7 x0 10 ∧ (wpI E (d - 1) M_X10_readName [vr x0, vr x1, vi r2] G7 (fun r16 G17 => wp E d M_X10_scan 91 [some (vr x0), some (vr x1), some (vi r16), some (vi x3), some (vi r4)] [] G17 Q))))) ∧ (¬ (0 ≤ r4) → wp E d M_X10_scan 125 [some (vr x0), some (vr x1), some (vi r2), some (vi x3), none] [] G5 Q))))))) : wp E d M_X10_scan 19 [some (vr x0), some (vr x1), some (vi x2), some (vi x3), none] [] G Q := by
  refine wp_iload_n (pc := 19) d_X10_scan_19 rfl ?_
  refine wp_aload_n (pc := 20) d_X10_scan_20 rfl ?_
  obtain ⟨ho1, h⟩ := h
  refine wp_getI (pc := 21) d_X10_scan_21 fl_X10_51 (fun _ _ _ => rfl) ho1 ?_
  refine wp_icmp_gt (pc := 24) (tgt := 125) d_X10_scan_24 (by decide) (fun hc => ?_) (fun hc => ?_)
  · have h := h.1 hc
    refine wp_sub ?_ h
    exact ⟨rfl, ⟨rfl, ⟨rfl, ⟨rfl, trivial⟩⟩⟩⟩
  · have h := h.2 hc
    refine wp_aload_n (pc := 27) d_X10_scan_27 rfl ?_
    refine wp_iload_n (pc := 28) d_X10_scan_28 rfl ?_
    refine wp_invS (pc := 29) (N := M_X10_afterBlanks) (As := [vr _, vi _]) (rest := []) d_X10_scan_29 ml_X10_56 mk_X10_afterBlanks ms_X10_afterBlanks h0 (Nat.le_of_ble_eq_true rfl) ?_
    refine wpM.mono h (fun rr G3 hr => ?_)
    obtain ⟨r2, rfl, h⟩ := hr
    show wp E d M_X10_scan 32 [some (vr _), some (vr _), some (vi _), some (vi _), none] [vi _] G3 Q
    refine wp_istore_n (pc := 32) (lv' := [some (vr _), some (vr _), some (vi _), some (vi _), none]) d_X10_scan_32 (by decide) rfl ?_
    refine wp_aload_n (pc := 33) d_X10_scan_33 rfl ?_
    refine wp_iload_n (pc := 34) d_X10_scan_34 rfl ?_
    obtain ⟨ho19, h⟩ := h
    refine wp_invV (pc := 35) (N := M_X0_at) (As := [vi _]) (rest := []) (r := (cn_0, ct_0, 2)) d_X10_scan_35 ml_X10_60 mk_X0_at mv_X0_at h0 ho19 rfl rfl (Nat.le_of_ble_eq_true rfl) ?_
    refine wpM.mono h (fun rr G5 hr => ?_)
    obtain ⟨r4, rfl, h⟩ := hr
    show wp E d M_X10_scan 38 [some (vr _), some (vr _), some (vi _), some (vi _), none] [vi _] G5 Q
    refine wp_istore (pc := 38) (lv' := [some (vr _), some (vr _), some (vi _), some (vi _), some (vi _)]) d_X10_scan_38 (by decide) rfl ?_
    refine wp_iload (pc := 40) d_X10_scan_40 rfl ?_
    refine wp_if_ge (pc := 42) (tgt := 48) d_X10_scan_42 (by decide) (fun hc => ?_) (fun hc => ?_)
    · have h := h.1 hc
      refine wp_iload (pc := 48) d_X10_scan_48 rfl ?_
      refine wp_invS (pc := 50) (N := M_X10_isLetter) (As := [vi _]) (rest := []) d_X10_scan_50 ml_X10_64 mk_X10_isLetter ms_X10_isLetter h0 (Nat.le_of_ble_eq_true rfl) ?_
      refine wpM.mono h (fun rr G7 hr => ?_)
      obtain ⟨r6, rfl, h⟩ := hr
      show wp E d M_X10_scan 53 [some (vr _), some (vr _), some (vi _), some (vi _), some (vi _)] [vi _] G7 Q
      refine wp_if_eq (pc := 53) (tgt := 66) d_X10_scan_53 (by decide) (fun hc => ?_) (fun hc => ?_)
      · have h := h.1 hc
        refine wp_iload (pc := 66) d_X10_scan_66 rfl ?_
        refine wp_invS (pc := 68) (N := M_X10_isFigure) (As := [vi _]) (rest := []) d_X10_scan_68 ml_X10_71 mk_X10_isFigure ms_X10_isFigure h0 (Nat.le_of_ble_eq_true rfl) ?_
        refine wpM.mono h (fun rr G9 hr => ?_)
        obtain ⟨r8, rfl, h⟩ := hr
        show wp E d M_X10_scan 71 [some (vr _), some (vr _), some (vi _), some (vi _), some (vi _)] [vi _] G9 Q
        refine wp_if_eq (pc := 71) (tgt := 84) d_X10_scan_71 (by decide) (fun hc => ?_) (fun hc => ?_)
        · have h := h.1 hc
          refine wp_aload_n (pc := 84) d_X10_scan_84 rfl ?_
          refine wp_aload_n (pc := 85) d_X10_scan_85 rfl ?_
          refine wp_iload_n (pc := 86) d_X10_scan_86 rfl ?_
          obtain ⟨ho12, h⟩ := h
          refine wp_invV (pc := 87) (N := M_X10_readSign) (As := [vr _, vi _]) (rest := []) (r := (cn_10, ct_10, 12)) d_X10_scan_87 ml_X10_77 mk_X10_readSign mv_X10_readSign h0 ho12 rfl rfl (Nat.le_of_ble_eq_true rfl) ?_
          refine wpM.mono h (fun rr G11 hr => ?_)
          obtain ⟨r10, rfl, h⟩ := hr
          show wp E d M_X10_scan 90 [some (vr _), some (vr _), some (vi _), some (vi _), some (vi _)] [vi _] G11 Q
          refine wp_istore_n (pc := 90) (lv' := [some (vr _), some (vr _), some (vi _), some (vi _), some (vi _)]) d_X10_scan_90 (by decide) rfl ?_
          refine wp_sub ?_ h
          exact ⟨rfl, ⟨rfl, ⟨rfl, ⟨rfl, ⟨rfl, trivial⟩⟩⟩⟩⟩
        · have h := h.2 hc
          refine wp_aload_n (pc := 74) d_X10_scan_74 rfl ?_
          refine wp_aload_n (pc := 75) d_X10_scan_75 rfl ?_
          refine wp_iload_n (pc := 76) d_X10_scan_76 rfl ?_
          obtain ⟨ho15, h⟩ := h
          refine wp_invV (pc := 77) (N := M_X10_readNumber) (As := [vr _, vi _]) (rest := []) (r := (cn_10, ct_10, 12)) d_X10_scan_77 ml_X10_74 mk_X10_readNumber mv_X10_readNumber h0 ho15 rfl rfl (Nat.le_of_ble_eq_true rfl) ?_
          refine wpM.mono h (fun rr G14 hr => ?_)
          obtain ⟨r13, rfl, h⟩ := hr
          show wp E d M_X10_scan 80 [some (vr _), some (vr _), some (vi _), some (vi _), some (vi _)] [vi _] G14 Q
          refine wp_istore_n (pc := 80) (lv' := [some (vr _), some (vr _), some (vi _), some (vi _), some (vi _)]) d_X10_scan_80 (by decide) rfl ?_
          refine wp_goto (pc := 81) (tgt := 91) d_X10_scan_81 (by decide) ?_
          refine wp_sub ?_ h
          exact ⟨rfl, ⟨rfl, ⟨rfl, ⟨rfl, ⟨rfl, trivial⟩⟩⟩⟩⟩
      · have h := h.2 hc
        refine wp_aload_n (pc := 56) d_X10_scan_56 rfl ?_
        refine wp_aload_n (pc := 57) d_X10_scan_57 rfl ?_
        refine wp_iload_n (pc := 58) d_X10_scan_58 rfl ?_
        obtain ⟨ho18, h⟩ := h
        refine wp_invV (pc := 59) (N := M_X10_readName) (As := [vr _, vi _]) (rest := []) (r := (cn_10, ct_10, 12)) d_X10_scan_59 ml_X10_68 mk_X10_readName mv_X10_readName h0 ho18 rfl rfl (Nat.le_of_ble_eq_true rfl) ?_
        refine wpM.mono h (fun rr G17 hr => ?_)
        obtain ⟨r16, rfl, h⟩ := hr
        show wp E d M_X10_scan 62 [some (vr _), some (vr _), some (vi _), some (vi _), some (vi _)] [vi _] G17 Q
        refine wp_istore_n (pc := 62) (lv' := [some (vr _), some (vr _), some (vi _), some (vi _), some (vi _)]) d_X10_scan_62 (by decide) rfl ?_
        refine wp_goto (pc := 63) (tgt := 91) d_X10_scan_63 (by decide) ?_
        refine wp_sub ?_ h
        exact ⟨rfl, ⟨rfl, ⟨rfl, ⟨rfl, ⟨rfl, trivial⟩⟩⟩⟩⟩
    · have h := h.2 hc
      refine wp_goto (pc := 45) (tgt := 125) d_X10_scan_45 (by decide) ?_
      refine wp_sub ?_ h
      exact ⟨rfl, ⟨rfl, ⟨rfl, ⟨rfl, trivial⟩⟩⟩⟩
theorem v_X10_scan_91 {E : EE} {d : Nat} {Q : Option AV → AH → Prop} {x0 : Nat} {x1 : Nat} {x2 : Int32} {x3 : Int32} {x4 : Int32} {G : AH} (h : isO E G x0 10 ∧ (isO E G (gR G x0 0) 14 ∧ (vp_in ((gI (sI G x0 5 ((gI G x0 5) + 1)) x0 5) - 1) (gN G (gR G x0 0)) ∧ ((¬ (gI (sI G x0 5 ((gI G x0 5) + 1)) (gR G x0 0) (Int32.toNatClampNeg ((gI (sI G x0 5 ((gI G x0 5) + 1)) x0 5) - 1))) = 1 → wp E d M_X10_scan 19 [some (vr x0), some (vr x1), some (vi x2), some (vi (x3 + 1)), none] [] (sI G x0 5 ((gI G x0 5) + 1)) Q) ∧ ((gI (sI G x0 5 ((gI G x0 5) + 1)) (gR G x0 0) (Int32.toNatClampNeg ((gI (sI G x0 5 ((gI G x0 5) + 1)) x0 5) - 1))) = 1 → wp E d M_X10_scan 125 [some (vr x0), some (vr x1), some (vi x2), some (vi x3), none] [] (sI G x0 5 ((gI G x0 5) + 1)) Q))))) : wp E d M_X10_scan 91 [some (vr x0), some (vr x1), some (vi x2), some (vi x3), some (vi x4)] [] G Q := by
  refine wp_aload_n (pc := 91) d_X10_scan_91 rfl ?_
  refine wp_dup (pc := 92) d_X10_scan_92 (c1_r _) ?_
  obtain ⟨ho1, h⟩ := h
  refine wp_getI (pc := 93) d_X10_scan_93 fl_X10_29 (fun _ _ _ => rfl) ho1 ?_
  refine wp_iconst (pc := 96) (v := 1) d_X10_scan_96 rfl ?_
  refine wp_iadd (pc := 97) d_X10_scan_97 ?_
  refine wp_putI (pc := 98) d_X10_scan_98 fl_X10_29 (fun _ _ _ => rfl) (Or.inl rfl) ho1 (okI_int _) ?_
  refine wp_aload_n (pc := 101) d_X10_scan_101 rfl ?_
  refine wp_getR (pc := 102) d_X10_scan_102 fl_X10_11 (fun _ _ _ => rfl) ho1 ?_
  show wp E d M_X10_scan 105 [some (vr x0), some (vr x1), some (vi x2), some (vi x3), some (vi x4)] [vr (gR G x0 0)] (sI G x0 5 ((gI G x0 5) + 1)) Q
  refine wp_aload_n (pc := 105) d_X10_scan_105 rfl ?_
  refine wp_getI (pc := 106) d_X10_scan_106 fl_X10_29 (fun _ _ _ => rfl) ho1 ?_
  refine wp_iconst (pc := 109) (v := 1) d_X10_scan_109 rfl ?_
  refine wp_isub (pc := 110) d_X10_scan_110 ?_
  obtain ⟨ho2, h⟩ := h
  obtain ⟨hi3, h⟩ := h
  refine wp_iald (pc := 111) d_X10_scan_111 ho2 hi3 ?_
  refine wp_iconst (pc := 112) (v := 1) d_X10_scan_112 rfl ?_
  refine wp_icmp_ne (pc := 113) (tgt := 119) d_X10_scan_113 (by decide) (fun hc => ?_) (fun hc => ?_)
  · have h := h.1 hc
    refine wp_iinc (pc := 119) (v := 1) (lv' := [some (vr _), some (vr _), some (vi _), some (vi _), some (vi _)]) d_X10_scan_119 (by decide) rfl rfl rfl ?_
    refine wp_goto (pc := 122) (tgt := 19) d_X10_scan_122 (by decide) ?_
    refine wp_sub ?_ h
    exact ⟨rfl, ⟨rfl, ⟨rfl, ⟨rfl, trivial⟩⟩⟩⟩
  · have h := h.2 hc
    refine wp_goto (pc := 116) (tgt := 125) d_X10_scan_116 (by decide) ?_
    refine wp_sub ?_ h
    exact ⟨rfl, ⟨rfl, ⟨rfl, ⟨rfl, trivial⟩⟩⟩⟩
theorem v_X10_scan_125 {E : EE} {d : Nat} {Q : Option AV → AH → Prop} {x0 : Nat} {x1 : Nat} {x2 : Int32} {x3 : Int32} {G : AH} (h0 : 0 < d) (h : isO E G x1 0 ∧ (isO E G x0 10 ∧ (wpI E (d - 1) M_X10_write [vr x0, vi 0, vj 0, vi (gI G x1 1), vi (gI G x1 1)] G (fun r2 G3 => isO E G3 x0 10 ∧ (wpV E (d - 1) M_X10_step [vr x0] (sI G3 x0 4 (-1)) (fun G5 => Q none G5)))))) : wp E d M_X10_scan 125 [some (vr x0), some (vr x1), some (vi x2), some (vi x3), none] [] G Q := by
  refine wp_aload_n (pc := 125) d_X10_scan_125 rfl ?_
  refine wp_iconst (pc := 126) (v := 0) d_X10_scan_126 rfl ?_
  refine wp_lconst (pc := 127) (v := 0) d_X10_scan_127 rfl ?_
  refine wp_aload_n (pc := 128) d_X10_scan_128 rfl ?_
  obtain ⟨ho1, h⟩ := h
  refine wp_getI (pc := 129) d_X10_scan_129 fl_X10_51 (fun _ _ _ => rfl) ho1 ?_
  refine wp_aload_n (pc := 132) d_X10_scan_132 rfl ?_
  refine wp_getI (pc := 133) d_X10_scan_133 fl_X10_51 (fun _ _ _ => rfl) ho1 ?_
  obtain ⟨ho6, h⟩ := h
  refine wp_invV (pc := 136) (N := M_X10_write) (As := [vi _, vj _, vi _, vi _]) (rest := []) (r := (cn_10, ct_10, 12)) d_X10_scan_136 ml_X10_80 mk_X10_write mv_X10_write h0 ho6 rfl rfl (Nat.le_of_ble_eq_true rfl) ?_
  refine wpM.mono h (fun rr G3 hr => ?_)
  obtain ⟨r2, rfl, h⟩ := hr
  show wp E d M_X10_scan 139 [some (vr _), some (vr _), some (vi _), some (vi _), none] [vi _] G3 Q
  refine wp_pop (pc := 139) d_X10_scan_139 (c1_i _) ?_
  refine wp_aload_n (pc := 140) d_X10_scan_140 rfl ?_
  refine wp_iconst (pc := 141) (v := (-1)) d_X10_scan_141 rfl ?_
  obtain ⟨ho4, h⟩ := h
  refine wp_putI (pc := 142) d_X10_scan_142 fl_X10_25 (fun _ _ _ => rfl) (Or.inl rfl) ho4 (okI_int _) ?_
  refine wp_aload_n (pc := 145) d_X10_scan_145 rfl ?_
  refine wp_invV (pc := 146) (N := M_X10_step) (As := []) (rest := []) (r := (cn_10, ct_10, 12)) d_X10_scan_146 ml_X10_84 mk_X10_step mv_X10_step h0 ho4 rfl rfl (Nat.le_of_ble_eq_true rfl) ?_
  refine wpM.mono h (fun rr G5 hr => ?_)
  obtain ⟨rfl, h⟩ := hr
  show wp E d M_X10_scan 149 [some (vr _), some (vr _), some (vi _), some (vi _), none] [] G5 Q
  exact wp_vret (pc := 149) d_X10_scan_149 rfl h
theorem d_X10_afterBlanks_0 : decode prog_12_method_10_code 0 = .ok (.iconst 0, 1) := by decide +kernel
theorem d_X10_afterBlanks_1 : decode prog_12_method_10_code 1 = .ok (.istore_n 2, 1) := by decide +kernel
theorem d_X10_afterBlanks_2 : decode prog_12_method_10_code 2 = .ok (.iload_n 1, 1) := by decide +kernel
theorem d_X10_afterBlanks_3 : decode prog_12_method_10_code 3 = .ok (.istore_n 3, 1) := by decide +kernel
theorem d_X10_afterBlanks_4 : decode prog_12_method_10_code 4 = .ok (.iload_n 3, 1) := by decide +kernel
theorem d_X10_afterBlanks_5 : decode prog_12_method_10_code 5 = .ok (.aload_n 0, 1) := by decide +kernel
theorem d_X10_afterBlanks_6 : decode prog_12_method_10_code 6 = .ok (.getfield 51, 3) := by decide +kernel
theorem d_X10_afterBlanks_9 : decode prog_12_method_10_code 9 = .ok (.if_icmp .ge 67, 3) := by decide +kernel
theorem d_X10_afterBlanks_12 : decode prog_12_method_10_code 12 = .ok (.aload_n 0, 1) := by decide +kernel
theorem d_X10_afterBlanks_13 : decode prog_12_method_10_code 13 = .ok (.iload_n 3, 1) := by decide +kernel
theorem d_X10_afterBlanks_14 : decode prog_12_method_10_code 14 = .ok (.invokevirtual 60, 3) := by decide +kernel
theorem d_X10_afterBlanks_17 : decode prog_12_method_10_code 17 = .ok (.istore 4, 2) := by decide +kernel
theorem d_X10_afterBlanks_19 : decode prog_12_method_10_code 19 = .ok (.iload 4, 2) := by decide +kernel
theorem d_X10_afterBlanks_21 : decode prog_12_method_10_code 21 = .ok (.bipush 10, 2) := by decide +kernel
theorem d_X10_afterBlanks_23 : decode prog_12_method_10_code 23 = .ok (.if_icmp .ne 8, 3) := by decide +kernel
theorem d_X10_afterBlanks_26 : decode prog_12_method_10_code 26 = .ok (.iconst 0, 1) := by decide +kernel
theorem d_X10_afterBlanks_27 : decode prog_12_method_10_code 27 = .ok (.istore_n 2, 1) := by decide +kernel
theorem d_X10_afterBlanks_28 : decode prog_12_method_10_code 28 = .ok (.goto 42, 3) := by decide +kernel
theorem d_X10_afterBlanks_31 : decode prog_12_method_10_code 31 = .ok (.iload 4, 2) := by decide +kernel
theorem d_X10_afterBlanks_33 : decode prog_12_method_10_code 33 = .ok (.bipush 37, 2) := by decide +kernel
theorem d_X10_afterBlanks_35 : decode prog_12_method_10_code 35 = .ok (.if_icmp .ne 8, 3) := by decide +kernel
theorem d_X10_afterBlanks_38 : decode prog_12_method_10_code 38 = .ok (.iconst 1, 1) := by decide +kernel
theorem d_X10_afterBlanks_39 : decode prog_12_method_10_code 39 = .ok (.istore_n 2, 1) := by decide +kernel
theorem d_X10_afterBlanks_40 : decode prog_12_method_10_code 40 = .ok (.goto 30, 3) := by decide +kernel
theorem d_X10_afterBlanks_43 : decode prog_12_method_10_code 43 = .ok (.iload_n 2, 1) := by decide +kernel
theorem d_X10_afterBlanks_44 : decode prog_12_method_10_code 44 = .ok (.ifCond .ne 26, 3) := by decide +kernel
theorem d_X10_afterBlanks_47 : decode prog_12_method_10_code 47 = .ok (.iload 4, 2) := by decide +kernel
theorem d_X10_afterBlanks_49 : decode prog_12_method_10_code 49 = .ok (.bipush 32, 2) := by decide +kernel
theorem d_X10_afterBlanks_51 : decode prog_12_method_10_code 51 = .ok (.if_icmp .eq 19, 3) := by decide +kernel
theorem d_X10_afterBlanks_54 : decode prog_12_method_10_code 54 = .ok (.iload 4, 2) := by decide +kernel
theorem d_X10_afterBlanks_56 : decode prog_12_method_10_code 56 = .ok (.bipush 9, 2) := by decide +kernel
theorem d_X10_afterBlanks_58 : decode prog_12_method_10_code 58 = .ok (.if_icmp .eq 12, 3) := by decide +kernel
theorem d_X10_afterBlanks_61 : decode prog_12_method_10_code 61 = .ok (.iload 4, 2) := by decide +kernel
theorem d_X10_afterBlanks_63 : decode prog_12_method_10_code 63 = .ok (.bipush 13, 2) := by decide +kernel
theorem d_X10_afterBlanks_65 : decode prog_12_method_10_code 65 = .ok (.if_icmp .eq 5, 3) := by decide +kernel
theorem d_X10_afterBlanks_68 : decode prog_12_method_10_code 68 = .ok (.iload_n 3, 1) := by decide +kernel
theorem d_X10_afterBlanks_69 : decode prog_12_method_10_code 69 = .ok (.ireturn, 1) := by decide +kernel
theorem d_X10_afterBlanks_70 : decode prog_12_method_10_code 70 = .ok (.iinc 3 1, 3) := by decide +kernel
theorem d_X10_afterBlanks_73 : decode prog_12_method_10_code 73 = .ok (.goto (-69), 3) := by decide +kernel
theorem d_X10_afterBlanks_76 : decode prog_12_method_10_code 76 = .ok (.aload_n 0, 1) := by decide +kernel
theorem d_X10_afterBlanks_77 : decode prog_12_method_10_code 77 = .ok (.getfield 51, 3) := by decide +kernel
theorem d_X10_afterBlanks_80 : decode prog_12_method_10_code 80 = .ok (.ireturn, 1) := by decide +kernel
theorem v_X10_afterBlanks_0 {E : EE} {d : Nat} {Q : Option AV → AH → Prop} {x0 : Nat} {x1 : Int32} {G : AH} (h : wp E d M_X10_afterBlanks 4 [some (vr x0), some (vi x1), some (vi 0), some (vi x1), none] [] G Q) : wp E d M_X10_afterBlanks 0 [some (vr x0), some (vi x1), none, none, none] [] G Q := by
  refine wp_iconst (pc := 0) (v := 0) d_X10_afterBlanks_0 rfl ?_
  refine wp_istore_n (pc := 1) (lv' := [some (vr _), some (vi _), some (vi _), none, none]) d_X10_afterBlanks_1 (by decide) rfl ?_
  refine wp_iload_n (pc := 2) d_X10_afterBlanks_2 rfl ?_
  refine wp_istore_n (pc := 3) (lv' := [some (vr _), some (vi _), some (vi _), some (vi _), none]) d_X10_afterBlanks_3 (by decide) rfl ?_
  refine wp_sub ?_ h
  exact ⟨rfl, ⟨rfl, ⟨rfl, ⟨rfl, trivial⟩⟩⟩⟩
theorem v_X10_afterBlanks_4 {E : EE} {d : Nat} {Q : Option AV → AH → Prop} {x0 : Nat} {x1 : Int32} {x2 : Int32} {x3 : Int32} {G : AH} (h0 : 0 < d) (h : isO E G x0 0 ∧ (((gI G x0 1) ≤ x3 → Q (some (vi (gI G x0 1))) G) ∧ (¬ ((gI G x0 1) ≤ x3) → wpI E (d - 1) M_X0_at [vr x0, vi x3] G (fun r2 G3 => (¬ r2 = 10 → (¬ r2 = 37 → (¬ x2 = 0 → wp E d M_X10_afterBlanks 70 [some (vr x0), some (vi x1), some (vi x2), some (vi x3), some (vi r2)] [] G3 Q) ∧ (x2 = 0 → (r2 = 32 → wp E d M_X10_afterBlanks 70 [some (vr x0), some (vi x1), some (vi x2), some (vi x3), some (vi r2)] [] G3 Q) ∧ (¬ (r2 = 32) → (r2 = 9 → wp E d M_X10_afterBlanks 70 [some (vr x0), some (vi x1), some (vi x2), some (vi x3), some (vi r2)] [] G3 Q) ∧ (¬ (r2 = 9) → (r2 = 13 → wp E d M_X10_afterBlanks 70 [some (vr x0), some (vi x1), some (vi x2), some (vi x3), some (vi r2)] [] G3 Q) ∧ (¬ (r2 = 13) → Q (some (vi x3)) G3))))) ∧ (r2 = 37 → wp E d M_X10_afterBlanks 70 [some (vr x0), some (vi x1), some (vi 1), some (vi x3), some (vi r2)] [] G3 Q)) ∧ (r2 = 10 → wp E d M_X10_afterBlanks 70 [some (vr x0), some (vi x1), some (vi 0), some (vi x3), some (vi r2)] [] G3 Q))))) : wp E d M_X10_afterBlanks 4 [some (vr x0), some (vi x1), some (vi x2), some (vi x3), none] [] G Q := by
  refine wp_iload_n (pc := 4) d_X10_afterBlanks_4 rfl ?_
  refine wp_aload_n (pc := 5) d_X10_afterBlanks_5 rfl ?_
  obtain ⟨ho1, h⟩ := h
  refine wp_getI (pc := 6) d_X10_afterBlanks_6 fl_X10_51 (fun _ _ _ => rfl) ho1 ?_
  refine wp_icmp_ge (pc := 9) (tgt := 76) d_X10_afterBlanks_9 (by decide) (fun hc => ?_) (fun hc => ?_)
  · have h := h.1 hc
    refine wp_aload_n (pc := 76) d_X10_afterBlanks_76 rfl ?_
    refine wp_getI (pc := 77) d_X10_afterBlanks_77 fl_X10_51 (fun _ _ _ => rfl) ho1 ?_
    exact wp_iret (pc := 80) d_X10_afterBlanks_80 rfl h
  · have h := h.2 hc
    refine wp_aload_n (pc := 12) d_X10_afterBlanks_12 rfl ?_
    refine wp_iload_n (pc := 13) d_X10_afterBlanks_13 rfl ?_
    refine wp_invV (pc := 14) (N := M_X0_at) (As := [vi _]) (rest := []) (r := (cn_0, ct_0, 2)) d_X10_afterBlanks_14 ml_X10_60 mk_X0_at mv_X0_at h0 ho1 rfl rfl (Nat.le_of_ble_eq_true rfl) ?_
    refine wpM.mono h (fun rr G3 hr => ?_)
    obtain ⟨r2, rfl, h⟩ := hr
    show wp E d M_X10_afterBlanks 17 [some (vr _), some (vi _), some (vi _), some (vi _), none] [vi _] G3 Q
    refine wp_istore (pc := 17) (lv' := [some (vr _), some (vi _), some (vi _), some (vi _), some (vi _)]) d_X10_afterBlanks_17 (by decide) rfl ?_
    refine wp_iload (pc := 19) d_X10_afterBlanks_19 rfl ?_
    refine wp_bipush (pc := 21) (v := 10) d_X10_afterBlanks_21 rfl ?_
    refine wp_icmp_ne (pc := 23) (tgt := 31) d_X10_afterBlanks_23 (by decide) (fun hc => ?_) (fun hc => ?_)
    · have h := h.1 hc
      refine wp_iload (pc := 31) d_X10_afterBlanks_31 rfl ?_
      refine wp_bipush (pc := 33) (v := 37) d_X10_afterBlanks_33 rfl ?_
      refine wp_icmp_ne (pc := 35) (tgt := 43) d_X10_afterBlanks_35 (by decide) (fun hc => ?_) (fun hc => ?_)
      · have h := h.1 hc
        refine wp_iload_n (pc := 43) d_X10_afterBlanks_43 rfl ?_
        refine wp_if_ne (pc := 44) (tgt := 70) d_X10_afterBlanks_44 (by decide) (fun hc => ?_) (fun hc => ?_)
        · have h := h.1 hc
          refine wp_sub ?_ h
          exact ⟨rfl, ⟨rfl, ⟨rfl, ⟨rfl, ⟨rfl, trivial⟩⟩⟩⟩⟩
        · have h := h.2 hc
          refine wp_iload (pc := 47) d_X10_afterBlanks_47 rfl ?_
          refine wp_bipush (pc := 49) (v := 32) d_X10_afterBlanks_49 rfl ?_
          refine wp_icmp_eq (pc := 51) (tgt := 70) d_X10_afterBlanks_51 (by decide) (fun hc => ?_) (fun hc => ?_)
          · have h := h.1 hc
            refine wp_sub ?_ h
            exact ⟨rfl, ⟨rfl, ⟨rfl, ⟨rfl, ⟨rfl, trivial⟩⟩⟩⟩⟩
          · have h := h.2 hc
            refine wp_iload (pc := 54) d_X10_afterBlanks_54 rfl ?_
            refine wp_bipush (pc := 56) (v := 9) d_X10_afterBlanks_56 rfl ?_
            refine wp_icmp_eq (pc := 58) (tgt := 70) d_X10_afterBlanks_58 (by decide) (fun hc => ?_) (fun hc => ?_)
            · have h := h.1 hc
              refine wp_sub ?_ h
              exact ⟨rfl, ⟨rfl, ⟨rfl, ⟨rfl, ⟨rfl, trivial⟩⟩⟩⟩⟩
            · have h := h.2 hc
              refine wp_iload (pc := 61) d_X10_afterBlanks_61 rfl ?_
              refine wp_bipush (pc := 63) (v := 13) d_X10_afterBlanks_63 rfl ?_
              refine wp_icmp_eq (pc := 65) (tgt := 70) d_X10_afterBlanks_65 (by decide) (fun hc => ?_) (fun hc => ?_)
              · have h := h.1 hc
                refine wp_sub ?_ h
                exact ⟨rfl, ⟨rfl, ⟨rfl, ⟨rfl, ⟨rfl, trivial⟩⟩⟩⟩⟩
              · have h := h.2 hc
                refine wp_iload_n (pc := 68) d_X10_afterBlanks_68 rfl ?_
                exact wp_iret (pc := 69) d_X10_afterBlanks_69 rfl h
      · have h := h.2 hc
        refine wp_iconst (pc := 38) (v := 1) d_X10_afterBlanks_38 rfl ?_
        refine wp_istore_n (pc := 39) (lv' := [some (vr _), some (vi _), some (vi _), some (vi _), some (vi _)]) d_X10_afterBlanks_39 (by decide) rfl ?_
        refine wp_goto (pc := 40) (tgt := 70) d_X10_afterBlanks_40 (by decide) ?_
        refine wp_sub ?_ h
        exact ⟨rfl, ⟨rfl, ⟨rfl, ⟨rfl, ⟨rfl, trivial⟩⟩⟩⟩⟩
    · have h := h.2 hc
      refine wp_iconst (pc := 26) (v := 0) d_X10_afterBlanks_26 rfl ?_
      refine wp_istore_n (pc := 27) (lv' := [some (vr _), some (vi _), some (vi _), some (vi _), some (vi _)]) d_X10_afterBlanks_27 (by decide) rfl ?_
      refine wp_goto (pc := 28) (tgt := 70) d_X10_afterBlanks_28 (by decide) ?_
      refine wp_sub ?_ h
      exact ⟨rfl, ⟨rfl, ⟨rfl, ⟨rfl, ⟨rfl, trivial⟩⟩⟩⟩⟩
theorem v_X10_afterBlanks_70 {E : EE} {d : Nat} {Q : Option AV → AH → Prop} {x0 : Nat} {x1 : Int32} {x2 : Int32} {x3 : Int32} {x4 : Int32} {G : AH} (h : wp E d M_X10_afterBlanks 4 [some (vr x0), some (vi x1), some (vi x2), some (vi (x3 + 1)), none] [] G Q) : wp E d M_X10_afterBlanks 70 [some (vr x0), some (vi x1), some (vi x2), some (vi x3), some (vi x4)] [] G Q := by
  refine wp_iinc (pc := 70) (v := 1) (lv' := [some (vr _), some (vi _), some (vi _), some (vi _), some (vi _)]) d_X10_afterBlanks_70 (by decide) rfl rfl rfl ?_
  refine wp_goto (pc := 73) (tgt := 4) d_X10_afterBlanks_73 (by decide) ?_
  refine wp_sub ?_ h
  exact ⟨rfl, ⟨rfl, ⟨rfl, ⟨rfl, trivial⟩⟩⟩⟩
theorem d_X10_write_0 : decode prog_12_method_14_code 0 = .ok (.aload_n 0, 1) := by decide +kernel
theorem d_X10_write_1 : decode prog_12_method_14_code 1 = .ok (.getfield 29, 3) := by decide +kernel
theorem d_X10_write_4 : decode prog_12_method_14_code 4 = .ok (.aload_n 0, 1) := by decide +kernel
theorem d_X10_write_5 : decode prog_12_method_14_code 5 = .ok (.getfield 11, 3) := by decide +kernel
theorem d_X10_write_8 : decode prog_12_method_14_code 8 = .ok (.arraylength, 1) := by decide +kernel
theorem d_X10_write_9 : decode prog_12_method_14_code 9 = .ok (.if_icmp .lt 71, 3) := by decide +kernel
theorem d_X10_write_12 : decode prog_12_method_14_code 12 = .ok (.aload_n 0, 1) := by decide +kernel
theorem d_X10_write_13 : decode prog_12_method_14_code 13 = .ok (.aload_n 0, 1) := by decide +kernel
theorem d_X10_write_14 : decode prog_12_method_14_code 14 = .ok (.getfield 11, 3) := by decide +kernel
theorem d_X10_write_17 : decode prog_12_method_14_code 17 = .ok (.iconst 2, 1) := by decide +kernel
theorem d_X10_write_18 : decode prog_12_method_14_code 18 = .ok (.aload_n 0, 1) := by decide +kernel
theorem d_X10_write_19 : decode prog_12_method_14_code 19 = .ok (.getfield 29, 3) := by decide +kernel
theorem d_X10_write_22 : decode prog_12_method_14_code 22 = .ok (.imul, 1) := by decide +kernel
theorem d_X10_write_23 : decode prog_12_method_14_code 23 = .ok (.invokestatic 105, 3) := by decide +kernel
theorem d_X10_write_26 : decode prog_12_method_14_code 26 = .ok (.putfield 11, 3) := by decide +kernel
theorem d_X10_write_29 : decode prog_12_method_14_code 29 = .ok (.aload_n 0, 1) := by decide +kernel
theorem d_X10_write_30 : decode prog_12_method_14_code 30 = .ok (.aload_n 0, 1) := by decide +kernel
theorem d_X10_write_31 : decode prog_12_method_14_code 31 = .ok (.getfield 15, 3) := by decide +kernel
theorem d_X10_write_34 : decode prog_12_method_14_code 34 = .ok (.iconst 2, 1) := by decide +kernel
theorem d_X10_write_35 : decode prog_12_method_14_code 35 = .ok (.aload_n 0, 1) := by decide +kernel
theorem d_X10_write_36 : decode prog_12_method_14_code 36 = .ok (.getfield 29, 3) := by decide +kernel
theorem d_X10_write_39 : decode prog_12_method_14_code 39 = .ok (.imul, 1) := by decide +kernel
theorem d_X10_write_40 : decode prog_12_method_14_code 40 = .ok (.invokestatic 111, 3) := by decide +kernel
theorem d_X10_write_43 : decode prog_12_method_14_code 43 = .ok (.putfield 15, 3) := by decide +kernel
theorem d_X10_write_46 : decode prog_12_method_14_code 46 = .ok (.aload_n 0, 1) := by decide +kernel
theorem d_X10_write_47 : decode prog_12_method_14_code 47 = .ok (.aload_n 0, 1) := by decide +kernel
theorem d_X10_write_48 : decode prog_12_method_14_code 48 = .ok (.getfield 19, 3) := by decide +kernel
theorem d_X10_write_51 : decode prog_12_method_14_code 51 = .ok (.iconst 2, 1) := by decide +kernel
theorem d_X10_write_52 : decode prog_12_method_14_code 52 = .ok (.aload_n 0, 1) := by decide +kernel
theorem d_X10_write_53 : decode prog_12_method_14_code 53 = .ok (.getfield 29, 3) := by decide +kernel
theorem d_X10_write_56 : decode prog_12_method_14_code 56 = .ok (.imul, 1) := by decide +kernel
theorem d_X10_write_57 : decode prog_12_method_14_code 57 = .ok (.invokestatic 105, 3) := by decide +kernel
theorem d_X10_write_60 : decode prog_12_method_14_code 60 = .ok (.putfield 19, 3) := by decide +kernel
theorem d_X10_write_63 : decode prog_12_method_14_code 63 = .ok (.aload_n 0, 1) := by decide +kernel
theorem d_X10_write_64 : decode prog_12_method_14_code 64 = .ok (.aload_n 0, 1) := by decide +kernel
theorem d_X10_write_65 : decode prog_12_method_14_code 65 = .ok (.getfield 22, 3) := by decide +kernel
theorem d_X10_write_68 : decode prog_12_method_14_code 68 = .ok (.iconst 2, 1) := by decide +kernel
theorem d_X10_write_69 : decode prog_12_method_14_code 69 = .ok (.aload_n 0, 1) := by decide +kernel
theorem d_X10_write_70 : decode prog_12_method_14_code 70 = .ok (.getfield 29, 3) := by decide +kernel
theorem d_X10_write_73 : decode prog_12_method_14_code 73 = .ok (.imul, 1) := by decide +kernel
theorem d_X10_write_74 : decode prog_12_method_14_code 74 = .ok (.invokestatic 105, 3) := by decide +kernel
theorem d_X10_write_77 : decode prog_12_method_14_code 77 = .ok (.putfield 22, 3) := by decide +kernel
theorem d_X10_write_80 : decode prog_12_method_14_code 80 = .ok (.aload_n 0, 1) := by decide +kernel
theorem d_X10_write_81 : decode prog_12_method_14_code 81 = .ok (.getfield 11, 3) := by decide +kernel
theorem d_X10_write_84 : decode prog_12_method_14_code 84 = .ok (.aload_n 0, 1) := by decide +kernel
theorem d_X10_write_85 : decode prog_12_method_14_code 85 = .ok (.getfield 29, 3) := by decide +kernel
theorem d_X10_write_88 : decode prog_12_method_14_code 88 = .ok (.iload_n 1, 1) := by decide +kernel
theorem d_X10_write_89 : decode prog_12_method_14_code 89 = .ok (.iastore, 1) := by decide +kernel
theorem d_X10_write_90 : decode prog_12_method_14_code 90 = .ok (.aload_n 0, 1) := by decide +kernel
theorem d_X10_write_91 : decode prog_12_method_14_code 91 = .ok (.getfield 15, 3) := by decide +kernel
theorem d_X10_write_94 : decode prog_12_method_14_code 94 = .ok (.aload_n 0, 1) := by decide +kernel
theorem d_X10_write_95 : decode prog_12_method_14_code 95 = .ok (.getfield 29, 3) := by decide +kernel
theorem d_X10_write_98 : decode prog_12_method_14_code 98 = .ok (.lload_n 2, 1) := by decide +kernel
theorem d_X10_write_99 : decode prog_12_method_14_code 99 = .ok (.lastore, 1) := by decide +kernel
theorem d_X10_write_100 : decode prog_12_method_14_code 100 = .ok (.aload_n 0, 1) := by decide +kernel
theorem d_X10_write_101 : decode prog_12_method_14_code 101 = .ok (.getfield 19, 3) := by decide +kernel
theorem d_X10_write_104 : decode prog_12_method_14_code 104 = .ok (.aload_n 0, 1) := by decide +kernel
theorem d_X10_write_105 : decode prog_12_method_14_code 105 = .ok (.getfield 29, 3) := by decide +kernel
theorem d_X10_write_108 : decode prog_12_method_14_code 108 = .ok (.iload 4, 2) := by decide +kernel
theorem d_X10_write_110 : decode prog_12_method_14_code 110 = .ok (.iastore, 1) := by decide +kernel
theorem d_X10_write_111 : decode prog_12_method_14_code 111 = .ok (.aload_n 0, 1) := by decide +kernel
theorem d_X10_write_112 : decode prog_12_method_14_code 112 = .ok (.getfield 22, 3) := by decide +kernel
theorem d_X10_write_115 : decode prog_12_method_14_code 115 = .ok (.aload_n 0, 1) := by decide +kernel
theorem d_X10_write_116 : decode prog_12_method_14_code 116 = .ok (.getfield 29, 3) := by decide +kernel
theorem d_X10_write_119 : decode prog_12_method_14_code 119 = .ok (.iload 5, 2) := by decide +kernel
theorem d_X10_write_121 : decode prog_12_method_14_code 121 = .ok (.iastore, 1) := by decide +kernel
theorem d_X10_write_122 : decode prog_12_method_14_code 122 = .ok (.iload 5, 2) := by decide +kernel
theorem d_X10_write_124 : decode prog_12_method_14_code 124 = .ok (.ireturn, 1) := by decide +kernel
theorem v_X10_write_0 {E : EE} {d : Nat} {Q : Option AV → AH → Prop} {x0 : Nat} {x1 : Int32} {x2 : Int64} {x4 : Int32} {x5 : Int32} {G : AH} (h0 : 0 < d) (h : isO E G x0 10 ∧ (isO E G (gR G x0 0) 14 ∧ (((gI G x0 5) < (nI (gN G (gR G x0 0))) → wp E d M_X10_write 80 [some (vr x0), some (vi x1), some (vj x2), none, some (vi x4), some (vi x5)] [] G Q) ∧ (¬ ((gI G x0 5) < (nI (gN G (gR G x0 0)))) → wpR E (d - 1) M_J7_copyOf_59c91 [vr (gR G x0 0), vi (2 * (gI G x0 5))] G (fun r3 G4 => isO E G4 x0 10 ∧ (∀ G6 : AH, G6 = sR G4 x0 0 r3 → wpR E (d - 1) M_J7_copyOf_c38d5 [vr (gR G6 x0 1), vi (2 * (gI G6 x0 5))] G6 (fun r8 G9 => isO E G9 x0 10 ∧ (∀ G11 : AH, G11 = sR G9 x0 1 r8 → wpR E (d - 1) M_J7_copyOf_59c91 [vr (gR G11 x0 2), vi (2 * (gI G11 x0 5))] G11 (fun r13 G14 => isO E G14 x0 10 ∧ (∀ G16 : AH, G16 = sR G14 x0 2 r13 → wpR E (d - 1) M_J7_copyOf_59c91 [vr (gR G16 x0 3), vi (2 * (gI G16 x0 5))] G16 (fun r18 G19 => isO E G19 x0 10 ∧ (∀ G21 : AH, G21 = sR G19 x0 3 r18 → wp E d M_X10_write 80 [some (vr x0), some (vi x1), some (vj x2), none, some (vi x4), some (vi x5)] [] G21 Q)))))))))))) : wp E d M_X10_write 0 [some (vr x0), some (vi x1), some (vj x2), none, some (vi x4), some (vi x5)] [] G Q := by
  refine wp_aload_n (pc := 0) d_X10_write_0 rfl ?_
  obtain ⟨ho1, h⟩ := h
  refine wp_getI (pc := 1) d_X10_write_1 fl_X10_29 (fun _ _ _ => rfl) ho1 ?_
  refine wp_aload_n (pc := 4) d_X10_write_4 rfl ?_
  refine wp_getR (pc := 5) d_X10_write_5 fl_X10_11 (fun _ _ _ => rfl) ho1 ?_
  obtain ⟨ho2, h⟩ := h
  refine wp_alen (pc := 8) d_X10_write_8 ho2 (by decide) rfl ?_
  refine wp_icmp_lt (pc := 9) (tgt := 80) d_X10_write_9 (by decide) (fun hc => ?_) (fun hc => ?_)
  · have h := h.1 hc
    refine wp_sub ?_ h
    exact ⟨rfl, ⟨rfl, ⟨rfl, ⟨rfl, ⟨rfl, trivial⟩⟩⟩⟩⟩
  · have h := h.2 hc
    refine wp_aload_n (pc := 12) d_X10_write_12 rfl ?_
    refine wp_aload_n (pc := 13) d_X10_write_13 rfl ?_
    refine wp_getR (pc := 14) d_X10_write_14 fl_X10_11 (fun _ _ _ => rfl) ho1 ?_
    refine wp_iconst (pc := 17) (v := 2) d_X10_write_17 rfl ?_
    refine wp_aload_n (pc := 18) d_X10_write_18 rfl ?_
    refine wp_getI (pc := 19) d_X10_write_19 fl_X10_29 (fun _ _ _ => rfl) ho1 ?_
    refine wp_imul (pc := 22) d_X10_write_22 ?_
    refine wp_invS (pc := 23) (N := M_J7_copyOf_59c91) (As := [vr _, vi _]) (rest := [vr _]) d_X10_write_23 ml_X10_105 mk_J7_copyOf_59c91 ms_J7_copyOf_59c91 h0 (Nat.le_of_ble_eq_true rfl) ?_
    refine wpM.mono h (fun rr G4 hr => ?_)
    obtain ⟨r3, rfl, h⟩ := hr
    show wp E d M_X10_write 26 [some (vr _), some (vi _), some (vj _), none, some (vi _), some (vi _)] [vr _, vr _] G4 Q
    obtain ⟨ho5, h⟩ := h
    refine wp_putR (pc := 26) d_X10_write_26 fl_X10_11 (fun _ _ _ => rfl) (Or.inr ⟨_, rfl⟩) (Or.inl rfl) ho5 ?_
    refine wp_nm (fun G6 eG6 => ?_)
    have h := h G6 eG6
    have ho7 := isO_sR eG6 ho5
    refine wp_aload_n (pc := 29) d_X10_write_29 rfl ?_
    refine wp_aload_n (pc := 30) d_X10_write_30 rfl ?_
    refine wp_getR (pc := 31) d_X10_write_31 fl_X10_15 (fun _ _ _ => rfl) ho7 ?_
    refine wp_iconst (pc := 34) (v := 2) d_X10_write_34 rfl ?_
    refine wp_aload_n (pc := 35) d_X10_write_35 rfl ?_
    refine wp_getI (pc := 36) d_X10_write_36 fl_X10_29 (fun _ _ _ => rfl) ho7 ?_
    refine wp_imul (pc := 39) d_X10_write_39 ?_
    refine wp_invS (pc := 40) (N := M_J7_copyOf_c38d5) (As := [vr _, vi _]) (rest := [vr _]) d_X10_write_40 ml_X10_111 mk_J7_copyOf_c38d5 ms_J7_copyOf_c38d5 h0 (Nat.le_of_ble_eq_true rfl) ?_
    refine wpM.mono h (fun rr G9 hr => ?_)
    obtain ⟨r8, rfl, h⟩ := hr
    show wp E d M_X10_write 43 [some (vr _), some (vi _), some (vj _), none, some (vi _), some (vi _)] [vr _, vr _] G9 Q
    obtain ⟨ho10, h⟩ := h
    refine wp_putR (pc := 43) d_X10_write_43 fl_X10_15 (fun _ _ _ => rfl) (Or.inr ⟨_, rfl⟩) (Or.inl rfl) ho10 ?_
    refine wp_nm (fun G11 eG11 => ?_)
    have h := h G11 eG11
    have ho12 := isO_sR eG11 ho10
    refine wp_aload_n (pc := 46) d_X10_write_46 rfl ?_
    refine wp_aload_n (pc := 47) d_X10_write_47 rfl ?_
    refine wp_getR (pc := 48) d_X10_write_48 fl_X10_19 (fun _ _ _ => rfl) ho12 ?_
    refine wp_iconst (pc := 51) (v := 2) d_X10_write_51 rfl ?_
    refine wp_aload_n (pc := 52) d_X10_write_52 rfl ?_
    refine wp_getI (pc := 53) d_X10_write_53 fl_X10_29 (fun _ _ _ => rfl) ho12 ?_
    refine wp_imul (pc := 56) d_X10_write_56 ?_
    refine wp_invS (pc := 57) (N := M_J7_copyOf_59c91) (As := [vr _, vi _]) (rest := [vr _]) d_X10_write_57 ml_X10_105 mk_J7_copyOf_59c91 ms_J7_copyOf_59c91 h0 (Nat.le_of_ble_eq_true rfl) ?_
    refine wpM.mono h (fun rr G14 hr => ?_)
    obtain ⟨r13, rfl, h⟩ := hr
    show wp E d M_X10_write 60 [some (vr _), some (vi _), some (vj _), none, some (vi _), some (vi _)] [vr _, vr _] G14 Q
    obtain ⟨ho15, h⟩ := h
    refine wp_putR (pc := 60) d_X10_write_60 fl_X10_19 (fun _ _ _ => rfl) (Or.inr ⟨_, rfl⟩) (Or.inl rfl) ho15 ?_
    refine wp_nm (fun G16 eG16 => ?_)
    have h := h G16 eG16
    have ho17 := isO_sR eG16 ho15
    refine wp_aload_n (pc := 63) d_X10_write_63 rfl ?_
    refine wp_aload_n (pc := 64) d_X10_write_64 rfl ?_
    refine wp_getR (pc := 65) d_X10_write_65 fl_X10_22 (fun _ _ _ => rfl) ho17 ?_
    refine wp_iconst (pc := 68) (v := 2) d_X10_write_68 rfl ?_
    refine wp_aload_n (pc := 69) d_X10_write_69 rfl ?_
    refine wp_getI (pc := 70) d_X10_write_70 fl_X10_29 (fun _ _ _ => rfl) ho17 ?_
    refine wp_imul (pc := 73) d_X10_write_73 ?_
    refine wp_invS (pc := 74) (N := M_J7_copyOf_59c91) (As := [vr _, vi _]) (rest := [vr _]) d_X10_write_74 ml_X10_105 mk_J7_copyOf_59c91 ms_J7_copyOf_59c91 h0 (Nat.le_of_ble_eq_true rfl) ?_
    refine wpM.mono h (fun rr G19 hr => ?_)
    obtain ⟨r18, rfl, h⟩ := hr
    show wp E d M_X10_write 77 [some (vr _), some (vi _), some (vj _), none, some (vi _), some (vi _)] [vr _, vr _] G19 Q
    obtain ⟨ho20, h⟩ := h
    refine wp_putR (pc := 77) d_X10_write_77 fl_X10_22 (fun _ _ _ => rfl) (Or.inr ⟨_, rfl⟩) (Or.inl rfl) ho20 ?_
    refine wp_nm (fun G21 eG21 => ?_)
    have h := h G21 eG21
    have ho22 := isO_sR eG21 ho20
    refine wp_sub ?_ h
    exact ⟨rfl, ⟨rfl, ⟨rfl, ⟨rfl, ⟨rfl, trivial⟩⟩⟩⟩⟩
theorem v_X10_write_80 {E : EE} {d : Nat} {Q : Option AV → AH → Prop} {x0 : Nat} {x1 : Int32} {x2 : Int64} {x4 : Int32} {x5 : Int32} {G : AH} (h : isO E G x0 10 ∧ (isO E G (gR G x0 0) 14 ∧ (vp_in (gI G x0 5) (gN G (gR G x0 0)) ∧ (∀ G4 : AH, G4 = sI G (gR G x0 0) (Int32.toNatClampNeg (gI G x0 5)) x1 → isO E G4 (gR G4 x0 1) 15 ∧ (vp_in (gI G4 x0 5) (gN G4 (gR G4 x0 1)) ∧ (∀ G8 : AH, G8 = sJ G4 (gR G4 x0 1) (Int32.toNatClampNeg (gI G4 x0 5)) x2 → isO E G8 (gR G8 x0 2) 14 ∧ (vp_in (gI G8 x0 5) (gN G8 (gR G8 x0 2)) ∧ (∀ G12 : AH, G12 = sI G8 (gR G8 x0 2) (Int32.toNatClampNeg (gI G8 x0 5)) x4 → isO E G12 (gR G12 x0 3) 14 ∧ (vp_in (gI G12 x0 5) (gN G12 (gR G12 x0 3)) ∧ (∀ G16 : AH, G16 = sI G12 (gR G12 x0 3) (Int32.toNatClampNeg (gI G12 x0 5)) x5 → Q (some (vi x5)) G16)))))))))) : wp E d M_X10_write 80 [some (vr x0), some (vi x1), some (vj x2), none, some (vi x4), some (vi x5)] [] G Q := by
  refine wp_aload_n (pc := 80) d_X10_write_80 rfl ?_
  obtain ⟨ho1, h⟩ := h
  refine wp_getR (pc := 81) d_X10_write_81 fl_X10_11 (fun _ _ _ => rfl) ho1 ?_
  refine wp_aload_n (pc := 84) d_X10_write_84 rfl ?_
  refine wp_getI (pc := 85) d_X10_write_85 fl_X10_29 (fun _ _ _ => rfl) ho1 ?_
  refine wp_iload_n (pc := 88) d_X10_write_88 rfl ?_
  obtain ⟨ho2, h⟩ := h
  obtain ⟨hi3, h⟩ := h
  refine wp_iast (pc := 89) d_X10_write_89 ho2 hi3 ?_
  refine wp_nm (fun G4 eG4 => ?_)
  have h := h G4 eG4
  have ho5 := isO_sI eG4 ho1
  refine wp_aload_n (pc := 90) d_X10_write_90 rfl ?_
  refine wp_getR (pc := 91) d_X10_write_91 fl_X10_15 (fun _ _ _ => rfl) ho5 ?_
  refine wp_aload_n (pc := 94) d_X10_write_94 rfl ?_
  refine wp_getI (pc := 95) d_X10_write_95 fl_X10_29 (fun _ _ _ => rfl) ho5 ?_
  refine wp_lload_n (pc := 98) d_X10_write_98 rfl ?_
  obtain ⟨ho6, h⟩ := h
  obtain ⟨hi7, h⟩ := h
  refine wp_last (pc := 99) d_X10_write_99 ho6 hi7 ?_
  refine wp_nm (fun G8 eG8 => ?_)
  have h := h G8 eG8
  have ho9 := isO_sJ eG8 ho5
  refine wp_aload_n (pc := 100) d_X10_write_100 rfl ?_
  refine wp_getR (pc := 101) d_X10_write_101 fl_X10_19 (fun _ _ _ => rfl) ho9 ?_
  refine wp_aload_n (pc := 104) d_X10_write_104 rfl ?_
  refine wp_getI (pc := 105) d_X10_write_105 fl_X10_29 (fun _ _ _ => rfl) ho9 ?_
  refine wp_iload (pc := 108) d_X10_write_108 rfl ?_
  obtain ⟨ho10, h⟩ := h
  obtain ⟨hi11, h⟩ := h
  refine wp_iast (pc := 110) d_X10_write_110 ho10 hi11 ?_
  refine wp_nm (fun G12 eG12 => ?_)
  have h := h G12 eG12
  have ho13 := isO_sI eG12 ho9
  refine wp_aload_n (pc := 111) d_X10_write_111 rfl ?_
  refine wp_getR (pc := 112) d_X10_write_112 fl_X10_22 (fun _ _ _ => rfl) ho13 ?_
  refine wp_aload_n (pc := 115) d_X10_write_115 rfl ?_
  refine wp_getI (pc := 116) d_X10_write_116 fl_X10_29 (fun _ _ _ => rfl) ho13 ?_
  refine wp_iload (pc := 119) d_X10_write_119 rfl ?_
  obtain ⟨ho14, h⟩ := h
  obtain ⟨hi15, h⟩ := h
  refine wp_iast (pc := 121) d_X10_write_121 ho14 hi15 ?_
  refine wp_nm (fun G16 eG16 => ?_)
  have h := h G16 eG16
  have ho17 := isO_sI eG16 ho13
  refine wp_iload (pc := 122) d_X10_write_122 rfl ?_
  exact wp_iret (pc := 124) d_X10_write_124 rfl h
theorem d_X10_step_0 : decode prog_12_method_3_code 0 = .ok (.aload_n 0, 1) := by decide +kernel
theorem d_X10_step_1 : decode prog_12_method_3_code 1 = .ok (.getfield 25, 3) := by decide +kernel
theorem d_X10_step_4 : decode prog_12_method_3_code 4 = .ok (.aload_n 0, 1) := by decide +kernel
theorem d_X10_step_5 : decode prog_12_method_3_code 5 = .ok (.getfield 29, 3) := by decide +kernel
theorem d_X10_step_8 : decode prog_12_method_3_code 8 = .ok (.if_icmp .ge 13, 3) := by decide +kernel
theorem d_X10_step_11 : decode prog_12_method_3_code 11 = .ok (.aload_n 0, 1) := by decide +kernel
theorem d_X10_step_12 : decode prog_12_method_3_code 12 = .ok (.dup, 1) := by decide +kernel
theorem d_X10_step_13 : decode prog_12_method_3_code 13 = .ok (.getfield 25, 3) := by decide +kernel
theorem d_X10_step_16 : decode prog_12_method_3_code 16 = .ok (.iconst 1, 1) := by decide +kernel
theorem d_X10_step_17 : decode prog_12_method_3_code 17 = .ok (.iadd, 1) := by decide +kernel
theorem d_X10_step_18 : decode prog_12_method_3_code 18 = .ok (.putfield 25, 3) := by decide +kernel
theorem d_X10_step_21 : decode prog_12_method_3_code 21 = .ok (.aload_n 0, 1) := by decide +kernel
theorem d_X10_step_22 : decode prog_12_method_3_code 22 = .ok (.getfield 25, 3) := by decide +kernel
theorem d_X10_step_25 : decode prog_12_method_3_code 25 = .ok (.ifCond .lt 15, 3) := by decide +kernel
theorem d_X10_step_28 : decode prog_12_method_3_code 28 = .ok (.aload_n 0, 1) := by decide +kernel
theorem d_X10_step_29 : decode prog_12_method_3_code 29 = .ok (.getfield 25, 3) := by decide +kernel
theorem d_X10_step_32 : decode prog_12_method_3_code 32 = .ok (.aload_n 0, 1) := by decide +kernel
theorem d_X10_step_33 : decode prog_12_method_3_code 33 = .ok (.getfield 11, 3) := by decide +kernel
theorem d_X10_step_36 : decode prog_12_method_3_code 36 = .ok (.arraylength, 1) := by decide +kernel
theorem d_X10_step_37 : decode prog_12_method_3_code 37 = .ok (.if_icmp .lt 4, 3) := by decide +kernel
theorem d_X10_step_40 : decode prog_12_method_3_code 40 = .ok (.return_, 1) := by decide +kernel
theorem d_X10_step_41 : decode prog_12_method_3_code 41 = .ok (.aload_n 0, 1) := by decide +kernel
theorem d_X10_step_42 : decode prog_12_method_3_code 42 = .ok (.aload_n 0, 1) := by decide +kernel
theorem d_X10_step_43 : decode prog_12_method_3_code 43 = .ok (.getfield 11, 3) := by decide +kernel
theorem d_X10_step_46 : decode prog_12_method_3_code 46 = .ok (.aload_n 0, 1) := by decide +kernel
theorem d_X10_step_47 : decode prog_12_method_3_code 47 = .ok (.getfield 25, 3) := by decide +kernel
theorem d_X10_step_50 : decode prog_12_method_3_code 50 = .ok (.iaload, 1) := by decide +kernel
theorem d_X10_step_51 : decode prog_12_method_3_code 51 = .ok (.putfield 32, 3) := by decide +kernel
theorem d_X10_step_54 : decode prog_12_method_3_code 54 = .ok (.aload_n 0, 1) := by decide +kernel
theorem d_X10_step_55 : decode prog_12_method_3_code 55 = .ok (.aload_n 0, 1) := by decide +kernel
theorem d_X10_step_56 : decode prog_12_method_3_code 56 = .ok (.getfield 15, 3) := by decide +kernel
theorem d_X10_step_59 : decode prog_12_method_3_code 59 = .ok (.aload_n 0, 1) := by decide +kernel
theorem d_X10_step_60 : decode prog_12_method_3_code 60 = .ok (.getfield 25, 3) := by decide +kernel
theorem d_X10_step_63 : decode prog_12_method_3_code 63 = .ok (.laload, 1) := by decide +kernel
theorem d_X10_step_64 : decode prog_12_method_3_code 64 = .ok (.putfield 35, 3) := by decide +kernel
theorem d_X10_step_67 : decode prog_12_method_3_code 67 = .ok (.aload_n 0, 1) := by decide +kernel
theorem d_X10_step_68 : decode prog_12_method_3_code 68 = .ok (.aload_n 0, 1) := by decide +kernel
theorem d_X10_step_69 : decode prog_12_method_3_code 69 = .ok (.getfield 19, 3) := by decide +kernel
theorem d_X10_step_72 : decode prog_12_method_3_code 72 = .ok (.aload_n 0, 1) := by decide +kernel
theorem d_X10_step_73 : decode prog_12_method_3_code 73 = .ok (.getfield 25, 3) := by decide +kernel
theorem d_X10_step_76 : decode prog_12_method_3_code 76 = .ok (.iaload, 1) := by decide +kernel
theorem d_X10_step_77 : decode prog_12_method_3_code 77 = .ok (.putfield 39, 3) := by decide +kernel
theorem d_X10_step_80 : decode prog_12_method_3_code 80 = .ok (.aload_n 0, 1) := by decide +kernel
theorem d_X10_step_81 : decode prog_12_method_3_code 81 = .ok (.aload_n 0, 1) := by decide +kernel
theorem d_X10_step_82 : decode prog_12_method_3_code 82 = .ok (.getfield 22, 3) := by decide +kernel
theorem d_X10_step_85 : decode prog_12_method_3_code 85 = .ok (.aload_n 0, 1) := by decide +kernel
theorem d_X10_step_86 : decode prog_12_method_3_code 86 = .ok (.getfield 25, 3) := by decide +kernel
theorem d_X10_step_89 : decode prog_12_method_3_code 89 = .ok (.iaload, 1) := by decide +kernel
theorem d_X10_step_90 : decode prog_12_method_3_code 90 = .ok (.putfield 42, 3) := by decide +kernel
theorem d_X10_step_93 : decode prog_12_method_3_code 93 = .ok (.return_, 1) := by decide +kernel
theorem v_X10_step_0 {E : EE} {d : Nat} {Q : Option AV → AH → Prop} {x0 : Nat} {G : AH} (h : isO E G x0 10 ∧ (((gI G x0 5) ≤ (gI G x0 4) → wp E d M_X10_step 21 [some (vr x0)] [] G Q) ∧ (¬ ((gI G x0 5) ≤ (gI G x0 4)) → wp E d M_X10_step 21 [some (vr x0)] [] (sI G x0 4 ((gI G x0 4) + 1)) Q))) : wp E d M_X10_step 0 [some (vr x0)] [] G Q := by
  refine wp_aload_n (pc := 0) d_X10_step_0 rfl ?_
  obtain ⟨ho1, h⟩ := h
  refine wp_getI (pc := 1) d_X10_step_1 fl_X10_25 (fun _ _ _ => rfl) ho1 ?_
  refine wp_aload_n (pc := 4) d_X10_step_4 rfl ?_
  refine wp_getI (pc := 5) d_X10_step_5 fl_X10_29 (fun _ _ _ => rfl) ho1 ?_
  refine wp_icmp_ge (pc := 8) (tgt := 21) d_X10_step_8 (by decide) (fun hc => ?_) (fun hc => ?_)
  · have h := h.1 hc
    refine wp_sub ?_ h
    exact ⟨rfl, trivial⟩
  · have h := h.2 hc
    refine wp_aload_n (pc := 11) d_X10_step_11 rfl ?_
    refine wp_dup (pc := 12) d_X10_step_12 (c1_r _) ?_
    refine wp_getI (pc := 13) d_X10_step_13 fl_X10_25 (fun _ _ _ => rfl) ho1 ?_
    refine wp_iconst (pc := 16) (v := 1) d_X10_step_16 rfl ?_
    refine wp_iadd (pc := 17) d_X10_step_17 ?_
    refine wp_putI (pc := 18) d_X10_step_18 fl_X10_25 (fun _ _ _ => rfl) (Or.inl rfl) ho1 (okI_int _) ?_
    refine wp_sub ?_ h
    exact ⟨rfl, trivial⟩
theorem v_X10_step_21 {E : EE} {d : Nat} {Q : Option AV → AH → Prop} {x0 : Nat} {G : AH} (h : isO E G x0 10 ∧ (((gI G x0 4) < 0 → Q none G) ∧ (¬ ((gI G x0 4) < 0) → isO E G (gR G x0 0) 14 ∧ (((gI G x0 4) < (nI (gN G (gR G x0 0))) → vp_in (gI G x0 4) (gN G (gR G x0 0)) ∧ (∀ G4 : AH, G4 = sI G x0 6 (gI G (gR G x0 0) (Int32.toNatClampNeg (gI G x0 4))) → isO E G4 (gR G4 x0 1) 15 ∧ (vp_in (gI G4 x0 4) (gN G4 (gR G4 x0 1)) ∧ (∀ G8 : AH, G8 = sJ G4 x0 7 (gJ G4 (gR G4 x0 1) (Int32.toNatClampNeg (gI G4 x0 4))) → isO E G8 (gR G8 x0 2) 14 ∧ (vp_in (gI G8 x0 4) (gN G8 (gR G8 x0 2)) ∧ (∀ G12 : AH, G12 = sI G8 x0 8 (gI G8 (gR G8 x0 2) (Int32.toNatClampNeg (gI G8 x0 4))) → isO E G12 (gR G12 x0 3) 14 ∧ (vp_in (gI G12 x0 4) (gN G12 (gR G12 x0 3)) ∧ (∀ G16 : AH, G16 = sI G12 x0 9 (gI G12 (gR G12 x0 3) (Int32.toNatClampNeg (gI G12 x0 4))) → Q none G16)))))))) ∧ (¬ ((gI G x0 4) < (nI (gN G (gR G x0 0)))) → Q none G))))) : wp E d M_X10_step 21 [some (vr x0)] [] G Q := by
  refine wp_aload_n (pc := 21) d_X10_step_21 rfl ?_
  obtain ⟨ho1, h⟩ := h
  refine wp_getI (pc := 22) d_X10_step_22 fl_X10_25 (fun _ _ _ => rfl) ho1 ?_
  refine wp_if_lt (pc := 25) (tgt := 40) d_X10_step_25 (by decide) (fun hc => ?_) (fun hc => ?_)
  · have h := h.1 hc
    exact wp_vret (pc := 40) d_X10_step_40 rfl h
  · have h := h.2 hc
    refine wp_aload_n (pc := 28) d_X10_step_28 rfl ?_
    refine wp_getI (pc := 29) d_X10_step_29 fl_X10_25 (fun _ _ _ => rfl) ho1 ?_
    refine wp_aload_n (pc := 32) d_X10_step_32 rfl ?_
    refine wp_getR (pc := 33) d_X10_step_33 fl_X10_11 (fun _ _ _ => rfl) ho1 ?_
    obtain ⟨ho2, h⟩ := h
    refine wp_alen (pc := 36) d_X10_step_36 ho2 (by decide) rfl ?_
    refine wp_icmp_lt (pc := 37) (tgt := 41) d_X10_step_37 (by decide) (fun hc => ?_) (fun hc => ?_)
    · have h := h.1 hc
      refine wp_aload_n (pc := 41) d_X10_step_41 rfl ?_
      refine wp_aload_n (pc := 42) d_X10_step_42 rfl ?_
      refine wp_getR (pc := 43) d_X10_step_43 fl_X10_11 (fun _ _ _ => rfl) ho1 ?_
      refine wp_aload_n (pc := 46) d_X10_step_46 rfl ?_
      refine wp_getI (pc := 47) d_X10_step_47 fl_X10_25 (fun _ _ _ => rfl) ho1 ?_
      obtain ⟨hi3, h⟩ := h
      refine wp_iald (pc := 50) d_X10_step_50 ho2 hi3 ?_
      refine wp_putI (pc := 51) d_X10_step_51 fl_X10_32 (fun _ _ _ => rfl) (Or.inl rfl) ho1 (okI_int _) ?_
      refine wp_nm (fun G4 eG4 => ?_)
      have h := h G4 eG4
      have ho5 := isO_sI eG4 ho1
      refine wp_aload_n (pc := 54) d_X10_step_54 rfl ?_
      refine wp_aload_n (pc := 55) d_X10_step_55 rfl ?_
      refine wp_getR (pc := 56) d_X10_step_56 fl_X10_15 (fun _ _ _ => rfl) ho5 ?_
      refine wp_aload_n (pc := 59) d_X10_step_59 rfl ?_
      refine wp_getI (pc := 60) d_X10_step_60 fl_X10_25 (fun _ _ _ => rfl) ho5 ?_
      obtain ⟨ho6, h⟩ := h
      obtain ⟨hi7, h⟩ := h
      refine wp_lald (pc := 63) d_X10_step_63 ho6 hi7 ?_
      refine wp_putJ (pc := 64) d_X10_step_64 fl_X10_35 (fun _ _ _ => rfl) rfl (Or.inl rfl) ho5 ?_
      refine wp_nm (fun G8 eG8 => ?_)
      have h := h G8 eG8
      have ho9 := isO_sJ eG8 ho5
      refine wp_aload_n (pc := 67) d_X10_step_67 rfl ?_
      refine wp_aload_n (pc := 68) d_X10_step_68 rfl ?_
      refine wp_getR (pc := 69) d_X10_step_69 fl_X10_19 (fun _ _ _ => rfl) ho9 ?_
      refine wp_aload_n (pc := 72) d_X10_step_72 rfl ?_
      refine wp_getI (pc := 73) d_X10_step_73 fl_X10_25 (fun _ _ _ => rfl) ho9 ?_
      obtain ⟨ho10, h⟩ := h
      obtain ⟨hi11, h⟩ := h
      refine wp_iald (pc := 76) d_X10_step_76 ho10 hi11 ?_
      refine wp_putI (pc := 77) d_X10_step_77 fl_X10_39 (fun _ _ _ => rfl) (Or.inl rfl) ho9 (okI_int _) ?_
      refine wp_nm (fun G12 eG12 => ?_)
      have h := h G12 eG12
      have ho13 := isO_sI eG12 ho9
      refine wp_aload_n (pc := 80) d_X10_step_80 rfl ?_
      refine wp_aload_n (pc := 81) d_X10_step_81 rfl ?_
      refine wp_getR (pc := 82) d_X10_step_82 fl_X10_22 (fun _ _ _ => rfl) ho13 ?_
      refine wp_aload_n (pc := 85) d_X10_step_85 rfl ?_
      refine wp_getI (pc := 86) d_X10_step_86 fl_X10_25 (fun _ _ _ => rfl) ho13 ?_
      obtain ⟨ho14, h⟩ := h
      obtain ⟨hi15, h⟩ := h
      refine wp_iald (pc := 89) d_X10_step_89 ho14 hi15 ?_
      refine wp_putI (pc := 90) d_X10_step_90 fl_X10_42 (fun _ _ _ => rfl) (Or.inl rfl) ho13 (okI_int _) ?_
      refine wp_nm (fun G16 eG16 => ?_)
      have h := h G16 eG16
      have ho17 := isO_sI eG16 ho13
      exact wp_vret (pc := 93) d_X10_step_93 rfl h
    · have h := h.2 hc
      exact wp_vret (pc := 40) d_X10_step_40 rfl h
theorem d_X10_isLetter_0 : decode prog_12_method_8_code 0 = .ok (.iload_n 0, 1) := by decide +kernel
theorem d_X10_isLetter_1 : decode prog_12_method_8_code 1 = .ok (.bipush 32, 2) := by decide +kernel
theorem d_X10_isLetter_3 : decode prog_12_method_8_code 3 = .ok (.ior, 1) := by decide +kernel
theorem d_X10_isLetter_4 : decode prog_12_method_8_code 4 = .ok (.bipush 97, 2) := by decide +kernel
theorem d_X10_isLetter_6 : decode prog_12_method_8_code 6 = .ok (.if_icmp .lt 16, 3) := by decide +kernel
theorem d_X10_isLetter_9 : decode prog_12_method_8_code 9 = .ok (.iload_n 0, 1) := by decide +kernel
theorem d_X10_isLetter_10 : decode prog_12_method_8_code 10 = .ok (.bipush 32, 2) := by decide +kernel
theorem d_X10_isLetter_12 : decode prog_12_method_8_code 12 = .ok (.ior, 1) := by decide +kernel
theorem d_X10_isLetter_13 : decode prog_12_method_8_code 13 = .ok (.bipush 122, 2) := by decide +kernel
theorem d_X10_isLetter_15 : decode prog_12_method_8_code 15 = .ok (.if_icmp .gt 7, 3) := by decide +kernel
theorem d_X10_isLetter_18 : decode prog_12_method_8_code 18 = .ok (.iconst 1, 1) := by decide +kernel
theorem d_X10_isLetter_19 : decode prog_12_method_8_code 19 = .ok (.goto 4, 3) := by decide +kernel
theorem d_X10_isLetter_22 : decode prog_12_method_8_code 22 = .ok (.iconst 0, 1) := by decide +kernel
theorem d_X10_isLetter_23 : decode prog_12_method_8_code 23 = .ok (.ireturn, 1) := by decide +kernel
theorem v_X10_isLetter_0 {E : EE} {d : Nat} {Q : Option AV → AH → Prop} {x0 : Int32} {G : AH} (h : ((x0 ||| 32) < 97 → Q (some (vi 0)) G) ∧ (¬ ((x0 ||| 32) < 97) → (122 < (x0 ||| 32) → Q (some (vi 0)) G) ∧ (¬ (122 < (x0 ||| 32)) → Q (some (vi 1)) G))) : wp E d M_X10_isLetter 0 [some (vi x0)] [] G Q := by
  refine wp_iload_n (pc := 0) d_X10_isLetter_0 rfl ?_
  refine wp_bipush (pc := 1) (v := 32) d_X10_isLetter_1 rfl ?_
  refine wp_ior (pc := 3) d_X10_isLetter_3 ?_
  refine wp_bipush (pc := 4) (v := 97) d_X10_isLetter_4 rfl ?_
  refine wp_icmp_lt (pc := 6) (tgt := 22) d_X10_isLetter_6 (by decide) (fun hc => ?_) (fun hc => ?_)
  · have h := h.1 hc
    refine wp_iconst (pc := 22) (v := 0) d_X10_isLetter_22 rfl ?_
    exact wp_zret (pc := 23) d_X10_isLetter_23 rfl rfl h
  · have h := h.2 hc
    refine wp_iload_n (pc := 9) d_X10_isLetter_9 rfl ?_
    refine wp_bipush (pc := 10) (v := 32) d_X10_isLetter_10 rfl ?_
    refine wp_ior (pc := 12) d_X10_isLetter_12 ?_
    refine wp_bipush (pc := 13) (v := 122) d_X10_isLetter_13 rfl ?_
    refine wp_icmp_gt (pc := 15) (tgt := 22) d_X10_isLetter_15 (by decide) (fun hc => ?_) (fun hc => ?_)
    · have h := h.1 hc
      refine wp_iconst (pc := 22) (v := 0) d_X10_isLetter_22 rfl ?_
      exact wp_zret (pc := 23) d_X10_isLetter_23 rfl rfl h
    · have h := h.2 hc
      refine wp_iconst (pc := 18) (v := 1) d_X10_isLetter_18 rfl ?_
      refine wp_goto (pc := 19) (tgt := 23) d_X10_isLetter_19 (by decide) ?_
      exact wp_zret (pc := 23) d_X10_isLetter_23 rfl rfl h
theorem d_X10_readName_0 : decode prog_12_method_11_code 0 = .ok (.lconst 0, 1) := by decide +kernel
theorem d_X10_readName_1 : decode prog_12_method_11_code 1 = .ok (.lstore_n 3, 1) := by decide +kernel
theorem d_X10_readName_2 : decode prog_12_method_11_code 2 = .ok (.iload_n 2, 1) := by decide +kernel
theorem d_X10_readName_3 : decode prog_12_method_11_code 3 = .ok (.istore 5, 2) := by decide +kernel
theorem d_X10_readName_5 : decode prog_12_method_11_code 5 = .ok (.iload 5, 2) := by decide +kernel
theorem d_X10_readName_7 : decode prog_12_method_11_code 7 = .ok (.aload_n 1, 1) := by decide +kernel
theorem d_X10_readName_8 : decode prog_12_method_11_code 8 = .ok (.getfield 51, 3) := by decide +kernel
theorem d_X10_readName_11 : decode prog_12_method_11_code 11 = .ok (.if_icmp .ge 45, 3) := by decide +kernel
theorem d_X10_readName_14 : decode prog_12_method_11_code 14 = .ok (.aload_n 1, 1) := by decide +kernel
theorem d_X10_readName_15 : decode prog_12_method_11_code 15 = .ok (.iload 5, 2) := by decide +kernel
theorem d_X10_readName_17 : decode prog_12_method_11_code 17 = .ok (.invokevirtual 60, 3) := by decide +kernel
theorem d_X10_readName_20 : decode prog_12_method_11_code 20 = .ok (.istore 6, 2) := by decide +kernel
theorem d_X10_readName_22 : decode prog_12_method_11_code 22 = .ok (.iload 6, 2) := by decide +kernel
theorem d_X10_readName_24 : decode prog_12_method_11_code 24 = .ok (.invokestatic 64, 3) := by decide +kernel
theorem d_X10_readName_27 : decode prog_12_method_11_code 27 = .ok (.ifCond .ne 14, 3) := by decide +kernel
theorem d_X10_readName_30 : decode prog_12_method_11_code 30 = .ok (.iload 6, 2) := by decide +kernel
theorem d_X10_readName_32 : decode prog_12_method_11_code 32 = .ok (.invokestatic 71, 3) := by decide +kernel
theorem d_X10_readName_35 : decode prog_12_method_11_code 35 = .ok (.ifCond .ne 6, 3) := by decide +kernel
theorem d_X10_readName_38 : decode prog_12_method_11_code 38 = .ok (.goto 18, 3) := by decide +kernel
theorem d_X10_readName_41 : decode prog_12_method_11_code 41 = .ok (.lload_n 3, 1) := by decide +kernel
theorem d_X10_readName_42 : decode prog_12_method_11_code 42 = .ok (.bipush 8, 2) := by decide +kernel
theorem d_X10_readName_44 : decode prog_12_method_11_code 44 = .ok (.lshl, 1) := by decide +kernel
theorem d_X10_readName_45 : decode prog_12_method_11_code 45 = .ok (.iload 6, 2) := by decide +kernel
theorem d_X10_readName_47 : decode prog_12_method_11_code 47 = .ok (.i2l, 1) := by decide +kernel
theorem d_X10_readName_48 : decode prog_12_method_11_code 48 = .ok (.lor, 1) := by decide +kernel
theorem d_X10_readName_49 : decode prog_12_method_11_code 49 = .ok (.lstore_n 3, 1) := by decide +kernel
theorem d_X10_readName_50 : decode prog_12_method_11_code 50 = .ok (.iinc 5 1, 3) := by decide +kernel
theorem d_X10_readName_53 : decode prog_12_method_11_code 53 = .ok (.goto (-48), 3) := by decide +kernel
theorem d_X10_readName_56 : decode prog_12_method_11_code 56 = .ok (.iload 5, 2) := by decide +kernel
theorem d_X10_readName_58 : decode prog_12_method_11_code 58 = .ok (.iload_n 2, 1) := by decide +kernel
theorem d_X10_readName_59 : decode prog_12_method_11_code 59 = .ok (.isub, 1) := by decide +kernel
theorem d_X10_readName_60 : decode prog_12_method_11_code 60 = .ok (.bipush 8, 2) := by decide +kernel
theorem d_X10_readName_62 : decode prog_12_method_11_code 62 = .ok (.if_icmp .le 13, 3) := by decide +kernel
theorem d_X10_readName_65 : decode prog_12_method_11_code 65 = .ok (.aload_n 0, 1) := by decide +kernel
theorem d_X10_readName_66 : decode prog_12_method_11_code 66 = .ok (.iconst 1, 1) := by decide +kernel
theorem d_X10_readName_67 : decode prog_12_method_11_code 67 = .ok (.lconst 0, 1) := by decide +kernel
theorem d_X10_readName_68 : decode prog_12_method_11_code 68 = .ok (.iload_n 2, 1) := by decide +kernel
theorem d_X10_readName_69 : decode prog_12_method_11_code 69 = .ok (.iload 5, 2) := by decide +kernel
theorem d_X10_readName_71 : decode prog_12_method_11_code 71 = .ok (.invokevirtual 80, 3) := by decide +kernel
theorem d_X10_readName_74 : decode prog_12_method_11_code 74 = .ok (.ireturn, 1) := by decide +kernel
theorem d_X10_readName_75 : decode prog_12_method_11_code 75 = .ok (.iconst 0, 1) := by decide +kernel
theorem d_X10_readName_76 : decode prog_12_method_11_code 76 = .ok (.istore 6, 2) := by decide +kernel
theorem d_X10_readName_78 : decode prog_12_method_11_code 78 = .ok (.iload 6, 2) := by decide +kernel
theorem d_X10_readName_80 : decode prog_12_method_11_code 80 = .ok (.getstatic 91, 3) := by decide +kernel
theorem d_X10_readName_83 : decode prog_12_method_11_code 83 = .ok (.arraylength, 1) := by decide +kernel
theorem d_X10_readName_84 : decode prog_12_method_11_code 84 = .ok (.if_icmp .ge 32, 3) := by decide +kernel
theorem d_X10_readName_87 : decode prog_12_method_11_code 87 = .ok (.getstatic 91, 3) := by decide +kernel
theorem d_X10_readName_90 : decode prog_12_method_11_code 90 = .ok (.iload 6, 2) := by decide +kernel
theorem d_X10_readName_92 : decode prog_12_method_11_code 92 = .ok (.laload, 1) := by decide +kernel
theorem d_X10_readName_93 : decode prog_12_method_11_code 93 = .ok (.lload_n 3, 1) := by decide +kernel
theorem d_X10_readName_94 : decode prog_12_method_11_code 94 = .ok (.lcmp, 1) := by decide +kernel
theorem d_X10_readName_95 : decode prog_12_method_11_code 95 = .ok (.ifCond .ne 15, 3) := by decide +kernel
theorem d_X10_readName_98 : decode prog_12_method_11_code 98 = .ok (.aload_n 0, 1) := by decide +kernel
theorem d_X10_readName_99 : decode prog_12_method_11_code 99 = .ok (.iconst 4, 1) := by decide +kernel
theorem d_X10_readName_100 : decode prog_12_method_11_code 100 = .ok (.iload 6, 2) := by decide +kernel
theorem d_X10_readName_102 : decode prog_12_method_11_code 102 = .ok (.i2l, 1) := by decide +kernel
theorem d_X10_readName_103 : decode prog_12_method_11_code 103 = .ok (.iload_n 2, 1) := by decide +kernel
theorem d_X10_readName_104 : decode prog_12_method_11_code 104 = .ok (.iload 5, 2) := by decide +kernel
theorem d_X10_readName_106 : decode prog_12_method_11_code 106 = .ok (.invokevirtual 80, 3) := by decide +kernel
theorem d_X10_readName_109 : decode prog_12_method_11_code 109 = .ok (.ireturn, 1) := by decide +kernel
theorem d_X10_readName_110 : decode prog_12_method_11_code 110 = .ok (.iinc 6 1, 3) := by decide +kernel
theorem d_X10_readName_113 : decode prog_12_method_11_code 113 = .ok (.goto (-35), 3) := by decide +kernel
theorem d_X10_readName_116 : decode prog_12_method_11_code 116 = .ok (.aload_n 0, 1) := by decide +kernel
theorem d_X10_readName_117 : decode prog_12_method_11_code 117 = .ok (.iconst 2, 1) := by decide +kernel
theorem d_X10_readName_118 : decode prog_12_method_11_code 118 = .ok (.lload_n 3, 1) := by decide +kernel
theorem d_X10_readName_119 : decode prog_12_method_11_code 119 = .ok (.iload_n 2, 1) := by decide +kernel
theorem d_X10_readName_120 : decode prog_12_method_11_code 120 = .ok (.iload 5, 2) := by decide +kernel
theorem d_X10_readName_122 : decode prog_12_method_11_code 122 = .ok (.invokevirtual 80, 3) := by decide +kernel
theorem d_X10_readName_125 : decode prog_12_method_11_code 125 = .ok (.ireturn, 1) := by decide +kernel
theorem v_X10_readName_0 {E : EE} {d : Nat} {Q : Option AV → AH → Prop} {x0 : Nat} {x1 : Nat} {x2 : Int32} {G : AH} (h : wp E d M_X10_readName 5 [some (vr x0), some (vr x1), some (vi x2), some (vj 0), none, some (vi x2), none] [] G Q) : wp E d M_X10_readName 0 [some (vr x0), some (vr x1), some (vi x2), none, none, none, none] [] G Q := by
  refine wp_lconst (pc := 0) (v := 0) d_X10_readName_0 rfl ?_
  refine wp_lstore_n (pc := 1) (lv' := [some (vr _), some (vr _), some (vi _), some (vj _), none, none, none]) d_X10_readName_1 (by decide) rfl ?_
  refine wp_iload_n (pc := 2) d_X10_readName_2 rfl ?_
  refine wp_istore (pc := 3) (lv' := [some (vr _), some (vr _), some (vi _), some (vj _), none, some (vi _), none]) d_X10_readName_3 (by decide) rfl ?_
  refine wp_sub ?_ h
  exact ⟨rfl, ⟨rfl, ⟨rfl, ⟨rfl, ⟨rfl, trivial⟩⟩⟩⟩⟩
theorem v_X10_readName_5 {E : EE} {d : Nat} {Q : Option AV → AH → Prop} {x0 : Nat} {x1 : Nat} {x2 : Int32} {x3 : Int64} {x5 : Int32} {G : AH} (h0 : 0 < d) (h : isO E G x1 0 ∧ (((gI G x1 1) ≤ x5 → wp E d M_X10_readName 56 [some (vr x0), some (vr x1), some (vi x2), some (vj x3), none, some (vi x5), none] [] G Q) ∧ (¬ ((gI G x1 1) ≤ x5) → wpI E (d - 1) M_X0_at [vr x1, vi x5] G (fun r2 G3 => wpI E (d - 1) M_X10_isLetter [vi r2] G3 (fun r4 G5 => (¬ r4 = 0 → wp E d M_X10_readName 41 [some (vr x0), some (vr x1), some (vi x2), some (vj x3), none, some (vi x5), some (vi r2)] [] G5 Q) ∧ (r4 = 0 → wpI E (d - 1) M_X10_isFigure [vi r2] G5 (fun r6 G7 => (¬ r6 = 0 → wp E d M_X10_readName 41 [some (vr x0), some (vr x1), some (vi x2), some (vj x3), none, some (vi x5), some (vi r2)] [] G7 Q) ∧ (r6 = 0 → wp E d M_X10_readName 56 [some (vr x0), some (vr x1), some (vi x2), some (vj x3), none, some (vi x5), none] [] G7 Q)))))))) : wp E d M_X10_readName 5 [some (vr x0), some (vr x1), some (vi x2), some (vj x3), none, some (vi x5), none] [] G Q := by
  refine wp_iload (pc := 5) d_X10_readName_5 rfl ?_
  refine wp_aload_n (pc := 7) d_X10_readName_7 rfl ?_
  obtain ⟨ho1, h⟩ := h
  refine wp_getI (pc := 8) d_X10_readName_8 fl_X10_51 (fun _ _ _ => rfl) ho1 ?_
  refine wp_icmp_ge (pc := 11) (tgt := 56) d_X10_readName_11 (by decide) (fun hc => ?_) (fun hc => ?_)
  · have h := h.1 hc
    refine wp_sub ?_ h
    exact ⟨rfl, ⟨rfl, ⟨rfl, ⟨rfl, ⟨rfl, trivial⟩⟩⟩⟩⟩
  · have h := h.2 hc
    refine wp_aload_n (pc := 14) d_X10_readName_14 rfl ?_
    refine wp_iload (pc := 15) d_X10_readName_15 rfl ?_
    refine wp_invV (pc := 17) (N := M_X0_at) (As := [vi _]) (rest := []) (r := (cn_0, ct_0, 2)) d_X10_readName_17 ml_X10_60 mk_X0_at mv_X0_at h0 ho1 rfl rfl (Nat.le_of_ble_eq_true rfl) ?_
    refine wpM.mono h (fun rr G3 hr => ?_)
    obtain ⟨r2, rfl, h⟩ := hr
    show wp E d M_X10_readName 20 [some (vr _), some (vr _), some (vi _), some (vj _), none, some (vi _), none] [vi _] G3 Q
    refine wp_istore (pc := 20) (lv' := [some (vr _), some (vr _), some (vi _), some (vj _), none, some (vi _), some (vi _)]) d_X10_readName_20 (by decide) rfl ?_
    refine wp_iload (pc := 22) d_X10_readName_22 rfl ?_
    refine wp_invS (pc := 24) (N := M_X10_isLetter) (As := [vi _]) (rest := []) d_X10_readName_24 ml_X10_64 mk_X10_isLetter ms_X10_isLetter h0 (Nat.le_of_ble_eq_true rfl) ?_
    refine wpM.mono h (fun rr G5 hr => ?_)
    obtain ⟨r4, rfl, h⟩ := hr
    show wp E d M_X10_readName 27 [some (vr _), some (vr _), some (vi _), some (vj _), none, some (vi _), some (vi _)] [vi _] G5 Q
    refine wp_if_ne (pc := 27) (tgt := 41) d_X10_readName_27 (by decide) (fun hc => ?_) (fun hc => ?_)
    · have h := h.1 hc
      refine wp_sub ?_ h
      exact ⟨rfl, ⟨rfl, ⟨rfl, ⟨rfl, ⟨rfl, ⟨rfl, trivial⟩⟩⟩⟩⟩⟩
    · have h := h.2 hc
      refine wp_iload (pc := 30) d_X10_readName_30 rfl ?_
      refine wp_invS (pc := 32) (N := M_X10_isFigure) (As := [vi _]) (rest := []) d_X10_readName_32 ml_X10_71 mk_X10_isFigure ms_X10_isFigure h0 (Nat.le_of_ble_eq_true rfl) ?_
      refine wpM.mono h (fun rr G7 hr => ?_)
      obtain ⟨r6, rfl, h⟩ := hr
      show wp E d M_X10_readName 35 [some (vr _), some (vr _), some (vi _), some (vj _), none, some (vi _), some (vi _)] [vi _] G7 Q
      refine wp_if_ne (pc := 35) (tgt := 41) d_X10_readName_35 (by decide) (fun hc => ?_) (fun hc => ?_)
      · have h := h.1 hc
        refine wp_sub ?_ h
        exact ⟨rfl, ⟨rfl, ⟨rfl, ⟨rfl, ⟨rfl, ⟨rfl, trivial⟩⟩⟩⟩⟩⟩
      · have h := h.2 hc
        refine wp_goto (pc := 38) (tgt := 56) d_X10_readName_38 (by decide) ?_
        refine wp_sub ?_ h
        exact ⟨rfl, ⟨rfl, ⟨rfl, ⟨rfl, ⟨rfl, trivial⟩⟩⟩⟩⟩
theorem v_X10_readName_41 {E : EE} {d : Nat} {Q : Option AV → AH → Prop} {x0 : Nat} {x1 : Nat} {x2 : Int32} {x3 : Int64} {x5 : Int32} {x6 : Int32} {G : AH} (h : wp E d M_X10_readName 5 [some (vr x0), some (vr x1), some (vi x2), some (vj ((x3 <<< (Int32.toInt64 8 &&& 63)) ||| (Int32.toInt64 x6))), none, some (vi (x5 + 1)), none] [] G Q) : wp E d M_X10_readName 41 [some (vr x0), some (vr x1), some (vi x2), some (vj x3), none, some (vi x5), some (vi x6)] [] G Q := by
  refine wp_lload_n (pc := 41) d_X10_readName_41 rfl ?_
  refine wp_bipush (pc := 42) (v := 8) d_X10_readName_42 rfl ?_
  refine wp_lshl (pc := 44) d_X10_readName_44 ?_
  refine wp_iload (pc := 45) d_X10_readName_45 rfl ?_
  refine wp_i2l (pc := 47) d_X10_readName_47 ?_
  refine wp_lor (pc := 48) d_X10_readName_48 ?_
  refine wp_lstore_n (pc := 49) (lv' := [some (vr _), some (vr _), some (vi _), some (vj _), none, some (vi _), some (vi _)]) d_X10_readName_49 (by decide) rfl ?_
  refine wp_iinc (pc := 50) (v := 1) (lv' := [some (vr _), some (vr _), some (vi _), some (vj _), none, some (vi _), some (vi _)]) d_X10_readName_50 (by decide) rfl rfl rfl ?_
  refine wp_goto (pc := 53) (tgt := 5) d_X10_readName_53 (by decide) ?_
  refine wp_sub ?_ h
  exact ⟨rfl, ⟨rfl, ⟨rfl, ⟨rfl, ⟨rfl, trivial⟩⟩⟩⟩⟩
theorem v_X10_readName_56 {E : EE} {d : Nat} {Q : Option AV → AH → Prop} {x0 : Nat} {x1 : Nat} {x2 : Int32} {x3 : Int64} {x5 : Int32} {G : AH} (h0 : 0 < d) (h : ((x5 - x2) ≤ 8 → wp E d M_X10_readName 78 [some (vr x0), some (vr x1), some (vi x2), some (vj x3), none, some (vi x5), some (vi 0)] [] G Q) ∧ (¬ ((x5 - x2) ≤ 8) → isO E G x0 10 ∧ (wpI E (d - 1) M_X10_write [vr x0, vi 1, vj 0, vi x2, vi x5] G (fun r1 G2 => Q (some (vi r1)) G2)))) : wp E d M_X10_readName 56 [some (vr x0), some (vr x1), some (vi x2), some (vj x3), none, some (vi x5), none] [] G Q := by
  refine wp_iload (pc := 56) d_X10_readName_56 rfl ?_
  refine wp_iload_n (pc := 58) d_X10_readName_58 rfl ?_
  refine wp_isub (pc := 59) d_X10_readName_59 ?_
  refine wp_bipush (pc := 60) (v := 8) d_X10_readName_60 rfl ?_
  refine wp_icmp_le (pc := 62) (tgt := 75) d_X10_readName_62 (by decide) (fun hc => ?_) (fun hc => ?_)
  · have h := h.1 hc
    refine wp_iconst (pc := 75) (v := 0) d_X10_readName_75 rfl ?_
    refine wp_istore (pc := 76) (lv' := [some (vr _), some (vr _), some (vi _), some (vj _), none, some (vi _), some (vi _)]) d_X10_readName_76 (by decide) rfl ?_
    refine wp_sub ?_ h
    exact ⟨rfl, ⟨rfl, ⟨rfl, ⟨rfl, ⟨rfl, ⟨rfl, trivial⟩⟩⟩⟩⟩⟩
  · have h := h.2 hc
    refine wp_aload_n (pc := 65) d_X10_readName_65 rfl ?_
    refine wp_iconst (pc := 66) (v := 1) d_X10_readName_66 rfl ?_
    refine wp_lconst (pc := 67) (v := 0) d_X10_readName_67 rfl ?_
    refine wp_iload_n (pc := 68) d_X10_readName_68 rfl ?_
    refine wp_iload (pc := 69) d_X10_readName_69 rfl ?_
    obtain ⟨ho3, h⟩ := h
    refine wp_invV (pc := 71) (N := M_X10_write) (As := [vi _, vj _, vi _, vi _]) (rest := []) (r := (cn_10, ct_10, 12)) d_X10_readName_71 ml_X10_80 mk_X10_write mv_X10_write h0 ho3 rfl rfl (Nat.le_of_ble_eq_true rfl) ?_
    refine wpM.mono h (fun rr G2 hr => ?_)
    obtain ⟨r1, rfl, h⟩ := hr
    show wp E d M_X10_readName 74 [some (vr _), some (vr _), some (vi _), some (vj _), none, some (vi _), none] [vi _] G2 Q
    exact wp_iret (pc := 74) d_X10_readName_74 rfl h
theorem v_X10_readName_78 {E : EE} {d : Nat} {Q : Option AV → AH → Prop} {x0 : Nat} {x1 : Nat} {x2 : Int32} {x3 : Int64} {x5 : Int32} {x6 : Int32} {G : AH} (h0 : 0 < d) (h : (17 ≤ x6 → isO E G x0 10 ∧ (wpI E (d - 1) M_X10_write [vr x0, vi 2, vj x3, vi x2, vi x5] G (fun r1 G2 => Q (some (vi r1)) G2))) ∧ (¬ (17 ≤ x6) → vp_in x6 17 ∧ ((¬ (wordsF (Int32.toNatClampNeg x6)) = x3 → wp E d M_X10_readName 78 [some (vr x0), some (vr x1), some (vi x2), some (vj x3), none, some (vi x5), some (vi (x6 + 1))] [] G Q) ∧ ((wordsF (Int32.toNatClampNeg x6)) = x3 → isO E G x0 10 ∧ (wpI E (d - 1) M_X10_write [vr x0, vi 4, vj (Int32.toInt64 x6), vi x2, vi x5] G (fun r5 G6 => Q (some (vi r5)) G6)))))) : wp E d M_X10_readName 78 [some (vr x0), some (vr x1), some (vi x2), some (vj x3), none, some (vi x5), some (vi x6)] [] G Q := by
  refine wp_iload (pc := 78) d_X10_readName_78 rfl ?_
  refine wp_words (pc := 80) d_X10_readName_80 sl_X10_91 ?_
  refine wp_wlen (pc := 83) d_X10_readName_83 ?_
  refine wp_icmp_ge (pc := 84) (tgt := 116) d_X10_readName_84 (by decide) (fun hc => ?_) (fun hc => ?_)
  · have h := h.1 hc
    refine wp_aload_n (pc := 116) d_X10_readName_116 rfl ?_
    refine wp_iconst (pc := 117) (v := 2) d_X10_readName_117 rfl ?_
    refine wp_lload_n (pc := 118) d_X10_readName_118 rfl ?_
    refine wp_iload_n (pc := 119) d_X10_readName_119 rfl ?_
    refine wp_iload (pc := 120) d_X10_readName_120 rfl ?_
    obtain ⟨ho3, h⟩ := h
    refine wp_invV (pc := 122) (N := M_X10_write) (As := [vi _, vj _, vi _, vi _]) (rest := []) (r := (cn_10, ct_10, 12)) d_X10_readName_122 ml_X10_80 mk_X10_write mv_X10_write h0 ho3 rfl rfl (Nat.le_of_ble_eq_true rfl) ?_
    refine wpM.mono h (fun rr G2 hr => ?_)
    obtain ⟨r1, rfl, h⟩ := hr
    show wp E d M_X10_readName 125 [some (vr _), some (vr _), some (vi _), some (vj _), none, some (vi _), some (vi _)] [vi _] G2 Q
    exact wp_iret (pc := 125) d_X10_readName_125 rfl h
  · have h := h.2 hc
    refine wp_words (pc := 87) d_X10_readName_87 sl_X10_91 ?_
    refine wp_iload (pc := 90) d_X10_readName_90 rfl ?_
    obtain ⟨hi4, h⟩ := h
    refine wp_wld (pc := 92) d_X10_readName_92 hi4 ?_
    refine wp_lload_n (pc := 93) d_X10_readName_93 rfl ?_
    refine wp_lcmp_ne (pc := 94) (tgt := 110) d_X10_readName_94 d_X10_readName_95 (by decide) (fun hc => ?_) (fun hc => ?_)
    · have h := h.1 hc
      refine wp_iinc (pc := 110) (v := 1) (lv' := [some (vr _), some (vr _), some (vi _), some (vj _), none, some (vi _), some (vi _)]) d_X10_readName_110 (by decide) rfl rfl rfl ?_
      refine wp_goto (pc := 113) (tgt := 78) d_X10_readName_113 (by decide) ?_
      refine wp_sub ?_ h
      exact ⟨rfl, ⟨rfl, ⟨rfl, ⟨rfl, ⟨rfl, ⟨rfl, trivial⟩⟩⟩⟩⟩⟩
    · have h := h.2 hc
      refine wp_aload_n (pc := 98) d_X10_readName_98 rfl ?_
      refine wp_iconst (pc := 99) (v := 4) d_X10_readName_99 rfl ?_
      refine wp_iload (pc := 100) d_X10_readName_100 rfl ?_
      refine wp_i2l (pc := 102) d_X10_readName_102 ?_
      refine wp_iload_n (pc := 103) d_X10_readName_103 rfl ?_
      refine wp_iload (pc := 104) d_X10_readName_104 rfl ?_
      obtain ⟨ho7, h⟩ := h
      refine wp_invV (pc := 106) (N := M_X10_write) (As := [vi _, vj _, vi _, vi _]) (rest := []) (r := (cn_10, ct_10, 12)) d_X10_readName_106 ml_X10_80 mk_X10_write mv_X10_write h0 ho7 rfl rfl (Nat.le_of_ble_eq_true rfl) ?_
      refine wpM.mono h (fun rr G6 hr => ?_)
      obtain ⟨r5, rfl, h⟩ := hr
      show wp E d M_X10_readName 109 [some (vr _), some (vr _), some (vi _), some (vj _), none, some (vi _), some (vi _)] [vi _] G6 Q
      exact wp_iret (pc := 109) d_X10_readName_109 rfl h
theorem d_X10_isFigure_0 : decode prog_12_method_9_code 0 = .ok (.iload_n 0, 1) := by decide +kernel
theorem d_X10_isFigure_1 : decode prog_12_method_9_code 1 = .ok (.bipush 48, 2) := by decide +kernel
theorem d_X10_isFigure_3 : decode prog_12_method_9_code 3 = .ok (.if_icmp .lt 13, 3) := by decide +kernel
theorem d_X10_isFigure_6 : decode prog_12_method_9_code 6 = .ok (.iload_n 0, 1) := by decide +kernel
theorem d_X10_isFigure_7 : decode prog_12_method_9_code 7 = .ok (.bipush 57, 2) := by decide +kernel
theorem d_X10_isFigure_9 : decode prog_12_method_9_code 9 = .ok (.if_icmp .gt 7, 3) := by decide +kernel
theorem d_X10_isFigure_12 : decode prog_12_method_9_code 12 = .ok (.iconst 1, 1) := by decide +kernel
theorem d_X10_isFigure_13 : decode prog_12_method_9_code 13 = .ok (.goto 4, 3) := by decide +kernel
theorem d_X10_isFigure_16 : decode prog_12_method_9_code 16 = .ok (.iconst 0, 1) := by decide +kernel
theorem d_X10_isFigure_17 : decode prog_12_method_9_code 17 = .ok (.ireturn, 1) := by decide +kernel
theorem v_X10_isFigure_0 {E : EE} {d : Nat} {Q : Option AV → AH → Prop} {x0 : Int32} {G : AH} (h : (x0 < 48 → Q (some (vi 0)) G) ∧ (¬ (x0 < 48) → (57 < x0 → Q (some (vi 0)) G) ∧ (¬ (57 < x0) → Q (some (vi 1)) G))) : wp E d M_X10_isFigure 0 [some (vi x0)] [] G Q := by
  refine wp_iload_n (pc := 0) d_X10_isFigure_0 rfl ?_
  refine wp_bipush (pc := 1) (v := 48) d_X10_isFigure_1 rfl ?_
  refine wp_icmp_lt (pc := 3) (tgt := 16) d_X10_isFigure_3 (by decide) (fun hc => ?_) (fun hc => ?_)
  · have h := h.1 hc
    refine wp_iconst (pc := 16) (v := 0) d_X10_isFigure_16 rfl ?_
    exact wp_zret (pc := 17) d_X10_isFigure_17 rfl rfl h
  · have h := h.2 hc
    refine wp_iload_n (pc := 6) d_X10_isFigure_6 rfl ?_
    refine wp_bipush (pc := 7) (v := 57) d_X10_isFigure_7 rfl ?_
    refine wp_icmp_gt (pc := 9) (tgt := 16) d_X10_isFigure_9 (by decide) (fun hc => ?_) (fun hc => ?_)
    · have h := h.1 hc
      refine wp_iconst (pc := 16) (v := 0) d_X10_isFigure_16 rfl ?_
      exact wp_zret (pc := 17) d_X10_isFigure_17 rfl rfl h
    · have h := h.2 hc
      refine wp_iconst (pc := 12) (v := 1) d_X10_isFigure_12 rfl ?_
      refine wp_goto (pc := 13) (tgt := 17) d_X10_isFigure_13 (by decide) ?_
      exact wp_zret (pc := 17) d_X10_isFigure_17 rfl rfl h
theorem d_X10_readNumber_0 : decode prog_12_method_12_code 0 = .ok (.lconst 0, 1) := by decide +kernel
theorem d_X10_readNumber_1 : decode prog_12_method_12_code 1 = .ok (.lstore_n 3, 1) := by decide +kernel
theorem d_X10_readNumber_2 : decode prog_12_method_12_code 2 = .ok (.iload_n 2, 1) := by decide +kernel
theorem d_X10_readNumber_3 : decode prog_12_method_12_code 3 = .ok (.istore 5, 2) := by decide +kernel
theorem d_X10_readNumber_5 : decode prog_12_method_12_code 5 = .ok (.iload 5, 2) := by decide +kernel
theorem d_X10_readNumber_7 : decode prog_12_method_12_code 7 = .ok (.aload_n 1, 1) := by decide +kernel
theorem d_X10_readNumber_8 : decode prog_12_method_12_code 8 = .ok (.getfield 51, 3) := by decide +kernel
theorem d_X10_readNumber_11 : decode prog_12_method_12_code 11 = .ok (.if_icmp .ge 39, 3) := by decide +kernel
theorem d_X10_readNumber_14 : decode prog_12_method_12_code 14 = .ok (.aload_n 1, 1) := by decide +kernel
theorem d_X10_readNumber_15 : decode prog_12_method_12_code 15 = .ok (.iload 5, 2) := by decide +kernel
theorem d_X10_readNumber_17 : decode prog_12_method_12_code 17 = .ok (.invokevirtual 60, 3) := by decide +kernel
theorem d_X10_readNumber_20 : decode prog_12_method_12_code 20 = .ok (.invokestatic 71, 3) := by decide +kernel
theorem d_X10_readNumber_23 : decode prog_12_method_12_code 23 = .ok (.ifCond .eq 27, 3) := by decide +kernel
theorem d_X10_readNumber_26 : decode prog_12_method_12_code 26 = .ok (.ldc2_w 94, 3) := by decide +kernel
theorem d_X10_readNumber_29 : decode prog_12_method_12_code 29 = .ok (.lload_n 3, 1) := by decide +kernel
theorem d_X10_readNumber_30 : decode prog_12_method_12_code 30 = .ok (.lmul, 1) := by decide +kernel
theorem d_X10_readNumber_31 : decode prog_12_method_12_code 31 = .ok (.aload_n 1, 1) := by decide +kernel
theorem d_X10_readNumber_32 : decode prog_12_method_12_code 32 = .ok (.iload 5, 2) := by decide +kernel
theorem d_X10_readNumber_34 : decode prog_12_method_12_code 34 = .ok (.invokevirtual 60, 3) := by decide +kernel
theorem d_X10_readNumber_37 : decode prog_12_method_12_code 37 = .ok (.i2l, 1) := by decide +kernel
theorem d_X10_readNumber_38 : decode prog_12_method_12_code 38 = .ok (.ladd, 1) := by decide +kernel
theorem d_X10_readNumber_39 : decode prog_12_method_12_code 39 = .ok (.ldc2_w 96, 3) := by decide +kernel
theorem d_X10_readNumber_42 : decode prog_12_method_12_code 42 = .ok (.lsub, 1) := by decide +kernel
theorem d_X10_readNumber_43 : decode prog_12_method_12_code 43 = .ok (.lstore_n 3, 1) := by decide +kernel
theorem d_X10_readNumber_44 : decode prog_12_method_12_code 44 = .ok (.iinc 5 1, 3) := by decide +kernel
theorem d_X10_readNumber_47 : decode prog_12_method_12_code 47 = .ok (.goto (-42), 3) := by decide +kernel
theorem d_X10_readNumber_50 : decode prog_12_method_12_code 50 = .ok (.aload_n 0, 1) := by decide +kernel
theorem d_X10_readNumber_51 : decode prog_12_method_12_code 51 = .ok (.iload 5, 2) := by decide +kernel
theorem d_X10_readNumber_53 : decode prog_12_method_12_code 53 = .ok (.iload_n 2, 1) := by decide +kernel
theorem d_X10_readNumber_54 : decode prog_12_method_12_code 54 = .ok (.isub, 1) := by decide +kernel
theorem d_X10_readNumber_55 : decode prog_12_method_12_code 55 = .ok (.iconst 4, 1) := by decide +kernel
theorem d_X10_readNumber_56 : decode prog_12_method_12_code 56 = .ok (.if_icmp .le 7, 3) := by decide +kernel
theorem d_X10_readNumber_59 : decode prog_12_method_12_code 59 = .ok (.iconst 1, 1) := by decide +kernel
theorem d_X10_readNumber_60 : decode prog_12_method_12_code 60 = .ok (.goto 4, 3) := by decide +kernel
theorem d_X10_readNumber_63 : decode prog_12_method_12_code 63 = .ok (.iconst 3, 1) := by decide +kernel
theorem d_X10_readNumber_64 : decode prog_12_method_12_code 64 = .ok (.lload_n 3, 1) := by decide +kernel
theorem d_X10_readNumber_65 : decode prog_12_method_12_code 65 = .ok (.iload_n 2, 1) := by decide +kernel
theorem d_X10_readNumber_66 : decode prog_12_method_12_code 66 = .ok (.iload 5, 2) := by decide +kernel
theorem d_X10_readNumber_68 : decode prog_12_method_12_code 68 = .ok (.invokevirtual 80, 3) := by decide +kernel
theorem d_X10_readNumber_71 : decode prog_12_method_12_code 71 = .ok (.ireturn, 1) := by decide +kernel
theorem v_X10_readNumber_0 {E : EE} {d : Nat} {Q : Option AV → AH → Prop} {x0 : Nat} {x1 : Nat} {x2 : Int32} {G : AH} (h : wp E d M_X10_readNumber 5 [some (vr x0), some (vr x1), some (vi x2), some (vj 0), none, some (vi x2)] [] G Q) : wp E d M_X10_readNumber 0 [some (vr x0), some (vr x1), some (vi x2), none, none, none] [] G Q := by
  refine wp_lconst (pc := 0) (v := 0) d_X10_readNumber_0 rfl ?_
  refine wp_lstore_n (pc := 1) (lv' := [some (vr _), some (vr _), some (vi _), some (vj _), none, none]) d_X10_readNumber_1 (by decide) rfl ?_
  refine wp_iload_n (pc := 2) d_X10_readNumber_2 rfl ?_
  refine wp_istore (pc := 3) (lv' := [some (vr _), some (vr _), some (vi _), some (vj _), none, some (vi _)]) d_X10_readNumber_3 (by decide) rfl ?_
  refine wp_sub ?_ h
  exact ⟨rfl, ⟨rfl, ⟨rfl, ⟨rfl, ⟨rfl, trivial⟩⟩⟩⟩⟩
theorem v_X10_readNumber_5 {E : EE} {d : Nat} {Q : Option AV → AH → Prop} {x0 : Nat} {x1 : Nat} {x2 : Int32} {x3 : Int64} {x5 : Int32} {G : AH} (h0 : 0 < d) (h : isO E G x1 0 ∧ (((gI G x1 1) ≤ x5 → wp E d M_X10_readNumber 50 [some (vr x0), some (vr x1), some (vi x2), some (vj x3), none, some (vi x5)] [] G Q) ∧ (¬ ((gI G x1 1) ≤ x5) → wpI E (d - 1) M_X0_at [vr x1, vi x5] G (fun r2 G3 => wpI E (d - 1) M_X10_isFigure [vi r2] G3 (fun r4 G5 => (r4 = 0 → wp E d M_X10_readNumber 50 [some (vr x0), some (vr x1), some (vi x2), some (vj x3), none, some (vi x5)] [] G5 Q) ∧ (¬ (r4 = 0) → isO E G5 x1 0 ∧ (wpI E (d - 1) M_X0_at [vr x1, vi x5] G5 (fun r6 G7 => wp E d M_X10_readNumber 5 [some (vr x0), some (vr x1), some (vi x2), some (vj (((10 * x3) + (Int32.toInt64 r6)) - 48)), none, some (vi (x5 + 1))] [] G7 Q)))))))) : wp E d M_X10_readNumber 5 [some (vr x0), some (vr x1), some (vi x2), some (vj x3), none, some (vi x5)] [] G Q := by
  refine wp_iload (pc := 5) d_X10_readNumber_5 rfl ?_
  refine wp_aload_n (pc := 7) d_X10_readNumber_7 rfl ?_
  obtain ⟨ho1, h⟩ := h
  refine wp_getI (pc := 8) d_X10_readNumber_8 fl_X10_51 (fun _ _ _ => rfl) ho1 ?_
  refine wp_icmp_ge (pc := 11) (tgt := 50) d_X10_readNumber_11 (by decide) (fun hc => ?_) (fun hc => ?_)
  · have h := h.1 hc
    refine wp_sub ?_ h
    exact ⟨rfl, ⟨rfl, ⟨rfl, ⟨rfl, ⟨rfl, trivial⟩⟩⟩⟩⟩
  · have h := h.2 hc
    refine wp_aload_n (pc := 14) d_X10_readNumber_14 rfl ?_
    refine wp_iload (pc := 15) d_X10_readNumber_15 rfl ?_
    refine wp_invV (pc := 17) (N := M_X0_at) (As := [vi _]) (rest := []) (r := (cn_0, ct_0, 2)) d_X10_readNumber_17 ml_X10_60 mk_X0_at mv_X0_at h0 ho1 rfl rfl (Nat.le_of_ble_eq_true rfl) ?_
    refine wpM.mono h (fun rr G3 hr => ?_)
    obtain ⟨r2, rfl, h⟩ := hr
    show wp E d M_X10_readNumber 20 [some (vr _), some (vr _), some (vi _), some (vj _), none, some (vi _)] [vi _] G3 Q
    refine wp_invS (pc := 20) (N := M_X10_isFigure) (As := [vi _]) (rest := []) d_X10_readNumber_20 ml_X10_71 mk_X10_isFigure ms_X10_isFigure h0 (Nat.le_of_ble_eq_true rfl) ?_
    refine wpM.mono h (fun rr G5 hr => ?_)
    obtain ⟨r4, rfl, h⟩ := hr
    show wp E d M_X10_readNumber 23 [some (vr _), some (vr _), some (vi _), some (vj _), none, some (vi _)] [vi _] G5 Q
    refine wp_if_eq (pc := 23) (tgt := 50) d_X10_readNumber_23 (by decide) (fun hc => ?_) (fun hc => ?_)
    · have h := h.1 hc
      refine wp_sub ?_ h
      exact ⟨rfl, ⟨rfl, ⟨rfl, ⟨rfl, ⟨rfl, trivial⟩⟩⟩⟩⟩
    · have h := h.2 hc
      refine wp_ldc2 (pc := 26) (v := 10) d_X10_readNumber_26 cj_X10_94 ?_
      refine wp_lload_n (pc := 29) d_X10_readNumber_29 rfl ?_
      refine wp_lmul (pc := 30) d_X10_readNumber_30 ?_
      refine wp_aload_n (pc := 31) d_X10_readNumber_31 rfl ?_
      refine wp_iload (pc := 32) d_X10_readNumber_32 rfl ?_
      obtain ⟨ho8, h⟩ := h
      refine wp_invV (pc := 34) (N := M_X0_at) (As := [vi _]) (rest := [vj _]) (r := (cn_0, ct_0, 2)) d_X10_readNumber_34 ml_X10_60 mk_X0_at mv_X0_at h0 ho8 rfl rfl (Nat.le_of_ble_eq_true rfl) ?_
      refine wpM.mono h (fun rr G7 hr => ?_)
      obtain ⟨r6, rfl, h⟩ := hr
      show wp E d M_X10_readNumber 37 [some (vr _), some (vr _), some (vi _), some (vj _), none, some (vi _)] [vi _, vj _] G7 Q
      refine wp_i2l (pc := 37) d_X10_readNumber_37 ?_
      refine wp_ladd (pc := 38) d_X10_readNumber_38 ?_
      refine wp_ldc2 (pc := 39) (v := 48) d_X10_readNumber_39 cj_X10_96 ?_
      refine wp_lsub (pc := 42) d_X10_readNumber_42 ?_
      refine wp_lstore_n (pc := 43) (lv' := [some (vr _), some (vr _), some (vi _), some (vj _), none, some (vi _)]) d_X10_readNumber_43 (by decide) rfl ?_
      refine wp_iinc (pc := 44) (v := 1) (lv' := [some (vr _), some (vr _), some (vi _), some (vj _), none, some (vi _)]) d_X10_readNumber_44 (by decide) rfl rfl rfl ?_
      refine wp_goto (pc := 47) (tgt := 5) d_X10_readNumber_47 (by decide) ?_
      refine wp_sub ?_ h
      exact ⟨rfl, ⟨rfl, ⟨rfl, ⟨rfl, ⟨rfl, trivial⟩⟩⟩⟩⟩
theorem v_X10_readNumber_50 {E : EE} {d : Nat} {Q : Option AV → AH → Prop} {x0 : Nat} {x1 : Nat} {x2 : Int32} {x3 : Int64} {x5 : Int32} {G : AH} (h : ((x5 - x2) ≤ 4 → wp E d M_X10_readNumber 64 [some (vr x0), some (vr x1), some (vi x2), some (vj x3), none, some (vi x5)] [vi 3, vr x0] G Q) ∧ (¬ ((x5 - x2) ≤ 4) → wp E d M_X10_readNumber 64 [some (vr x0), some (vr x1), some (vi x2), some (vj x3), none, some (vi x5)] [vi 1, vr x0] G Q)) : wp E d M_X10_readNumber 50 [some (vr x0), some (vr x1), some (vi x2), some (vj x3), none, some (vi x5)] [] G Q := by
  refine wp_aload_n (pc := 50) d_X10_readNumber_50 rfl ?_
  refine wp_iload (pc := 51) d_X10_readNumber_51 rfl ?_
  refine wp_iload_n (pc := 53) d_X10_readNumber_53 rfl ?_
  refine wp_isub (pc := 54) d_X10_readNumber_54 ?_
  refine wp_iconst (pc := 55) (v := 4) d_X10_readNumber_55 rfl ?_
  refine wp_icmp_le (pc := 56) (tgt := 63) d_X10_readNumber_56 (by decide) (fun hc => ?_) (fun hc => ?_)
  · have h := h.1 hc
    refine wp_iconst (pc := 63) (v := 3) d_X10_readNumber_63 rfl ?_
    refine wp_sub ?_ h
    exact ⟨rfl, ⟨rfl, ⟨rfl, ⟨rfl, ⟨rfl, trivial⟩⟩⟩⟩⟩
  · have h := h.2 hc
    refine wp_iconst (pc := 59) (v := 1) d_X10_readNumber_59 rfl ?_
    refine wp_goto (pc := 60) (tgt := 64) d_X10_readNumber_60 (by decide) ?_
    refine wp_sub ?_ h
    exact ⟨rfl, ⟨rfl, ⟨rfl, ⟨rfl, ⟨rfl, trivial⟩⟩⟩⟩⟩
theorem v_X10_readNumber_64 {E : EE} {d : Nat} {Q : Option AV → AH → Prop} {x0 : Nat} {x1 : Nat} {x2 : Int32} {x3 : Int64} {x5 : Int32} {t0 : Nat} {t1 : Int32} {G : AH} (h0 : 0 < d) (h : isO E G t0 10 ∧ (wpI E (d - 1) M_X10_write [vr t0, vi t1, vj x3, vi x2, vi x5] G (fun r1 G2 => Q (some (vi r1)) G2))) : wp E d M_X10_readNumber 64 [some (vr x0), some (vr x1), some (vi x2), some (vj x3), none, some (vi x5)] [vi t1, vr t0] G Q := by
  refine wp_lload_n (pc := 64) d_X10_readNumber_64 rfl ?_
  refine wp_iload_n (pc := 65) d_X10_readNumber_65 rfl ?_
  refine wp_iload (pc := 66) d_X10_readNumber_66 rfl ?_
  obtain ⟨ho3, h⟩ := h
  refine wp_invV (pc := 68) (N := M_X10_write) (As := [vi _, vj _, vi _, vi _]) (rest := []) (r := (cn_10, ct_10, 12)) d_X10_readNumber_68 ml_X10_80 mk_X10_write mv_X10_write h0 ho3 rfl rfl (Nat.le_of_ble_eq_true rfl) ?_
  refine wpM.mono h (fun rr G2 hr => ?_)
  obtain ⟨r1, rfl, h⟩ := hr
  show wp E d M_X10_readNumber 71 [some (vr _), some (vr _), some (vi _), some (vj _), none, some (vi _)] [vi _] G2 Q
  exact wp_iret (pc := 71) d_X10_readNumber_71 rfl h
theorem d_X10_readSign_0 : decode prog_12_method_13_code 0 = .ok (.aload_n 1, 1) := by decide +kernel
theorem d_X10_readSign_1 : decode prog_12_method_13_code 1 = .ok (.iload_n 2, 1) := by decide +kernel
theorem d_X10_readSign_2 : decode prog_12_method_13_code 2 = .ok (.invokevirtual 60, 3) := by decide +kernel
theorem d_X10_readSign_5 : decode prog_12_method_13_code 5 = .ok (.istore_n 3, 1) := by decide +kernel
theorem d_X10_readSign_6 : decode prog_12_method_13_code 6 = .ok (.iload_n 3, 1) := by decide +kernel
theorem d_X10_readSign_7 : decode prog_12_method_13_code 7 = .ok (.bipush 8, 2) := by decide +kernel
theorem d_X10_readSign_9 : decode prog_12_method_13_code 9 = .ok (.ishl, 1) := by decide +kernel
theorem d_X10_readSign_10 : decode prog_12_method_13_code 10 = .ok (.aload_n 1, 1) := by decide +kernel
theorem d_X10_readSign_11 : decode prog_12_method_13_code 11 = .ok (.iload_n 2, 1) := by decide +kernel
theorem d_X10_readSign_12 : decode prog_12_method_13_code 12 = .ok (.iconst 1, 1) := by decide +kernel
theorem d_X10_readSign_13 : decode prog_12_method_13_code 13 = .ok (.iadd, 1) := by decide +kernel
theorem d_X10_readSign_14 : decode prog_12_method_13_code 14 = .ok (.invokevirtual 60, 3) := by decide +kernel
theorem d_X10_readSign_17 : decode prog_12_method_13_code 17 = .ok (.sipush 255, 3) := by decide +kernel
theorem d_X10_readSign_20 : decode prog_12_method_13_code 20 = .ok (.iand, 1) := by decide +kernel
theorem d_X10_readSign_21 : decode prog_12_method_13_code 21 = .ok (.ior, 1) := by decide +kernel
theorem d_X10_readSign_22 : decode prog_12_method_13_code 22 = .ok (.istore 4, 2) := by decide +kernel
theorem d_X10_readSign_24 : decode prog_12_method_13_code 24 = .ok (.iload 4, 2) := by decide +kernel
theorem d_X10_readSign_26 : decode prog_12_method_13_code 26 = .ok (.sipush 15421, 3) := by decide +kernel
theorem d_X10_readSign_29 : decode prog_12_method_13_code 29 = .ok (.if_icmp .eq 27, 3) := by decide +kernel
theorem d_X10_readSign_32 : decode prog_12_method_13_code 32 = .ok (.iload 4, 2) := by decide +kernel
theorem d_X10_readSign_34 : decode prog_12_method_13_code 34 = .ok (.sipush 15933, 3) := by decide +kernel
theorem d_X10_readSign_37 : decode prog_12_method_13_code 37 = .ok (.if_icmp .eq 19, 3) := by decide +kernel
theorem d_X10_readSign_40 : decode prog_12_method_13_code 40 = .ok (.iload 4, 2) := by decide +kernel
theorem d_X10_readSign_42 : decode prog_12_method_13_code 42 = .ok (.sipush 11822, 3) := by decide +kernel
theorem d_X10_readSign_45 : decode prog_12_method_13_code 45 = .ok (.if_icmp .eq 11, 3) := by decide +kernel
theorem d_X10_readSign_48 : decode prog_12_method_13_code 48 = .ok (.iload 4, 2) := by decide +kernel
theorem d_X10_readSign_50 : decode prog_12_method_13_code 50 = .ok (.sipush 11582, 3) := by decide +kernel
theorem d_X10_readSign_53 : decode prog_12_method_13_code 53 = .ok (.if_icmp .ne 16, 3) := by decide +kernel
theorem d_X10_readSign_56 : decode prog_12_method_13_code 56 = .ok (.aload_n 0, 1) := by decide +kernel
theorem d_X10_readSign_57 : decode prog_12_method_13_code 57 = .ok (.iconst 4, 1) := by decide +kernel
theorem d_X10_readSign_58 : decode prog_12_method_13_code 58 = .ok (.iload 4, 2) := by decide +kernel
theorem d_X10_readSign_60 : decode prog_12_method_13_code 60 = .ok (.i2l, 1) := by decide +kernel
theorem d_X10_readSign_61 : decode prog_12_method_13_code 61 = .ok (.iload_n 2, 1) := by decide +kernel
theorem d_X10_readSign_62 : decode prog_12_method_13_code 62 = .ok (.iload_n 2, 1) := by decide +kernel
theorem d_X10_readSign_63 : decode prog_12_method_13_code 63 = .ok (.iconst 2, 1) := by decide +kernel
theorem d_X10_readSign_64 : decode prog_12_method_13_code 64 = .ok (.iadd, 1) := by decide +kernel
theorem d_X10_readSign_65 : decode prog_12_method_13_code 65 = .ok (.invokevirtual 80, 3) := by decide +kernel
theorem d_X10_readSign_68 : decode prog_12_method_13_code 68 = .ok (.ireturn, 1) := by decide +kernel
theorem d_X10_readSign_69 : decode prog_12_method_13_code 69 = .ok (.aload_n 0, 1) := by decide +kernel
theorem d_X10_readSign_70 : decode prog_12_method_13_code 70 = .ok (.ldc 98, 2) := by decide +kernel
theorem d_X10_readSign_72 : decode prog_12_method_13_code 72 = .ok (.iload_n 3, 1) := by decide +kernel
theorem d_X10_readSign_73 : decode prog_12_method_13_code 73 = .ok (.i2c, 1) := by decide +kernel
theorem d_X10_readSign_74 : decode prog_12_method_13_code 74 = .ok (.invokevirtual 100, 3) := by decide +kernel
theorem d_X10_readSign_77 : decode prog_12_method_13_code 77 = .ok (.ifCond .ge 7, 3) := by decide +kernel
theorem d_X10_readSign_80 : decode prog_12_method_13_code 80 = .ok (.iconst 1, 1) := by decide +kernel
theorem d_X10_readSign_81 : decode prog_12_method_13_code 81 = .ok (.goto 4, 3) := by decide +kernel
theorem d_X10_readSign_84 : decode prog_12_method_13_code 84 = .ok (.iconst 4, 1) := by decide +kernel
theorem d_X10_readSign_85 : decode prog_12_method_13_code 85 = .ok (.iload_n 3, 1) := by decide +kernel
theorem d_X10_readSign_86 : decode prog_12_method_13_code 86 = .ok (.i2l, 1) := by decide +kernel
theorem d_X10_readSign_87 : decode prog_12_method_13_code 87 = .ok (.iload_n 2, 1) := by decide +kernel
theorem d_X10_readSign_88 : decode prog_12_method_13_code 88 = .ok (.iload_n 2, 1) := by decide +kernel
theorem d_X10_readSign_89 : decode prog_12_method_13_code 89 = .ok (.iconst 1, 1) := by decide +kernel
theorem d_X10_readSign_90 : decode prog_12_method_13_code 90 = .ok (.iadd, 1) := by decide +kernel
theorem d_X10_readSign_91 : decode prog_12_method_13_code 91 = .ok (.invokevirtual 80, 3) := by decide +kernel
theorem d_X10_readSign_94 : decode prog_12_method_13_code 94 = .ok (.ireturn, 1) := by decide +kernel
theorem v_X10_readSign_0 {E : EE} {d : Nat} {Q : Option AV → AH → Prop} {x0 : Nat} {x1 : Nat} {x2 : Int32} {G : AH} (h0 : 0 < d) (h : isO E G x1 0 ∧ (wpI E (d - 1) M_X0_at [vr x1, vi x2] G (fun r1 G2 => isO E G2 x1 0 ∧ (wpI E (d - 1) M_X0_at [vr x1, vi (x2 + 1)] G2 (fun r3 G4 => (((r1 <<< (8 &&& 31)) ||| (r3 &&& 255)) = 15421 → wp E d M_X10_readSign 56 [some (vr x0), some (vr x1), some (vi x2), some (vi r1), some (vi ((r1 <<< (8 &&& 31)) ||| (r3 &&& 255)))] [] G4 Q) ∧ (¬ (((r1 <<< (8 &&& 31)) ||| (r3 &&& 255)) = 15421) → (((r1 <<< (8 &&& 31)) ||| (r3 &&& 255)) = 15933 → wp E d M_X10_readSign 56 [some (vr x0), some (vr x1), some (vi x2), some (vi r1), some (vi ((r1 <<< (8 &&& 31)) ||| (r3 &&& 255)))] [] G4 Q) ∧ (¬ (((r1 <<< (8 &&& 31)) ||| (r3 &&& 255)) = 15933) → (((r1 <<< (8 &&& 31)) ||| (r3 &&& 255)) = 11822 → wp E d M_X10_readSign 56 [some (vr x0), some (vr x1), some (vi x2), some (vi r1), some (vi ((r1 <<< (8 &&& 31)) ||| (r3 &&& 255)))] [] G4 Q) ∧ (¬ (((r1 <<< (8 &&& 31)) ||| (r3 &&& 255)) = 11822) → (¬ ((r1 <<< (8 &&& 31)) ||| (r3 &&& 255)) = 11582 → wpI E (d - 1) M_J0_indexOf_0f7a4 [vs (eK E 4), vi (i2c r1)] G4 (fun r5 G6 => (0 ≤ r5 → wp E d M_X10_readSign 85 [some (vr x0), some (vr x1), some (vi x2), some (vi r1), some (vi ((r1 <<< (8 &&& 31)) ||| (r3 &&& 255)))] [vi 4, vr x0] G6 Q) ∧ (¬ (0 ≤ r5) → wp E d M_X10_readSign 85 [some (vr x0), some (vr x1), some (vi x2), some (vi r1), some (vi ((r1 <<< (8 &&& 31)) ||| (r3 &&& 255)))] [vi 1, vr x0] G6 Q))) ∧ (((r1 <<< (8 &&& 31)) ||| (r3 &&& 255)) = 11582 → wp E d M_X10_readSign 56 [some (vr x0), some (vr x1), some (vi x2), some (vi r1), some (vi ((r1 <<< (8 &&& 31)) ||| (r3 &&& 255)))] [] G4 Q))))))))) : wp E d M_X10_readSign 0 [some (vr x0), some (vr x1), some (vi x2), none, none] [] G Q := by
  refine wp_aload_n (pc := 0) d_X10_readSign_0 rfl ?_
  refine wp_iload_n (pc := 1) d_X10_readSign_1 rfl ?_
  obtain ⟨ho8, h⟩ := h
  refine wp_invV (pc := 2) (N := M_X0_at) (As := [vi _]) (rest := []) (r := (cn_0, ct_0, 2)) d_X10_readSign_2 ml_X10_60 mk_X0_at mv_X0_at h0 ho8 rfl rfl (Nat.le_of_ble_eq_true rfl) ?_
  refine wpM.mono h (fun rr G2 hr => ?_)
  obtain ⟨r1, rfl, h⟩ := hr
  show wp E d M_X10_readSign 5 [some (vr _), some (vr _), some (vi _), none, none] [vi _] G2 Q
  refine wp_istore_n (pc := 5) (lv' := [some (vr _), some (vr _), some (vi _), some (vi _), none]) d_X10_readSign_5 (by decide) rfl ?_
  refine wp_iload_n (pc := 6) d_X10_readSign_6 rfl ?_
  refine wp_bipush (pc := 7) (v := 8) d_X10_readSign_7 rfl ?_
  refine wp_ishl (pc := 9) d_X10_readSign_9 ?_
  refine wp_aload_n (pc := 10) d_X10_readSign_10 rfl ?_
  refine wp_iload_n (pc := 11) d_X10_readSign_11 rfl ?_
  refine wp_iconst (pc := 12) (v := 1) d_X10_readSign_12 rfl ?_
  refine wp_iadd (pc := 13) d_X10_readSign_13 ?_
  obtain ⟨ho7, h⟩ := h
  refine wp_invV (pc := 14) (N := M_X0_at) (As := [vi _]) (rest := [vi _]) (r := (cn_0, ct_0, 2)) d_X10_readSign_14 ml_X10_60 mk_X0_at mv_X0_at h0 ho7 rfl rfl (Nat.le_of_ble_eq_true rfl) ?_
  refine wpM.mono h (fun rr G4 hr => ?_)
  obtain ⟨r3, rfl, h⟩ := hr
  show wp E d M_X10_readSign 17 [some (vr _), some (vr _), some (vi _), some (vi _), none] [vi _, vi _] G4 Q
  refine wp_sipush (pc := 17) (v := 255) d_X10_readSign_17 rfl ?_
  refine wp_iand (pc := 20) d_X10_readSign_20 ?_
  refine wp_ior (pc := 21) d_X10_readSign_21 ?_
  refine wp_istore (pc := 22) (lv' := [some (vr _), some (vr _), some (vi _), some (vi _), some (vi _)]) d_X10_readSign_22 (by decide) rfl ?_
  refine wp_iload (pc := 24) d_X10_readSign_24 rfl ?_
  refine wp_sipush (pc := 26) (v := 15421) d_X10_readSign_26 rfl ?_
  refine wp_icmp_eq (pc := 29) (tgt := 56) d_X10_readSign_29 (by decide) (fun hc => ?_) (fun hc => ?_)
  · have h := h.1 hc
    refine wp_sub ?_ h
    exact ⟨rfl, ⟨rfl, ⟨rfl, ⟨rfl, ⟨rfl, trivial⟩⟩⟩⟩⟩
  · have h := h.2 hc
    refine wp_iload (pc := 32) d_X10_readSign_32 rfl ?_
    refine wp_sipush (pc := 34) (v := 15933) d_X10_readSign_34 rfl ?_
    refine wp_icmp_eq (pc := 37) (tgt := 56) d_X10_readSign_37 (by decide) (fun hc => ?_) (fun hc => ?_)
    · have h := h.1 hc
      refine wp_sub ?_ h
      exact ⟨rfl, ⟨rfl, ⟨rfl, ⟨rfl, ⟨rfl, trivial⟩⟩⟩⟩⟩
    · have h := h.2 hc
      refine wp_iload (pc := 40) d_X10_readSign_40 rfl ?_
      refine wp_sipush (pc := 42) (v := 11822) d_X10_readSign_42 rfl ?_
      refine wp_icmp_eq (pc := 45) (tgt := 56) d_X10_readSign_45 (by decide) (fun hc => ?_) (fun hc => ?_)
      · have h := h.1 hc
        refine wp_sub ?_ h
        exact ⟨rfl, ⟨rfl, ⟨rfl, ⟨rfl, ⟨rfl, trivial⟩⟩⟩⟩⟩
      · have h := h.2 hc
        refine wp_iload (pc := 48) d_X10_readSign_48 rfl ?_
        refine wp_sipush (pc := 50) (v := 11582) d_X10_readSign_50 rfl ?_
        refine wp_icmp_ne (pc := 53) (tgt := 69) d_X10_readSign_53 (by decide) (fun hc => ?_) (fun hc => ?_)
        · have h := h.1 hc
          refine wp_aload_n (pc := 69) d_X10_readSign_69 rfl ?_
          refine wp_text (pc := 70) (n := 4) d_X10_readSign_70 rfl ?_
          refine wp_iload_n (pc := 72) d_X10_readSign_72 rfl ?_
          refine wp_i2c (pc := 73) d_X10_readSign_73 ?_
          refine wp_invT (pc := 74) (N := M_J0_indexOf_0f7a4) (i := 4) (As := [vi _]) (rest := [vr _]) (by decide) d_X10_readSign_74 ml_X10_100 mk_J0_indexOf_0f7a4 mv_J0_indexOf_0f7a4 h0 rfl (Nat.le_of_ble_eq_true rfl) ?_
          refine wpM.mono h (fun rr G6 hr => ?_)
          obtain ⟨r5, rfl, h⟩ := hr
          show wp E d M_X10_readSign 77 [some (vr _), some (vr _), some (vi _), some (vi _), some (vi _)] [vi _, vr _] G6 Q
          refine wp_if_ge (pc := 77) (tgt := 84) d_X10_readSign_77 (by decide) (fun hc => ?_) (fun hc => ?_)
          · have h := h.1 hc
            refine wp_iconst (pc := 84) (v := 4) d_X10_readSign_84 rfl ?_
            refine wp_sub ?_ h
            exact ⟨rfl, ⟨rfl, ⟨rfl, ⟨rfl, ⟨rfl, trivial⟩⟩⟩⟩⟩
          · have h := h.2 hc
            refine wp_iconst (pc := 80) (v := 1) d_X10_readSign_80 rfl ?_
            refine wp_goto (pc := 81) (tgt := 85) d_X10_readSign_81 (by decide) ?_
            refine wp_sub ?_ h
            exact ⟨rfl, ⟨rfl, ⟨rfl, ⟨rfl, ⟨rfl, trivial⟩⟩⟩⟩⟩
        · have h := h.2 hc
          refine wp_sub ?_ h
          exact ⟨rfl, ⟨rfl, ⟨rfl, ⟨rfl, ⟨rfl, trivial⟩⟩⟩⟩⟩
theorem v_X10_readSign_56 {E : EE} {d : Nat} {Q : Option AV → AH → Prop} {x0 : Nat} {x1 : Nat} {x2 : Int32} {x3 : Int32} {x4 : Int32} {G : AH} (h0 : 0 < d) (h : isO E G x0 10 ∧ (wpI E (d - 1) M_X10_write [vr x0, vi 4, vj (Int32.toInt64 x4), vi x2, vi (x2 + 2)] G (fun r1 G2 => Q (some (vi r1)) G2))) : wp E d M_X10_readSign 56 [some (vr x0), some (vr x1), some (vi x2), some (vi x3), some (vi x4)] [] G Q := by
  refine wp_aload_n (pc := 56) d_X10_readSign_56 rfl ?_
  refine wp_iconst (pc := 57) (v := 4) d_X10_readSign_57 rfl ?_
  refine wp_iload (pc := 58) d_X10_readSign_58 rfl ?_
  refine wp_i2l (pc := 60) d_X10_readSign_60 ?_
  refine wp_iload_n (pc := 61) d_X10_readSign_61 rfl ?_
  refine wp_iload_n (pc := 62) d_X10_readSign_62 rfl ?_
  refine wp_iconst (pc := 63) (v := 2) d_X10_readSign_63 rfl ?_
  refine wp_iadd (pc := 64) d_X10_readSign_64 ?_
  obtain ⟨ho3, h⟩ := h
  refine wp_invV (pc := 65) (N := M_X10_write) (As := [vi _, vj _, vi _, vi _]) (rest := []) (r := (cn_10, ct_10, 12)) d_X10_readSign_65 ml_X10_80 mk_X10_write mv_X10_write h0 ho3 rfl rfl (Nat.le_of_ble_eq_true rfl) ?_
  refine wpM.mono h (fun rr G2 hr => ?_)
  obtain ⟨r1, rfl, h⟩ := hr
  show wp E d M_X10_readSign 68 [some (vr _), some (vr _), some (vi _), some (vi _), some (vi _)] [vi _] G2 Q
  exact wp_iret (pc := 68) d_X10_readSign_68 rfl h
theorem v_X10_readSign_85 {E : EE} {d : Nat} {Q : Option AV → AH → Prop} {x0 : Nat} {x1 : Nat} {x2 : Int32} {x3 : Int32} {x4 : Int32} {t0 : Nat} {t1 : Int32} {G : AH} (h0 : 0 < d) (h : isO E G t0 10 ∧ (wpI E (d - 1) M_X10_write [vr t0, vi t1, vj (Int32.toInt64 x3), vi x2, vi (x2 + 1)] G (fun r1 G2 => Q (some (vi r1)) G2))) : wp E d M_X10_readSign 85 [some (vr x0), some (vr x1), some (vi x2), some (vi x3), some (vi x4)] [vi t1, vr t0] G Q := by
  refine wp_iload_n (pc := 85) d_X10_readSign_85 rfl ?_
  refine wp_i2l (pc := 86) d_X10_readSign_86 ?_
  refine wp_iload_n (pc := 87) d_X10_readSign_87 rfl ?_
  refine wp_iload_n (pc := 88) d_X10_readSign_88 rfl ?_
  refine wp_iconst (pc := 89) (v := 1) d_X10_readSign_89 rfl ?_
  refine wp_iadd (pc := 90) d_X10_readSign_90 ?_
  obtain ⟨ho3, h⟩ := h
  refine wp_invV (pc := 91) (N := M_X10_write) (As := [vi _, vj _, vi _, vi _]) (rest := []) (r := (cn_10, ct_10, 12)) d_X10_readSign_91 ml_X10_80 mk_X10_write mv_X10_write h0 ho3 rfl rfl (Nat.le_of_ble_eq_true rfl) ?_
  refine wpM.mono h (fun rr G2 hr => ?_)
  obtain ⟨r1, rfl, h⟩ := hr
  show wp E d M_X10_readSign 94 [some (vr _), some (vr _), some (vi _), some (vi _), some (vi _)] [vi _] G2 Q
  exact wp_iret (pc := 94) d_X10_readSign_94 rfl h
theorem d_X10_fail_0 : decode prog_12_method_7_code 0 = .ok (.aload_n 0, 1) := by decide +kernel
theorem d_X10_fail_1 : decode prog_12_method_7_code 1 = .ok (.iload_n 1, 1) := by decide +kernel
theorem d_X10_fail_2 : decode prog_12_method_7_code 2 = .ok (.putfield 45, 3) := by decide +kernel
theorem d_X10_fail_5 : decode prog_12_method_7_code 5 = .ok (.aload_n 0, 1) := by decide +kernel
theorem d_X10_fail_6 : decode prog_12_method_7_code 6 = .ok (.iload_n 2, 1) := by decide +kernel
theorem d_X10_fail_7 : decode prog_12_method_7_code 7 = .ok (.putfield 48, 3) := by decide +kernel
theorem d_X10_fail_10 : decode prog_12_method_7_code 10 = .ok (.iconst 0, 1) := by decide +kernel
theorem d_X10_fail_11 : decode prog_12_method_7_code 11 = .ok (.ireturn, 1) := by decide +kernel
theorem v_X10_fail_0 {E : EE} {d : Nat} {Q : Option AV → AH → Prop} {x0 : Nat} {x1 : Int32} {x2 : Int32} {G : AH} (h : isO E G x0 10 ∧ (∀ G2 : AH, G2 = sI G x0 10 x1 → ∀ G4 : AH, G4 = sI G2 x0 11 x2 → Q (some (vi 0)) G4)) : wp E d M_X10_fail 0 [some (vr x0), some (vi x1), some (vi x2)] [] G Q := by
  refine wp_aload_n (pc := 0) d_X10_fail_0 rfl ?_
  refine wp_iload_n (pc := 1) d_X10_fail_1 rfl ?_
  obtain ⟨ho1, h⟩ := h
  refine wp_putI (pc := 2) d_X10_fail_2 fl_X10_45 (fun _ _ _ => rfl) (Or.inl rfl) ho1 (okI_int _) ?_
  refine wp_nm (fun G2 eG2 => ?_)
  have h := h G2 eG2
  have ho3 := isO_sI eG2 ho1
  refine wp_aload_n (pc := 5) d_X10_fail_5 rfl ?_
  refine wp_iload_n (pc := 6) d_X10_fail_6 rfl ?_
  refine wp_putI (pc := 7) d_X10_fail_7 fl_X10_48 (fun _ _ _ => rfl) (Or.inl rfl) ho3 (okI_int _) ?_
  refine wp_nm (fun G4 eG4 => ?_)
  have h := h G4 eG4
  have ho5 := isO_sI eG4 ho3
  refine wp_iconst (pc := 10) (v := 0) d_X10_fail_10 rfl ?_
  exact wp_zret (pc := 11) d_X10_fail_11 rfl rfl h
theorem d_X10_is_0 : decode prog_12_method_4_code 0 = .ok (.aload_n 0, 1) := by decide +kernel
theorem d_X10_is_1 : decode prog_12_method_4_code 1 = .ok (.getfield 32, 3) := by decide +kernel
theorem d_X10_is_4 : decode prog_12_method_4_code 4 = .ok (.iconst 4, 1) := by decide +kernel
theorem d_X10_is_5 : decode prog_12_method_4_code 5 = .ok (.if_icmp .ne 17, 3) := by decide +kernel
theorem d_X10_is_8 : decode prog_12_method_4_code 8 = .ok (.aload_n 0, 1) := by decide +kernel
theorem d_X10_is_9 : decode prog_12_method_4_code 9 = .ok (.getfield 35, 3) := by decide +kernel
theorem d_X10_is_12 : decode prog_12_method_4_code 12 = .ok (.iload_n 1, 1) := by decide +kernel
theorem d_X10_is_13 : decode prog_12_method_4_code 13 = .ok (.i2l, 1) := by decide +kernel
theorem d_X10_is_14 : decode prog_12_method_4_code 14 = .ok (.lcmp, 1) := by decide +kernel
theorem d_X10_is_15 : decode prog_12_method_4_code 15 = .ok (.ifCond .ne 7, 3) := by decide +kernel
theorem d_X10_is_18 : decode prog_12_method_4_code 18 = .ok (.iconst 1, 1) := by decide +kernel
theorem d_X10_is_19 : decode prog_12_method_4_code 19 = .ok (.goto 4, 3) := by decide +kernel
theorem d_X10_is_22 : decode prog_12_method_4_code 22 = .ok (.iconst 0, 1) := by decide +kernel
theorem d_X10_is_23 : decode prog_12_method_4_code 23 = .ok (.ireturn, 1) := by decide +kernel
theorem v_X10_is_0 {E : EE} {d : Nat} {Q : Option AV → AH → Prop} {x0 : Nat} {x1 : Int32} {G : AH} (h : isO E G x0 10 ∧ ((¬ (gI G x0 6) = 4 → Q (some (vi 0)) G) ∧ ((gI G x0 6) = 4 → (¬ (gJ G x0 7) = (Int32.toInt64 x1) → Q (some (vi 0)) G) ∧ ((gJ G x0 7) = (Int32.toInt64 x1) → Q (some (vi 1)) G)))) : wp E d M_X10_is 0 [some (vr x0), some (vi x1)] [] G Q := by
  refine wp_aload_n (pc := 0) d_X10_is_0 rfl ?_
  obtain ⟨ho1, h⟩ := h
  refine wp_getI (pc := 1) d_X10_is_1 fl_X10_32 (fun _ _ _ => rfl) ho1 ?_
  refine wp_iconst (pc := 4) (v := 4) d_X10_is_4 rfl ?_
  refine wp_icmp_ne (pc := 5) (tgt := 22) d_X10_is_5 (by decide) (fun hc => ?_) (fun hc => ?_)
  · have h := h.1 hc
    refine wp_iconst (pc := 22) (v := 0) d_X10_is_22 rfl ?_
    exact wp_zret (pc := 23) d_X10_is_23 rfl rfl h
  · have h := h.2 hc
    refine wp_aload_n (pc := 8) d_X10_is_8 rfl ?_
    refine wp_getJ (pc := 9) d_X10_is_9 fl_X10_35 (fun _ _ _ => rfl) ho1 ?_
    refine wp_iload_n (pc := 12) d_X10_is_12 rfl ?_
    refine wp_i2l (pc := 13) d_X10_is_13 ?_
    refine wp_lcmp_ne (pc := 14) (tgt := 22) d_X10_is_14 d_X10_is_15 (by decide) (fun hc => ?_) (fun hc => ?_)
    · have h := h.1 hc
      refine wp_iconst (pc := 22) (v := 0) d_X10_is_22 rfl ?_
      exact wp_zret (pc := 23) d_X10_is_23 rfl rfl h
    · have h := h.2 hc
      refine wp_iconst (pc := 18) (v := 1) d_X10_is_18 rfl ?_
      refine wp_goto (pc := 19) (tgt := 23) d_X10_is_19 (by decide) ?_
      exact wp_zret (pc := 23) d_X10_is_23 rfl rfl h
theorem d_X10_refuse_0 : decode prog_12_method_6_code 0 = .ok (.aload_n 0, 1) := by decide +kernel
theorem d_X10_refuse_1 : decode prog_12_method_6_code 1 = .ok (.aload_n 0, 1) := by decide +kernel
theorem d_X10_refuse_2 : decode prog_12_method_6_code 2 = .ok (.getfield 32, 3) := by decide +kernel
theorem d_X10_refuse_5 : decode prog_12_method_6_code 5 = .ok (.iconst 1, 1) := by decide +kernel
theorem d_X10_refuse_6 : decode prog_12_method_6_code 6 = .ok (.if_icmp .ne 7, 3) := by decide +kernel
theorem d_X10_refuse_9 : decode prog_12_method_6_code 9 = .ok (.iconst 1, 1) := by decide +kernel
theorem d_X10_refuse_10 : decode prog_12_method_6_code 10 = .ok (.goto 4, 3) := by decide +kernel
theorem d_X10_refuse_13 : decode prog_12_method_6_code 13 = .ok (.iconst 2, 1) := by decide +kernel
theorem d_X10_refuse_14 : decode prog_12_method_6_code 14 = .ok (.putfield 45, 3) := by decide +kernel
theorem d_X10_refuse_17 : decode prog_12_method_6_code 17 = .ok (.aload_n 0, 1) := by decide +kernel
theorem d_X10_refuse_18 : decode prog_12_method_6_code 18 = .ok (.aload_n 0, 1) := by decide +kernel
theorem d_X10_refuse_19 : decode prog_12_method_6_code 19 = .ok (.getfield 39, 3) := by decide +kernel
theorem d_X10_refuse_22 : decode prog_12_method_6_code 22 = .ok (.putfield 48, 3) := by decide +kernel
theorem d_X10_refuse_25 : decode prog_12_method_6_code 25 = .ok (.iconst 0, 1) := by decide +kernel
theorem d_X10_refuse_26 : decode prog_12_method_6_code 26 = .ok (.ireturn, 1) := by decide +kernel
theorem v_X10_refuse_0 {E : EE} {d : Nat} {Q : Option AV → AH → Prop} {x0 : Nat} {G : AH} (h : isO E G x0 10 ∧ ((¬ (gI G x0 6) = 1 → wp E d M_X10_refuse 14 [some (vr x0)] [vi 2, vr x0] G Q) ∧ ((gI G x0 6) = 1 → wp E d M_X10_refuse 14 [some (vr x0)] [vi 1, vr x0] G Q))) : wp E d M_X10_refuse 0 [some (vr x0)] [] G Q := by
  refine wp_aload_n (pc := 0) d_X10_refuse_0 rfl ?_
  refine wp_aload_n (pc := 1) d_X10_refuse_1 rfl ?_
  obtain ⟨ho1, h⟩ := h
  refine wp_getI (pc := 2) d_X10_refuse_2 fl_X10_32 (fun _ _ _ => rfl) ho1 ?_
  refine wp_iconst (pc := 5) (v := 1) d_X10_refuse_5 rfl ?_
  refine wp_icmp_ne (pc := 6) (tgt := 13) d_X10_refuse_6 (by decide) (fun hc => ?_) (fun hc => ?_)
  · have h := h.1 hc
    refine wp_iconst (pc := 13) (v := 2) d_X10_refuse_13 rfl ?_
    refine wp_sub ?_ h
    exact ⟨rfl, trivial⟩
  · have h := h.2 hc
    refine wp_iconst (pc := 9) (v := 1) d_X10_refuse_9 rfl ?_
    refine wp_goto (pc := 10) (tgt := 14) d_X10_refuse_10 (by decide) ?_
    refine wp_sub ?_ h
    exact ⟨rfl, trivial⟩
theorem v_X10_refuse_14 {E : EE} {d : Nat} {Q : Option AV → AH → Prop} {x0 : Nat} {t0 : Nat} {t1 : Int32} {G : AH} (h : isO E G t0 10 ∧ (∀ G2 : AH, G2 = sI G t0 10 t1 → isO E G2 x0 10 ∧ (∀ G4 : AH, G4 = sI G2 x0 11 (gI G2 x0 8) → Q (some (vi 0)) G4))) : wp E d M_X10_refuse 14 [some (vr x0)] [vi t1, vr t0] G Q := by
  obtain ⟨ho1, h⟩ := h
  refine wp_putI (pc := 14) d_X10_refuse_14 fl_X10_45 (fun _ _ _ => rfl) (Or.inl rfl) ho1 (okI_int _) ?_
  refine wp_nm (fun G2 eG2 => ?_)
  have h := h G2 eG2
  refine wp_aload_n (pc := 17) d_X10_refuse_17 rfl ?_
  refine wp_aload_n (pc := 18) d_X10_refuse_18 rfl ?_
  obtain ⟨ho3, h⟩ := h
  refine wp_getI (pc := 19) d_X10_refuse_19 fl_X10_39 (fun _ _ _ => rfl) ho3 ?_
  refine wp_putI (pc := 22) d_X10_refuse_22 fl_X10_48 (fun _ _ _ => rfl) (Or.inl rfl) ho3 (okI_int _) ?_
  refine wp_nm (fun G4 eG4 => ?_)
  have h := h G4 eG4
  have ho5 := isO_sI eG4 ho3
  refine wp_iconst (pc := 25) (v := 0) d_X10_refuse_25 rfl ?_
  exact wp_zret (pc := 26) d_X10_refuse_26 rfl rfl h
theorem d_X10_accept_0 : decode prog_12_method_5_code 0 = .ok (.aload_n 0, 1) := by decide +kernel
theorem d_X10_accept_1 : decode prog_12_method_5_code 1 = .ok (.getfield 32, 3) := by decide +kernel
theorem d_X10_accept_4 : decode prog_12_method_5_code 4 = .ok (.iconst 4, 1) := by decide +kernel
theorem d_X10_accept_5 : decode prog_12_method_5_code 5 = .ok (.if_icmp .ne 13, 3) := by decide +kernel
theorem d_X10_accept_8 : decode prog_12_method_5_code 8 = .ok (.aload_n 0, 1) := by decide +kernel
theorem d_X10_accept_9 : decode prog_12_method_5_code 9 = .ok (.getfield 35, 3) := by decide +kernel
theorem d_X10_accept_12 : decode prog_12_method_5_code 12 = .ok (.iload_n 1, 1) := by decide +kernel
theorem d_X10_accept_13 : decode prog_12_method_5_code 13 = .ok (.i2l, 1) := by decide +kernel
theorem d_X10_accept_14 : decode prog_12_method_5_code 14 = .ok (.lcmp, 1) := by decide +kernel
theorem d_X10_accept_15 : decode prog_12_method_5_code 15 = .ok (.ifCond .eq 8, 3) := by decide +kernel
theorem d_X10_accept_18 : decode prog_12_method_5_code 18 = .ok (.aload_n 0, 1) := by decide +kernel
theorem d_X10_accept_19 : decode prog_12_method_5_code 19 = .ok (.invokevirtual 87, 3) := by decide +kernel
theorem d_X10_accept_22 : decode prog_12_method_5_code 22 = .ok (.ireturn, 1) := by decide +kernel
theorem d_X10_accept_23 : decode prog_12_method_5_code 23 = .ok (.aload_n 0, 1) := by decide +kernel
theorem d_X10_accept_24 : decode prog_12_method_5_code 24 = .ok (.invokevirtual 84, 3) := by decide +kernel
theorem d_X10_accept_27 : decode prog_12_method_5_code 27 = .ok (.iconst 1, 1) := by decide +kernel
theorem d_X10_accept_28 : decode prog_12_method_5_code 28 = .ok (.ireturn, 1) := by decide +kernel
theorem v_X10_accept_0 {E : EE} {d : Nat} {Q : Option AV → AH → Prop} {x0 : Nat} {x1 : Int32} {G : AH} (h0 : 0 < d) (h : isO E G x0 10 ∧ ((¬ (gI G x0 6) = 4 → wp E d M_X10_accept 18 [some (vr x0), some (vi x1)] [] G Q) ∧ ((gI G x0 6) = 4 → ((gJ G x0 7) = (Int32.toInt64 x1) → wpV E (d - 1) M_X10_step [vr x0] G (fun G2 => Q (some (vi 1)) G2)) ∧ (¬ ((gJ G x0 7) = (Int32.toInt64 x1)) → wp E d M_X10_accept 18 [some (vr x0), some (vi x1)] [] G Q)))) : wp E d M_X10_accept 0 [some (vr x0), some (vi x1)] [] G Q := by
  refine wp_aload_n (pc := 0) d_X10_accept_0 rfl ?_
  obtain ⟨ho1, h⟩ := h
  refine wp_getI (pc := 1) d_X10_accept_1 fl_X10_32 (fun _ _ _ => rfl) ho1 ?_
  refine wp_iconst (pc := 4) (v := 4) d_X10_accept_4 rfl ?_
  refine wp_icmp_ne (pc := 5) (tgt := 18) d_X10_accept_5 (by decide) (fun hc => ?_) (fun hc => ?_)
  · have h := h.1 hc
    refine wp_sub ?_ h
    exact ⟨rfl, ⟨rfl, trivial⟩⟩
  · have h := h.2 hc
    refine wp_aload_n (pc := 8) d_X10_accept_8 rfl ?_
    refine wp_getJ (pc := 9) d_X10_accept_9 fl_X10_35 (fun _ _ _ => rfl) ho1 ?_
    refine wp_iload_n (pc := 12) d_X10_accept_12 rfl ?_
    refine wp_i2l (pc := 13) d_X10_accept_13 ?_
    refine wp_lcmp_eq (pc := 14) (tgt := 23) d_X10_accept_14 d_X10_accept_15 (by decide) (fun hc => ?_) (fun hc => ?_)
    · have h := h.1 hc
      refine wp_aload_n (pc := 23) d_X10_accept_23 rfl ?_
      refine wp_invV (pc := 24) (N := M_X10_step) (As := []) (rest := []) (r := (cn_10, ct_10, 12)) d_X10_accept_24 ml_X10_84 mk_X10_step mv_X10_step h0 ho1 rfl rfl (Nat.le_of_ble_eq_true rfl) ?_
      refine wpM.mono h (fun rr G2 hr => ?_)
      obtain ⟨rfl, h⟩ := hr
      show wp E d M_X10_accept 27 [some (vr _), some (vi _)] [] G2 Q
      refine wp_iconst (pc := 27) (v := 1) d_X10_accept_27 rfl ?_
      exact wp_zret (pc := 28) d_X10_accept_28 rfl rfl h
    · have h := h.2 hc
      refine wp_sub ?_ h
      exact ⟨rfl, ⟨rfl, trivial⟩⟩
theorem v_X10_accept_18 {E : EE} {d : Nat} {Q : Option AV → AH → Prop} {x0 : Nat} {x1 : Int32} {G : AH} (h0 : 0 < d) (h : isO E G x0 10 ∧ (wpI E (d - 1) M_X10_refuse [vr x0] G (fun r1 G2 => okI .boolean r1 ∧ Q (some (vi r1)) G2))) : wp E d M_X10_accept 18 [some (vr x0), some (vi x1)] [] G Q := by
  refine wp_aload_n (pc := 18) d_X10_accept_18 rfl ?_
  obtain ⟨ho3, h⟩ := h
  refine wp_invV (pc := 19) (N := M_X10_refuse) (As := []) (rest := []) (r := (cn_10, ct_10, 12)) d_X10_accept_19 ml_X10_87 mk_X10_refuse mv_X10_refuse h0 ho3 rfl rfl (Nat.le_of_ble_eq_true rfl) ?_
  refine wpM.mono h (fun rr G2 hr => ?_)
  obtain ⟨r1, rfl, h⟩ := hr
  show wp E d M_X10_accept 22 [some (vr _), some (vi _)] [vi _] G2 Q
  exact wp_zret (pc := 22) d_X10_accept_22 rfl h.1.1 h.2
theorem d_X7_init_0 : decode prog_9_method_1_code 0 = .ok (.aload_n 0, 1) := by decide +kernel
theorem d_X7_init_1 : decode prog_9_method_1_code 1 = .ok (.invokespecial 3, 3) := by decide +kernel
theorem d_X7_init_4 : decode prog_9_method_1_code 4 = .ok (.aload_n 0, 1) := by decide +kernel
theorem d_X7_init_5 : decode prog_9_method_1_code 5 = .ok (.iconst 0, 1) := by decide +kernel
theorem d_X7_init_6 : decode prog_9_method_1_code 6 = .ok (.putfield 9, 3) := by decide +kernel
theorem d_X7_init_9 : decode prog_9_method_1_code 9 = .ok (.aload_n 0, 1) := by decide +kernel
theorem d_X7_init_10 : decode prog_9_method_1_code 10 = .ok (.iconst 1, 1) := by decide +kernel
theorem d_X7_init_11 : decode prog_9_method_1_code 11 = .ok (.putfield 15, 3) := by decide +kernel
theorem d_X7_init_14 : decode prog_9_method_1_code 14 = .ok (.aload_n 0, 1) := by decide +kernel
theorem d_X7_init_15 : decode prog_9_method_1_code 15 = .ok (.bipush 12, 2) := by decide +kernel
theorem d_X7_init_17 : decode prog_9_method_1_code 17 = .ok (.newarray .int, 2) := by decide +kernel
theorem d_X7_init_19 : decode prog_9_method_1_code 19 = .ok (.putfield 18, 3) := by decide +kernel
theorem d_X7_init_22 : decode prog_9_method_1_code 22 = .ok (.aload_n 0, 1) := by decide +kernel
theorem d_X7_init_23 : decode prog_9_method_1_code 23 = .ok (.sipush 240, 3) := by decide +kernel
theorem d_X7_init_26 : decode prog_9_method_1_code 26 = .ok (.newarray .int, 2) := by decide +kernel
theorem d_X7_init_28 : decode prog_9_method_1_code 28 = .ok (.putfield 22, 3) := by decide +kernel
theorem d_X7_init_31 : decode prog_9_method_1_code 31 = .ok (.aload_n 0, 1) := by decide +kernel
theorem d_X7_init_32 : decode prog_9_method_1_code 32 = .ok (.bipush 12, 2) := by decide +kernel
theorem d_X7_init_34 : decode prog_9_method_1_code 34 = .ok (.newarray .int, 2) := by decide +kernel
theorem d_X7_init_36 : decode prog_9_method_1_code 36 = .ok (.putfield 25, 3) := by decide +kernel
theorem d_X7_init_39 : decode prog_9_method_1_code 39 = .ok (.return_, 1) := by decide +kernel
theorem v_X7_init_0 {E : EE} {d : Nat} {Q : Option AV → AH → Prop} {x0 : Nat} {G : AH} (h0 : 0 < d) (h : isO E G x0 7 ∧ (∀ G2 : AH, G2 = sI G x0 0 0 → ∀ G4 : AH, G4 = sI G2 x0 1 1 → eB E ≤ gT G4 ∧ (∀ G10 : AH, G10 = nw G4 14 (Int32.toNatClampNeg 12) (Int32.toNatClampNeg 12) → ∀ G14 : AH, G14 = sR G10 x0 2 (gT G4) → ∀ G20 : AH, G20 = nw G14 14 (Int32.toNatClampNeg 240) (Int32.toNatClampNeg 240) → ∀ G24 : AH, G24 = sR G20 x0 3 (gT G14) → ∀ G30 : AH, G30 = nw G24 14 (Int32.toNatClampNeg 12) (Int32.toNatClampNeg 12) → ∀ G34 : AH, G34 = sR G30 x0 4 (gT G24) → Q none G34))) : wp E d M_X7_init 0 [some (vr x0)] [] G Q := by
  refine wp_aload_n (pc := 0) d_X7_init_0 rfl ?_
  obtain ⟨ho1, h⟩ := h
  refine wp_objI (pc := 1) d_X7_init_1 ml_X7_3 in_obj mc_obj h0 ho1 (Nat.le_of_ble_eq_true rfl) ?_
  refine wp_aload_n (pc := 4) d_X7_init_4 rfl ?_
  refine wp_iconst (pc := 5) (v := 0) d_X7_init_5 rfl ?_
  refine wp_putI (pc := 6) d_X7_init_6 fl_X7_9 (fun _ _ _ => rfl) (Or.inl rfl) ho1 (okI_int _) ?_
  refine wp_nm (fun G2 eG2 => ?_)
  have h := h G2 eG2
  have ho3 := isO_sI eG2 ho1
  refine wp_aload_n (pc := 9) d_X7_init_9 rfl ?_
  refine wp_iconst (pc := 10) (v := 1) d_X7_init_10 rfl ?_
  refine wp_putI (pc := 11) d_X7_init_11 fl_X7_15 (fun _ _ _ => rfl) (Or.inl rfl) ho3 (okI_int _) ?_
  refine wp_nm (fun G4 eG4 => ?_)
  have h := h G4 eG4
  have ho5 := isO_sI eG4 ho3
  refine wp_aload_n (pc := 14) d_X7_init_14 rfl ?_
  refine wp_bipush (pc := 15) (v := 12) d_X7_init_15 rfl ?_
  obtain ⟨hb6, h⟩ := h
  refine wp_newa (pc := 17) (t0 := 1) (kd := 14) d_X7_init_17 rfl (fun _ q => by cases q) ac_int (by decide) (fun _ => rfl) rfl (by decide) (by decide) (by decide) ?_
  refine wp_nm (fun G10 eG10 => ?_)
  have h := h G10 eG10
  have ho11 := isO_nwE eG10 ho5
  have hb12 := base_nwE eG10 hb6
  have ho13 := isO_newE eG10 hb6
  refine wp_putR (pc := 19) d_X7_init_19 fl_X7_18 (fun _ _ _ => rfl) (Or.inr ⟨_, rfl⟩) (Or.inr ⟨rfl, rfl, rfl⟩) ho11 ?_
  refine wp_nm (fun G14 eG14 => ?_)
  have h := h G14 eG14
  have ho15 := isO_sR eG14 ho11
  have hb16 := base_sR eG14 hb12
  refine wp_aload_n (pc := 22) d_X7_init_22 rfl ?_
  refine wp_sipush (pc := 23) (v := 240) d_X7_init_23 rfl ?_
  refine wp_newa (pc := 26) (t0 := 1) (kd := 14) d_X7_init_26 rfl (fun _ q => by cases q) ac_int (by decide) (fun _ => rfl) rfl (by decide) (by decide) (by decide) ?_
  refine wp_nm (fun G20 eG20 => ?_)
  have h := h G20 eG20
  have ho21 := isO_nwE eG20 ho15
  have hb22 := base_nwE eG20 hb16
  have ho23 := isO_newE eG20 hb16
  refine wp_putR (pc := 28) d_X7_init_28 fl_X7_22 (fun _ _ _ => rfl) (Or.inr ⟨_, rfl⟩) (Or.inr ⟨rfl, rfl, rfl⟩) ho21 ?_
  refine wp_nm (fun G24 eG24 => ?_)
  have h := h G24 eG24
  have ho25 := isO_sR eG24 ho21
  have hb26 := base_sR eG24 hb22
  refine wp_aload_n (pc := 31) d_X7_init_31 rfl ?_
  refine wp_bipush (pc := 32) (v := 12) d_X7_init_32 rfl ?_
  refine wp_newa (pc := 34) (t0 := 1) (kd := 14) d_X7_init_34 rfl (fun _ q => by cases q) ac_int (by decide) (fun _ => rfl) rfl (by decide) (by decide) (by decide) ?_
  refine wp_nm (fun G30 eG30 => ?_)
  have h := h G30 eG30
  have ho31 := isO_nwE eG30 ho25
  have hb32 := base_nwE eG30 hb26
  have ho33 := isO_newE eG30 hb26
  refine wp_putR (pc := 36) d_X7_init_36 fl_X7_25 (fun _ _ _ => rfl) (Or.inr ⟨_, rfl⟩) (Or.inr ⟨rfl, rfl, rfl⟩) ho31 ?_
  refine wp_nm (fun G34 eG34 => ?_)
  have h := h G34 eG34
  have ho35 := isO_sR eG34 ho31
  have hb36 := base_sR eG34 hb32
  exact wp_vret (pc := 39) d_X7_init_39 rfl h
theorem d_X7_clear_0 : decode prog_9_method_2_code 0 = .ok (.aload_n 0, 1) := by decide +kernel
theorem d_X7_clear_1 : decode prog_9_method_2_code 1 = .ok (.iconst 0, 1) := by decide +kernel
theorem d_X7_clear_2 : decode prog_9_method_2_code 2 = .ok (.putfield 9, 3) := by decide +kernel
theorem d_X7_clear_5 : decode prog_9_method_2_code 5 = .ok (.aload_n 0, 1) := by decide +kernel
theorem d_X7_clear_6 : decode prog_9_method_2_code 6 = .ok (.iconst 1, 1) := by decide +kernel
theorem d_X7_clear_7 : decode prog_9_method_2_code 7 = .ok (.putfield 15, 3) := by decide +kernel
theorem d_X7_clear_10 : decode prog_9_method_2_code 10 = .ok (.return_, 1) := by decide +kernel
theorem v_X7_clear_0 {E : EE} {d : Nat} {Q : Option AV → AH → Prop} {x0 : Nat} {G : AH} (h : isO E G x0 7 ∧ (∀ G2 : AH, G2 = sI G x0 0 0 → ∀ G4 : AH, G4 = sI G2 x0 1 1 → Q none G4)) : wp E d M_X7_clear 0 [some (vr x0)] [] G Q := by
  refine wp_aload_n (pc := 0) d_X7_clear_0 rfl ?_
  refine wp_iconst (pc := 1) (v := 0) d_X7_clear_1 rfl ?_
  obtain ⟨ho1, h⟩ := h
  refine wp_putI (pc := 2) d_X7_clear_2 fl_X7_9 (fun _ _ _ => rfl) (Or.inl rfl) ho1 (okI_int _) ?_
  refine wp_nm (fun G2 eG2 => ?_)
  have h := h G2 eG2
  have ho3 := isO_sI eG2 ho1
  refine wp_aload_n (pc := 5) d_X7_clear_5 rfl ?_
  refine wp_iconst (pc := 6) (v := 1) d_X7_clear_6 rfl ?_
  refine wp_putI (pc := 7) d_X7_clear_7 fl_X7_15 (fun _ _ _ => rfl) (Or.inl rfl) ho3 (okI_int _) ?_
  refine wp_nm (fun G4 eG4 => ?_)
  have h := h G4 eG4
  have ho5 := isO_sI eG4 ho3
  exact wp_vret (pc := 10) d_X7_clear_10 rfl h
theorem d_X7_add_0 : decode prog_9_method_3_code 0 = .ok (.aload_n 0, 1) := by decide +kernel
theorem d_X7_add_1 : decode prog_9_method_3_code 1 = .ok (.getfield 9, 3) := by decide +kernel
theorem d_X7_add_4 : decode prog_9_method_3_code 4 = .ok (.bipush 12, 2) := by decide +kernel
theorem d_X7_add_6 : decode prog_9_method_3_code 6 = .ok (.if_icmp .ge 32, 3) := by decide +kernel
theorem d_X7_add_9 : decode prog_9_method_3_code 9 = .ok (.iload_n 2, 1) := by decide +kernel
theorem d_X7_add_10 : decode prog_9_method_3_code 10 = .ok (.iconst 1, 1) := by decide +kernel
theorem d_X7_add_11 : decode prog_9_method_3_code 11 = .ok (.if_icmp .lt 27, 3) := by decide +kernel
theorem d_X7_add_14 : decode prog_9_method_3_code 14 = .ok (.iload_n 2, 1) := by decide +kernel
theorem d_X7_add_15 : decode prog_9_method_3_code 15 = .ok (.bipush 20, 2) := by decide +kernel
theorem d_X7_add_17 : decode prog_9_method_3_code 17 = .ok (.if_icmp .gt 21, 3) := by decide +kernel
theorem d_X7_add_20 : decode prog_9_method_3_code 20 = .ok (.iload_n 2, 1) := by decide +kernel
theorem d_X7_add_21 : decode prog_9_method_3_code 21 = .ok (.aload_n 1, 1) := by decide +kernel
theorem d_X7_add_22 : decode prog_9_method_3_code 22 = .ok (.arraylength, 1) := by decide +kernel
theorem d_X7_add_23 : decode prog_9_method_3_code 23 = .ok (.if_icmp .gt 15, 3) := by decide +kernel
theorem d_X7_add_26 : decode prog_9_method_3_code 26 = .ok (.aload_n 0, 1) := by decide +kernel
theorem d_X7_add_27 : decode prog_9_method_3_code 27 = .ok (.getfield 15, 3) := by decide +kernel
theorem d_X7_add_30 : decode prog_9_method_3_code 30 = .ok (.iload_n 2, 1) := by decide +kernel
theorem d_X7_add_31 : decode prog_9_method_3_code 31 = .ok (.imul, 1) := by decide +kernel
theorem d_X7_add_32 : decode prog_9_method_3_code 32 = .ok (.sipush 20000, 3) := by decide +kernel
theorem d_X7_add_35 : decode prog_9_method_3_code 35 = .ok (.if_icmp .le 5, 3) := by decide +kernel
theorem d_X7_add_38 : decode prog_9_method_3_code 38 = .ok (.iconst 0, 1) := by decide +kernel
theorem d_X7_add_39 : decode prog_9_method_3_code 39 = .ok (.ireturn, 1) := by decide +kernel
theorem d_X7_add_40 : decode prog_9_method_3_code 40 = .ok (.iconst 0, 1) := by decide +kernel
theorem d_X7_add_41 : decode prog_9_method_3_code 41 = .ok (.istore_n 3, 1) := by decide +kernel
theorem d_X7_add_42 : decode prog_9_method_3_code 42 = .ok (.iload_n 3, 1) := by decide +kernel
theorem d_X7_add_43 : decode prog_9_method_3_code 43 = .ok (.aload_n 0, 1) := by decide +kernel
theorem d_X7_add_44 : decode prog_9_method_3_code 44 = .ok (.getfield 9, 3) := by decide +kernel
theorem d_X7_add_47 : decode prog_9_method_3_code 47 = .ok (.if_icmp .ge 19, 3) := by decide +kernel
theorem d_X7_add_50 : decode prog_9_method_3_code 50 = .ok (.aload_n 0, 1) := by decide +kernel
theorem d_X7_add_51 : decode prog_9_method_3_code 51 = .ok (.getfield 25, 3) := by decide +kernel
theorem d_X7_add_54 : decode prog_9_method_3_code 54 = .ok (.iload_n 3, 1) := by decide +kernel
theorem d_X7_add_55 : decode prog_9_method_3_code 55 = .ok (.dup2, 1) := by decide +kernel
theorem d_X7_add_56 : decode prog_9_method_3_code 56 = .ok (.iaload, 1) := by decide +kernel
theorem d_X7_add_57 : decode prog_9_method_3_code 57 = .ok (.iload_n 2, 1) := by decide +kernel
theorem d_X7_add_58 : decode prog_9_method_3_code 58 = .ok (.imul, 1) := by decide +kernel
theorem d_X7_add_59 : decode prog_9_method_3_code 59 = .ok (.iastore, 1) := by decide +kernel
theorem d_X7_add_60 : decode prog_9_method_3_code 60 = .ok (.iinc 3 1, 3) := by decide +kernel
theorem d_X7_add_63 : decode prog_9_method_3_code 63 = .ok (.goto (-21), 3) := by decide +kernel
theorem d_X7_add_66 : decode prog_9_method_3_code 66 = .ok (.iconst 0, 1) := by decide +kernel
theorem d_X7_add_67 : decode prog_9_method_3_code 67 = .ok (.istore_n 3, 1) := by decide +kernel
theorem d_X7_add_68 : decode prog_9_method_3_code 68 = .ok (.iload_n 3, 1) := by decide +kernel
theorem d_X7_add_69 : decode prog_9_method_3_code 69 = .ok (.iload_n 2, 1) := by decide +kernel
theorem d_X7_add_70 : decode prog_9_method_3_code 70 = .ok (.if_icmp .ge 26, 3) := by decide +kernel
theorem d_X7_add_73 : decode prog_9_method_3_code 73 = .ok (.aload_n 0, 1) := by decide +kernel
theorem d_X7_add_74 : decode prog_9_method_3_code 74 = .ok (.getfield 22, 3) := by decide +kernel
theorem d_X7_add_77 : decode prog_9_method_3_code 77 = .ok (.aload_n 0, 1) := by decide +kernel
theorem d_X7_add_78 : decode prog_9_method_3_code 78 = .ok (.getfield 9, 3) := by decide +kernel
theorem d_X7_add_81 : decode prog_9_method_3_code 81 = .ok (.bipush 20, 2) := by decide +kernel
theorem d_X7_add_83 : decode prog_9_method_3_code 83 = .ok (.imul, 1) := by decide +kernel
theorem d_X7_add_84 : decode prog_9_method_3_code 84 = .ok (.iload_n 3, 1) := by decide +kernel
theorem d_X7_add_85 : decode prog_9_method_3_code 85 = .ok (.iadd, 1) := by decide +kernel
theorem d_X7_add_86 : decode prog_9_method_3_code 86 = .ok (.aload_n 1, 1) := by decide +kernel
theorem d_X7_add_87 : decode prog_9_method_3_code 87 = .ok (.iload_n 3, 1) := by decide +kernel
theorem d_X7_add_88 : decode prog_9_method_3_code 88 = .ok (.iaload, 1) := by decide +kernel
theorem d_X7_add_89 : decode prog_9_method_3_code 89 = .ok (.iastore, 1) := by decide +kernel
theorem d_X7_add_90 : decode prog_9_method_3_code 90 = .ok (.iinc 3 1, 3) := by decide +kernel
theorem d_X7_add_93 : decode prog_9_method_3_code 93 = .ok (.goto (-25), 3) := by decide +kernel
theorem d_X7_add_96 : decode prog_9_method_3_code 96 = .ok (.aload_n 0, 1) := by decide +kernel
theorem d_X7_add_97 : decode prog_9_method_3_code 97 = .ok (.getfield 18, 3) := by decide +kernel
theorem d_X7_add_100 : decode prog_9_method_3_code 100 = .ok (.aload_n 0, 1) := by decide +kernel
theorem d_X7_add_101 : decode prog_9_method_3_code 101 = .ok (.getfield 9, 3) := by decide +kernel
theorem d_X7_add_104 : decode prog_9_method_3_code 104 = .ok (.iload_n 2, 1) := by decide +kernel
theorem d_X7_add_105 : decode prog_9_method_3_code 105 = .ok (.iastore, 1) := by decide +kernel
theorem d_X7_add_106 : decode prog_9_method_3_code 106 = .ok (.aload_n 0, 1) := by decide +kernel
theorem d_X7_add_107 : decode prog_9_method_3_code 107 = .ok (.getfield 25, 3) := by decide +kernel
theorem d_X7_add_110 : decode prog_9_method_3_code 110 = .ok (.aload_n 0, 1) := by decide +kernel
theorem d_X7_add_111 : decode prog_9_method_3_code 111 = .ok (.getfield 9, 3) := by decide +kernel
theorem d_X7_add_114 : decode prog_9_method_3_code 114 = .ok (.iconst 1, 1) := by decide +kernel
theorem d_X7_add_115 : decode prog_9_method_3_code 115 = .ok (.iastore, 1) := by decide +kernel
theorem d_X7_add_116 : decode prog_9_method_3_code 116 = .ok (.aload_n 0, 1) := by decide +kernel
theorem d_X7_add_117 : decode prog_9_method_3_code 117 = .ok (.dup, 1) := by decide +kernel
theorem d_X7_add_118 : decode prog_9_method_3_code 118 = .ok (.getfield 15, 3) := by decide +kernel
theorem d_X7_add_121 : decode prog_9_method_3_code 121 = .ok (.iload_n 2, 1) := by decide +kernel
theorem d_X7_add_122 : decode prog_9_method_3_code 122 = .ok (.imul, 1) := by decide +kernel
theorem d_X7_add_123 : decode prog_9_method_3_code 123 = .ok (.putfield 15, 3) := by decide +kernel
theorem d_X7_add_126 : decode prog_9_method_3_code 126 = .ok (.aload_n 0, 1) := by decide +kernel
theorem d_X7_add_127 : decode prog_9_method_3_code 127 = .ok (.dup, 1) := by decide +kernel
theorem d_X7_add_128 : decode prog_9_method_3_code 128 = .ok (.getfield 9, 3) := by decide +kernel
theorem d_X7_add_131 : decode prog_9_method_3_code 131 = .ok (.iconst 1, 1) := by decide +kernel
theorem d_X7_add_132 : decode prog_9_method_3_code 132 = .ok (.iadd, 1) := by decide +kernel
theorem d_X7_add_133 : decode prog_9_method_3_code 133 = .ok (.putfield 9, 3) := by decide +kernel
theorem d_X7_add_136 : decode prog_9_method_3_code 136 = .ok (.iconst 1, 1) := by decide +kernel
theorem d_X7_add_137 : decode prog_9_method_3_code 137 = .ok (.ireturn, 1) := by decide +kernel
theorem v_X7_add_0 {E : EE} {d : Nat} {Q : Option AV → AH → Prop} {x0 : Nat} {x1 : Nat} {x2 : Int32} {G : AH} (h : isO E G x0 7 ∧ ((12 ≤ (gI G x0 0) → Q (some (vi 0)) G) ∧ (¬ (12 ≤ (gI G x0 0)) → (x2 < 1 → Q (some (vi 0)) G) ∧ (¬ (x2 < 1) → (20 < x2 → Q (some (vi 0)) G) ∧ (¬ (20 < x2) → isO E G x1 14 ∧ (((nI (gN G x1)) < x2 → Q (some (vi 0)) G) ∧ (¬ ((nI (gN G x1)) < x2) → (((gI G x0 1) * x2) ≤ 20000 → wp E d M_X7_add 42 [some (vr x0), some (vr x1), some (vi x2), some (vi 0)] [] G Q) ∧ (¬ (((gI G x0 1) * x2) ≤ 20000) → Q (some (vi 0)) G)))))))) : wp E d M_X7_add 0 [some (vr x0), some (vr x1), some (vi x2), none] [] G Q := by
  refine wp_aload_n (pc := 0) d_X7_add_0 rfl ?_
  obtain ⟨ho1, h⟩ := h
  refine wp_getI (pc := 1) d_X7_add_1 fl_X7_9 (fun _ _ _ => rfl) ho1 ?_
  refine wp_bipush (pc := 4) (v := 12) d_X7_add_4 rfl ?_
  refine wp_icmp_ge (pc := 6) (tgt := 38) d_X7_add_6 (by decide) (fun hc => ?_) (fun hc => ?_)
  · have h := h.1 hc
    refine wp_iconst (pc := 38) (v := 0) d_X7_add_38 rfl ?_
    exact wp_zret (pc := 39) d_X7_add_39 rfl rfl h
  · have h := h.2 hc
    refine wp_iload_n (pc := 9) d_X7_add_9 rfl ?_
    refine wp_iconst (pc := 10) (v := 1) d_X7_add_10 rfl ?_
    refine wp_icmp_lt (pc := 11) (tgt := 38) d_X7_add_11 (by decide) (fun hc => ?_) (fun hc => ?_)
    · have h := h.1 hc
      refine wp_iconst (pc := 38) (v := 0) d_X7_add_38 rfl ?_
      exact wp_zret (pc := 39) d_X7_add_39 rfl rfl h
    · have h := h.2 hc
      refine wp_iload_n (pc := 14) d_X7_add_14 rfl ?_
      refine wp_bipush (pc := 15) (v := 20) d_X7_add_15 rfl ?_
      refine wp_icmp_gt (pc := 17) (tgt := 38) d_X7_add_17 (by decide) (fun hc => ?_) (fun hc => ?_)
      · have h := h.1 hc
        refine wp_iconst (pc := 38) (v := 0) d_X7_add_38 rfl ?_
        exact wp_zret (pc := 39) d_X7_add_39 rfl rfl h
      · have h := h.2 hc
        refine wp_iload_n (pc := 20) d_X7_add_20 rfl ?_
        refine wp_aload_n (pc := 21) d_X7_add_21 rfl ?_
        obtain ⟨ho2, h⟩ := h
        refine wp_alen (pc := 22) d_X7_add_22 ho2 (by decide) rfl ?_
        refine wp_icmp_gt (pc := 23) (tgt := 38) d_X7_add_23 (by decide) (fun hc => ?_) (fun hc => ?_)
        · have h := h.1 hc
          refine wp_iconst (pc := 38) (v := 0) d_X7_add_38 rfl ?_
          exact wp_zret (pc := 39) d_X7_add_39 rfl rfl h
        · have h := h.2 hc
          refine wp_aload_n (pc := 26) d_X7_add_26 rfl ?_
          refine wp_getI (pc := 27) d_X7_add_27 fl_X7_15 (fun _ _ _ => rfl) ho1 ?_
          refine wp_iload_n (pc := 30) d_X7_add_30 rfl ?_
          refine wp_imul (pc := 31) d_X7_add_31 ?_
          refine wp_sipush (pc := 32) (v := 20000) d_X7_add_32 rfl ?_
          refine wp_icmp_le (pc := 35) (tgt := 40) d_X7_add_35 (by decide) (fun hc => ?_) (fun hc => ?_)
          · have h := h.1 hc
            refine wp_iconst (pc := 40) (v := 0) d_X7_add_40 rfl ?_
            refine wp_istore_n (pc := 41) (lv' := [some (vr _), some (vr _), some (vi _), some (vi _)]) d_X7_add_41 (by decide) rfl ?_
            refine wp_sub ?_ h
            exact ⟨rfl, ⟨rfl, ⟨rfl, ⟨rfl, trivial⟩⟩⟩⟩
          · have h := h.2 hc
            refine wp_iconst (pc := 38) (v := 0) d_X7_add_38 rfl ?_
            exact wp_zret (pc := 39) d_X7_add_39 rfl rfl h
theorem v_X7_add_42 {E : EE} {d : Nat} {Q : Option AV → AH → Prop} {x0 : Nat} {x1 : Nat} {x2 : Int32} {x3 : Int32} {G : AH} (h : isO E G x0 7 ∧ (((gI G x0 0) ≤ x3 → wp E d M_X7_add 68 [some (vr x0), some (vr x1), some (vi x2), some (vi 0)] [] G Q) ∧ (¬ ((gI G x0 0) ≤ x3) → isO E G (gR G x0 4) 14 ∧ (vp_in x3 (gN G (gR G x0 4)) ∧ (vp_in x3 (gN G (gR G x0 4)) ∧ (wp E d M_X7_add 42 [some (vr x0), some (vr x1), some (vi x2), some (vi (x3 + 1))] [] (sI G (gR G x0 4) (Int32.toNatClampNeg x3) ((gI G (gR G x0 4) (Int32.toNatClampNeg x3)) * x2)) Q)))))) : wp E d M_X7_add 42 [some (vr x0), some (vr x1), some (vi x2), some (vi x3)] [] G Q := by
  refine wp_iload_n (pc := 42) d_X7_add_42 rfl ?_
  refine wp_aload_n (pc := 43) d_X7_add_43 rfl ?_
  obtain ⟨ho1, h⟩ := h
  refine wp_getI (pc := 44) d_X7_add_44 fl_X7_9 (fun _ _ _ => rfl) ho1 ?_
  refine wp_icmp_ge (pc := 47) (tgt := 66) d_X7_add_47 (by decide) (fun hc => ?_) (fun hc => ?_)
  · have h := h.1 hc
    refine wp_iconst (pc := 66) (v := 0) d_X7_add_66 rfl ?_
    refine wp_istore_n (pc := 67) (lv' := [some (vr _), some (vr _), some (vi _), some (vi _)]) d_X7_add_67 (by decide) rfl ?_
    refine wp_sub ?_ h
    exact ⟨rfl, ⟨rfl, ⟨rfl, ⟨rfl, trivial⟩⟩⟩⟩
  · have h := h.2 hc
    refine wp_aload_n (pc := 50) d_X7_add_50 rfl ?_
    refine wp_getR (pc := 51) d_X7_add_51 fl_X7_25 (fun _ _ _ => rfl) ho1 ?_
    refine wp_iload_n (pc := 54) d_X7_add_54 rfl ?_
    refine wp_dup2 (pc := 55) d_X7_add_55 (c1_i _) (c1_r _) ?_
    obtain ⟨ho2, h⟩ := h
    obtain ⟨hi3, h⟩ := h
    refine wp_iald (pc := 56) d_X7_add_56 ho2 hi3 ?_
    refine wp_iload_n (pc := 57) d_X7_add_57 rfl ?_
    refine wp_imul (pc := 58) d_X7_add_58 ?_
    obtain ⟨hi4, h⟩ := h
    refine wp_iast (pc := 59) d_X7_add_59 ho2 hi4 ?_
    refine wp_iinc (pc := 60) (v := 1) (lv' := [some (vr _), some (vr _), some (vi _), some (vi _)]) d_X7_add_60 (by decide) rfl rfl rfl ?_
    refine wp_goto (pc := 63) (tgt := 42) d_X7_add_63 (by decide) ?_
    refine wp_sub ?_ h
    exact ⟨rfl, ⟨rfl, ⟨rfl, ⟨rfl, trivial⟩⟩⟩⟩
theorem v_X7_add_68 {E : EE} {d : Nat} {Q : Option AV → AH → Prop} {x0 : Nat} {x1 : Nat} {x2 : Int32} {x3 : Int32} {G : AH} (h : (x2 ≤ x3 → isO E G x0 7 ∧ (isO E G (gR G x0 2) 14 ∧ (vp_in (gI G x0 0) (gN G (gR G x0 2)) ∧ (∀ G4 : AH, G4 = sI G (gR G x0 2) (Int32.toNatClampNeg (gI G x0 0)) x2 → isO E G4 (gR G4 x0 4) 14 ∧ (vp_in (gI G4 x0 0) (gN G4 (gR G4 x0 4)) ∧ (∀ G8 : AH, G8 = sI G4 (gR G4 x0 4) (Int32.toNatClampNeg (gI G4 x0 0)) 1 → ∀ G10 : AH, G10 = sI G8 x0 1 ((gI G8 x0 1) * x2) → ∀ G12 : AH, G12 = sI G10 x0 0 ((gI G10 x0 0) + 1) → Q (some (vi 1)) G12)))))) ∧ (¬ (x2 ≤ x3) → isO E G x0 7 ∧ (isO E G x1 14 ∧ (vp_in x3 (gN G x1) ∧ (isO E G (gR G x0 3) 14 ∧ (vp_in (((gI G x0 0) * 20) + x3) (gN G (gR G x0 3)) ∧ (∀ G19 : AH, G19 = sI G (gR G x0 3) (Int32.toNatClampNeg (((gI G x0 0) * 20) + x3)) (gI G x1 (Int32.toNatClampNeg x3)) → wp E d M_X7_add 68 [some (vr x0), some (vr x1), some (vi x2), some (vi (x3 + 1))] [] G19 Q))))))) : wp E d M_X7_add 68 [some (vr x0), some (vr x1), some (vi x2), some (vi x3)] [] G Q := by
  refine wp_iload_n (pc := 68) d_X7_add_68 rfl ?_
  refine wp_iload_n (pc := 69) d_X7_add_69 rfl ?_
  refine wp_icmp_ge (pc := 70) (tgt := 96) d_X7_add_70 (by decide) (fun hc => ?_) (fun hc => ?_)
  · have h := h.1 hc
    refine wp_aload_n (pc := 96) d_X7_add_96 rfl ?_
    obtain ⟨ho1, h⟩ := h
    refine wp_getR (pc := 97) d_X7_add_97 fl_X7_18 (fun _ _ _ => rfl) ho1 ?_
    refine wp_aload_n (pc := 100) d_X7_add_100 rfl ?_
    refine wp_getI (pc := 101) d_X7_add_101 fl_X7_9 (fun _ _ _ => rfl) ho1 ?_
    refine wp_iload_n (pc := 104) d_X7_add_104 rfl ?_
    obtain ⟨ho2, h⟩ := h
    obtain ⟨hi3, h⟩ := h
    refine wp_iast (pc := 105) d_X7_add_105 ho2 hi3 ?_
    refine wp_nm (fun G4 eG4 => ?_)
    have h := h G4 eG4
    have ho5 := isO_sI eG4 ho1
    refine wp_aload_n (pc := 106) d_X7_add_106 rfl ?_
    refine wp_getR (pc := 107) d_X7_add_107 fl_X7_25 (fun _ _ _ => rfl) ho5 ?_
    refine wp_aload_n (pc := 110) d_X7_add_110 rfl ?_
    refine wp_getI (pc := 111) d_X7_add_111 fl_X7_9 (fun _ _ _ => rfl) ho5 ?_
    refine wp_iconst (pc := 114) (v := 1) d_X7_add_114 rfl ?_
    obtain ⟨ho6, h⟩ := h
    obtain ⟨hi7, h⟩ := h
    refine wp_iast (pc := 115) d_X7_add_115 ho6 hi7 ?_
    refine wp_nm (fun G8 eG8 => ?_)
    have h := h G8 eG8
    have ho9 := isO_sI eG8 ho5
    refine wp_aload_n (pc := 116) d_X7_add_116 rfl ?_
    refine wp_dup (pc := 117) d_X7_add_117 (c1_r _) ?_
    refine wp_getI (pc := 118) d_X7_add_118 fl_X7_15 (fun _ _ _ => rfl) ho9 ?_
    refine wp_iload_n (pc := 121) d_X7_add_121 rfl ?_
    refine wp_imul (pc := 122) d_X7_add_122 ?_
    refine wp_putI (pc := 123) d_X7_add_123 fl_X7_15 (fun _ _ _ => rfl) (Or.inl rfl) ho9 (okI_int _) ?_
    refine wp_nm (fun G10 eG10 => ?_)
    have h := h G10 eG10
    have ho11 := isO_sI eG10 ho9
    refine wp_aload_n (pc := 126) d_X7_add_126 rfl ?_
    refine wp_dup (pc := 127) d_X7_add_127 (c1_r _) ?_
    refine wp_getI (pc := 128) d_X7_add_128 fl_X7_9 (fun _ _ _ => rfl) ho11 ?_
    refine wp_iconst (pc := 131) (v := 1) d_X7_add_131 rfl ?_
    refine wp_iadd (pc := 132) d_X7_add_132 ?_
    refine wp_putI (pc := 133) d_X7_add_133 fl_X7_9 (fun _ _ _ => rfl) (Or.inl rfl) ho11 (okI_int _) ?_
    refine wp_nm (fun G12 eG12 => ?_)
    have h := h G12 eG12
    have ho13 := isO_sI eG12 ho11
    refine wp_iconst (pc := 136) (v := 1) d_X7_add_136 rfl ?_
    exact wp_zret (pc := 137) d_X7_add_137 rfl rfl h
  · have h := h.2 hc
    refine wp_aload_n (pc := 73) d_X7_add_73 rfl ?_
    obtain ⟨ho14, h⟩ := h
    refine wp_getR (pc := 74) d_X7_add_74 fl_X7_22 (fun _ _ _ => rfl) ho14 ?_
    refine wp_aload_n (pc := 77) d_X7_add_77 rfl ?_
    refine wp_getI (pc := 78) d_X7_add_78 fl_X7_9 (fun _ _ _ => rfl) ho14 ?_
    refine wp_bipush (pc := 81) (v := 20) d_X7_add_81 rfl ?_
    refine wp_imul (pc := 83) d_X7_add_83 ?_
    refine wp_iload_n (pc := 84) d_X7_add_84 rfl ?_
    refine wp_iadd (pc := 85) d_X7_add_85 ?_
    refine wp_aload_n (pc := 86) d_X7_add_86 rfl ?_
    refine wp_iload_n (pc := 87) d_X7_add_87 rfl ?_
    obtain ⟨ho15, h⟩ := h
    obtain ⟨hi16, h⟩ := h
    refine wp_iald (pc := 88) d_X7_add_88 ho15 hi16 ?_
    obtain ⟨ho17, h⟩ := h
    obtain ⟨hi18, h⟩ := h
    refine wp_iast (pc := 89) d_X7_add_89 ho17 hi18 ?_
    refine wp_nm (fun G19 eG19 => ?_)
    have h := h G19 eG19
    have ho20 := isO_sI eG19 ho14
    have ho21 := isO_sI eG19 ho15
    refine wp_iinc (pc := 90) (v := 1) (lv' := [some (vr _), some (vr _), some (vi _), some (vi _)]) d_X7_add_90 (by decide) rfl rfl rfl ?_
    refine wp_goto (pc := 93) (tgt := 68) d_X7_add_93 (by decide) ?_
    refine wp_sub ?_ h
    exact ⟨rfl, ⟨rfl, ⟨rfl, ⟨rfl, trivial⟩⟩⟩⟩
theorem d_X7_placeOfValue_0 : decode prog_9_method_7_code 0 = .ok (.iload_n 1, 1) := by decide +kernel
theorem d_X7_placeOfValue_1 : decode prog_9_method_7_code 1 = .ok (.ifCond .lt 11, 3) := by decide +kernel
theorem d_X7_placeOfValue_4 : decode prog_9_method_7_code 4 = .ok (.iload_n 1, 1) := by decide +kernel
theorem d_X7_placeOfValue_5 : decode prog_9_method_7_code 5 = .ok (.aload_n 0, 1) := by decide +kernel
theorem d_X7_placeOfValue_6 : decode prog_9_method_7_code 6 = .ok (.getfield 9, 3) := by decide +kernel
theorem d_X7_placeOfValue_9 : decode prog_9_method_7_code 9 = .ok (.if_icmp .lt 5, 3) := by decide +kernel
theorem d_X7_placeOfValue_12 : decode prog_9_method_7_code 12 = .ok (.iconst (-1), 1) := by decide +kernel
theorem d_X7_placeOfValue_13 : decode prog_9_method_7_code 13 = .ok (.ireturn, 1) := by decide +kernel
theorem d_X7_placeOfValue_14 : decode prog_9_method_7_code 14 = .ok (.iconst 0, 1) := by decide +kernel
theorem d_X7_placeOfValue_15 : decode prog_9_method_7_code 15 = .ok (.istore_n 3, 1) := by decide +kernel
theorem d_X7_placeOfValue_16 : decode prog_9_method_7_code 16 = .ok (.iload_n 3, 1) := by decide +kernel
theorem d_X7_placeOfValue_17 : decode prog_9_method_7_code 17 = .ok (.aload_n 0, 1) := by decide +kernel
theorem d_X7_placeOfValue_18 : decode prog_9_method_7_code 18 = .ok (.getfield 18, 3) := by decide +kernel
theorem d_X7_placeOfValue_21 : decode prog_9_method_7_code 21 = .ok (.iload_n 1, 1) := by decide +kernel
theorem d_X7_placeOfValue_22 : decode prog_9_method_7_code 22 = .ok (.iaload, 1) := by decide +kernel
theorem d_X7_placeOfValue_23 : decode prog_9_method_7_code 23 = .ok (.if_icmp .ge 26, 3) := by decide +kernel
theorem d_X7_placeOfValue_26 : decode prog_9_method_7_code 26 = .ok (.aload_n 0, 1) := by decide +kernel
theorem d_X7_placeOfValue_27 : decode prog_9_method_7_code 27 = .ok (.getfield 22, 3) := by decide +kernel
theorem d_X7_placeOfValue_30 : decode prog_9_method_7_code 30 = .ok (.iload_n 1, 1) := by decide +kernel
theorem d_X7_placeOfValue_31 : decode prog_9_method_7_code 31 = .ok (.bipush 20, 2) := by decide +kernel
theorem d_X7_placeOfValue_33 : decode prog_9_method_7_code 33 = .ok (.imul, 1) := by decide +kernel
theorem d_X7_placeOfValue_34 : decode prog_9_method_7_code 34 = .ok (.iload_n 3, 1) := by decide +kernel
theorem d_X7_placeOfValue_35 : decode prog_9_method_7_code 35 = .ok (.iadd, 1) := by decide +kernel
theorem d_X7_placeOfValue_36 : decode prog_9_method_7_code 36 = .ok (.iaload, 1) := by decide +kernel
theorem d_X7_placeOfValue_37 : decode prog_9_method_7_code 37 = .ok (.iload_n 2, 1) := by decide +kernel
theorem d_X7_placeOfValue_38 : decode prog_9_method_7_code 38 = .ok (.if_icmp .ne 5, 3) := by decide +kernel
theorem d_X7_placeOfValue_41 : decode prog_9_method_7_code 41 = .ok (.iload_n 3, 1) := by decide +kernel
theorem d_X7_placeOfValue_42 : decode prog_9_method_7_code 42 = .ok (.ireturn, 1) := by decide +kernel
theorem d_X7_placeOfValue_43 : decode prog_9_method_7_code 43 = .ok (.iinc 3 1, 3) := by decide +kernel
theorem d_X7_placeOfValue_46 : decode prog_9_method_7_code 46 = .ok (.goto (-30), 3) := by decide +kernel
theorem d_X7_placeOfValue_49 : decode prog_9_method_7_code 49 = .ok (.iconst (-1), 1) := by decide +kernel
theorem d_X7_placeOfValue_50 : decode prog_9_method_7_code 50 = .ok (.ireturn, 1) := by decide +kernel
theorem v_X7_placeOfValue_0 {E : EE} {d : Nat} {Q : Option AV → AH → Prop} {x0 : Nat} {x1 : Int32} {x2 : Int32} {G : AH} (h : (x1 < 0 → Q (some (vi (-1))) G) ∧ (¬ (x1 < 0) → isO E G x0 7 ∧ ((x1 < (gI G x0 0) → wp E d M_X7_placeOfValue 16 [some (vr x0), some (vi x1), some (vi x2), some (vi 0)] [] G Q) ∧ (¬ (x1 < (gI G x0 0)) → Q (some (vi (-1))) G)))) : wp E d M_X7_placeOfValue 0 [some (vr x0), some (vi x1), some (vi x2), none] [] G Q := by
  refine wp_iload_n (pc := 0) d_X7_placeOfValue_0 rfl ?_
  refine wp_if_lt (pc := 1) (tgt := 12) d_X7_placeOfValue_1 (by decide) (fun hc => ?_) (fun hc => ?_)
  · have h := h.1 hc
    refine wp_iconst (pc := 12) (v := (-1)) d_X7_placeOfValue_12 rfl ?_
    exact wp_iret (pc := 13) d_X7_placeOfValue_13 rfl h
  · have h := h.2 hc
    refine wp_iload_n (pc := 4) d_X7_placeOfValue_4 rfl ?_
    refine wp_aload_n (pc := 5) d_X7_placeOfValue_5 rfl ?_
    obtain ⟨ho1, h⟩ := h
    refine wp_getI (pc := 6) d_X7_placeOfValue_6 fl_X7_9 (fun _ _ _ => rfl) ho1 ?_
    refine wp_icmp_lt (pc := 9) (tgt := 14) d_X7_placeOfValue_9 (by decide) (fun hc => ?_) (fun hc => ?_)
    · have h := h.1 hc
      refine wp_iconst (pc := 14) (v := 0) d_X7_placeOfValue_14 rfl ?_
      refine wp_istore_n (pc := 15) (lv' := [some (vr _), some (vi _), some (vi _), some (vi _)]) d_X7_placeOfValue_15 (by decide) rfl ?_
      refine wp_sub ?_ h
      exact ⟨rfl, ⟨rfl, ⟨rfl, ⟨rfl, trivial⟩⟩⟩⟩
    · have h := h.2 hc
      refine wp_iconst (pc := 12) (v := (-1)) d_X7_placeOfValue_12 rfl ?_
      exact wp_iret (pc := 13) d_X7_placeOfValue_13 rfl h
theorem v_X7_placeOfValue_16 {E : EE} {d : Nat} {Q : Option AV → AH → Prop} {x0 : Nat} {x1 : Int32} {x2 : Int32} {x3 : Int32} {G : AH} (h : isO E G x0 7 ∧ (isO E G (gR G x0 2) 14 ∧ (vp_in x1 (gN G (gR G x0 2)) ∧ (((gI G (gR G x0 2) (Int32.toNatClampNeg x1)) ≤ x3 → Q (some (vi (-1))) G) ∧ (¬ ((gI G (gR G x0 2) (Int32.toNatClampNeg x1)) ≤ x3) → isO E G (gR G x0 3) 14 ∧ (vp_in ((x1 * 20) + x3) (gN G (gR G x0 3)) ∧ ((¬ (gI G (gR G x0 3) (Int32.toNatClampNeg ((x1 * 20) + x3))) = x2 → wp E d M_X7_placeOfValue 16 [some (vr x0), some (vi x1), some (vi x2), some (vi (x3 + 1))] [] G Q) ∧ ((gI G (gR G x0 3) (Int32.toNatClampNeg ((x1 * 20) + x3))) = x2 → Q (some (vi x3)) G)))))))) : wp E d M_X7_placeOfValue 16 [some (vr x0), some (vi x1), some (vi x2), some (vi x3)] [] G Q := by
  refine wp_iload_n (pc := 16) d_X7_placeOfValue_16 rfl ?_
  refine wp_aload_n (pc := 17) d_X7_placeOfValue_17 rfl ?_
  obtain ⟨ho1, h⟩ := h
  refine wp_getR (pc := 18) d_X7_placeOfValue_18 fl_X7_18 (fun _ _ _ => rfl) ho1 ?_
  refine wp_iload_n (pc := 21) d_X7_placeOfValue_21 rfl ?_
  obtain ⟨ho2, h⟩ := h
  obtain ⟨hi3, h⟩ := h
  refine wp_iald (pc := 22) d_X7_placeOfValue_22 ho2 hi3 ?_
  refine wp_icmp_ge (pc := 23) (tgt := 49) d_X7_placeOfValue_23 (by decide) (fun hc => ?_) (fun hc => ?_)
  · have h := h.1 hc
    refine wp_iconst (pc := 49) (v := (-1)) d_X7_placeOfValue_49 rfl ?_
    exact wp_iret (pc := 50) d_X7_placeOfValue_50 rfl h
  · have h := h.2 hc
    refine wp_aload_n (pc := 26) d_X7_placeOfValue_26 rfl ?_
    refine wp_getR (pc := 27) d_X7_placeOfValue_27 fl_X7_22 (fun _ _ _ => rfl) ho1 ?_
    refine wp_iload_n (pc := 30) d_X7_placeOfValue_30 rfl ?_
    refine wp_bipush (pc := 31) (v := 20) d_X7_placeOfValue_31 rfl ?_
    refine wp_imul (pc := 33) d_X7_placeOfValue_33 ?_
    refine wp_iload_n (pc := 34) d_X7_placeOfValue_34 rfl ?_
    refine wp_iadd (pc := 35) d_X7_placeOfValue_35 ?_
    obtain ⟨ho4, h⟩ := h
    obtain ⟨hi5, h⟩ := h
    refine wp_iald (pc := 36) d_X7_placeOfValue_36 ho4 hi5 ?_
    refine wp_iload_n (pc := 37) d_X7_placeOfValue_37 rfl ?_
    refine wp_icmp_ne (pc := 38) (tgt := 43) d_X7_placeOfValue_38 (by decide) (fun hc => ?_) (fun hc => ?_)
    · have h := h.1 hc
      refine wp_iinc (pc := 43) (v := 1) (lv' := [some (vr _), some (vi _), some (vi _), some (vi _)]) d_X7_placeOfValue_43 (by decide) rfl rfl rfl ?_
      refine wp_goto (pc := 46) (tgt := 16) d_X7_placeOfValue_46 (by decide) ?_
      refine wp_sub ?_ h
      exact ⟨rfl, ⟨rfl, ⟨rfl, ⟨rfl, trivial⟩⟩⟩⟩
    · have h := h.2 hc
      refine wp_iload_n (pc := 41) d_X7_placeOfValue_41 rfl ?_
      exact wp_iret (pc := 42) d_X7_placeOfValue_42 rfl h
theorem d_X7_moved_0 : decode prog_9_method_8_code 0 = .ok (.iload_n 2, 1) := by decide +kernel
theorem d_X7_moved_1 : decode prog_9_method_8_code 1 = .ok (.ifCond .lt 11, 3) := by decide +kernel
theorem d_X7_moved_4 : decode prog_9_method_8_code 4 = .ok (.iload_n 2, 1) := by decide +kernel
theorem d_X7_moved_5 : decode prog_9_method_8_code 5 = .ok (.aload_n 0, 1) := by decide +kernel
theorem d_X7_moved_6 : decode prog_9_method_8_code 6 = .ok (.getfield 9, 3) := by decide +kernel
theorem d_X7_moved_9 : decode prog_9_method_8_code 9 = .ok (.if_icmp .lt 5, 3) := by decide +kernel
theorem d_X7_moved_12 : decode prog_9_method_8_code 12 = .ok (.iload_n 1, 1) := by decide +kernel
theorem d_X7_moved_13 : decode prog_9_method_8_code 13 = .ok (.ireturn, 1) := by decide +kernel
theorem d_X7_moved_14 : decode prog_9_method_8_code 14 = .ok (.iload_n 1, 1) := by decide +kernel
theorem d_X7_moved_15 : decode prog_9_method_8_code 15 = .ok (.iload_n 3, 1) := by decide +kernel
theorem d_X7_moved_16 : decode prog_9_method_8_code 16 = .ok (.aload_n 0, 1) := by decide +kernel
theorem d_X7_moved_17 : decode prog_9_method_8_code 17 = .ok (.iload_n 1, 1) := by decide +kernel
theorem d_X7_moved_18 : decode prog_9_method_8_code 18 = .ok (.iload_n 2, 1) := by decide +kernel
theorem d_X7_moved_19 : decode prog_9_method_8_code 19 = .ok (.invokevirtual 28, 3) := by decide +kernel
theorem d_X7_moved_22 : decode prog_9_method_8_code 22 = .ok (.isub, 1) := by decide +kernel
theorem d_X7_moved_23 : decode prog_9_method_8_code 23 = .ok (.aload_n 0, 1) := by decide +kernel
theorem d_X7_moved_24 : decode prog_9_method_8_code 24 = .ok (.getfield 25, 3) := by decide +kernel
theorem d_X7_moved_27 : decode prog_9_method_8_code 27 = .ok (.iload_n 2, 1) := by decide +kernel
theorem d_X7_moved_28 : decode prog_9_method_8_code 28 = .ok (.iaload, 1) := by decide +kernel
theorem d_X7_moved_29 : decode prog_9_method_8_code 29 = .ok (.imul, 1) := by decide +kernel
theorem d_X7_moved_30 : decode prog_9_method_8_code 30 = .ok (.iadd, 1) := by decide +kernel
theorem d_X7_moved_31 : decode prog_9_method_8_code 31 = .ok (.ireturn, 1) := by decide +kernel
theorem v_X7_moved_0 {E : EE} {d : Nat} {Q : Option AV → AH → Prop} {x0 : Nat} {x1 : Int32} {x2 : Int32} {x3 : Int32} {G : AH} (h0 : 0 < d) (h : (x2 < 0 → Q (some (vi x1)) G) ∧ (¬ (x2 < 0) → isO E G x0 7 ∧ ((x2 < (gI G x0 0) → wpI E (d - 1) M_X7_placeOf [vr x0, vi x1, vi x2] G (fun r2 G3 => isO E G3 x0 7 ∧ (isO E G3 (gR G3 x0 4) 14 ∧ (vp_in x2 (gN G3 (gR G3 x0 4)) ∧ (Q (some (vi (x1 + ((x3 - r2) * (gI G3 (gR G3 x0 4) (Int32.toNatClampNeg x2)))))) G3))))) ∧ (¬ (x2 < (gI G x0 0)) → Q (some (vi x1)) G)))) : wp E d M_X7_moved 0 [some (vr x0), some (vi x1), some (vi x2), some (vi x3)] [] G Q := by
  refine wp_iload_n (pc := 0) d_X7_moved_0 rfl ?_
  refine wp_if_lt (pc := 1) (tgt := 12) d_X7_moved_1 (by decide) (fun hc => ?_) (fun hc => ?_)
  · have h := h.1 hc
    refine wp_iload_n (pc := 12) d_X7_moved_12 rfl ?_
    exact wp_iret (pc := 13) d_X7_moved_13 rfl h
  · have h := h.2 hc
    refine wp_iload_n (pc := 4) d_X7_moved_4 rfl ?_
    refine wp_aload_n (pc := 5) d_X7_moved_5 rfl ?_
    obtain ⟨ho1, h⟩ := h
    refine wp_getI (pc := 6) d_X7_moved_6 fl_X7_9 (fun _ _ _ => rfl) ho1 ?_
    refine wp_icmp_lt (pc := 9) (tgt := 14) d_X7_moved_9 (by decide) (fun hc => ?_) (fun hc => ?_)
    · have h := h.1 hc
      refine wp_iload_n (pc := 14) d_X7_moved_14 rfl ?_
      refine wp_iload_n (pc := 15) d_X7_moved_15 rfl ?_
      refine wp_aload_n (pc := 16) d_X7_moved_16 rfl ?_
      refine wp_iload_n (pc := 17) d_X7_moved_17 rfl ?_
      refine wp_iload_n (pc := 18) d_X7_moved_18 rfl ?_
      refine wp_invV (pc := 19) (N := M_X7_placeOf) (As := [vi _, vi _]) (rest := [vi _, vi _]) (r := (cn_7, ct_7, 5)) d_X7_moved_19 ml_X7_28 mk_X7_placeOf mv_X7_placeOf h0 ho1 rfl rfl (Nat.le_of_ble_eq_true rfl) ?_
      refine wpM.mono h (fun rr G3 hr => ?_)
      obtain ⟨r2, rfl, h⟩ := hr
      show wp E d M_X7_moved 22 [some (vr _), some (vi _), some (vi _), some (vi _)] [vi _, vi _, vi _] G3 Q
      refine wp_isub (pc := 22) d_X7_moved_22 ?_
      refine wp_aload_n (pc := 23) d_X7_moved_23 rfl ?_
      obtain ⟨ho4, h⟩ := h
      refine wp_getR (pc := 24) d_X7_moved_24 fl_X7_25 (fun _ _ _ => rfl) ho4 ?_
      refine wp_iload_n (pc := 27) d_X7_moved_27 rfl ?_
      obtain ⟨ho5, h⟩ := h
      obtain ⟨hi6, h⟩ := h
      refine wp_iald (pc := 28) d_X7_moved_28 ho5 hi6 ?_
      refine wp_imul (pc := 29) d_X7_moved_29 ?_
      refine wp_iadd (pc := 30) d_X7_moved_30 ?_
      exact wp_iret (pc := 31) d_X7_moved_31 rfl h
    · have h := h.2 hc
      refine wp_iload_n (pc := 12) d_X7_moved_12 rfl ?_
      exact wp_iret (pc := 13) d_X7_moved_13 rfl h
theorem d_X7_placeOf_0 : decode prog_9_method_5_code 0 = .ok (.iload_n 2, 1) := by decide +kernel
theorem d_X7_placeOf_1 : decode prog_9_method_5_code 1 = .ok (.ifCond .lt 31, 3) := by decide +kernel
theorem d_X7_placeOf_4 : decode prog_9_method_5_code 4 = .ok (.iload_n 2, 1) := by decide +kernel
theorem d_X7_placeOf_5 : decode prog_9_method_5_code 5 = .ok (.aload_n 0, 1) := by decide +kernel
theorem d_X7_placeOf_6 : decode prog_9_method_5_code 6 = .ok (.getfield 9, 3) := by decide +kernel
theorem d_X7_placeOf_9 : decode prog_9_method_5_code 9 = .ok (.if_icmp .ge 23, 3) := by decide +kernel
theorem d_X7_placeOf_12 : decode prog_9_method_5_code 12 = .ok (.aload_n 0, 1) := by decide +kernel
theorem d_X7_placeOf_13 : decode prog_9_method_5_code 13 = .ok (.getfield 25, 3) := by decide +kernel
theorem d_X7_placeOf_16 : decode prog_9_method_5_code 16 = .ok (.iload_n 2, 1) := by decide +kernel
theorem d_X7_placeOf_17 : decode prog_9_method_5_code 17 = .ok (.iaload, 1) := by decide +kernel
theorem d_X7_placeOf_18 : decode prog_9_method_5_code 18 = .ok (.iconst 1, 1) := by decide +kernel
theorem d_X7_placeOf_19 : decode prog_9_method_5_code 19 = .ok (.if_icmp .lt 13, 3) := by decide +kernel
theorem d_X7_placeOf_22 : decode prog_9_method_5_code 22 = .ok (.aload_n 0, 1) := by decide +kernel
theorem d_X7_placeOf_23 : decode prog_9_method_5_code 23 = .ok (.getfield 18, 3) := by decide +kernel
theorem d_X7_placeOf_26 : decode prog_9_method_5_code 26 = .ok (.iload_n 2, 1) := by decide +kernel
theorem d_X7_placeOf_27 : decode prog_9_method_5_code 27 = .ok (.iaload, 1) := by decide +kernel
theorem d_X7_placeOf_28 : decode prog_9_method_5_code 28 = .ok (.iconst 1, 1) := by decide +kernel
theorem d_X7_placeOf_29 : decode prog_9_method_5_code 29 = .ok (.if_icmp .ge 5, 3) := by decide +kernel
theorem d_X7_placeOf_32 : decode prog_9_method_5_code 32 = .ok (.iconst 0, 1) := by decide +kernel
theorem d_X7_placeOf_33 : decode prog_9_method_5_code 33 = .ok (.ireturn, 1) := by decide +kernel
theorem d_X7_placeOf_34 : decode prog_9_method_5_code 34 = .ok (.iload_n 1, 1) := by decide +kernel
theorem d_X7_placeOf_35 : decode prog_9_method_5_code 35 = .ok (.aload_n 0, 1) := by decide +kernel
theorem d_X7_placeOf_36 : decode prog_9_method_5_code 36 = .ok (.getfield 25, 3) := by decide +kernel
theorem d_X7_placeOf_39 : decode prog_9_method_5_code 39 = .ok (.iload_n 2, 1) := by decide +kernel
theorem d_X7_placeOf_40 : decode prog_9_method_5_code 40 = .ok (.iaload, 1) := by decide +kernel
theorem d_X7_placeOf_41 : decode prog_9_method_5_code 41 = .ok (.idiv, 1) := by decide +kernel
theorem d_X7_placeOf_42 : decode prog_9_method_5_code 42 = .ok (.aload_n 0, 1) := by decide +kernel
theorem d_X7_placeOf_43 : decode prog_9_method_5_code 43 = .ok (.getfield 18, 3) := by decide +kernel
theorem d_X7_placeOf_46 : decode prog_9_method_5_code 46 = .ok (.iload_n 2, 1) := by decide +kernel
theorem d_X7_placeOf_47 : decode prog_9_method_5_code 47 = .ok (.iaload, 1) := by decide +kernel
theorem d_X7_placeOf_48 : decode prog_9_method_5_code 48 = .ok (.irem, 1) := by decide +kernel
theorem d_X7_placeOf_49 : decode prog_9_method_5_code 49 = .ok (.ireturn, 1) := by decide +kernel
theorem v_X7_placeOf_0 {E : EE} {d : Nat} {Q : Option AV → AH → Prop} {x0 : Nat} {x1 : Int32} {x2 : Int32} {G : AH} (h : (x2 < 0 → Q (some (vi 0)) G) ∧ (¬ (x2 < 0) → isO E G x0 7 ∧ (((gI G x0 0) ≤ x2 → Q (some (vi 0)) G) ∧ (¬ ((gI G x0 0) ≤ x2) → isO E G (gR G x0 4) 14 ∧ (vp_in x2 (gN G (gR G x0 4)) ∧ (((gI G (gR G x0 4) (Int32.toNatClampNeg x2)) < 1 → Q (some (vi 0)) G) ∧ (¬ ((gI G (gR G x0 4) (Int32.toNatClampNeg x2)) < 1) → isO E G (gR G x0 2) 14 ∧ (vp_in x2 (gN G (gR G x0 2)) ∧ ((1 ≤ (gI G (gR G x0 2) (Int32.toNatClampNeg x2)) → vp_in x2 (gN G (gR G x0 4)) ∧ (¬ (gI G (gR G x0 4) (Int32.toNatClampNeg x2)) = 0 ∧ (vp_in x2 (gN G (gR G x0 2)) ∧ (¬ (gI G (gR G x0 2) (Int32.toNatClampNeg x2)) = 0 ∧ (Q (some (vi ((x1 / (gI G (gR G x0 4) (Int32.toNatClampNeg x2))) - (x1 / (gI G (gR G x0 4) (Int32.toNatClampNeg x2))) / (gI G (gR G x0 2) (Int32.toNatClampNeg x2)) * (gI G (gR G x0 2) (Int32.toNatClampNeg x2))))) G))))) ∧ (¬ (1 ≤ (gI G (gR G x0 2) (Int32.toNatClampNeg x2))) → Q (some (vi 0)) G)))))))))) : wp E d M_X7_placeOf 0 [some (vr x0), some (vi x1), some (vi x2)] [] G Q := by
  refine wp_iload_n (pc := 0) d_X7_placeOf_0 rfl ?_
  refine wp_if_lt (pc := 1) (tgt := 32) d_X7_placeOf_1 (by decide) (fun hc => ?_) (fun hc => ?_)
  · have h := h.1 hc
    refine wp_iconst (pc := 32) (v := 0) d_X7_placeOf_32 rfl ?_
    exact wp_iret (pc := 33) d_X7_placeOf_33 rfl h
  · have h := h.2 hc
    refine wp_iload_n (pc := 4) d_X7_placeOf_4 rfl ?_
    refine wp_aload_n (pc := 5) d_X7_placeOf_5 rfl ?_
    obtain ⟨ho1, h⟩ := h
    refine wp_getI (pc := 6) d_X7_placeOf_6 fl_X7_9 (fun _ _ _ => rfl) ho1 ?_
    refine wp_icmp_ge (pc := 9) (tgt := 32) d_X7_placeOf_9 (by decide) (fun hc => ?_) (fun hc => ?_)
    · have h := h.1 hc
      refine wp_iconst (pc := 32) (v := 0) d_X7_placeOf_32 rfl ?_
      exact wp_iret (pc := 33) d_X7_placeOf_33 rfl h
    · have h := h.2 hc
      refine wp_aload_n (pc := 12) d_X7_placeOf_12 rfl ?_
      refine wp_getR (pc := 13) d_X7_placeOf_13 fl_X7_25 (fun _ _ _ => rfl) ho1 ?_
      refine wp_iload_n (pc := 16) d_X7_placeOf_16 rfl ?_
      obtain ⟨ho2, h⟩ := h
      obtain ⟨hi3, h⟩ := h
      refine wp_iald (pc := 17) d_X7_placeOf_17 ho2 hi3 ?_
      refine wp_iconst (pc := 18) (v := 1) d_X7_placeOf_18 rfl ?_
      refine wp_icmp_lt (pc := 19) (tgt := 32) d_X7_placeOf_19 (by decide) (fun hc => ?_) (fun hc => ?_)
      · have h := h.1 hc
        refine wp_iconst (pc := 32) (v := 0) d_X7_placeOf_32 rfl ?_
        exact wp_iret (pc := 33) d_X7_placeOf_33 rfl h
      · have h := h.2 hc
        refine wp_aload_n (pc := 22) d_X7_placeOf_22 rfl ?_
        refine wp_getR (pc := 23) d_X7_placeOf_23 fl_X7_18 (fun _ _ _ => rfl) ho1 ?_
        refine wp_iload_n (pc := 26) d_X7_placeOf_26 rfl ?_
        obtain ⟨ho4, h⟩ := h
        obtain ⟨hi5, h⟩ := h
        refine wp_iald (pc := 27) d_X7_placeOf_27 ho4 hi5 ?_
        refine wp_iconst (pc := 28) (v := 1) d_X7_placeOf_28 rfl ?_
        refine wp_icmp_ge (pc := 29) (tgt := 34) d_X7_placeOf_29 (by decide) (fun hc => ?_) (fun hc => ?_)
        · have h := h.1 hc
          refine wp_iload_n (pc := 34) d_X7_placeOf_34 rfl ?_
          refine wp_aload_n (pc := 35) d_X7_placeOf_35 rfl ?_
          refine wp_getR (pc := 36) d_X7_placeOf_36 fl_X7_25 (fun _ _ _ => rfl) ho1 ?_
          refine wp_iload_n (pc := 39) d_X7_placeOf_39 rfl ?_
          obtain ⟨hi6, h⟩ := h
          refine wp_iald (pc := 40) d_X7_placeOf_40 ho2 hi6 ?_
          obtain ⟨hz7, h⟩ := h
          refine wp_idiv (pc := 41) d_X7_placeOf_41 hz7 ?_
          refine wp_aload_n (pc := 42) d_X7_placeOf_42 rfl ?_
          refine wp_getR (pc := 43) d_X7_placeOf_43 fl_X7_18 (fun _ _ _ => rfl) ho1 ?_
          refine wp_iload_n (pc := 46) d_X7_placeOf_46 rfl ?_
          obtain ⟨hi8, h⟩ := h
          refine wp_iald (pc := 47) d_X7_placeOf_47 ho4 hi8 ?_
          obtain ⟨hz9, h⟩ := h
          refine wp_irem (pc := 48) d_X7_placeOf_48 hz9 ?_
          exact wp_iret (pc := 49) d_X7_placeOf_49 rfl h
        · have h := h.2 hc
          refine wp_iconst (pc := 32) (v := 0) d_X7_placeOf_32 rfl ?_
          exact wp_iret (pc := 33) d_X7_placeOf_33 rfl h
theorem d_X7_valueOf_0 : decode prog_9_method_6_code 0 = .ok (.iload_n 2, 1) := by decide +kernel
theorem d_X7_valueOf_1 : decode prog_9_method_6_code 1 = .ok (.ifCond .lt 31, 3) := by decide +kernel
theorem d_X7_valueOf_4 : decode prog_9_method_6_code 4 = .ok (.iload_n 2, 1) := by decide +kernel
theorem d_X7_valueOf_5 : decode prog_9_method_6_code 5 = .ok (.aload_n 0, 1) := by decide +kernel
theorem d_X7_valueOf_6 : decode prog_9_method_6_code 6 = .ok (.getfield 9, 3) := by decide +kernel
theorem d_X7_valueOf_9 : decode prog_9_method_6_code 9 = .ok (.if_icmp .ge 23, 3) := by decide +kernel
theorem d_X7_valueOf_12 : decode prog_9_method_6_code 12 = .ok (.aload_n 0, 1) := by decide +kernel
theorem d_X7_valueOf_13 : decode prog_9_method_6_code 13 = .ok (.getfield 25, 3) := by decide +kernel
theorem d_X7_valueOf_16 : decode prog_9_method_6_code 16 = .ok (.iload_n 2, 1) := by decide +kernel
theorem d_X7_valueOf_17 : decode prog_9_method_6_code 17 = .ok (.iaload, 1) := by decide +kernel
theorem d_X7_valueOf_18 : decode prog_9_method_6_code 18 = .ok (.iconst 1, 1) := by decide +kernel
theorem d_X7_valueOf_19 : decode prog_9_method_6_code 19 = .ok (.if_icmp .lt 13, 3) := by decide +kernel
theorem d_X7_valueOf_22 : decode prog_9_method_6_code 22 = .ok (.aload_n 0, 1) := by decide +kernel
theorem d_X7_valueOf_23 : decode prog_9_method_6_code 23 = .ok (.getfield 18, 3) := by decide +kernel
theorem d_X7_valueOf_26 : decode prog_9_method_6_code 26 = .ok (.iload_n 2, 1) := by decide +kernel
theorem d_X7_valueOf_27 : decode prog_9_method_6_code 27 = .ok (.iaload, 1) := by decide +kernel
theorem d_X7_valueOf_28 : decode prog_9_method_6_code 28 = .ok (.iconst 1, 1) := by decide +kernel
theorem d_X7_valueOf_29 : decode prog_9_method_6_code 29 = .ok (.if_icmp .ge 5, 3) := by decide +kernel
theorem d_X7_valueOf_32 : decode prog_9_method_6_code 32 = .ok (.iconst 0, 1) := by decide +kernel
theorem d_X7_valueOf_33 : decode prog_9_method_6_code 33 = .ok (.ireturn, 1) := by decide +kernel
theorem d_X7_valueOf_34 : decode prog_9_method_6_code 34 = .ok (.aload_n 0, 1) := by decide +kernel
theorem d_X7_valueOf_35 : decode prog_9_method_6_code 35 = .ok (.getfield 22, 3) := by decide +kernel
theorem d_X7_valueOf_38 : decode prog_9_method_6_code 38 = .ok (.iload_n 2, 1) := by decide +kernel
theorem d_X7_valueOf_39 : decode prog_9_method_6_code 39 = .ok (.bipush 20, 2) := by decide +kernel
theorem d_X7_valueOf_41 : decode prog_9_method_6_code 41 = .ok (.imul, 1) := by decide +kernel
theorem d_X7_valueOf_42 : decode prog_9_method_6_code 42 = .ok (.iload_n 1, 1) := by decide +kernel
theorem d_X7_valueOf_43 : decode prog_9_method_6_code 43 = .ok (.aload_n 0, 1) := by decide +kernel
theorem d_X7_valueOf_44 : decode prog_9_method_6_code 44 = .ok (.getfield 25, 3) := by decide +kernel
theorem d_X7_valueOf_47 : decode prog_9_method_6_code 47 = .ok (.iload_n 2, 1) := by decide +kernel
theorem d_X7_valueOf_48 : decode prog_9_method_6_code 48 = .ok (.iaload, 1) := by decide +kernel
theorem d_X7_valueOf_49 : decode prog_9_method_6_code 49 = .ok (.idiv, 1) := by decide +kernel
theorem d_X7_valueOf_50 : decode prog_9_method_6_code 50 = .ok (.aload_n 0, 1) := by decide +kernel
theorem d_X7_valueOf_51 : decode prog_9_method_6_code 51 = .ok (.getfield 18, 3) := by decide +kernel
theorem d_X7_valueOf_54 : decode prog_9_method_6_code 54 = .ok (.iload_n 2, 1) := by decide +kernel
theorem d_X7_valueOf_55 : decode prog_9_method_6_code 55 = .ok (.iaload, 1) := by decide +kernel
theorem d_X7_valueOf_56 : decode prog_9_method_6_code 56 = .ok (.irem, 1) := by decide +kernel
theorem d_X7_valueOf_57 : decode prog_9_method_6_code 57 = .ok (.iadd, 1) := by decide +kernel
theorem d_X7_valueOf_58 : decode prog_9_method_6_code 58 = .ok (.iaload, 1) := by decide +kernel
theorem d_X7_valueOf_59 : decode prog_9_method_6_code 59 = .ok (.ireturn, 1) := by decide +kernel
theorem v_X7_valueOf_0 {E : EE} {d : Nat} {Q : Option AV → AH → Prop} {x0 : Nat} {x1 : Int32} {x2 : Int32} {G : AH} (h : (x2 < 0 → Q (some (vi 0)) G) ∧ (¬ (x2 < 0) → isO E G x0 7 ∧ (((gI G x0 0) ≤ x2 → Q (some (vi 0)) G) ∧ (¬ ((gI G x0 0) ≤ x2) → isO E G (gR G x0 4) 14 ∧ (vp_in x2 (gN G (gR G x0 4)) ∧ (((gI G (gR G x0 4) (Int32.toNatClampNeg x2)) < 1 → Q (some (vi 0)) G) ∧ (¬ ((gI G (gR G x0 4) (Int32.toNatClampNeg x2)) < 1) → isO E G (gR G x0 2) 14 ∧ (vp_in x2 (gN G (gR G x0 2)) ∧ ((1 ≤ (gI G (gR G x0 2) (Int32.toNatClampNeg x2)) → vp_in x2 (gN G (gR G x0 4)) ∧ (¬ (gI G (gR G x0 4) (Int32.toNatClampNeg x2)) = 0 ∧ (vp_in x2 (gN G (gR G x0 2)) ∧ (¬ (gI G (gR G x0 2) (Int32.toNatClampNeg x2)) = 0 ∧ (isO E G (gR G x0 3) 14 ∧ (vp_in ((x2 * 20) + ((x1 / (gI G (gR G x0 4) (Int32.toNatClampNeg x2))) - (x1 / (gI G (gR G x0 4) (Int32.toNatClampNeg x2))) / (gI G (gR G x0 2) (Int32.toNatClampNeg x2)) * (gI G (gR G x0 2) (Int32.toNatClampNeg x2)))) (gN G (gR G x0 3)) ∧ (Q (some (vi (gI G (gR G x0 3) (Int32.toNatClampNeg ((x2 * 20) + ((x1 / (gI G (gR G x0 4) (Int32.toNatClampNeg x2))) - (x1 / (gI G (gR G x0 4) (Int32.toNatClampNeg x2))) / (gI G (gR G x0 2) (Int32.toNatClampNeg x2)) * (gI G (gR G x0 2) (Int32.toNatClampNeg x2)))))))) G))))))) ∧ (¬ (1 ≤ (gI G (gR G x0 2) (Int32.toNatClampNeg x2))) → Q (some (vi 0)) G)))))))))) : wp E d M_X7_valueOf 0 [some (vr x0), some (vi x1), some (vi x2)] [] G Q := by
  refine wp_iload_n (pc := 0) d_X7_valueOf_0 rfl ?_
  refine wp_if_lt (pc := 1) (tgt := 32) d_X7_valueOf_1 (by decide) (fun hc => ?_) (fun hc => ?_)
  · have h := h.1 hc
    refine wp_iconst (pc := 32) (v := 0) d_X7_valueOf_32 rfl ?_
    exact wp_iret (pc := 33) d_X7_valueOf_33 rfl h
  · have h := h.2 hc
    refine wp_iload_n (pc := 4) d_X7_valueOf_4 rfl ?_
    refine wp_aload_n (pc := 5) d_X7_valueOf_5 rfl ?_
    obtain ⟨ho1, h⟩ := h
    refine wp_getI (pc := 6) d_X7_valueOf_6 fl_X7_9 (fun _ _ _ => rfl) ho1 ?_
    refine wp_icmp_ge (pc := 9) (tgt := 32) d_X7_valueOf_9 (by decide) (fun hc => ?_) (fun hc => ?_)
    · have h := h.1 hc
      refine wp_iconst (pc := 32) (v := 0) d_X7_valueOf_32 rfl ?_
      exact wp_iret (pc := 33) d_X7_valueOf_33 rfl h
    · have h := h.2 hc
      refine wp_aload_n (pc := 12) d_X7_valueOf_12 rfl ?_
      refine wp_getR (pc := 13) d_X7_valueOf_13 fl_X7_25 (fun _ _ _ => rfl) ho1 ?_
      refine wp_iload_n (pc := 16) d_X7_valueOf_16 rfl ?_
      obtain ⟨ho2, h⟩ := h
      obtain ⟨hi3, h⟩ := h
      refine wp_iald (pc := 17) d_X7_valueOf_17 ho2 hi3 ?_
      refine wp_iconst (pc := 18) (v := 1) d_X7_valueOf_18 rfl ?_
      refine wp_icmp_lt (pc := 19) (tgt := 32) d_X7_valueOf_19 (by decide) (fun hc => ?_) (fun hc => ?_)
      · have h := h.1 hc
        refine wp_iconst (pc := 32) (v := 0) d_X7_valueOf_32 rfl ?_
        exact wp_iret (pc := 33) d_X7_valueOf_33 rfl h
      · have h := h.2 hc
        refine wp_aload_n (pc := 22) d_X7_valueOf_22 rfl ?_
        refine wp_getR (pc := 23) d_X7_valueOf_23 fl_X7_18 (fun _ _ _ => rfl) ho1 ?_
        refine wp_iload_n (pc := 26) d_X7_valueOf_26 rfl ?_
        obtain ⟨ho4, h⟩ := h
        obtain ⟨hi5, h⟩ := h
        refine wp_iald (pc := 27) d_X7_valueOf_27 ho4 hi5 ?_
        refine wp_iconst (pc := 28) (v := 1) d_X7_valueOf_28 rfl ?_
        refine wp_icmp_ge (pc := 29) (tgt := 34) d_X7_valueOf_29 (by decide) (fun hc => ?_) (fun hc => ?_)
        · have h := h.1 hc
          refine wp_aload_n (pc := 34) d_X7_valueOf_34 rfl ?_
          refine wp_getR (pc := 35) d_X7_valueOf_35 fl_X7_22 (fun _ _ _ => rfl) ho1 ?_
          refine wp_iload_n (pc := 38) d_X7_valueOf_38 rfl ?_
          refine wp_bipush (pc := 39) (v := 20) d_X7_valueOf_39 rfl ?_
          refine wp_imul (pc := 41) d_X7_valueOf_41 ?_
          refine wp_iload_n (pc := 42) d_X7_valueOf_42 rfl ?_
          refine wp_aload_n (pc := 43) d_X7_valueOf_43 rfl ?_
          refine wp_getR (pc := 44) d_X7_valueOf_44 fl_X7_25 (fun _ _ _ => rfl) ho1 ?_
          refine wp_iload_n (pc := 47) d_X7_valueOf_47 rfl ?_
          obtain ⟨hi6, h⟩ := h
          refine wp_iald (pc := 48) d_X7_valueOf_48 ho2 hi6 ?_
          obtain ⟨hz7, h⟩ := h
          refine wp_idiv (pc := 49) d_X7_valueOf_49 hz7 ?_
          refine wp_aload_n (pc := 50) d_X7_valueOf_50 rfl ?_
          refine wp_getR (pc := 51) d_X7_valueOf_51 fl_X7_18 (fun _ _ _ => rfl) ho1 ?_
          refine wp_iload_n (pc := 54) d_X7_valueOf_54 rfl ?_
          obtain ⟨hi8, h⟩ := h
          refine wp_iald (pc := 55) d_X7_valueOf_55 ho4 hi8 ?_
          obtain ⟨hz9, h⟩ := h
          refine wp_irem (pc := 56) d_X7_valueOf_56 hz9 ?_
          refine wp_iadd (pc := 57) d_X7_valueOf_57 ?_
          obtain ⟨ho10, h⟩ := h
          obtain ⟨hi11, h⟩ := h
          refine wp_iald (pc := 58) d_X7_valueOf_58 ho10 hi11 ?_
          exact wp_iret (pc := 59) d_X7_valueOf_59 rfl h
        · have h := h.2 hc
          refine wp_iconst (pc := 32) (v := 0) d_X7_valueOf_32 rfl ?_
          exact wp_iret (pc := 33) d_X7_valueOf_33 rfl h
theorem d_X7_lowest_0 : decode prog_9_method_10_code 0 = .ok (.iload_n 1, 1) := by decide +kernel
theorem d_X7_lowest_1 : decode prog_9_method_10_code 1 = .ok (.istore_n 3, 1) := by decide +kernel
theorem d_X7_lowest_2 : decode prog_9_method_10_code 2 = .ok (.iconst 0, 1) := by decide +kernel
theorem d_X7_lowest_3 : decode prog_9_method_10_code 3 = .ok (.istore 4, 2) := by decide +kernel
theorem d_X7_lowest_5 : decode prog_9_method_10_code 5 = .ok (.iload 4, 2) := by decide +kernel
theorem d_X7_lowest_7 : decode prog_9_method_10_code 7 = .ok (.aload_n 0, 1) := by decide +kernel
theorem d_X7_lowest_8 : decode prog_9_method_10_code 8 = .ok (.getfield 9, 3) := by decide +kernel
theorem d_X7_lowest_11 : decode prog_9_method_10_code 11 = .ok (.if_icmp .ge 36, 3) := by decide +kernel
theorem d_X7_lowest_14 : decode prog_9_method_10_code 14 = .ok (.iload_n 2, 1) := by decide +kernel
theorem d_X7_lowest_15 : decode prog_9_method_10_code 15 = .ok (.iload 4, 2) := by decide +kernel
theorem d_X7_lowest_17 : decode prog_9_method_10_code 17 = .ok (.ishr, 1) := by decide +kernel
theorem d_X7_lowest_18 : decode prog_9_method_10_code 18 = .ok (.iconst 1, 1) := by decide +kernel
theorem d_X7_lowest_19 : decode prog_9_method_10_code 19 = .ok (.iand, 1) := by decide +kernel
theorem d_X7_lowest_20 : decode prog_9_method_10_code 20 = .ok (.ifCond .ne 21, 3) := by decide +kernel
theorem d_X7_lowest_23 : decode prog_9_method_10_code 23 = .ok (.iload_n 3, 1) := by decide +kernel
theorem d_X7_lowest_24 : decode prog_9_method_10_code 24 = .ok (.aload_n 0, 1) := by decide +kernel
theorem d_X7_lowest_25 : decode prog_9_method_10_code 25 = .ok (.iload_n 3, 1) := by decide +kernel
theorem d_X7_lowest_26 : decode prog_9_method_10_code 26 = .ok (.iload 4, 2) := by decide +kernel
theorem d_X7_lowest_28 : decode prog_9_method_10_code 28 = .ok (.invokevirtual 28, 3) := by decide +kernel
theorem d_X7_lowest_31 : decode prog_9_method_10_code 31 = .ok (.aload_n 0, 1) := by decide +kernel
theorem d_X7_lowest_32 : decode prog_9_method_10_code 32 = .ok (.getfield 25, 3) := by decide +kernel
theorem d_X7_lowest_35 : decode prog_9_method_10_code 35 = .ok (.iload 4, 2) := by decide +kernel
theorem d_X7_lowest_37 : decode prog_9_method_10_code 37 = .ok (.iaload, 1) := by decide +kernel
theorem d_X7_lowest_38 : decode prog_9_method_10_code 38 = .ok (.imul, 1) := by decide +kernel
theorem d_X7_lowest_39 : decode prog_9_method_10_code 39 = .ok (.isub, 1) := by decide +kernel
theorem d_X7_lowest_40 : decode prog_9_method_10_code 40 = .ok (.istore_n 3, 1) := by decide +kernel
theorem d_X7_lowest_41 : decode prog_9_method_10_code 41 = .ok (.iinc 4 1, 3) := by decide +kernel
theorem d_X7_lowest_44 : decode prog_9_method_10_code 44 = .ok (.goto (-39), 3) := by decide +kernel
theorem d_X7_lowest_47 : decode prog_9_method_10_code 47 = .ok (.iload_n 3, 1) := by decide +kernel
theorem d_X7_lowest_48 : decode prog_9_method_10_code 48 = .ok (.ireturn, 1) := by decide +kernel
theorem v_X7_lowest_0 {E : EE} {d : Nat} {Q : Option AV → AH → Prop} {x0 : Nat} {x1 : Int32} {x2 : Int32} {G : AH} (h : wp E d M_X7_lowest 5 [some (vr x0), some (vi x1), some (vi x2), some (vi x1), some (vi 0)] [] G Q) : wp E d M_X7_lowest 0 [some (vr x0), some (vi x1), some (vi x2), none, none] [] G Q := by
  refine wp_iload_n (pc := 0) d_X7_lowest_0 rfl ?_
  refine wp_istore_n (pc := 1) (lv' := [some (vr _), some (vi _), some (vi _), some (vi _), none]) d_X7_lowest_1 (by decide) rfl ?_
  refine wp_iconst (pc := 2) (v := 0) d_X7_lowest_2 rfl ?_
  refine wp_istore (pc := 3) (lv' := [some (vr _), some (vi _), some (vi _), some (vi _), some (vi _)]) d_X7_lowest_3 (by decide) rfl ?_
  refine wp_sub ?_ h
  exact ⟨rfl, ⟨rfl, ⟨rfl, ⟨rfl, ⟨rfl, trivial⟩⟩⟩⟩⟩
theorem v_X7_lowest_5 {E : EE} {d : Nat} {Q : Option AV → AH → Prop} {x0 : Nat} {x1 : Int32} {x2 : Int32} {x3 : Int32} {x4 : Int32} {G : AH} (h0 : 0 < d) (h : isO E G x0 7 ∧ (((gI G x0 0) ≤ x4 → Q (some (vi x3)) G) ∧ (¬ ((gI G x0 0) ≤ x4) → (¬ ((x2 >>> (x4 &&& 31)) &&& 1) = 0 → wp E d M_X7_lowest 41 [some (vr x0), some (vi x1), some (vi x2), some (vi x3), some (vi x4)] [] G Q) ∧ (((x2 >>> (x4 &&& 31)) &&& 1) = 0 → wpI E (d - 1) M_X7_placeOf [vr x0, vi x3, vi x4] G (fun r2 G3 => isO E G3 x0 7 ∧ (isO E G3 (gR G3 x0 4) 14 ∧ (vp_in x4 (gN G3 (gR G3 x0 4)) ∧ (wp E d M_X7_lowest 41 [some (vr x0), some (vi x1), some (vi x2), some (vi (x3 - (r2 * (gI G3 (gR G3 x0 4) (Int32.toNatClampNeg x4))))), some (vi x4)] [] G3 Q)))))))) : wp E d M_X7_lowest 5 [some (vr x0), some (vi x1), some (vi x2), some (vi x3), some (vi x4)] [] G Q := by
  refine wp_iload (pc := 5) d_X7_lowest_5 rfl ?_
  refine wp_aload_n (pc := 7) d_X7_lowest_7 rfl ?_
  obtain ⟨ho1, h⟩ := h
  refine wp_getI (pc := 8) d_X7_lowest_8 fl_X7_9 (fun _ _ _ => rfl) ho1 ?_
  refine wp_icmp_ge (pc := 11) (tgt := 47) d_X7_lowest_11 (by decide) (fun hc => ?_) (fun hc => ?_)
  · have h := h.1 hc
    refine wp_iload_n (pc := 47) d_X7_lowest_47 rfl ?_
    exact wp_iret (pc := 48) d_X7_lowest_48 rfl h
  · have h := h.2 hc
    refine wp_iload_n (pc := 14) d_X7_lowest_14 rfl ?_
    refine wp_iload (pc := 15) d_X7_lowest_15 rfl ?_
    refine wp_ishr (pc := 17) d_X7_lowest_17 ?_
    refine wp_iconst (pc := 18) (v := 1) d_X7_lowest_18 rfl ?_
    refine wp_iand (pc := 19) d_X7_lowest_19 ?_
    refine wp_if_ne (pc := 20) (tgt := 41) d_X7_lowest_20 (by decide) (fun hc => ?_) (fun hc => ?_)
    · have h := h.1 hc
      refine wp_sub ?_ h
      exact ⟨rfl, ⟨rfl, ⟨rfl, ⟨rfl, ⟨rfl, trivial⟩⟩⟩⟩⟩
    · have h := h.2 hc
      refine wp_iload_n (pc := 23) d_X7_lowest_23 rfl ?_
      refine wp_aload_n (pc := 24) d_X7_lowest_24 rfl ?_
      refine wp_iload_n (pc := 25) d_X7_lowest_25 rfl ?_
      refine wp_iload (pc := 26) d_X7_lowest_26 rfl ?_
      refine wp_invV (pc := 28) (N := M_X7_placeOf) (As := [vi _, vi _]) (rest := [vi _]) (r := (cn_7, ct_7, 5)) d_X7_lowest_28 ml_X7_28 mk_X7_placeOf mv_X7_placeOf h0 ho1 rfl rfl (Nat.le_of_ble_eq_true rfl) ?_
      refine wpM.mono h (fun rr G3 hr => ?_)
      obtain ⟨r2, rfl, h⟩ := hr
      show wp E d M_X7_lowest 31 [some (vr _), some (vi _), some (vi _), some (vi _), some (vi _)] [vi _, vi _] G3 Q
      refine wp_aload_n (pc := 31) d_X7_lowest_31 rfl ?_
      obtain ⟨ho4, h⟩ := h
      refine wp_getR (pc := 32) d_X7_lowest_32 fl_X7_25 (fun _ _ _ => rfl) ho4 ?_
      refine wp_iload (pc := 35) d_X7_lowest_35 rfl ?_
      obtain ⟨ho5, h⟩ := h
      obtain ⟨hi6, h⟩ := h
      refine wp_iald (pc := 37) d_X7_lowest_37 ho5 hi6 ?_
      refine wp_imul (pc := 38) d_X7_lowest_38 ?_
      refine wp_isub (pc := 39) d_X7_lowest_39 ?_
      refine wp_istore_n (pc := 40) (lv' := [some (vr _), some (vi _), some (vi _), some (vi _), some (vi _)]) d_X7_lowest_40 (by decide) rfl ?_
      refine wp_sub ?_ h
      exact ⟨rfl, ⟨rfl, ⟨rfl, ⟨rfl, ⟨rfl, trivial⟩⟩⟩⟩⟩
theorem v_X7_lowest_41 {E : EE} {d : Nat} {Q : Option AV → AH → Prop} {x0 : Nat} {x1 : Int32} {x2 : Int32} {x3 : Int32} {x4 : Int32} {G : AH} (h : wp E d M_X7_lowest 5 [some (vr x0), some (vi x1), some (vi x2), some (vi x3), some (vi (x4 + 1))] [] G Q) : wp E d M_X7_lowest 41 [some (vr x0), some (vi x1), some (vi x2), some (vi x3), some (vi x4)] [] G Q := by
  refine wp_iinc (pc := 41) (v := 1) (lv' := [some (vr _), some (vi _), some (vi _), some (vi _), some (vi _)]) d_X7_lowest_41 (by decide) rfl rfl rfl ?_
  refine wp_goto (pc := 44) (tgt := 5) d_X7_lowest_44 (by decide) ?_
  refine wp_sub ?_ h
  exact ⟨rfl, ⟨rfl, ⟨rfl, ⟨rfl, ⟨rfl, trivial⟩⟩⟩⟩⟩
theorem d_X7_following_0 : decode prog_9_method_11_code 0 = .ok (.iload_n 1, 1) := by decide +kernel
theorem d_X7_following_1 : decode prog_9_method_11_code 1 = .ok (.istore_n 3, 1) := by decide +kernel
theorem d_X7_following_2 : decode prog_9_method_11_code 2 = .ok (.aload_n 0, 1) := by decide +kernel
theorem d_X7_following_3 : decode prog_9_method_11_code 3 = .ok (.getfield 9, 3) := by decide +kernel
theorem d_X7_following_6 : decode prog_9_method_11_code 6 = .ok (.iconst 1, 1) := by decide +kernel
theorem d_X7_following_7 : decode prog_9_method_11_code 7 = .ok (.isub, 1) := by decide +kernel
theorem d_X7_following_8 : decode prog_9_method_11_code 8 = .ok (.istore 4, 2) := by decide +kernel
theorem d_X7_following_10 : decode prog_9_method_11_code 10 = .ok (.iload 4, 2) := by decide +kernel
theorem d_X7_following_12 : decode prog_9_method_11_code 12 = .ok (.ifCond .lt 67, 3) := by decide +kernel
theorem d_X7_following_15 : decode prog_9_method_11_code 15 = .ok (.iload_n 2, 1) := by decide +kernel
theorem d_X7_following_16 : decode prog_9_method_11_code 16 = .ok (.iload 4, 2) := by decide +kernel
theorem d_X7_following_18 : decode prog_9_method_11_code 18 = .ok (.ishr, 1) := by decide +kernel
theorem d_X7_following_19 : decode prog_9_method_11_code 19 = .ok (.iconst 1, 1) := by decide +kernel
theorem d_X7_following_20 : decode prog_9_method_11_code 20 = .ok (.iand, 1) := by decide +kernel
theorem d_X7_following_21 : decode prog_9_method_11_code 21 = .ok (.ifCond .eq 6, 3) := by decide +kernel
theorem d_X7_following_24 : decode prog_9_method_11_code 24 = .ok (.goto 49, 3) := by decide +kernel
theorem d_X7_following_27 : decode prog_9_method_11_code 27 = .ok (.aload_n 0, 1) := by decide +kernel
theorem d_X7_following_28 : decode prog_9_method_11_code 28 = .ok (.iload_n 3, 1) := by decide +kernel
theorem d_X7_following_29 : decode prog_9_method_11_code 29 = .ok (.iload 4, 2) := by decide +kernel
theorem d_X7_following_31 : decode prog_9_method_11_code 31 = .ok (.invokevirtual 28, 3) := by decide +kernel
theorem d_X7_following_34 : decode prog_9_method_11_code 34 = .ok (.istore 5, 2) := by decide +kernel
theorem d_X7_following_36 : decode prog_9_method_11_code 36 = .ok (.iload 5, 2) := by decide +kernel
theorem d_X7_following_38 : decode prog_9_method_11_code 38 = .ok (.iconst 1, 1) := by decide +kernel
theorem d_X7_following_39 : decode prog_9_method_11_code 39 = .ok (.iadd, 1) := by decide +kernel
theorem d_X7_following_40 : decode prog_9_method_11_code 40 = .ok (.aload_n 0, 1) := by decide +kernel
theorem d_X7_following_41 : decode prog_9_method_11_code 41 = .ok (.getfield 18, 3) := by decide +kernel
theorem d_X7_following_44 : decode prog_9_method_11_code 44 = .ok (.iload 4, 2) := by decide +kernel
theorem d_X7_following_46 : decode prog_9_method_11_code 46 = .ok (.iaload, 1) := by decide +kernel
theorem d_X7_following_47 : decode prog_9_method_11_code 47 = .ok (.if_icmp .ge 13, 3) := by decide +kernel
theorem d_X7_following_50 : decode prog_9_method_11_code 50 = .ok (.iload_n 3, 1) := by decide +kernel
theorem d_X7_following_51 : decode prog_9_method_11_code 51 = .ok (.aload_n 0, 1) := by decide +kernel
theorem d_X7_following_52 : decode prog_9_method_11_code 52 = .ok (.getfield 25, 3) := by decide +kernel
theorem d_X7_following_55 : decode prog_9_method_11_code 55 = .ok (.iload 4, 2) := by decide +kernel
theorem d_X7_following_57 : decode prog_9_method_11_code 57 = .ok (.iaload, 1) := by decide +kernel
theorem d_X7_following_58 : decode prog_9_method_11_code 58 = .ok (.iadd, 1) := by decide +kernel
theorem d_X7_following_59 : decode prog_9_method_11_code 59 = .ok (.ireturn, 1) := by decide +kernel
theorem d_X7_following_60 : decode prog_9_method_11_code 60 = .ok (.iload_n 3, 1) := by decide +kernel
theorem d_X7_following_61 : decode prog_9_method_11_code 61 = .ok (.iload 5, 2) := by decide +kernel
theorem d_X7_following_63 : decode prog_9_method_11_code 63 = .ok (.aload_n 0, 1) := by decide +kernel
theorem d_X7_following_64 : decode prog_9_method_11_code 64 = .ok (.getfield 25, 3) := by decide +kernel
theorem d_X7_following_67 : decode prog_9_method_11_code 67 = .ok (.iload 4, 2) := by decide +kernel
theorem d_X7_following_69 : decode prog_9_method_11_code 69 = .ok (.iaload, 1) := by decide +kernel
theorem d_X7_following_70 : decode prog_9_method_11_code 70 = .ok (.imul, 1) := by decide +kernel
theorem d_X7_following_71 : decode prog_9_method_11_code 71 = .ok (.isub, 1) := by decide +kernel
theorem d_X7_following_72 : decode prog_9_method_11_code 72 = .ok (.istore_n 3, 1) := by decide +kernel
theorem d_X7_following_73 : decode prog_9_method_11_code 73 = .ok (.iinc 4 (-1), 3) := by decide +kernel
theorem d_X7_following_76 : decode prog_9_method_11_code 76 = .ok (.goto (-66), 3) := by decide +kernel
theorem d_X7_following_79 : decode prog_9_method_11_code 79 = .ok (.iconst (-1), 1) := by decide +kernel
theorem d_X7_following_80 : decode prog_9_method_11_code 80 = .ok (.ireturn, 1) := by decide +kernel
theorem v_X7_following_0 {E : EE} {d : Nat} {Q : Option AV → AH → Prop} {x0 : Nat} {x1 : Int32} {x2 : Int32} {G : AH} (h : isO E G x0 7 ∧ (wp E d M_X7_following 10 [some (vr x0), some (vi x1), some (vi x2), some (vi x1), some (vi ((gI G x0 0) - 1)), none] [] G Q)) : wp E d M_X7_following 0 [some (vr x0), some (vi x1), some (vi x2), none, none, none] [] G Q := by
  refine wp_iload_n (pc := 0) d_X7_following_0 rfl ?_
  refine wp_istore_n (pc := 1) (lv' := [some (vr _), some (vi _), some (vi _), some (vi _), none, none]) d_X7_following_1 (by decide) rfl ?_
  refine wp_aload_n (pc := 2) d_X7_following_2 rfl ?_
  obtain ⟨ho1, h⟩ := h
  refine wp_getI (pc := 3) d_X7_following_3 fl_X7_9 (fun _ _ _ => rfl) ho1 ?_
  refine wp_iconst (pc := 6) (v := 1) d_X7_following_6 rfl ?_
  refine wp_isub (pc := 7) d_X7_following_7 ?_
  refine wp_istore (pc := 8) (lv' := [some (vr _), some (vi _), some (vi _), some (vi _), some (vi _), none]) d_X7_following_8 (by decide) rfl ?_
  refine wp_sub ?_ h
  exact ⟨rfl, ⟨rfl, ⟨rfl, ⟨rfl, ⟨rfl, trivial⟩⟩⟩⟩⟩
theorem v_X7_following_10 {E : EE} {d : Nat} {Q : Option AV → AH → Prop} {x0 : Nat} {x1 : Int32} {x2 : Int32} {x3 : Int32} {x4 : Int32} {G : AH} (h0 : 0 < d) (h : (x4 < 0 → Q (some (vi (-1))) G) ∧ (¬ (x4 < 0) → (((x2 >>> (x4 &&& 31)) &&& 1) = 0 → isO E G x0 7 ∧ (wpI E (d - 1) M_X7_placeOf [vr x0, vi x3, vi x4] G (fun r1 G2 => isO E G2 x0 7 ∧ (isO E G2 (gR G2 x0 2) 14 ∧ (vp_in x4 (gN G2 (gR G2 x0 2)) ∧ (((gI G2 (gR G2 x0 2) (Int32.toNatClampNeg x4)) ≤ (r1 + 1) → isO E G2 (gR G2 x0 4) 14 ∧ (vp_in x4 (gN G2 (gR G2 x0 4)) ∧ (wp E d M_X7_following 73 [some (vr x0), some (vi x1), some (vi x2), some (vi (x3 - (r1 * (gI G2 (gR G2 x0 4) (Int32.toNatClampNeg x4))))), some (vi x4), none] [] G2 Q))) ∧ (¬ ((gI G2 (gR G2 x0 2) (Int32.toNatClampNeg x4)) ≤ (r1 + 1)) → isO E G2 (gR G2 x0 4) 14 ∧ (vp_in x4 (gN G2 (gR G2 x0 4)) ∧ (Q (some (vi (x3 + (gI G2 (gR G2 x0 4) (Int32.toNatClampNeg x4))))) G2))))))))) ∧ (¬ (((x2 >>> (x4 &&& 31)) &&& 1) = 0) → wp E d M_X7_following 73 [some (vr x0), some (vi x1), some (vi x2), some (vi x3), some (vi x4), none] [] G Q))) : wp E d M_X7_following 10 [some (vr x0), some (vi x1), some (vi x2), some (vi x3), some (vi x4), none] [] G Q := by
  refine wp_iload (pc := 10) d_X7_following_10 rfl ?_
  refine wp_if_lt (pc := 12) (tgt := 79) d_X7_following_12 (by decide) (fun hc => ?_) (fun hc => ?_)
  · have h := h.1 hc
    refine wp_iconst (pc := 79) (v := (-1)) d_X7_following_79 rfl ?_
    exact wp_iret (pc := 80) d_X7_following_80 rfl h
  · have h := h.2 hc
    refine wp_iload_n (pc := 15) d_X7_following_15 rfl ?_
    refine wp_iload (pc := 16) d_X7_following_16 rfl ?_
    refine wp_ishr (pc := 18) d_X7_following_18 ?_
    refine wp_iconst (pc := 19) (v := 1) d_X7_following_19 rfl ?_
    refine wp_iand (pc := 20) d_X7_following_20 ?_
    refine wp_if_eq (pc := 21) (tgt := 27) d_X7_following_21 (by decide) (fun hc => ?_) (fun hc => ?_)
    · have h := h.1 hc
      refine wp_aload_n (pc := 27) d_X7_following_27 rfl ?_
      refine wp_iload_n (pc := 28) d_X7_following_28 rfl ?_
      refine wp_iload (pc := 29) d_X7_following_29 rfl ?_
      obtain ⟨ho10, h⟩ := h
      refine wp_invV (pc := 31) (N := M_X7_placeOf) (As := [vi _, vi _]) (rest := []) (r := (cn_7, ct_7, 5)) d_X7_following_31 ml_X7_28 mk_X7_placeOf mv_X7_placeOf h0 ho10 rfl rfl (Nat.le_of_ble_eq_true rfl) ?_
      refine wpM.mono h (fun rr G2 hr => ?_)
      obtain ⟨r1, rfl, h⟩ := hr
      show wp E d M_X7_following 34 [some (vr _), some (vi _), some (vi _), some (vi _), some (vi _), none] [vi _] G2 Q
      refine wp_istore (pc := 34) (lv' := [some (vr _), some (vi _), some (vi _), some (vi _), some (vi _), some (vi _)]) d_X7_following_34 (by decide) rfl ?_
      refine wp_iload (pc := 36) d_X7_following_36 rfl ?_
      refine wp_iconst (pc := 38) (v := 1) d_X7_following_38 rfl ?_
      refine wp_iadd (pc := 39) d_X7_following_39 ?_
      refine wp_aload_n (pc := 40) d_X7_following_40 rfl ?_
      obtain ⟨ho3, h⟩ := h
      refine wp_getR (pc := 41) d_X7_following_41 fl_X7_18 (fun _ _ _ => rfl) ho3 ?_
      refine wp_iload (pc := 44) d_X7_following_44 rfl ?_
      obtain ⟨ho4, h⟩ := h
      obtain ⟨hi5, h⟩ := h
      refine wp_iald (pc := 46) d_X7_following_46 ho4 hi5 ?_
      refine wp_icmp_ge (pc := 47) (tgt := 60) d_X7_following_47 (by decide) (fun hc => ?_) (fun hc => ?_)
      · have h := h.1 hc
        refine wp_iload_n (pc := 60) d_X7_following_60 rfl ?_
        refine wp_iload (pc := 61) d_X7_following_61 rfl ?_
        refine wp_aload_n (pc := 63) d_X7_following_63 rfl ?_
        refine wp_getR (pc := 64) d_X7_following_64 fl_X7_25 (fun _ _ _ => rfl) ho3 ?_
        refine wp_iload (pc := 67) d_X7_following_67 rfl ?_
        obtain ⟨ho6, h⟩ := h
        obtain ⟨hi7, h⟩ := h
        refine wp_iald (pc := 69) d_X7_following_69 ho6 hi7 ?_
        refine wp_imul (pc := 70) d_X7_following_70 ?_
        refine wp_isub (pc := 71) d_X7_following_71 ?_
        refine wp_istore_n (pc := 72) (lv' := [some (vr _), some (vi _), some (vi _), some (vi _), some (vi _), some (vi _)]) d_X7_following_72 (by decide) rfl ?_
        refine wp_sub ?_ h
        exact ⟨rfl, ⟨rfl, ⟨rfl, ⟨rfl, ⟨rfl, trivial⟩⟩⟩⟩⟩
      · have h := h.2 hc
        refine wp_iload_n (pc := 50) d_X7_following_50 rfl ?_
        refine wp_aload_n (pc := 51) d_X7_following_51 rfl ?_
        refine wp_getR (pc := 52) d_X7_following_52 fl_X7_25 (fun _ _ _ => rfl) ho3 ?_
        refine wp_iload (pc := 55) d_X7_following_55 rfl ?_
        obtain ⟨ho8, h⟩ := h
        obtain ⟨hi9, h⟩ := h
        refine wp_iald (pc := 57) d_X7_following_57 ho8 hi9 ?_
        refine wp_iadd (pc := 58) d_X7_following_58 ?_
        exact wp_iret (pc := 59) d_X7_following_59 rfl h
    · have h := h.2 hc
      refine wp_goto (pc := 24) (tgt := 73) d_X7_following_24 (by decide) ?_
      refine wp_sub ?_ h
      exact ⟨rfl, ⟨rfl, ⟨rfl, ⟨rfl, ⟨rfl, trivial⟩⟩⟩⟩⟩
theorem v_X7_following_73 {E : EE} {d : Nat} {Q : Option AV → AH → Prop} {x0 : Nat} {x1 : Int32} {x2 : Int32} {x3 : Int32} {x4 : Int32} {G : AH} (h : wp E d M_X7_following 10 [some (vr x0), some (vi x1), some (vi x2), some (vi x3), some (vi (x4 + (-1))), none] [] G Q) : wp E d M_X7_following 73 [some (vr x0), some (vi x1), some (vi x2), some (vi x3), some (vi x4), none] [] G Q := by
  refine wp_iinc (pc := 73) (v := (-1)) (lv' := [some (vr _), some (vi _), some (vi _), some (vi _), some (vi _), none]) d_X7_following_73 (by decide) rfl rfl rfl ?_
  refine wp_goto (pc := 76) (tgt := 10) d_X7_following_76 (by decide) ?_
  refine wp_sub ?_ h
  exact ⟨rfl, ⟨rfl, ⟨rfl, ⟨rfl, ⟨rfl, trivial⟩⟩⟩⟩⟩
theorem d_X7_isVar_0 : decode prog_9_method_4_code 0 = .ok (.iload_n 1, 1) := by decide +kernel
theorem d_X7_isVar_1 : decode prog_9_method_4_code 1 = .ok (.ifCond .lt 15, 3) := by decide +kernel
theorem d_X7_isVar_4 : decode prog_9_method_4_code 4 = .ok (.iload_n 1, 1) := by decide +kernel
theorem d_X7_isVar_5 : decode prog_9_method_4_code 5 = .ok (.aload_n 0, 1) := by decide +kernel
theorem d_X7_isVar_6 : decode prog_9_method_4_code 6 = .ok (.getfield 9, 3) := by decide +kernel
theorem d_X7_isVar_9 : decode prog_9_method_4_code 9 = .ok (.if_icmp .ge 7, 3) := by decide +kernel
theorem d_X7_isVar_12 : decode prog_9_method_4_code 12 = .ok (.iconst 1, 1) := by decide +kernel
theorem d_X7_isVar_13 : decode prog_9_method_4_code 13 = .ok (.goto 4, 3) := by decide +kernel
theorem d_X7_isVar_16 : decode prog_9_method_4_code 16 = .ok (.iconst 0, 1) := by decide +kernel
theorem d_X7_isVar_17 : decode prog_9_method_4_code 17 = .ok (.ireturn, 1) := by decide +kernel
theorem v_X7_isVar_0 {E : EE} {d : Nat} {Q : Option AV → AH → Prop} {x0 : Nat} {x1 : Int32} {G : AH} (h : (x1 < 0 → Q (some (vi 0)) G) ∧ (¬ (x1 < 0) → isO E G x0 7 ∧ (((gI G x0 0) ≤ x1 → Q (some (vi 0)) G) ∧ (¬ ((gI G x0 0) ≤ x1) → Q (some (vi 1)) G)))) : wp E d M_X7_isVar 0 [some (vr x0), some (vi x1)] [] G Q := by
  refine wp_iload_n (pc := 0) d_X7_isVar_0 rfl ?_
  refine wp_if_lt (pc := 1) (tgt := 16) d_X7_isVar_1 (by decide) (fun hc => ?_) (fun hc => ?_)
  · have h := h.1 hc
    refine wp_iconst (pc := 16) (v := 0) d_X7_isVar_16 rfl ?_
    exact wp_zret (pc := 17) d_X7_isVar_17 rfl rfl h
  · have h := h.2 hc
    refine wp_iload_n (pc := 4) d_X7_isVar_4 rfl ?_
    refine wp_aload_n (pc := 5) d_X7_isVar_5 rfl ?_
    obtain ⟨ho1, h⟩ := h
    refine wp_getI (pc := 6) d_X7_isVar_6 fl_X7_9 (fun _ _ _ => rfl) ho1 ?_
    refine wp_icmp_ge (pc := 9) (tgt := 16) d_X7_isVar_9 (by decide) (fun hc => ?_) (fun hc => ?_)
    · have h := h.1 hc
      refine wp_iconst (pc := 16) (v := 0) d_X7_isVar_16 rfl ?_
      exact wp_zret (pc := 17) d_X7_isVar_17 rfl rfl h
    · have h := h.2 hc
      refine wp_iconst (pc := 12) (v := 1) d_X7_isVar_12 rfl ?_
      refine wp_goto (pc := 13) (tgt := 17) d_X7_isVar_13 (by decide) ?_
      exact wp_zret (pc := 17) d_X7_isVar_17 rfl rfl h
theorem d_X7_agreeing_0 : decode prog_9_method_9_code 0 = .ok (.iconst 1, 1) := by decide +kernel
theorem d_X7_agreeing_1 : decode prog_9_method_9_code 1 = .ok (.istore_n 2, 1) := by decide +kernel
theorem d_X7_agreeing_2 : decode prog_9_method_9_code 2 = .ok (.iconst 0, 1) := by decide +kernel
theorem d_X7_agreeing_3 : decode prog_9_method_9_code 3 = .ok (.istore_n 3, 1) := by decide +kernel
theorem d_X7_agreeing_4 : decode prog_9_method_9_code 4 = .ok (.iload_n 3, 1) := by decide +kernel
theorem d_X7_agreeing_5 : decode prog_9_method_9_code 5 = .ok (.aload_n 0, 1) := by decide +kernel
theorem d_X7_agreeing_6 : decode prog_9_method_9_code 6 = .ok (.getfield 9, 3) := by decide +kernel
theorem d_X7_agreeing_9 : decode prog_9_method_9_code 9 = .ok (.if_icmp .ge 26, 3) := by decide +kernel
theorem d_X7_agreeing_12 : decode prog_9_method_9_code 12 = .ok (.iload_n 1, 1) := by decide +kernel
theorem d_X7_agreeing_13 : decode prog_9_method_9_code 13 = .ok (.iload_n 3, 1) := by decide +kernel
theorem d_X7_agreeing_14 : decode prog_9_method_9_code 14 = .ok (.ishr, 1) := by decide +kernel
theorem d_X7_agreeing_15 : decode prog_9_method_9_code 15 = .ok (.iconst 1, 1) := by decide +kernel
theorem d_X7_agreeing_16 : decode prog_9_method_9_code 16 = .ok (.iand, 1) := by decide +kernel
theorem d_X7_agreeing_17 : decode prog_9_method_9_code 17 = .ok (.ifCond .ne 12, 3) := by decide +kernel
theorem d_X7_agreeing_20 : decode prog_9_method_9_code 20 = .ok (.iload_n 2, 1) := by decide +kernel
theorem d_X7_agreeing_21 : decode prog_9_method_9_code 21 = .ok (.aload_n 0, 1) := by decide +kernel
theorem d_X7_agreeing_22 : decode prog_9_method_9_code 22 = .ok (.getfield 18, 3) := by decide +kernel
theorem d_X7_agreeing_25 : decode prog_9_method_9_code 25 = .ok (.iload_n 3, 1) := by decide +kernel
theorem d_X7_agreeing_26 : decode prog_9_method_9_code 26 = .ok (.iaload, 1) := by decide +kernel
theorem d_X7_agreeing_27 : decode prog_9_method_9_code 27 = .ok (.imul, 1) := by decide +kernel
theorem d_X7_agreeing_28 : decode prog_9_method_9_code 28 = .ok (.istore_n 2, 1) := by decide +kernel
theorem d_X7_agreeing_29 : decode prog_9_method_9_code 29 = .ok (.iinc 3 1, 3) := by decide +kernel
theorem d_X7_agreeing_32 : decode prog_9_method_9_code 32 = .ok (.goto (-28), 3) := by decide +kernel
theorem d_X7_agreeing_35 : decode prog_9_method_9_code 35 = .ok (.iload_n 2, 1) := by decide +kernel
theorem d_X7_agreeing_36 : decode prog_9_method_9_code 36 = .ok (.ireturn, 1) := by decide +kernel
theorem v_X7_agreeing_0 {E : EE} {d : Nat} {Q : Option AV → AH → Prop} {x0 : Nat} {x1 : Int32} {G : AH} (h : wp E d M_X7_agreeing 4 [some (vr x0), some (vi x1), some (vi 1), some (vi 0)] [] G Q) : wp E d M_X7_agreeing 0 [some (vr x0), some (vi x1), none, none] [] G Q := by
  refine wp_iconst (pc := 0) (v := 1) d_X7_agreeing_0 rfl ?_
  refine wp_istore_n (pc := 1) (lv' := [some (vr _), some (vi _), some (vi _), none]) d_X7_agreeing_1 (by decide) rfl ?_
  refine wp_iconst (pc := 2) (v := 0) d_X7_agreeing_2 rfl ?_
  refine wp_istore_n (pc := 3) (lv' := [some (vr _), some (vi _), some (vi _), some (vi _)]) d_X7_agreeing_3 (by decide) rfl ?_
  refine wp_sub ?_ h
  exact ⟨rfl, ⟨rfl, ⟨rfl, ⟨rfl, trivial⟩⟩⟩⟩
theorem v_X7_agreeing_4 {E : EE} {d : Nat} {Q : Option AV → AH → Prop} {x0 : Nat} {x1 : Int32} {x2 : Int32} {x3 : Int32} {G : AH} (h : isO E G x0 7 ∧ (((gI G x0 0) ≤ x3 → Q (some (vi x2)) G) ∧ (¬ ((gI G x0 0) ≤ x3) → (¬ ((x1 >>> (x3 &&& 31)) &&& 1) = 0 → wp E d M_X7_agreeing 29 [some (vr x0), some (vi x1), some (vi x2), some (vi x3)] [] G Q) ∧ (((x1 >>> (x3 &&& 31)) &&& 1) = 0 → isO E G (gR G x0 2) 14 ∧ (vp_in x3 (gN G (gR G x0 2)) ∧ (wp E d M_X7_agreeing 29 [some (vr x0), some (vi x1), some (vi (x2 * (gI G (gR G x0 2) (Int32.toNatClampNeg x3)))), some (vi x3)] [] G Q)))))) : wp E d M_X7_agreeing 4 [some (vr x0), some (vi x1), some (vi x2), some (vi x3)] [] G Q := by
  refine wp_iload_n (pc := 4) d_X7_agreeing_4 rfl ?_
  refine wp_aload_n (pc := 5) d_X7_agreeing_5 rfl ?_
  obtain ⟨ho1, h⟩ := h
  refine wp_getI (pc := 6) d_X7_agreeing_6 fl_X7_9 (fun _ _ _ => rfl) ho1 ?_
  refine wp_icmp_ge (pc := 9) (tgt := 35) d_X7_agreeing_9 (by decide) (fun hc => ?_) (fun hc => ?_)
  · have h := h.1 hc
    refine wp_iload_n (pc := 35) d_X7_agreeing_35 rfl ?_
    exact wp_iret (pc := 36) d_X7_agreeing_36 rfl h
  · have h := h.2 hc
    refine wp_iload_n (pc := 12) d_X7_agreeing_12 rfl ?_
    refine wp_iload_n (pc := 13) d_X7_agreeing_13 rfl ?_
    refine wp_ishr (pc := 14) d_X7_agreeing_14 ?_
    refine wp_iconst (pc := 15) (v := 1) d_X7_agreeing_15 rfl ?_
    refine wp_iand (pc := 16) d_X7_agreeing_16 ?_
    refine wp_if_ne (pc := 17) (tgt := 29) d_X7_agreeing_17 (by decide) (fun hc => ?_) (fun hc => ?_)
    · have h := h.1 hc
      refine wp_sub ?_ h
      exact ⟨rfl, ⟨rfl, ⟨rfl, ⟨rfl, trivial⟩⟩⟩⟩
    · have h := h.2 hc
      refine wp_iload_n (pc := 20) d_X7_agreeing_20 rfl ?_
      refine wp_aload_n (pc := 21) d_X7_agreeing_21 rfl ?_
      refine wp_getR (pc := 22) d_X7_agreeing_22 fl_X7_18 (fun _ _ _ => rfl) ho1 ?_
      refine wp_iload_n (pc := 25) d_X7_agreeing_25 rfl ?_
      obtain ⟨ho2, h⟩ := h
      obtain ⟨hi3, h⟩ := h
      refine wp_iald (pc := 26) d_X7_agreeing_26 ho2 hi3 ?_
      refine wp_imul (pc := 27) d_X7_agreeing_27 ?_
      refine wp_istore_n (pc := 28) (lv' := [some (vr _), some (vi _), some (vi _), some (vi _)]) d_X7_agreeing_28 (by decide) rfl ?_
      refine wp_sub ?_ h
      exact ⟨rfl, ⟨rfl, ⟨rfl, ⟨rfl, trivial⟩⟩⟩⟩
theorem v_X7_agreeing_29 {E : EE} {d : Nat} {Q : Option AV → AH → Prop} {x0 : Nat} {x1 : Int32} {x2 : Int32} {x3 : Int32} {G : AH} (h : wp E d M_X7_agreeing 4 [some (vr x0), some (vi x1), some (vi x2), some (vi (x3 + 1))] [] G Q) : wp E d M_X7_agreeing 29 [some (vr x0), some (vi x1), some (vi x2), some (vi x3)] [] G Q := by
  refine wp_iinc (pc := 29) (v := 1) (lv' := [some (vr _), some (vi _), some (vi _), some (vi _)]) d_X7_agreeing_29 (by decide) rfl rfl rfl ?_
  refine wp_goto (pc := 32) (tgt := 4) d_X7_agreeing_32 (by decide) ?_
  refine wp_sub ?_ h
  exact ⟨rfl, ⟨rfl, ⟨rfl, ⟨rfl, trivial⟩⟩⟩⟩
theorem d_X9_init_0 : decode prog_11_method_1_code 0 = .ok (.aload_n 0, 1) := by decide +kernel
theorem d_X9_init_1 : decode prog_11_method_1_code 1 = .ok (.invokespecial 3, 3) := by decide +kernel
theorem d_X9_init_4 : decode prog_11_method_1_code 4 = .ok (.aload_n 0, 1) := by decide +kernel
theorem d_X9_init_5 : decode prog_11_method_1_code 5 = .ok (.iconst 0, 1) := by decide +kernel
theorem d_X9_init_6 : decode prog_11_method_1_code 6 = .ok (.putfield 9, 3) := by decide +kernel
theorem d_X9_init_9 : decode prog_11_method_1_code 9 = .ok (.aload_n 0, 1) := by decide +kernel
theorem d_X9_init_10 : decode prog_11_method_1_code 10 = .ok (.iconst 0, 1) := by decide +kernel
theorem d_X9_init_11 : decode prog_11_method_1_code 11 = .ok (.putfield 15, 3) := by decide +kernel
theorem d_X9_init_14 : decode prog_11_method_1_code 14 = .ok (.aload_n 0, 1) := by decide +kernel
theorem d_X9_init_15 : decode prog_11_method_1_code 15 = .ok (.iconst 0, 1) := by decide +kernel
theorem d_X9_init_16 : decode prog_11_method_1_code 16 = .ok (.newarray .int, 2) := by decide +kernel
theorem d_X9_init_18 : decode prog_11_method_1_code 18 = .ok (.putfield 19, 3) := by decide +kernel
theorem d_X9_init_21 : decode prog_11_method_1_code 21 = .ok (.aload_n 0, 1) := by decide +kernel
theorem d_X9_init_22 : decode prog_11_method_1_code 22 = .ok (.iconst 0, 1) := by decide +kernel
theorem d_X9_init_23 : decode prog_11_method_1_code 23 = .ok (.putfield 23, 3) := by decide +kernel
theorem d_X9_init_26 : decode prog_11_method_1_code 26 = .ok (.aload_n 0, 1) := by decide +kernel
theorem d_X9_init_27 : decode prog_11_method_1_code 27 = .ok (.iconst 0, 1) := by decide +kernel
theorem d_X9_init_28 : decode prog_11_method_1_code 28 = .ok (.putfield 26, 3) := by decide +kernel
theorem d_X9_init_31 : decode prog_11_method_1_code 31 = .ok (.aload_n 0, 1) := by decide +kernel
theorem d_X9_init_32 : decode prog_11_method_1_code 32 = .ok (.iconst 0, 1) := by decide +kernel
theorem d_X9_init_33 : decode prog_11_method_1_code 33 = .ok (.putfield 29, 3) := by decide +kernel
theorem d_X9_init_36 : decode prog_11_method_1_code 36 = .ok (.aload_n 0, 1) := by decide +kernel
theorem d_X9_init_37 : decode prog_11_method_1_code 37 = .ok (.iconst 0, 1) := by decide +kernel
theorem d_X9_init_38 : decode prog_11_method_1_code 38 = .ok (.newarray .long, 2) := by decide +kernel
theorem d_X9_init_40 : decode prog_11_method_1_code 40 = .ok (.putfield 32, 3) := by decide +kernel
theorem d_X9_init_43 : decode prog_11_method_1_code 43 = .ok (.aload_n 0, 1) := by decide +kernel
theorem d_X9_init_44 : decode prog_11_method_1_code 44 = .ok (.iconst 0, 1) := by decide +kernel
theorem d_X9_init_45 : decode prog_11_method_1_code 45 = .ok (.newarray .int, 2) := by decide +kernel
theorem d_X9_init_47 : decode prog_11_method_1_code 47 = .ok (.putfield 36, 3) := by decide +kernel
theorem d_X9_init_50 : decode prog_11_method_1_code 50 = .ok (.return_, 1) := by decide +kernel
theorem v_X9_init_0 {E : EE} {d : Nat} {Q : Option AV → AH → Prop} {x0 : Nat} {G : AH} (h0 : 0 < d) (h : isO E G x0 9 ∧ (∀ G2 : AH, G2 = sI G x0 0 0 → ∀ G4 : AH, G4 = sI G2 x0 1 0 → eB E ≤ gT G4 ∧ (∀ G10 : AH, G10 = nw G4 14 (Int32.toNatClampNeg 0) (Int32.toNatClampNeg 0) → ∀ G14 : AH, G14 = sR G10 x0 2 (gT G4) → ∀ G17 : AH, G17 = sI G14 x0 3 0 → ∀ G20 : AH, G20 = sI G17 x0 4 0 → ∀ G23 : AH, G23 = sI G20 x0 5 0 → ∀ G29 : AH, G29 = nw G23 15 (Int32.toNatClampNeg 0) (Int32.toNatClampNeg 0) → ∀ G33 : AH, G33 = sR G29 x0 6 (gT G23) → ∀ G39 : AH, G39 = nw G33 14 (Int32.toNatClampNeg 0) (Int32.toNatClampNeg 0) → ∀ G43 : AH, G43 = sR G39 x0 7 (gT G33) → Q none G43))) : wp E d M_X9_init 0 [some (vr x0)] [] G Q := by
  refine wp_aload_n (pc := 0) d_X9_init_0 rfl ?_
  obtain ⟨ho1, h⟩ := h
  refine wp_objI (pc := 1) d_X9_init_1 ml_X9_3 in_obj mc_obj h0 ho1 (Nat.le_of_ble_eq_true rfl) ?_
  refine wp_aload_n (pc := 4) d_X9_init_4 rfl ?_
  refine wp_iconst (pc := 5) (v := 0) d_X9_init_5 rfl ?_
  refine wp_putI (pc := 6) d_X9_init_6 fl_X9_9 (fun _ _ _ => rfl) (Or.inl rfl) ho1 okI_z0 ?_
  refine wp_nm (fun G2 eG2 => ?_)
  have h := h G2 eG2
  have ho3 := isO_sI eG2 ho1
  refine wp_aload_n (pc := 9) d_X9_init_9 rfl ?_
  refine wp_iconst (pc := 10) (v := 0) d_X9_init_10 rfl ?_
  refine wp_putI (pc := 11) d_X9_init_11 fl_X9_15 (fun _ _ _ => rfl) (Or.inl rfl) ho3 (okI_int _) ?_
  refine wp_nm (fun G4 eG4 => ?_)
  have h := h G4 eG4
  have ho5 := isO_sI eG4 ho3
  refine wp_aload_n (pc := 14) d_X9_init_14 rfl ?_
  refine wp_iconst (pc := 15) (v := 0) d_X9_init_15 rfl ?_
  obtain ⟨hb6, h⟩ := h
  refine wp_newa (pc := 16) (t0 := 1) (kd := 14) d_X9_init_16 rfl (fun _ q => by cases q) ac_int (by decide) (fun _ => rfl) rfl (by decide) (by decide) (by decide) ?_
  refine wp_nm (fun G10 eG10 => ?_)
  have h := h G10 eG10
  have ho11 := isO_nwE eG10 ho5
  have hb12 := base_nwE eG10 hb6
  have ho13 := isO_newE eG10 hb6
  refine wp_putR (pc := 18) d_X9_init_18 fl_X9_19 (fun _ _ _ => rfl) (Or.inr ⟨_, rfl⟩) (Or.inl rfl) ho11 ?_
  refine wp_nm (fun G14 eG14 => ?_)
  have h := h G14 eG14
  have ho15 := isO_sR eG14 ho11
  have hb16 := base_sR eG14 hb12
  refine wp_aload_n (pc := 21) d_X9_init_21 rfl ?_
  refine wp_iconst (pc := 22) (v := 0) d_X9_init_22 rfl ?_
  refine wp_putI (pc := 23) d_X9_init_23 fl_X9_23 (fun _ _ _ => rfl) (Or.inl rfl) ho15 (okI_int _) ?_
  refine wp_nm (fun G17 eG17 => ?_)
  have h := h G17 eG17
  have ho18 := isO_sI eG17 ho15
  have hb19 := base_sI eG17 hb16
  refine wp_aload_n (pc := 26) d_X9_init_26 rfl ?_
  refine wp_iconst (pc := 27) (v := 0) d_X9_init_27 rfl ?_
  refine wp_putI (pc := 28) d_X9_init_28 fl_X9_26 (fun _ _ _ => rfl) (Or.inl rfl) ho18 (okI_int _) ?_
  refine wp_nm (fun G20 eG20 => ?_)
  have h := h G20 eG20
  have ho21 := isO_sI eG20 ho18
  have hb22 := base_sI eG20 hb19
  refine wp_aload_n (pc := 31) d_X9_init_31 rfl ?_
  refine wp_iconst (pc := 32) (v := 0) d_X9_init_32 rfl ?_
  refine wp_putI (pc := 33) d_X9_init_33 fl_X9_29 (fun _ _ _ => rfl) (Or.inl rfl) ho21 (okI_int _) ?_
  refine wp_nm (fun G23 eG23 => ?_)
  have h := h G23 eG23
  have ho24 := isO_sI eG23 ho21
  have hb25 := base_sI eG23 hb22
  refine wp_aload_n (pc := 36) d_X9_init_36 rfl ?_
  refine wp_iconst (pc := 37) (v := 0) d_X9_init_37 rfl ?_
  refine wp_newa (pc := 38) (t0 := 2) (kd := 15) d_X9_init_38 rfl (fun _ q => by cases q) ac_long (by decide) (fun _ => rfl) rfl (by decide) (by decide) (by decide) ?_
  refine wp_nm (fun G29 eG29 => ?_)
  have h := h G29 eG29
  have ho30 := isO_nwE eG29 ho24
  have hb31 := base_nwE eG29 hb25
  have ho32 := isO_newE eG29 hb25
  refine wp_putR (pc := 40) d_X9_init_40 fl_X9_32 (fun _ _ _ => rfl) (Or.inr ⟨_, rfl⟩) (Or.inl rfl) ho30 ?_
  refine wp_nm (fun G33 eG33 => ?_)
  have h := h G33 eG33
  have ho34 := isO_sR eG33 ho30
  have hb35 := base_sR eG33 hb31
  refine wp_aload_n (pc := 43) d_X9_init_43 rfl ?_
  refine wp_iconst (pc := 44) (v := 0) d_X9_init_44 rfl ?_
  refine wp_newa (pc := 45) (t0 := 1) (kd := 14) d_X9_init_45 rfl (fun _ q => by cases q) ac_int (by decide) (fun _ => rfl) rfl (by decide) (by decide) (by decide) ?_
  refine wp_nm (fun G39 eG39 => ?_)
  have h := h G39 eG39
  have ho40 := isO_nwE eG39 ho34
  have hb41 := base_nwE eG39 hb35
  have ho42 := isO_newE eG39 hb35
  refine wp_putR (pc := 47) d_X9_init_47 fl_X9_36 (fun _ _ _ => rfl) (Or.inr ⟨_, rfl⟩) (Or.inl rfl) ho40 ?_
  refine wp_nm (fun G43 eG43 => ?_)
  have h := h G43 eG43
  have ho44 := isO_sR eG43 ho40
  have hb45 := base_sR eG43 hb41
  exact wp_vret (pc := 50) d_X9_init_50 rfl h
theorem d_X9_renew_0 : decode prog_11_method_2_code 0 = .ok (.aload_n 0, 1) := by decide +kernel
theorem d_X9_renew_1 : decode prog_11_method_2_code 1 = .ok (.getfield 9, 3) := by decide +kernel
theorem d_X9_renew_4 : decode prog_11_method_2_code 4 = .ok (.ifCond .eq 4, 3) := by decide +kernel
theorem d_X9_renew_7 : decode prog_11_method_2_code 7 = .ok (.return_, 1) := by decide +kernel
theorem d_X9_renew_8 : decode prog_11_method_2_code 8 = .ok (.aload_n 1, 1) := by decide +kernel
theorem d_X9_renew_9 : decode prog_11_method_2_code 9 = .ok (.getfield 39, 3) := by decide +kernel
theorem d_X9_renew_12 : decode prog_11_method_2_code 12 = .ok (.getfield 45, 3) := by decide +kernel
theorem d_X9_renew_15 : decode prog_11_method_2_code 15 = .ok (.istore_n 2, 1) := by decide +kernel
theorem d_X9_renew_16 : decode prog_11_method_2_code 16 = .ok (.iload_n 2, 1) := by decide +kernel
theorem d_X9_renew_17 : decode prog_11_method_2_code 17 = .ok (.aload_n 0, 1) := by decide +kernel
theorem d_X9_renew_18 : decode prog_11_method_2_code 18 = .ok (.getfield 36, 3) := by decide +kernel
theorem d_X9_renew_21 : decode prog_11_method_2_code 21 = .ok (.arraylength, 1) := by decide +kernel
theorem d_X9_renew_22 : decode prog_11_method_2_code 22 = .ok (.if_icmp .le 44, 3) := by decide +kernel
theorem d_X9_renew_25 : decode prog_11_method_2_code 25 = .ok (.iload_n 2, 1) := by decide +kernel
theorem d_X9_renew_26 : decode prog_11_method_2_code 26 = .ok (.sipush 20000, 3) := by decide +kernel
theorem d_X9_renew_29 : decode prog_11_method_2_code 29 = .ok (.iconst 2, 1) := by decide +kernel
theorem d_X9_renew_30 : decode prog_11_method_2_code 30 = .ok (.aload_n 0, 1) := by decide +kernel
theorem d_X9_renew_31 : decode prog_11_method_2_code 31 = .ok (.getfield 36, 3) := by decide +kernel
theorem d_X9_renew_34 : decode prog_11_method_2_code 34 = .ok (.arraylength, 1) := by decide +kernel
theorem d_X9_renew_35 : decode prog_11_method_2_code 35 = .ok (.imul, 1) := by decide +kernel
theorem d_X9_renew_36 : decode prog_11_method_2_code 36 = .ok (.invokestatic 50, 3) := by decide +kernel
theorem d_X9_renew_39 : decode prog_11_method_2_code 39 = .ok (.invokestatic 56, 3) := by decide +kernel
theorem d_X9_renew_42 : decode prog_11_method_2_code 42 = .ok (.istore_n 3, 1) := by decide +kernel
theorem d_X9_renew_43 : decode prog_11_method_2_code 43 = .ok (.aload_n 0, 1) := by decide +kernel
theorem d_X9_renew_44 : decode prog_11_method_2_code 44 = .ok (.iload_n 3, 1) := by decide +kernel
theorem d_X9_renew_45 : decode prog_11_method_2_code 45 = .ok (.newarray .int, 2) := by decide +kernel
theorem d_X9_renew_47 : decode prog_11_method_2_code 47 = .ok (.putfield 36, 3) := by decide +kernel
theorem d_X9_renew_50 : decode prog_11_method_2_code 50 = .ok (.aload_n 0, 1) := by decide +kernel
theorem d_X9_renew_51 : decode prog_11_method_2_code 51 = .ok (.iload_n 3, 1) := by decide +kernel
theorem d_X9_renew_52 : decode prog_11_method_2_code 52 = .ok (.newarray .int, 2) := by decide +kernel
theorem d_X9_renew_54 : decode prog_11_method_2_code 54 = .ok (.putfield 19, 3) := by decide +kernel
theorem d_X9_renew_57 : decode prog_11_method_2_code 57 = .ok (.aload_n 0, 1) := by decide +kernel
theorem d_X9_renew_58 : decode prog_11_method_2_code 58 = .ok (.iconst 3, 1) := by decide +kernel
theorem d_X9_renew_59 : decode prog_11_method_2_code 59 = .ok (.iload_n 3, 1) := by decide +kernel
theorem d_X9_renew_60 : decode prog_11_method_2_code 60 = .ok (.imul, 1) := by decide +kernel
theorem d_X9_renew_61 : decode prog_11_method_2_code 61 = .ok (.newarray .long, 2) := by decide +kernel
theorem d_X9_renew_63 : decode prog_11_method_2_code 63 = .ok (.putfield 32, 3) := by decide +kernel
theorem d_X9_renew_66 : decode prog_11_method_2_code 66 = .ok (.aload_n 0, 1) := by decide +kernel
theorem d_X9_renew_67 : decode prog_11_method_2_code 67 = .ok (.iconst 0, 1) := by decide +kernel
theorem d_X9_renew_68 : decode prog_11_method_2_code 68 = .ok (.putfield 15, 3) := by decide +kernel
theorem d_X9_renew_71 : decode prog_11_method_2_code 71 = .ok (.iconst 0, 1) := by decide +kernel
theorem d_X9_renew_72 : decode prog_11_method_2_code 72 = .ok (.istore_n 3, 1) := by decide +kernel
theorem d_X9_renew_73 : decode prog_11_method_2_code 73 = .ok (.iload_n 3, 1) := by decide +kernel
theorem d_X9_renew_74 : decode prog_11_method_2_code 74 = .ok (.iload_n 2, 1) := by decide +kernel
theorem d_X9_renew_75 : decode prog_11_method_2_code 75 = .ok (.if_icmp .ge 53, 3) := by decide +kernel
theorem d_X9_renew_78 : decode prog_11_method_2_code 78 = .ok (.aload_n 0, 1) := by decide +kernel
theorem d_X9_renew_79 : decode prog_11_method_2_code 79 = .ok (.getfield 36, 3) := by decide +kernel
theorem d_X9_renew_82 : decode prog_11_method_2_code 82 = .ok (.iload_n 3, 1) := by decide +kernel
theorem d_X9_renew_83 : decode prog_11_method_2_code 83 = .ok (.aload_n 1, 1) := by decide +kernel
theorem d_X9_renew_84 : decode prog_11_method_2_code 84 = .ok (.getfield 59, 3) := by decide +kernel
theorem d_X9_renew_87 : decode prog_11_method_2_code 87 = .ok (.aload_n 1, 1) := by decide +kernel
theorem d_X9_renew_88 : decode prog_11_method_2_code 88 = .ok (.getfield 39, 3) := by decide +kernel
theorem d_X9_renew_91 : decode prog_11_method_2_code 91 = .ok (.iload_n 3, 1) := by decide +kernel
theorem d_X9_renew_92 : decode prog_11_method_2_code 92 = .ok (.aload_n 1, 1) := by decide +kernel
theorem d_X9_renew_93 : decode prog_11_method_2_code 93 = .ok (.getfield 63, 3) := by decide +kernel
theorem d_X9_renew_96 : decode prog_11_method_2_code 96 = .ok (.aload_n 0, 1) := by decide +kernel
theorem d_X9_renew_97 : decode prog_11_method_2_code 97 = .ok (.getfield 32, 3) := by decide +kernel
theorem d_X9_renew_100 : decode prog_11_method_2_code 100 = .ok (.iconst 3, 1) := by decide +kernel
theorem d_X9_renew_101 : decode prog_11_method_2_code 101 = .ok (.iload_n 3, 1) := by decide +kernel
theorem d_X9_renew_102 : decode prog_11_method_2_code 102 = .ok (.imul, 1) := by decide +kernel
theorem d_X9_renew_103 : decode prog_11_method_2_code 103 = .ok (.invokevirtual 66, 3) := by decide +kernel
theorem d_X9_renew_106 : decode prog_11_method_2_code 106 = .ok (.iastore, 1) := by decide +kernel
theorem d_X9_renew_107 : decode prog_11_method_2_code 107 = .ok (.aload_n 0, 1) := by decide +kernel
theorem d_X9_renew_108 : decode prog_11_method_2_code 108 = .ok (.dup, 1) := by decide +kernel
theorem d_X9_renew_109 : decode prog_11_method_2_code 109 = .ok (.getfield 15, 3) := by decide +kernel
theorem d_X9_renew_112 : decode prog_11_method_2_code 112 = .ok (.aload_n 0, 1) := by decide +kernel
theorem d_X9_renew_113 : decode prog_11_method_2_code 113 = .ok (.getfield 36, 3) := by decide +kernel
theorem d_X9_renew_116 : decode prog_11_method_2_code 116 = .ok (.iload_n 3, 1) := by decide +kernel
theorem d_X9_renew_117 : decode prog_11_method_2_code 117 = .ok (.iaload, 1) := by decide +kernel
theorem d_X9_renew_118 : decode prog_11_method_2_code 118 = .ok (.ior, 1) := by decide +kernel
theorem d_X9_renew_119 : decode prog_11_method_2_code 119 = .ok (.putfield 15, 3) := by decide +kernel
theorem d_X9_renew_122 : decode prog_11_method_2_code 122 = .ok (.iinc 3 1, 3) := by decide +kernel
theorem d_X9_renew_125 : decode prog_11_method_2_code 125 = .ok (.goto (-52), 3) := by decide +kernel
theorem d_X9_renew_128 : decode prog_11_method_2_code 128 = .ok (.aload_n 0, 1) := by decide +kernel
theorem d_X9_renew_129 : decode prog_11_method_2_code 129 = .ok (.iconst 1, 1) := by decide +kernel
theorem d_X9_renew_130 : decode prog_11_method_2_code 130 = .ok (.putfield 9, 3) := by decide +kernel
theorem d_X9_renew_133 : decode prog_11_method_2_code 133 = .ok (.return_, 1) := by decide +kernel
theorem v_X9_renew_0 {E : EE} {d : Nat} {Q : Option AV → AH → Prop} {x0 : Nat} {x1 : Nat} {G : AH} (h0 : 0 < d) (h : isO E G x0 9 ∧ (((gI G x0 0) = 0 → isO E G x1 3 ∧ (isO E G (gR G x1 4) 7 ∧ (isO E G (gR G x0 7) 14 ∧ (((gI G (gR G x1 4) 1) ≤ (nI (gN G (gR G x0 7))) → wp E d M_X9_renew 66 [some (vr x0), some (vr x1), some (vi (gI G (gR G x1 4) 1)), none] [] G Q) ∧ (¬ ((gI G (gR G x1 4) 1) ≤ (nI (gN G (gR G x0 7)))) → eB E ≤ gT G ∧ (¬ (imax (gI G (gR G x1 4) 1) (imin 20000 (2 * (nI (gN G (gR G x0 7)))))) < 0 ∧ (Int32.toNatClampNeg (imax (gI G (gR G x1 4) 1) (imin 20000 (2 * (nI (gN G (gR G x0 7)))))) ≤ 60000000 ∧ (∀ G14 : AH, G14 = nw G 14 (Int32.toNatClampNeg (imax (gI G (gR G x1 4) 1) (imin 20000 (2 * (nI (gN G (gR G x0 7))))))) (Int32.toNatClampNeg (imax (gI G (gR G x1 4) 1) (imin 20000 (2 * (nI (gN G (gR G x0 7))))))) → ∀ G19 : AH, G19 = sR G14 x0 7 (gT G) → ¬ (imax (gI G (gR G x1 4) 1) (imin 20000 (2 * (nI (gN G (gR G x0 7)))))) < 0 ∧ (Int32.toNatClampNeg (imax (gI G (gR G x1 4) 1) (imin 20000 (2 * (nI (gN G (gR G x0 7)))))) ≤ 60000000 ∧ (∀ G29 : AH, G29 = nw G19 14 (Int32.toNatClampNeg (imax (gI G (gR G x1 4) 1) (imin 20000 (2 * (nI (gN G (gR G x0 7))))))) (Int32.toNatClampNeg (imax (gI G (gR G x1 4) 1) (imin 20000 (2 * (nI (gN G (gR G x0 7))))))) → ∀ G34 : AH, G34 = sR G29 x0 2 (gT G19) → ¬ (3 * (imax (gI G (gR G x1 4) 1) (imin 20000 (2 * (nI (gN G (gR G x0 7))))))) < 0 ∧ (Int32.toNatClampNeg (3 * (imax (gI G (gR G x1 4) 1) (imin 20000 (2 * (nI (gN G (gR G x0 7))))))) ≤ 60000000 ∧ (∀ G44 : AH, G44 = nw G34 15 (Int32.toNatClampNeg (3 * (imax (gI G (gR G x1 4) 1) (imin 20000 (2 * (nI (gN G (gR G x0 7)))))))) (Int32.toNatClampNeg (3 * (imax (gI G (gR G x1 4) 1) (imin 20000 (2 * (nI (gN G (gR G x0 7)))))))) → ∀ G49 : AH, G49 = sR G44 x0 6 (gT G34) → wp E d M_X9_renew 66 [some (vr x0), some (vr x1), some (vi (gI G (gR G x1 4) 1)), none] [] G49 Q)))))))))))) ∧ (¬ ((gI G x0 0) = 0) → Q none G))) : wp E d M_X9_renew 0 [some (vr x0), some (vr x1), none, none] [] G Q := by
  refine wp_aload_n (pc := 0) d_X9_renew_0 rfl ?_
  obtain ⟨ho1, h⟩ := h
  refine wp_getI (pc := 1) d_X9_renew_1 fl_X9_9 (fun _ _ _ => rfl) ho1 ?_
  refine wp_if_eq (pc := 4) (tgt := 8) d_X9_renew_4 (by decide) (fun hc => ?_) (fun hc => ?_)
  · have h := h.1 hc
    refine wp_aload_n (pc := 8) d_X9_renew_8 rfl ?_
    obtain ⟨ho2, h⟩ := h
    refine wp_getR (pc := 9) d_X9_renew_9 fl_X9_39 (fun _ _ _ => rfl) ho2 ?_
    obtain ⟨ho3, h⟩ := h
    refine wp_getI (pc := 12) d_X9_renew_12 fl_X9_45 (fun _ _ _ => rfl) ho3 ?_
    refine wp_istore_n (pc := 15) (lv' := [some (vr _), some (vr _), some (vi _), none]) d_X9_renew_15 (by decide) rfl ?_
    refine wp_iload_n (pc := 16) d_X9_renew_16 rfl ?_
    refine wp_aload_n (pc := 17) d_X9_renew_17 rfl ?_
    refine wp_getR (pc := 18) d_X9_renew_18 fl_X9_36 (fun _ _ _ => rfl) ho1 ?_
    obtain ⟨ho4, h⟩ := h
    refine wp_alen (pc := 21) d_X9_renew_21 ho4 (by decide) rfl ?_
    refine wp_icmp_le (pc := 22) (tgt := 66) d_X9_renew_22 (by decide) (fun hc => ?_) (fun hc => ?_)
    · have h := h.1 hc
      refine wp_sub ?_ h
      exact ⟨rfl, ⟨rfl, ⟨rfl, trivial⟩⟩⟩
    · have h := h.2 hc
      refine wp_iload_n (pc := 25) d_X9_renew_25 rfl ?_
      refine wp_sipush (pc := 26) (v := 20000) d_X9_renew_26 rfl ?_
      refine wp_iconst (pc := 29) (v := 2) d_X9_renew_29 rfl ?_
      refine wp_aload_n (pc := 30) d_X9_renew_30 rfl ?_
      refine wp_getR (pc := 31) d_X9_renew_31 fl_X9_36 (fun _ _ _ => rfl) ho1 ?_
      refine wp_alen (pc := 34) d_X9_renew_34 ho4 (by decide) rfl ?_
      refine wp_imul (pc := 35) d_X9_renew_35 ?_
      refine wp_imin (pc := 36) d_X9_renew_36 ml_X9_50 ms_imin ii_math mc_imin h0 (Nat.le_of_ble_eq_true rfl) ?_
      refine wp_imax (pc := 39) d_X9_renew_39 ml_X9_56 ms_imax ii_math mc_imax h0 (Nat.le_of_ble_eq_true rfl) ?_
      refine wp_istore_n (pc := 42) (lv' := [some (vr _), some (vr _), some (vi _), some (vi _)]) d_X9_renew_42 (by decide) rfl ?_
      refine wp_aload_n (pc := 43) d_X9_renew_43 rfl ?_
      refine wp_iload_n (pc := 44) d_X9_renew_44 rfl ?_
      obtain ⟨hb5, h⟩ := h
      obtain ⟨hn12, h⟩ := h
      obtain ⟨hm13, h⟩ := h
      refine wp_newa (pc := 45) (t0 := 1) (kd := 14) d_X9_renew_45 rfl (fun _ q => by cases q) ac_int (by decide) (fun _ => rfl) rfl (by decide) hn12 hm13 ?_
      refine wp_nm (fun G14 eG14 => ?_)
      have h := h G14 eG14
      have ho15 := isO_nwE eG14 ho1
      have ho16 := isO_nwE eG14 ho2
      have hb17 := base_nwE eG14 hb5
      have ho18 := isO_newE eG14 hb5
      refine wp_putR (pc := 47) d_X9_renew_47 fl_X9_36 (fun _ _ _ => rfl) (Or.inr ⟨_, rfl⟩) (Or.inl rfl) ho15 ?_
      refine wp_nm (fun G19 eG19 => ?_)
      have h := h G19 eG19
      have ho20 := isO_sR eG19 ho15
      have ho21 := isO_sR eG19 ho16
      have hb22 := base_sR eG19 hb17
      refine wp_aload_n (pc := 50) d_X9_renew_50 rfl ?_
      refine wp_iload_n (pc := 51) d_X9_renew_51 rfl ?_
      obtain ⟨hn27, h⟩ := h
      obtain ⟨hm28, h⟩ := h
      refine wp_newa (pc := 52) (t0 := 1) (kd := 14) d_X9_renew_52 rfl (fun _ q => by cases q) ac_int (by decide) (fun _ => rfl) rfl (by decide) hn27 hm28 ?_
      refine wp_nm (fun G29 eG29 => ?_)
      have h := h G29 eG29
      have ho30 := isO_nwE eG29 ho20
      have ho31 := isO_nwE eG29 ho21
      have hb32 := base_nwE eG29 hb22
      have ho33 := isO_newE eG29 hb22
      refine wp_putR (pc := 54) d_X9_renew_54 fl_X9_19 (fun _ _ _ => rfl) (Or.inr ⟨_, rfl⟩) (Or.inl rfl) ho30 ?_
      refine wp_nm (fun G34 eG34 => ?_)
      have h := h G34 eG34
      have ho35 := isO_sR eG34 ho30
      have ho36 := isO_sR eG34 ho31
      have hb37 := base_sR eG34 hb32
      refine wp_aload_n (pc := 57) d_X9_renew_57 rfl ?_
      refine wp_iconst (pc := 58) (v := 3) d_X9_renew_58 rfl ?_
      refine wp_iload_n (pc := 59) d_X9_renew_59 rfl ?_
      refine wp_imul (pc := 60) d_X9_renew_60 ?_
      obtain ⟨hn42, h⟩ := h
      obtain ⟨hm43, h⟩ := h
      refine wp_newa (pc := 61) (t0 := 2) (kd := 15) d_X9_renew_61 rfl (fun _ q => by cases q) ac_long (by decide) (fun _ => rfl) rfl (by decide) hn42 hm43 ?_
      refine wp_nm (fun G44 eG44 => ?_)
      have h := h G44 eG44
      have ho45 := isO_nwE eG44 ho35
      have ho46 := isO_nwE eG44 ho36
      have hb47 := base_nwE eG44 hb37
      have ho48 := isO_newE eG44 hb37
      refine wp_putR (pc := 63) d_X9_renew_63 fl_X9_32 (fun _ _ _ => rfl) (Or.inr ⟨_, rfl⟩) (Or.inl rfl) ho45 ?_
      refine wp_nm (fun G49 eG49 => ?_)
      have h := h G49 eG49
      have ho50 := isO_sR eG49 ho45
      have ho51 := isO_sR eG49 ho46
      have hb52 := base_sR eG49 hb47
      refine wp_sub ?_ h
      exact ⟨rfl, ⟨rfl, ⟨rfl, trivial⟩⟩⟩
  · have h := h.2 hc
    exact wp_vret (pc := 7) d_X9_renew_7 rfl h
theorem v_X9_renew_66 {E : EE} {d : Nat} {Q : Option AV → AH → Prop} {x0 : Nat} {x1 : Nat} {x2 : Int32} {G : AH} (h : isO E G x0 9 ∧ (wp E d M_X9_renew 73 [some (vr x0), some (vr x1), some (vi x2), some (vi 0)] [] (sI G x0 1 0) Q)) : wp E d M_X9_renew 66 [some (vr x0), some (vr x1), some (vi x2), none] [] G Q := by
  refine wp_aload_n (pc := 66) d_X9_renew_66 rfl ?_
  refine wp_iconst (pc := 67) (v := 0) d_X9_renew_67 rfl ?_
  obtain ⟨ho1, h⟩ := h
  refine wp_putI (pc := 68) d_X9_renew_68 fl_X9_15 (fun _ _ _ => rfl) (Or.inl rfl) ho1 (okI_int _) ?_
  refine wp_iconst (pc := 71) (v := 0) d_X9_renew_71 rfl ?_
  refine wp_istore_n (pc := 72) (lv' := [some (vr _), some (vr _), some (vi _), some (vi _)]) d_X9_renew_72 (by decide) rfl ?_
  refine wp_sub ?_ h
  exact ⟨rfl, ⟨rfl, ⟨rfl, ⟨rfl, trivial⟩⟩⟩⟩
theorem v_X9_renew_73 {E : EE} {d : Nat} {Q : Option AV → AH → Prop} {x0 : Nat} {x1 : Nat} {x2 : Int32} {x3 : Int32} {G : AH} (h0 : 0 < d) (h : (x2 ≤ x3 → isO E G x0 9 ∧ (∀ G2 : AH, G2 = sI G x0 0 1 → Q none G2)) ∧ (¬ (x2 ≤ x3) → isO E G x0 9 ∧ (isO E G x1 3 ∧ (isO E G (gR G x1 5) 2 ∧ (wpI E (d - 1) M_X2_weighAll [vr (gR G x1 5), vr (gR G x1 4), vi x3, vr (gR G x1 7), vr (gR G x0 6), vi (3 * x3)] G (fun r6 G7 => isO E G7 (gR G x0 7) 14 ∧ (vp_in x3 (gN G7 (gR G x0 7)) ∧ (∀ G10 : AH, G10 = sI G7 (gR G x0 7) (Int32.toNatClampNeg x3) r6 → isO E G10 x0 9 ∧ (isO E G10 (gR G10 x0 7) 14 ∧ (vp_in x3 (gN G10 (gR G10 x0 7)) ∧ (∀ G14 : AH, G14 = sI G10 x0 1 ((gI G10 x0 1) ||| (gI G10 (gR G10 x0 7) (Int32.toNatClampNeg x3))) → wp E d M_X9_renew 73 [some (vr x0), some (vr x1), some (vi x2), some (vi (x3 + 1))] [] G14 Q))))))))))) : wp E d M_X9_renew 73 [some (vr x0), some (vr x1), some (vi x2), some (vi x3)] [] G Q := by
  refine wp_iload_n (pc := 73) d_X9_renew_73 rfl ?_
  refine wp_iload_n (pc := 74) d_X9_renew_74 rfl ?_
  refine wp_icmp_ge (pc := 75) (tgt := 128) d_X9_renew_75 (by decide) (fun hc => ?_) (fun hc => ?_)
  · have h := h.1 hc
    refine wp_aload_n (pc := 128) d_X9_renew_128 rfl ?_
    refine wp_iconst (pc := 129) (v := 1) d_X9_renew_129 rfl ?_
    obtain ⟨ho1, h⟩ := h
    refine wp_putI (pc := 130) d_X9_renew_130 fl_X9_9 (fun _ _ _ => rfl) (Or.inl rfl) ho1 okI_z1 ?_
    refine wp_nm (fun G2 eG2 => ?_)
    have h := h G2 eG2
    have ho3 := isO_sI eG2 ho1
    exact wp_vret (pc := 133) d_X9_renew_133 rfl h
  · have h := h.2 hc
    refine wp_aload_n (pc := 78) d_X9_renew_78 rfl ?_
    obtain ⟨ho4, h⟩ := h
    refine wp_getR (pc := 79) d_X9_renew_79 fl_X9_36 (fun _ _ _ => rfl) ho4 ?_
    refine wp_iload_n (pc := 82) d_X9_renew_82 rfl ?_
    refine wp_aload_n (pc := 83) d_X9_renew_83 rfl ?_
    obtain ⟨ho5, h⟩ := h
    refine wp_getR (pc := 84) d_X9_renew_84 fl_X9_59 (fun _ _ _ => rfl) ho5 ?_
    refine wp_aload_n (pc := 87) d_X9_renew_87 rfl ?_
    refine wp_getR (pc := 88) d_X9_renew_88 fl_X9_39 (fun _ _ _ => rfl) ho5 ?_
    refine wp_iload_n (pc := 91) d_X9_renew_91 rfl ?_
    refine wp_aload_n (pc := 92) d_X9_renew_92 rfl ?_
    refine wp_getR (pc := 93) d_X9_renew_93 fl_X9_63 (fun _ _ _ => rfl) ho5 ?_
    refine wp_aload_n (pc := 96) d_X9_renew_96 rfl ?_
    refine wp_getR (pc := 97) d_X9_renew_97 fl_X9_32 (fun _ _ _ => rfl) ho4 ?_
    refine wp_iconst (pc := 100) (v := 3) d_X9_renew_100 rfl ?_
    refine wp_iload_n (pc := 101) d_X9_renew_101 rfl ?_
    refine wp_imul (pc := 102) d_X9_renew_102 ?_
    obtain ⟨ho16, h⟩ := h
    refine wp_invV (pc := 103) (N := M_X2_weighAll) (As := [vr _, vi _, vr _, vr _, vi _]) (rest := [vi _, vr _]) (r := (cn_2, ct_2, 15)) d_X9_renew_103 ml_X9_66 mk_X2_weighAll mv_X2_weighAll h0 ho16 rfl rfl (Nat.le_of_ble_eq_true rfl) ?_
    refine wpM.mono h (fun rr G7 hr => ?_)
    obtain ⟨r6, rfl, h⟩ := hr
    show wp E d M_X9_renew 106 [some (vr _), some (vr _), some (vi _), some (vi _)] [vi _, vi _, vr _] G7 Q
    obtain ⟨ho8, h⟩ := h
    obtain ⟨hi9, h⟩ := h
    refine wp_iast (pc := 106) d_X9_renew_106 ho8 hi9 ?_
    refine wp_nm (fun G10 eG10 => ?_)
    have h := h G10 eG10
    refine wp_aload_n (pc := 107) d_X9_renew_107 rfl ?_
    refine wp_dup (pc := 108) d_X9_renew_108 (c1_r _) ?_
    obtain ⟨ho11, h⟩ := h
    refine wp_getI (pc := 109) d_X9_renew_109 fl_X9_15 (fun _ _ _ => rfl) ho11 ?_
    refine wp_aload_n (pc := 112) d_X9_renew_112 rfl ?_
    refine wp_getR (pc := 113) d_X9_renew_113 fl_X9_36 (fun _ _ _ => rfl) ho11 ?_
    refine wp_iload_n (pc := 116) d_X9_renew_116 rfl ?_
    obtain ⟨ho12, h⟩ := h
    obtain ⟨hi13, h⟩ := h
    refine wp_iald (pc := 117) d_X9_renew_117 ho12 hi13 ?_
    refine wp_ior (pc := 118) d_X9_renew_118 ?_
    refine wp_putI (pc := 119) d_X9_renew_119 fl_X9_15 (fun _ _ _ => rfl) (Or.inl rfl) ho11 (okI_int _) ?_
    refine wp_nm (fun G14 eG14 => ?_)
    have h := h G14 eG14
    have ho15 := isO_sI eG14 ho11
    refine wp_iinc (pc := 122) (v := 1) (lv' := [some (vr _), some (vr _), some (vi _), some (vi _)]) d_X9_renew_122 (by decide) rfl rfl rfl ?_
    refine wp_goto (pc := 125) (tgt := 73) d_X9_renew_125 (by decide) ?_
    refine wp_sub ?_ h
    exact ⟨rfl, ⟨rfl, ⟨rfl, ⟨rfl, trivial⟩⟩⟩⟩
theorem d_X9_beatsHand_0 : decode prog_11_method_11_code 0 = .ok (.aload_n 0, 1) := by decide +kernel
theorem d_X9_beatsHand_1 : decode prog_11_method_11_code 1 = .ok (.aload_n 1, 1) := by decide +kernel
theorem d_X9_beatsHand_2 : decode prog_11_method_11_code 2 = .ok (.aload_n 1, 1) := by decide +kernel
theorem d_X9_beatsHand_3 : decode prog_11_method_11_code 3 = .ok (.getfield 92, 3) := by decide +kernel
theorem d_X9_beatsHand_6 : decode prog_11_method_11_code 6 = .ok (.invokevirtual 95, 3) := by decide +kernel
theorem d_X9_beatsHand_9 : decode prog_11_method_11_code 9 = .ok (.pop, 1) := by decide +kernel
theorem d_X9_beatsHand_10 : decode prog_11_method_11_code 10 = .ok (.iconst 0, 1) := by decide +kernel
theorem d_X9_beatsHand_11 : decode prog_11_method_11_code 11 = .ok (.istore_n 2, 1) := by decide +kernel
theorem d_X9_beatsHand_12 : decode prog_11_method_11_code 12 = .ok (.iload_n 2, 1) := by decide +kernel
theorem d_X9_beatsHand_13 : decode prog_11_method_11_code 13 = .ok (.aload_n 0, 1) := by decide +kernel
theorem d_X9_beatsHand_14 : decode prog_11_method_11_code 14 = .ok (.getfield 23, 3) := by decide +kernel
theorem d_X9_beatsHand_17 : decode prog_11_method_11_code 17 = .ok (.if_icmp .ge 28, 3) := by decide +kernel
theorem d_X9_beatsHand_20 : decode prog_11_method_11_code 20 = .ok (.aload_n 0, 1) := by decide +kernel
theorem d_X9_beatsHand_21 : decode prog_11_method_11_code 21 = .ok (.aload_n 0, 1) := by decide +kernel
theorem d_X9_beatsHand_22 : decode prog_11_method_11_code 22 = .ok (.getfield 19, 3) := by decide +kernel
theorem d_X9_beatsHand_25 : decode prog_11_method_11_code 25 = .ok (.iload_n 2, 1) := by decide +kernel
theorem d_X9_beatsHand_26 : decode prog_11_method_11_code 26 = .ok (.iaload, 1) := by decide +kernel
theorem d_X9_beatsHand_27 : decode prog_11_method_11_code 27 = .ok (.aload_n 1, 1) := by decide +kernel
theorem d_X9_beatsHand_28 : decode prog_11_method_11_code 28 = .ok (.getfield 76, 3) := by decide +kernel
theorem d_X9_beatsHand_31 : decode prog_11_method_11_code 31 = .ok (.invokevirtual 103, 3) := by decide +kernel
theorem d_X9_beatsHand_34 : decode prog_11_method_11_code 34 = .ok (.ifCond .eq 5, 3) := by decide +kernel
theorem d_X9_beatsHand_37 : decode prog_11_method_11_code 37 = .ok (.iconst 1, 1) := by decide +kernel
theorem d_X9_beatsHand_38 : decode prog_11_method_11_code 38 = .ok (.ireturn, 1) := by decide +kernel
theorem d_X9_beatsHand_39 : decode prog_11_method_11_code 39 = .ok (.iinc 2 1, 3) := by decide +kernel
theorem d_X9_beatsHand_42 : decode prog_11_method_11_code 42 = .ok (.goto (-30), 3) := by decide +kernel
theorem d_X9_beatsHand_45 : decode prog_11_method_11_code 45 = .ok (.iconst 0, 1) := by decide +kernel
theorem d_X9_beatsHand_46 : decode prog_11_method_11_code 46 = .ok (.ireturn, 1) := by decide +kernel
theorem v_X9_beatsHand_0 {E : EE} {d : Nat} {Q : Option AV → AH → Prop} {x0 : Nat} {x1 : Nat} {G : AH} (h0 : 0 < d) (h : isO E G x1 3 ∧ (isO E G x0 9 ∧ (wpI E (d - 1) M_X9_gather [vr x0, vr x1, vi (gI G x1 9)] G (fun r2 G3 => wp E d M_X9_beatsHand 12 [some (vr x0), some (vr x1), some (vi 0)] [] G3 Q)))) : wp E d M_X9_beatsHand 0 [some (vr x0), some (vr x1), none] [] G Q := by
  refine wp_aload_n (pc := 0) d_X9_beatsHand_0 rfl ?_
  refine wp_aload_n (pc := 1) d_X9_beatsHand_1 rfl ?_
  refine wp_aload_n (pc := 2) d_X9_beatsHand_2 rfl ?_
  obtain ⟨ho1, h⟩ := h
  refine wp_getI (pc := 3) d_X9_beatsHand_3 fl_X9_92 (fun _ _ _ => rfl) ho1 ?_
  obtain ⟨ho4, h⟩ := h
  refine wp_invV (pc := 6) (N := M_X9_gather) (As := [vr _, vi _]) (rest := []) (r := (cn_9, ct_9, 8)) d_X9_beatsHand_6 ml_X9_95 mk_X9_gather mv_X9_gather h0 ho4 rfl rfl (Nat.le_of_ble_eq_true rfl) ?_
  refine wpM.mono h (fun rr G3 hr => ?_)
  obtain ⟨r2, rfl, h⟩ := hr
  show wp E d M_X9_beatsHand 9 [some (vr _), some (vr _), none] [vi _] G3 Q
  refine wp_pop (pc := 9) d_X9_beatsHand_9 (c1_i _) ?_
  refine wp_iconst (pc := 10) (v := 0) d_X9_beatsHand_10 rfl ?_
  refine wp_istore_n (pc := 11) (lv' := [some (vr _), some (vr _), some (vi _)]) d_X9_beatsHand_11 (by decide) rfl ?_
  refine wp_sub ?_ h
  exact ⟨rfl, ⟨rfl, ⟨rfl, trivial⟩⟩⟩
theorem v_X9_beatsHand_12 {E : EE} {d : Nat} {Q : Option AV → AH → Prop} {x0 : Nat} {x1 : Nat} {x2 : Int32} {G : AH} (h0 : 0 < d) (h : isO E G x0 9 ∧ (((gI G x0 3) ≤ x2 → Q (some (vi 0)) G) ∧ (¬ ((gI G x0 3) ≤ x2) → isO E G (gR G x0 2) 14 ∧ (vp_in x2 (gN G (gR G x0 2)) ∧ (isO E G x1 3 ∧ (wpI E (d - 1) M_X9_isBetter [vr x0, vi (gI G (gR G x0 2) (Int32.toNatClampNeg x2)), vi (gI G x1 8)] G (fun r5 G6 => (r5 = 0 → wp E d M_X9_beatsHand 12 [some (vr x0), some (vr x1), some (vi (x2 + 1))] [] G6 Q) ∧ (¬ (r5 = 0) → Q (some (vi 1)) G6)))))))) : wp E d M_X9_beatsHand 12 [some (vr x0), some (vr x1), some (vi x2)] [] G Q := by
  refine wp_iload_n (pc := 12) d_X9_beatsHand_12 rfl ?_
  refine wp_aload_n (pc := 13) d_X9_beatsHand_13 rfl ?_
  obtain ⟨ho1, h⟩ := h
  refine wp_getI (pc := 14) d_X9_beatsHand_14 fl_X9_23 (fun _ _ _ => rfl) ho1 ?_
  refine wp_icmp_ge (pc := 17) (tgt := 45) d_X9_beatsHand_17 (by decide) (fun hc => ?_) (fun hc => ?_)
  · have h := h.1 hc
    refine wp_iconst (pc := 45) (v := 0) d_X9_beatsHand_45 rfl ?_
    exact wp_zret (pc := 46) d_X9_beatsHand_46 rfl rfl h
  · have h := h.2 hc
    refine wp_aload_n (pc := 20) d_X9_beatsHand_20 rfl ?_
    refine wp_aload_n (pc := 21) d_X9_beatsHand_21 rfl ?_
    refine wp_getR (pc := 22) d_X9_beatsHand_22 fl_X9_19 (fun _ _ _ => rfl) ho1 ?_
    refine wp_iload_n (pc := 25) d_X9_beatsHand_25 rfl ?_
    obtain ⟨ho2, h⟩ := h
    obtain ⟨hi3, h⟩ := h
    refine wp_iald (pc := 26) d_X9_beatsHand_26 ho2 hi3 ?_
    refine wp_aload_n (pc := 27) d_X9_beatsHand_27 rfl ?_
    obtain ⟨ho4, h⟩ := h
    refine wp_getI (pc := 28) d_X9_beatsHand_28 fl_X9_76 (fun _ _ _ => rfl) ho4 ?_
    refine wp_invV (pc := 31) (N := M_X9_isBetter) (As := [vi _, vi _]) (rest := []) (r := (cn_9, ct_9, 8)) d_X9_beatsHand_31 ml_X9_103 mk_X9_isBetter mv_X9_isBetter h0 ho1 rfl rfl (Nat.le_of_ble_eq_true rfl) ?_
    refine wpM.mono h (fun rr G6 hr => ?_)
    obtain ⟨r5, rfl, h⟩ := hr
    show wp E d M_X9_beatsHand 34 [some (vr _), some (vr _), some (vi _)] [vi _] G6 Q
    refine wp_if_eq (pc := 34) (tgt := 39) d_X9_beatsHand_34 (by decide) (fun hc => ?_) (fun hc => ?_)
    · have h := h.1 hc
      refine wp_iinc (pc := 39) (v := 1) (lv' := [some (vr _), some (vr _), some (vi _)]) d_X9_beatsHand_39 (by decide) rfl rfl rfl ?_
      refine wp_goto (pc := 42) (tgt := 12) d_X9_beatsHand_42 (by decide) ?_
      refine wp_sub ?_ h
      exact ⟨rfl, ⟨rfl, ⟨rfl, trivial⟩⟩⟩
    · have h := h.2 hc
      refine wp_iconst (pc := 37) (v := 1) d_X9_beatsHand_37 rfl ?_
      exact wp_zret (pc := 38) d_X9_beatsHand_38 rfl rfl h
theorem d_X9_gather_0 : decode prog_11_method_6_code 0 = .ok (.aload_n 0, 1) := by decide +kernel
theorem d_X9_gather_1 : decode prog_11_method_6_code 1 = .ok (.iconst 0, 1) := by decide +kernel
theorem d_X9_gather_2 : decode prog_11_method_6_code 2 = .ok (.putfield 23, 3) := by decide +kernel
theorem d_X9_gather_5 : decode prog_11_method_6_code 5 = .ok (.aload_n 1, 1) := by decide +kernel
theorem d_X9_gather_6 : decode prog_11_method_6_code 6 = .ok (.getfield 39, 3) := by decide +kernel
theorem d_X9_gather_9 : decode prog_11_method_6_code 9 = .ok (.aload_n 1, 1) := by decide +kernel
theorem d_X9_gather_10 : decode prog_11_method_6_code 10 = .ok (.getfield 76, 3) := by decide +kernel
theorem d_X9_gather_13 : decode prog_11_method_6_code 13 = .ok (.iload_n 2, 1) := by decide +kernel
theorem d_X9_gather_14 : decode prog_11_method_6_code 14 = .ok (.invokevirtual 79, 3) := by decide +kernel
theorem d_X9_gather_17 : decode prog_11_method_6_code 17 = .ok (.istore_n 3, 1) := by decide +kernel
theorem d_X9_gather_18 : decode prog_11_method_6_code 18 = .ok (.iconst 0, 1) := by decide +kernel
theorem d_X9_gather_19 : decode prog_11_method_6_code 19 = .ok (.istore 4, 2) := by decide +kernel
theorem d_X9_gather_21 : decode prog_11_method_6_code 21 = .ok (.iload 4, 2) := by decide +kernel
theorem d_X9_gather_23 : decode prog_11_method_6_code 23 = .ok (.aload_n 1, 1) := by decide +kernel
theorem d_X9_gather_24 : decode prog_11_method_6_code 24 = .ok (.getfield 39, 3) := by decide +kernel
theorem d_X9_gather_27 : decode prog_11_method_6_code 27 = .ok (.getfield 45, 3) := by decide +kernel
theorem d_X9_gather_30 : decode prog_11_method_6_code 30 = .ok (.if_icmp .ge 68, 3) := by decide +kernel
theorem d_X9_gather_33 : decode prog_11_method_6_code 33 = .ok (.iload_n 3, 1) := by decide +kernel
theorem d_X9_gather_34 : decode prog_11_method_6_code 34 = .ok (.ifCond .lt 64, 3) := by decide +kernel
theorem d_X9_gather_37 : decode prog_11_method_6_code 37 = .ok (.aload_n 0, 1) := by decide +kernel
theorem d_X9_gather_38 : decode prog_11_method_6_code 38 = .ok (.iload_n 3, 1) := by decide +kernel
theorem d_X9_gather_39 : decode prog_11_method_6_code 39 = .ok (.invokevirtual 82, 3) := by decide +kernel
theorem d_X9_gather_42 : decode prog_11_method_6_code 42 = .ok (.aload_n 1, 1) := by decide +kernel
theorem d_X9_gather_43 : decode prog_11_method_6_code 43 = .ok (.getfield 59, 3) := by decide +kernel
theorem d_X9_gather_46 : decode prog_11_method_6_code 46 = .ok (.getfield 86, 3) := by decide +kernel
theorem d_X9_gather_49 : decode prog_11_method_6_code 49 = .ok (.iand, 1) := by decide +kernel
theorem d_X9_gather_50 : decode prog_11_method_6_code 50 = .ok (.ifCond .ne 32, 3) := by decide +kernel
theorem d_X9_gather_53 : decode prog_11_method_6_code 53 = .ok (.aload_n 0, 1) := by decide +kernel
theorem d_X9_gather_54 : decode prog_11_method_6_code 54 = .ok (.getfield 23, 3) := by decide +kernel
theorem d_X9_gather_57 : decode prog_11_method_6_code 57 = .ok (.aload_n 0, 1) := by decide +kernel
theorem d_X9_gather_58 : decode prog_11_method_6_code 58 = .ok (.getfield 19, 3) := by decide +kernel
theorem d_X9_gather_61 : decode prog_11_method_6_code 61 = .ok (.arraylength, 1) := by decide +kernel
theorem d_X9_gather_62 : decode prog_11_method_6_code 62 = .ok (.if_icmp .ge 20, 3) := by decide +kernel
theorem d_X9_gather_65 : decode prog_11_method_6_code 65 = .ok (.aload_n 0, 1) := by decide +kernel
theorem d_X9_gather_66 : decode prog_11_method_6_code 66 = .ok (.getfield 19, 3) := by decide +kernel
theorem d_X9_gather_69 : decode prog_11_method_6_code 69 = .ok (.aload_n 0, 1) := by decide +kernel
theorem d_X9_gather_70 : decode prog_11_method_6_code 70 = .ok (.dup, 1) := by decide +kernel
theorem d_X9_gather_71 : decode prog_11_method_6_code 71 = .ok (.getfield 23, 3) := by decide +kernel
theorem d_X9_gather_74 : decode prog_11_method_6_code 74 = .ok (.dup_x1, 1) := by decide +kernel
theorem d_X9_gather_75 : decode prog_11_method_6_code 75 = .ok (.iconst 1, 1) := by decide +kernel
theorem d_X9_gather_76 : decode prog_11_method_6_code 76 = .ok (.iadd, 1) := by decide +kernel
theorem d_X9_gather_77 : decode prog_11_method_6_code 77 = .ok (.putfield 23, 3) := by decide +kernel
theorem d_X9_gather_80 : decode prog_11_method_6_code 80 = .ok (.iload_n 3, 1) := by decide +kernel
theorem d_X9_gather_81 : decode prog_11_method_6_code 81 = .ok (.iastore, 1) := by decide +kernel
theorem d_X9_gather_82 : decode prog_11_method_6_code 82 = .ok (.aload_n 1, 1) := by decide +kernel
theorem d_X9_gather_83 : decode prog_11_method_6_code 83 = .ok (.getfield 39, 3) := by decide +kernel
theorem d_X9_gather_86 : decode prog_11_method_6_code 86 = .ok (.iload_n 3, 1) := by decide +kernel
theorem d_X9_gather_87 : decode prog_11_method_6_code 87 = .ok (.iload_n 2, 1) := by decide +kernel
theorem d_X9_gather_88 : decode prog_11_method_6_code 88 = .ok (.invokevirtual 89, 3) := by decide +kernel
theorem d_X9_gather_91 : decode prog_11_method_6_code 91 = .ok (.istore_n 3, 1) := by decide +kernel
theorem d_X9_gather_92 : decode prog_11_method_6_code 92 = .ok (.iinc 4 1, 3) := by decide +kernel
theorem d_X9_gather_95 : decode prog_11_method_6_code 95 = .ok (.goto (-74), 3) := by decide +kernel
theorem d_X9_gather_98 : decode prog_11_method_6_code 98 = .ok (.aload_n 0, 1) := by decide +kernel
theorem d_X9_gather_99 : decode prog_11_method_6_code 99 = .ok (.getfield 23, 3) := by decide +kernel
theorem d_X9_gather_102 : decode prog_11_method_6_code 102 = .ok (.ireturn, 1) := by decide +kernel
theorem v_X9_gather_0 {E : EE} {d : Nat} {Q : Option AV → AH → Prop} {x0 : Nat} {x1 : Nat} {x2 : Int32} {G : AH} (h0 : 0 < d) (h : isO E G x0 9 ∧ (isO E G x1 3 ∧ (isO E G (gR G x1 4) 7 ∧ (wpI E (d - 1) M_X7_lowest [vr (gR G x1 4), vi (gI (sI G x0 3 0) x1 8), vi x2] (sI G x0 3 0) (fun r3 G4 => wp E d M_X9_gather 21 [some (vr x0), some (vr x1), some (vi x2), some (vi r3), some (vi 0)] [] G4 Q))))) : wp E d M_X9_gather 0 [some (vr x0), some (vr x1), some (vi x2), none, none] [] G Q := by
  refine wp_aload_n (pc := 0) d_X9_gather_0 rfl ?_
  refine wp_iconst (pc := 1) (v := 0) d_X9_gather_1 rfl ?_
  obtain ⟨ho1, h⟩ := h
  refine wp_putI (pc := 2) d_X9_gather_2 fl_X9_23 (fun _ _ _ => rfl) (Or.inl rfl) ho1 (okI_int _) ?_
  refine wp_aload_n (pc := 5) d_X9_gather_5 rfl ?_
  obtain ⟨ho2, h⟩ := h
  refine wp_getR (pc := 6) d_X9_gather_6 fl_X9_39 (fun _ _ _ => rfl) ho2 ?_
  show wp E d M_X9_gather 9 [some (vr x0), some (vr x1), some (vi x2), none, none] [vr (gR G x1 4)] (sI G x0 3 0) Q
  refine wp_aload_n (pc := 9) d_X9_gather_9 rfl ?_
  refine wp_getI (pc := 10) d_X9_gather_10 fl_X9_76 (fun _ _ _ => rfl) ho2 ?_
  refine wp_iload_n (pc := 13) d_X9_gather_13 rfl ?_
  obtain ⟨ho5, h⟩ := h
  refine wp_invV (pc := 14) (N := M_X7_lowest) (As := [vi _, vi _]) (rest := []) (r := (cn_7, ct_7, 5)) d_X9_gather_14 ml_X9_79 mk_X7_lowest mv_X7_lowest h0 ho5 rfl rfl (Nat.le_of_ble_eq_true rfl) ?_
  refine wpM.mono h (fun rr G4 hr => ?_)
  obtain ⟨r3, rfl, h⟩ := hr
  show wp E d M_X9_gather 17 [some (vr _), some (vr _), some (vi _), none, none] [vi _] G4 Q
  refine wp_istore_n (pc := 17) (lv' := [some (vr _), some (vr _), some (vi _), some (vi _), none]) d_X9_gather_17 (by decide) rfl ?_
  refine wp_iconst (pc := 18) (v := 0) d_X9_gather_18 rfl ?_
  refine wp_istore (pc := 19) (lv' := [some (vr _), some (vr _), some (vi _), some (vi _), some (vi _)]) d_X9_gather_19 (by decide) rfl ?_
  refine wp_sub ?_ h
  exact ⟨rfl, ⟨rfl, ⟨rfl, ⟨rfl, ⟨rfl, trivial⟩⟩⟩⟩⟩
theorem v_X9_gather_21 {E : EE} {d : Nat} {Q : Option AV → AH → Prop} {x0 : Nat} {x1 : Nat} {x2 : Int32} {x3 : Int32} {x4 : Int32} {G : AH} (h0 : 0 < d) (h : isO E G x1 3 ∧ (isO E G (gR G x1 4) 7 ∧ (((gI G (gR G x1 4) 1) ≤ x4 → wp E d M_X9_gather 98 [some (vr x0), some (vr x1), some (vi x2), some (vi x3), some (vi x4)] [] G Q) ∧ (¬ ((gI G (gR G x1 4) 1) ≤ x4) → (x3 < 0 → wp E d M_X9_gather 98 [some (vr x0), some (vr x1), some (vi x2), some (vi x3), some (vi x4)] [] G Q) ∧ (¬ (x3 < 0) → isO E G x0 9 ∧ (wpI E (d - 1) M_X9_setOf [vr x0, vi x3] G (fun r3 G4 => isO E G4 x1 3 ∧ (isO E G4 (gR G4 x1 5) 2 ∧ ((¬ (r3 &&& (gI G4 (gR G4 x1 5) 0)) = 0 → wp E d M_X9_gather 82 [some (vr x0), some (vr x1), some (vi x2), some (vi x3), some (vi x4)] [] G4 Q) ∧ ((r3 &&& (gI G4 (gR G4 x1 5) 0)) = 0 → isO E G4 x0 9 ∧ (isO E G4 (gR G4 x0 2) 14 ∧ (((nI (gN G4 (gR G4 x0 2))) ≤ (gI G4 x0 3) → wp E d M_X9_gather 82 [some (vr x0), some (vr x1), some (vi x2), some (vi x3), some (vi x4)] [] G4 Q) ∧ (¬ ((nI (gN G4 (gR G4 x0 2))) ≤ (gI G4 x0 3)) → ∀ G9 : AH, G9 = sI G4 x0 3 ((gI G4 x0 3) + 1) → vp_in (gI G4 x0 3) (gN G9 (gR G4 x0 2)) ∧ (∀ G14 : AH, G14 = sI G9 (gR G4 x0 2) (Int32.toNatClampNeg (gI G4 x0 3)) x3 → wp E d M_X9_gather 82 [some (vr x0), some (vr x1), some (vi x2), some (vi x3), some (vi x4)] [] G14 Q)))))))))))))) : wp E d M_X9_gather 21 [some (vr x0), some (vr x1), some (vi x2), some (vi x3), some (vi x4)] [] G Q := by
  refine wp_iload (pc := 21) d_X9_gather_21 rfl ?_
  refine wp_aload_n (pc := 23) d_X9_gather_23 rfl ?_
  obtain ⟨ho1, h⟩ := h
  refine wp_getR (pc := 24) d_X9_gather_24 fl_X9_39 (fun _ _ _ => rfl) ho1 ?_
  obtain ⟨ho2, h⟩ := h
  refine wp_getI (pc := 27) d_X9_gather_27 fl_X9_45 (fun _ _ _ => rfl) ho2 ?_
  refine wp_icmp_ge (pc := 30) (tgt := 98) d_X9_gather_30 (by decide) (fun hc => ?_) (fun hc => ?_)
  · have h := h.1 hc
    refine wp_sub ?_ h
    exact ⟨rfl, ⟨rfl, ⟨rfl, ⟨rfl, ⟨rfl, trivial⟩⟩⟩⟩⟩
  · have h := h.2 hc
    refine wp_iload_n (pc := 33) d_X9_gather_33 rfl ?_
    refine wp_if_lt (pc := 34) (tgt := 98) d_X9_gather_34 (by decide) (fun hc => ?_) (fun hc => ?_)
    · have h := h.1 hc
      refine wp_sub ?_ h
      exact ⟨rfl, ⟨rfl, ⟨rfl, ⟨rfl, ⟨rfl, trivial⟩⟩⟩⟩⟩
    · have h := h.2 hc
      refine wp_aload_n (pc := 37) d_X9_gather_37 rfl ?_
      refine wp_iload_n (pc := 38) d_X9_gather_38 rfl ?_
      obtain ⟨ho17, h⟩ := h
      refine wp_invV (pc := 39) (N := M_X9_setOf) (As := [vi _]) (rest := []) (r := (cn_9, ct_9, 8)) d_X9_gather_39 ml_X9_82 mk_X9_setOf mv_X9_setOf h0 ho17 rfl rfl (Nat.le_of_ble_eq_true rfl) ?_
      refine wpM.mono h (fun rr G4 hr => ?_)
      obtain ⟨r3, rfl, h⟩ := hr
      show wp E d M_X9_gather 42 [some (vr _), some (vr _), some (vi _), some (vi _), some (vi _)] [vi _] G4 Q
      refine wp_aload_n (pc := 42) d_X9_gather_42 rfl ?_
      obtain ⟨ho5, h⟩ := h
      refine wp_getR (pc := 43) d_X9_gather_43 fl_X9_59 (fun _ _ _ => rfl) ho5 ?_
      obtain ⟨ho6, h⟩ := h
      refine wp_getI (pc := 46) d_X9_gather_46 fl_X9_86 (fun _ _ _ => rfl) ho6 ?_
      refine wp_iand (pc := 49) d_X9_gather_49 ?_
      refine wp_if_ne (pc := 50) (tgt := 82) d_X9_gather_50 (by decide) (fun hc => ?_) (fun hc => ?_)
      · have h := h.1 hc
        refine wp_sub ?_ h
        exact ⟨rfl, ⟨rfl, ⟨rfl, ⟨rfl, ⟨rfl, trivial⟩⟩⟩⟩⟩
      · have h := h.2 hc
        refine wp_aload_n (pc := 53) d_X9_gather_53 rfl ?_
        obtain ⟨ho7, h⟩ := h
        refine wp_getI (pc := 54) d_X9_gather_54 fl_X9_23 (fun _ _ _ => rfl) ho7 ?_
        refine wp_aload_n (pc := 57) d_X9_gather_57 rfl ?_
        refine wp_getR (pc := 58) d_X9_gather_58 fl_X9_19 (fun _ _ _ => rfl) ho7 ?_
        obtain ⟨ho8, h⟩ := h
        refine wp_alen (pc := 61) d_X9_gather_61 ho8 (by decide) rfl ?_
        refine wp_icmp_ge (pc := 62) (tgt := 82) d_X9_gather_62 (by decide) (fun hc => ?_) (fun hc => ?_)
        · have h := h.1 hc
          refine wp_sub ?_ h
          exact ⟨rfl, ⟨rfl, ⟨rfl, ⟨rfl, ⟨rfl, trivial⟩⟩⟩⟩⟩
        · have h := h.2 hc
          refine wp_aload_n (pc := 65) d_X9_gather_65 rfl ?_
          refine wp_getR (pc := 66) d_X9_gather_66 fl_X9_19 (fun _ _ _ => rfl) ho7 ?_
          refine wp_aload_n (pc := 69) d_X9_gather_69 rfl ?_
          refine wp_dup (pc := 70) d_X9_gather_70 (c1_r _) ?_
          refine wp_getI (pc := 71) d_X9_gather_71 fl_X9_23 (fun _ _ _ => rfl) ho7 ?_
          refine wp_dup_x1 (pc := 74) d_X9_gather_74 (c1_i _) (c1_r _) ?_
          refine wp_iconst (pc := 75) (v := 1) d_X9_gather_75 rfl ?_
          refine wp_iadd (pc := 76) d_X9_gather_76 ?_
          refine wp_putI (pc := 77) d_X9_gather_77 fl_X9_23 (fun _ _ _ => rfl) (Or.inl rfl) ho7 (okI_int _) ?_
          refine wp_nm (fun G9 eG9 => ?_)
          have h := h G9 eG9
          have ho10 := isO_sI eG9 ho5
          have ho11 := isO_sI eG9 ho7
          have ho12 := isO_sI eG9 ho8
          refine wp_iload_n (pc := 80) d_X9_gather_80 rfl ?_
          obtain ⟨hi13, h⟩ := h
          refine wp_iast (pc := 81) d_X9_gather_81 ho12 hi13 ?_
          refine wp_nm (fun G14 eG14 => ?_)
          have h := h G14 eG14
          have ho15 := isO_sI eG14 ho10
          have ho16 := isO_sI eG14 ho11
          refine wp_sub ?_ h
          exact ⟨rfl, ⟨rfl, ⟨rfl, ⟨rfl, ⟨rfl, trivial⟩⟩⟩⟩⟩
theorem v_X9_gather_82 {E : EE} {d : Nat} {Q : Option AV → AH → Prop} {x0 : Nat} {x1 : Nat} {x2 : Int32} {x3 : Int32} {x4 : Int32} {G : AH} (h0 : 0 < d) (h : isO E G x1 3 ∧ (isO E G (gR G x1 4) 7 ∧ (wpI E (d - 1) M_X7_following [vr (gR G x1 4), vi x3, vi x2] G (fun r2 G3 => wp E d M_X9_gather 21 [some (vr x0), some (vr x1), some (vi x2), some (vi r2), some (vi (x4 + 1))] [] G3 Q)))) : wp E d M_X9_gather 82 [some (vr x0), some (vr x1), some (vi x2), some (vi x3), some (vi x4)] [] G Q := by
  refine wp_aload_n (pc := 82) d_X9_gather_82 rfl ?_
  obtain ⟨ho1, h⟩ := h
  refine wp_getR (pc := 83) d_X9_gather_83 fl_X9_39 (fun _ _ _ => rfl) ho1 ?_
  refine wp_iload_n (pc := 86) d_X9_gather_86 rfl ?_
  refine wp_iload_n (pc := 87) d_X9_gather_87 rfl ?_
  obtain ⟨ho4, h⟩ := h
  refine wp_invV (pc := 88) (N := M_X7_following) (As := [vi _, vi _]) (rest := []) (r := (cn_7, ct_7, 5)) d_X9_gather_88 ml_X9_89 mk_X7_following mv_X7_following h0 ho4 rfl rfl (Nat.le_of_ble_eq_true rfl) ?_
  refine wpM.mono h (fun rr G3 hr => ?_)
  obtain ⟨r2, rfl, h⟩ := hr
  show wp E d M_X9_gather 91 [some (vr _), some (vr _), some (vi _), some (vi _), some (vi _)] [vi _] G3 Q
  refine wp_istore_n (pc := 91) (lv' := [some (vr _), some (vr _), some (vi _), some (vi _), some (vi _)]) d_X9_gather_91 (by decide) rfl ?_
  refine wp_iinc (pc := 92) (v := 1) (lv' := [some (vr _), some (vr _), some (vi _), some (vi _), some (vi _)]) d_X9_gather_92 (by decide) rfl rfl rfl ?_
  refine wp_goto (pc := 95) (tgt := 21) d_X9_gather_95 (by decide) ?_
  refine wp_sub ?_ h
  exact ⟨rfl, ⟨rfl, ⟨rfl, ⟨rfl, ⟨rfl, trivial⟩⟩⟩⟩⟩
theorem v_X9_gather_98 {E : EE} {d : Nat} {Q : Option AV → AH → Prop} {x0 : Nat} {x1 : Nat} {x2 : Int32} {x3 : Int32} {x4 : Int32} {G : AH} (h : isO E G x0 9 ∧ (Q (some (vi (gI G x0 3))) G)) : wp E d M_X9_gather 98 [some (vr x0), some (vr x1), some (vi x2), some (vi x3), some (vi x4)] [] G Q := by
  refine wp_aload_n (pc := 98) d_X9_gather_98 rfl ?_
  obtain ⟨ho1, h⟩ := h
  refine wp_getI (pc := 99) d_X9_gather_99 fl_X9_23 (fun _ _ _ => rfl) ho1 ?_
  exact wp_iret (pc := 102) d_X9_gather_102 rfl h
theorem d_X9_setOf_0 : decode prog_11_method_4_code 0 = .ok (.iload_n 1, 1) := by decide +kernel
theorem d_X9_setOf_1 : decode prog_11_method_4_code 1 = .ok (.ifCond .lt 21, 3) := by decide +kernel
theorem d_X9_setOf_4 : decode prog_11_method_4_code 4 = .ok (.iload_n 1, 1) := by decide +kernel
theorem d_X9_setOf_5 : decode prog_11_method_4_code 5 = .ok (.aload_n 0, 1) := by decide +kernel
theorem d_X9_setOf_6 : decode prog_11_method_4_code 6 = .ok (.getfield 36, 3) := by decide +kernel
theorem d_X9_setOf_9 : decode prog_11_method_4_code 9 = .ok (.arraylength, 1) := by decide +kernel
theorem d_X9_setOf_10 : decode prog_11_method_4_code 10 = .ok (.if_icmp .ge 12, 3) := by decide +kernel
theorem d_X9_setOf_13 : decode prog_11_method_4_code 13 = .ok (.aload_n 0, 1) := by decide +kernel
theorem d_X9_setOf_14 : decode prog_11_method_4_code 14 = .ok (.getfield 36, 3) := by decide +kernel
theorem d_X9_setOf_17 : decode prog_11_method_4_code 17 = .ok (.iload_n 1, 1) := by decide +kernel
theorem d_X9_setOf_18 : decode prog_11_method_4_code 18 = .ok (.iaload, 1) := by decide +kernel
theorem d_X9_setOf_19 : decode prog_11_method_4_code 19 = .ok (.goto 4, 3) := by decide +kernel
theorem d_X9_setOf_22 : decode prog_11_method_4_code 22 = .ok (.iconst 0, 1) := by decide +kernel
theorem d_X9_setOf_23 : decode prog_11_method_4_code 23 = .ok (.ireturn, 1) := by decide +kernel
theorem v_X9_setOf_0 {E : EE} {d : Nat} {Q : Option AV → AH → Prop} {x0 : Nat} {x1 : Int32} {G : AH} (h : (x1 < 0 → Q (some (vi 0)) G) ∧ (¬ (x1 < 0) → isO E G x0 9 ∧ (isO E G (gR G x0 7) 14 ∧ (((nI (gN G (gR G x0 7))) ≤ x1 → Q (some (vi 0)) G) ∧ (¬ ((nI (gN G (gR G x0 7))) ≤ x1) → vp_in x1 (gN G (gR G x0 7)) ∧ (Q (some (vi (gI G (gR G x0 7) (Int32.toNatClampNeg x1)))) G)))))) : wp E d M_X9_setOf 0 [some (vr x0), some (vi x1)] [] G Q := by
  refine wp_iload_n (pc := 0) d_X9_setOf_0 rfl ?_
  refine wp_if_lt (pc := 1) (tgt := 22) d_X9_setOf_1 (by decide) (fun hc => ?_) (fun hc => ?_)
  · have h := h.1 hc
    refine wp_iconst (pc := 22) (v := 0) d_X9_setOf_22 rfl ?_
    exact wp_iret (pc := 23) d_X9_setOf_23 rfl h
  · have h := h.2 hc
    refine wp_iload_n (pc := 4) d_X9_setOf_4 rfl ?_
    refine wp_aload_n (pc := 5) d_X9_setOf_5 rfl ?_
    obtain ⟨ho1, h⟩ := h
    refine wp_getR (pc := 6) d_X9_setOf_6 fl_X9_36 (fun _ _ _ => rfl) ho1 ?_
    obtain ⟨ho2, h⟩ := h
    refine wp_alen (pc := 9) d_X9_setOf_9 ho2 (by decide) rfl ?_
    refine wp_icmp_ge (pc := 10) (tgt := 22) d_X9_setOf_10 (by decide) (fun hc => ?_) (fun hc => ?_)
    · have h := h.1 hc
      refine wp_iconst (pc := 22) (v := 0) d_X9_setOf_22 rfl ?_
      exact wp_iret (pc := 23) d_X9_setOf_23 rfl h
    · have h := h.2 hc
      refine wp_aload_n (pc := 13) d_X9_setOf_13 rfl ?_
      refine wp_getR (pc := 14) d_X9_setOf_14 fl_X9_36 (fun _ _ _ => rfl) ho1 ?_
      refine wp_iload_n (pc := 17) d_X9_setOf_17 rfl ?_
      obtain ⟨hi3, h⟩ := h
      refine wp_iald (pc := 18) d_X9_setOf_18 ho2 hi3 ?_
      refine wp_goto (pc := 19) (tgt := 23) d_X9_setOf_19 (by decide) ?_
      exact wp_iret (pc := 23) d_X9_setOf_23 rfl h
theorem d_X9_isBetter_0 : decode prog_11_method_5_code 0 = .ok (.iconst 0, 1) := by decide +kernel
theorem d_X9_isBetter_1 : decode prog_11_method_5_code 1 = .ok (.istore_n 3, 1) := by decide +kernel
theorem d_X9_isBetter_2 : decode prog_11_method_5_code 2 = .ok (.iload_n 3, 1) := by decide +kernel
theorem d_X9_isBetter_3 : decode prog_11_method_5_code 3 = .ok (.iconst 3, 1) := by decide +kernel
theorem d_X9_isBetter_4 : decode prog_11_method_5_code 4 = .ok (.if_icmp .ge 47, 3) := by decide +kernel
theorem d_X9_isBetter_7 : decode prog_11_method_5_code 7 = .ok (.aload_n 0, 1) := by decide +kernel
theorem d_X9_isBetter_8 : decode prog_11_method_5_code 8 = .ok (.iload_n 1, 1) := by decide +kernel
theorem d_X9_isBetter_9 : decode prog_11_method_5_code 9 = .ok (.iload_n 3, 1) := by decide +kernel
theorem d_X9_isBetter_10 : decode prog_11_method_5_code 10 = .ok (.invokevirtual 72, 3) := by decide +kernel
theorem d_X9_isBetter_13 : decode prog_11_method_5_code 13 = .ok (.lstore 4, 2) := by decide +kernel
theorem d_X9_isBetter_15 : decode prog_11_method_5_code 15 = .ok (.aload_n 0, 1) := by decide +kernel
theorem d_X9_isBetter_16 : decode prog_11_method_5_code 16 = .ok (.iload_n 2, 1) := by decide +kernel
theorem d_X9_isBetter_17 : decode prog_11_method_5_code 17 = .ok (.iload_n 3, 1) := by decide +kernel
theorem d_X9_isBetter_18 : decode prog_11_method_5_code 18 = .ok (.invokevirtual 72, 3) := by decide +kernel
theorem d_X9_isBetter_21 : decode prog_11_method_5_code 21 = .ok (.lstore 6, 2) := by decide +kernel
theorem d_X9_isBetter_23 : decode prog_11_method_5_code 23 = .ok (.lload 4, 2) := by decide +kernel
theorem d_X9_isBetter_25 : decode prog_11_method_5_code 25 = .ok (.lload 6, 2) := by decide +kernel
theorem d_X9_isBetter_27 : decode prog_11_method_5_code 27 = .ok (.lcmp, 1) := by decide +kernel
theorem d_X9_isBetter_28 : decode prog_11_method_5_code 28 = .ok (.ifCond .eq 17, 3) := by decide +kernel
theorem d_X9_isBetter_31 : decode prog_11_method_5_code 31 = .ok (.lload 4, 2) := by decide +kernel
theorem d_X9_isBetter_33 : decode prog_11_method_5_code 33 = .ok (.lload 6, 2) := by decide +kernel
theorem d_X9_isBetter_35 : decode prog_11_method_5_code 35 = .ok (.lcmp, 1) := by decide +kernel
theorem d_X9_isBetter_36 : decode prog_11_method_5_code 36 = .ok (.ifCond .ge 7, 3) := by decide +kernel
theorem d_X9_isBetter_39 : decode prog_11_method_5_code 39 = .ok (.iconst 1, 1) := by decide +kernel
theorem d_X9_isBetter_40 : decode prog_11_method_5_code 40 = .ok (.goto 4, 3) := by decide +kernel
theorem d_X9_isBetter_43 : decode prog_11_method_5_code 43 = .ok (.iconst 0, 1) := by decide +kernel
theorem d_X9_isBetter_44 : decode prog_11_method_5_code 44 = .ok (.ireturn, 1) := by decide +kernel
theorem d_X9_isBetter_45 : decode prog_11_method_5_code 45 = .ok (.iinc 3 1, 3) := by decide +kernel
theorem d_X9_isBetter_48 : decode prog_11_method_5_code 48 = .ok (.goto (-46), 3) := by decide +kernel
theorem d_X9_isBetter_51 : decode prog_11_method_5_code 51 = .ok (.iconst 0, 1) := by decide +kernel
theorem d_X9_isBetter_52 : decode prog_11_method_5_code 52 = .ok (.ireturn, 1) := by decide +kernel
theorem v_X9_isBetter_0 {E : EE} {d : Nat} {Q : Option AV → AH → Prop} {x0 : Nat} {x1 : Int32} {x2 : Int32} {G : AH} (h : wp E d M_X9_isBetter 2 [some (vr x0), some (vi x1), some (vi x2), some (vi 0), none, none, none, none] [] G Q) : wp E d M_X9_isBetter 0 [some (vr x0), some (vi x1), some (vi x2), none, none, none, none, none] [] G Q := by
  refine wp_iconst (pc := 0) (v := 0) d_X9_isBetter_0 rfl ?_
  refine wp_istore_n (pc := 1) (lv' := [some (vr _), some (vi _), some (vi _), some (vi _), none, none, none, none]) d_X9_isBetter_1 (by decide) rfl ?_
  refine wp_sub ?_ h
  exact ⟨rfl, ⟨rfl, ⟨rfl, ⟨rfl, trivial⟩⟩⟩⟩
theorem v_X9_isBetter_2 {E : EE} {d : Nat} {Q : Option AV → AH → Prop} {x0 : Nat} {x1 : Int32} {x2 : Int32} {x3 : Int32} {G : AH} (h0 : 0 < d) (h : (3 ≤ x3 → Q (some (vi 0)) G) ∧ (¬ (3 ≤ x3) → isO E G x0 9 ∧ (wpJ E (d - 1) M_X9_scoreOf [vr x0, vi x1, vi x3] G (fun r1 G2 => isO E G2 x0 9 ∧ (wpJ E (d - 1) M_X9_scoreOf [vr x0, vi x2, vi x3] G2 (fun r3 G4 => (r1 = r3 → wp E d M_X9_isBetter 2 [some (vr x0), some (vi x1), some (vi x2), some (vi (x3 + 1)), none, none, none, none] [] G4 Q) ∧ (¬ (r1 = r3) → (r3 ≤ r1 → Q (some (vi 0)) G4) ∧ (¬ (r3 ≤ r1) → Q (some (vi 1)) G4)))))))) : wp E d M_X9_isBetter 2 [some (vr x0), some (vi x1), some (vi x2), some (vi x3), none, none, none, none] [] G Q := by
  refine wp_iload_n (pc := 2) d_X9_isBetter_2 rfl ?_
  refine wp_iconst (pc := 3) (v := 3) d_X9_isBetter_3 rfl ?_
  refine wp_icmp_ge (pc := 4) (tgt := 51) d_X9_isBetter_4 (by decide) (fun hc => ?_) (fun hc => ?_)
  · have h := h.1 hc
    refine wp_iconst (pc := 51) (v := 0) d_X9_isBetter_51 rfl ?_
    exact wp_zret (pc := 52) d_X9_isBetter_52 rfl rfl h
  · have h := h.2 hc
    refine wp_aload_n (pc := 7) d_X9_isBetter_7 rfl ?_
    refine wp_iload_n (pc := 8) d_X9_isBetter_8 rfl ?_
    refine wp_iload_n (pc := 9) d_X9_isBetter_9 rfl ?_
    obtain ⟨ho6, h⟩ := h
    refine wp_invV (pc := 10) (N := M_X9_scoreOf) (As := [vi _, vi _]) (rest := []) (r := (cn_9, ct_9, 8)) d_X9_isBetter_10 ml_X9_72 mk_X9_scoreOf mv_X9_scoreOf h0 ho6 rfl rfl (Nat.le_of_ble_eq_true rfl) ?_
    refine wpM.mono h (fun rr G2 hr => ?_)
    obtain ⟨r1, rfl, h⟩ := hr
    show wp E d M_X9_isBetter 13 [some (vr _), some (vi _), some (vi _), some (vi _), none, none, none, none] [vj _] G2 Q
    refine wp_lstore (pc := 13) (lv' := [some (vr _), some (vi _), some (vi _), some (vi _), some (vj _), none, none, none]) d_X9_isBetter_13 (by decide) rfl ?_
    refine wp_aload_n (pc := 15) d_X9_isBetter_15 rfl ?_
    refine wp_iload_n (pc := 16) d_X9_isBetter_16 rfl ?_
    refine wp_iload_n (pc := 17) d_X9_isBetter_17 rfl ?_
    obtain ⟨ho5, h⟩ := h
    refine wp_invV (pc := 18) (N := M_X9_scoreOf) (As := [vi _, vi _]) (rest := []) (r := (cn_9, ct_9, 8)) d_X9_isBetter_18 ml_X9_72 mk_X9_scoreOf mv_X9_scoreOf h0 ho5 rfl rfl (Nat.le_of_ble_eq_true rfl) ?_
    refine wpM.mono h (fun rr G4 hr => ?_)
    obtain ⟨r3, rfl, h⟩ := hr
    show wp E d M_X9_isBetter 21 [some (vr _), some (vi _), some (vi _), some (vi _), some (vj _), none, none, none] [vj _] G4 Q
    refine wp_lstore (pc := 21) (lv' := [some (vr _), some (vi _), some (vi _), some (vi _), some (vj _), none, some (vj _), none]) d_X9_isBetter_21 (by decide) rfl ?_
    refine wp_lload (pc := 23) d_X9_isBetter_23 rfl ?_
    refine wp_lload (pc := 25) d_X9_isBetter_25 rfl ?_
    refine wp_lcmp_eq (pc := 27) (tgt := 45) d_X9_isBetter_27 d_X9_isBetter_28 (by decide) (fun hc => ?_) (fun hc => ?_)
    · have h := h.1 hc
      refine wp_iinc (pc := 45) (v := 1) (lv' := [some (vr _), some (vi _), some (vi _), some (vi _), some (vj _), none, some (vj _), none]) d_X9_isBetter_45 (by decide) rfl rfl rfl ?_
      refine wp_goto (pc := 48) (tgt := 2) d_X9_isBetter_48 (by decide) ?_
      refine wp_sub ?_ h
      exact ⟨rfl, ⟨rfl, ⟨rfl, ⟨rfl, trivial⟩⟩⟩⟩
    · have h := h.2 hc
      refine wp_lload (pc := 31) d_X9_isBetter_31 rfl ?_
      refine wp_lload (pc := 33) d_X9_isBetter_33 rfl ?_
      refine wp_lcmp_ge (pc := 35) (tgt := 43) d_X9_isBetter_35 d_X9_isBetter_36 (by decide) (fun hc => ?_) (fun hc => ?_)
      · have h := h.1 hc
        refine wp_iconst (pc := 43) (v := 0) d_X9_isBetter_43 rfl ?_
        exact wp_zret (pc := 44) d_X9_isBetter_44 rfl rfl h
      · have h := h.2 hc
        refine wp_iconst (pc := 39) (v := 1) d_X9_isBetter_39 rfl ?_
        refine wp_goto (pc := 40) (tgt := 44) d_X9_isBetter_40 (by decide) ?_
        exact wp_zret (pc := 44) d_X9_isBetter_44 rfl rfl h
theorem d_X9_scoreOf_0 : decode prog_11_method_3_code 0 = .ok (.iconst 3, 1) := by decide +kernel
theorem d_X9_scoreOf_1 : decode prog_11_method_3_code 1 = .ok (.iload_n 1, 1) := by decide +kernel
theorem d_X9_scoreOf_2 : decode prog_11_method_3_code 2 = .ok (.imul, 1) := by decide +kernel
theorem d_X9_scoreOf_3 : decode prog_11_method_3_code 3 = .ok (.iload_n 2, 1) := by decide +kernel
theorem d_X9_scoreOf_4 : decode prog_11_method_3_code 4 = .ok (.iadd, 1) := by decide +kernel
theorem d_X9_scoreOf_5 : decode prog_11_method_3_code 5 = .ok (.istore_n 3, 1) := by decide +kernel
theorem d_X9_scoreOf_6 : decode prog_11_method_3_code 6 = .ok (.iload_n 3, 1) := by decide +kernel
theorem d_X9_scoreOf_7 : decode prog_11_method_3_code 7 = .ok (.ifCond .lt 21, 3) := by decide +kernel
theorem d_X9_scoreOf_10 : decode prog_11_method_3_code 10 = .ok (.iload_n 3, 1) := by decide +kernel
theorem d_X9_scoreOf_11 : decode prog_11_method_3_code 11 = .ok (.aload_n 0, 1) := by decide +kernel
theorem d_X9_scoreOf_12 : decode prog_11_method_3_code 12 = .ok (.getfield 32, 3) := by decide +kernel
theorem d_X9_scoreOf_15 : decode prog_11_method_3_code 15 = .ok (.arraylength, 1) := by decide +kernel
theorem d_X9_scoreOf_16 : decode prog_11_method_3_code 16 = .ok (.if_icmp .ge 12, 3) := by decide +kernel
theorem d_X9_scoreOf_19 : decode prog_11_method_3_code 19 = .ok (.aload_n 0, 1) := by decide +kernel
theorem d_X9_scoreOf_20 : decode prog_11_method_3_code 20 = .ok (.getfield 32, 3) := by decide +kernel
theorem d_X9_scoreOf_23 : decode prog_11_method_3_code 23 = .ok (.iload_n 3, 1) := by decide +kernel
theorem d_X9_scoreOf_24 : decode prog_11_method_3_code 24 = .ok (.laload, 1) := by decide +kernel
theorem d_X9_scoreOf_25 : decode prog_11_method_3_code 25 = .ok (.goto 4, 3) := by decide +kernel
theorem d_X9_scoreOf_28 : decode prog_11_method_3_code 28 = .ok (.lconst 0, 1) := by decide +kernel
theorem d_X9_scoreOf_29 : decode prog_11_method_3_code 29 = .ok (.lreturn, 1) := by decide +kernel
theorem v_X9_scoreOf_0 {E : EE} {d : Nat} {Q : Option AV → AH → Prop} {x0 : Nat} {x1 : Int32} {x2 : Int32} {G : AH} (h : (((3 * x1) + x2) < 0 → Q (some (vj 0)) G) ∧ (¬ (((3 * x1) + x2) < 0) → isO E G x0 9 ∧ (isO E G (gR G x0 6) 15 ∧ (((nI (gN G (gR G x0 6))) ≤ ((3 * x1) + x2) → Q (some (vj 0)) G) ∧ (¬ ((nI (gN G (gR G x0 6))) ≤ ((3 * x1) + x2)) → vp_in ((3 * x1) + x2) (gN G (gR G x0 6)) ∧ (Q (some (vj (gJ G (gR G x0 6) (Int32.toNatClampNeg ((3 * x1) + x2))))) G)))))) : wp E d M_X9_scoreOf 0 [some (vr x0), some (vi x1), some (vi x2), none] [] G Q := by
  refine wp_iconst (pc := 0) (v := 3) d_X9_scoreOf_0 rfl ?_
  refine wp_iload_n (pc := 1) d_X9_scoreOf_1 rfl ?_
  refine wp_imul (pc := 2) d_X9_scoreOf_2 ?_
  refine wp_iload_n (pc := 3) d_X9_scoreOf_3 rfl ?_
  refine wp_iadd (pc := 4) d_X9_scoreOf_4 ?_
  refine wp_istore_n (pc := 5) (lv' := [some (vr _), some (vi _), some (vi _), some (vi _)]) d_X9_scoreOf_5 (by decide) rfl ?_
  refine wp_iload_n (pc := 6) d_X9_scoreOf_6 rfl ?_
  refine wp_if_lt (pc := 7) (tgt := 28) d_X9_scoreOf_7 (by decide) (fun hc => ?_) (fun hc => ?_)
  · have h := h.1 hc
    refine wp_lconst (pc := 28) (v := 0) d_X9_scoreOf_28 rfl ?_
    exact wp_lret (pc := 29) d_X9_scoreOf_29 rfl h
  · have h := h.2 hc
    refine wp_iload_n (pc := 10) d_X9_scoreOf_10 rfl ?_
    refine wp_aload_n (pc := 11) d_X9_scoreOf_11 rfl ?_
    obtain ⟨ho1, h⟩ := h
    refine wp_getR (pc := 12) d_X9_scoreOf_12 fl_X9_32 (fun _ _ _ => rfl) ho1 ?_
    obtain ⟨ho2, h⟩ := h
    refine wp_alen (pc := 15) d_X9_scoreOf_15 ho2 (by decide) rfl ?_
    refine wp_icmp_ge (pc := 16) (tgt := 28) d_X9_scoreOf_16 (by decide) (fun hc => ?_) (fun hc => ?_)
    · have h := h.1 hc
      refine wp_lconst (pc := 28) (v := 0) d_X9_scoreOf_28 rfl ?_
      exact wp_lret (pc := 29) d_X9_scoreOf_29 rfl h
    · have h := h.2 hc
      refine wp_aload_n (pc := 19) d_X9_scoreOf_19 rfl ?_
      refine wp_getR (pc := 20) d_X9_scoreOf_20 fl_X9_32 (fun _ _ _ => rfl) ho1 ?_
      refine wp_iload_n (pc := 23) d_X9_scoreOf_23 rfl ?_
      obtain ⟨hi3, h⟩ := h
      refine wp_lald (pc := 24) d_X9_scoreOf_24 ho2 hi3 ?_
      refine wp_goto (pc := 25) (tgt := 29) d_X9_scoreOf_25 (by decide) ?_
      exact wp_lret (pc := 29) d_X9_scoreOf_29 rfl h
theorem d_X9_keepValue_0 : decode prog_11_method_9_code 0 = .ok (.iconst 0, 1) := by decide +kernel
theorem d_X9_keepValue_1 : decode prog_11_method_9_code 1 = .ok (.istore 4, 2) := by decide +kernel
theorem d_X9_keepValue_3 : decode prog_11_method_9_code 3 = .ok (.iconst 0, 1) := by decide +kernel
theorem d_X9_keepValue_4 : decode prog_11_method_9_code 4 = .ok (.istore 5, 2) := by decide +kernel
theorem d_X9_keepValue_6 : decode prog_11_method_9_code 6 = .ok (.iload 5, 2) := by decide +kernel
theorem d_X9_keepValue_8 : decode prog_11_method_9_code 8 = .ok (.aload_n 0, 1) := by decide +kernel
theorem d_X9_keepValue_9 : decode prog_11_method_9_code 9 = .ok (.getfield 23, 3) := by decide +kernel
theorem d_X9_keepValue_12 : decode prog_11_method_9_code 12 = .ok (.if_icmp .ge 42, 3) := by decide +kernel
theorem d_X9_keepValue_15 : decode prog_11_method_9_code 15 = .ok (.aload_n 1, 1) := by decide +kernel
theorem d_X9_keepValue_16 : decode prog_11_method_9_code 16 = .ok (.aload_n 0, 1) := by decide +kernel
theorem d_X9_keepValue_17 : decode prog_11_method_9_code 17 = .ok (.getfield 19, 3) := by decide +kernel
theorem d_X9_keepValue_20 : decode prog_11_method_9_code 20 = .ok (.iload 5, 2) := by decide +kernel
theorem d_X9_keepValue_22 : decode prog_11_method_9_code 22 = .ok (.iaload, 1) := by decide +kernel
theorem d_X9_keepValue_23 : decode prog_11_method_9_code 23 = .ok (.iload_n 2, 1) := by decide +kernel
theorem d_X9_keepValue_24 : decode prog_11_method_9_code 24 = .ok (.invokevirtual 107, 3) := by decide +kernel
theorem d_X9_keepValue_27 : decode prog_11_method_9_code 27 = .ok (.iload_n 3, 1) := by decide +kernel
theorem d_X9_keepValue_28 : decode prog_11_method_9_code 28 = .ok (.if_icmp .ne 20, 3) := by decide +kernel
theorem d_X9_keepValue_31 : decode prog_11_method_9_code 31 = .ok (.aload_n 0, 1) := by decide +kernel
theorem d_X9_keepValue_32 : decode prog_11_method_9_code 32 = .ok (.getfield 19, 3) := by decide +kernel
theorem d_X9_keepValue_35 : decode prog_11_method_9_code 35 = .ok (.iload 4, 2) := by decide +kernel
theorem d_X9_keepValue_37 : decode prog_11_method_9_code 37 = .ok (.iinc 4 1, 3) := by decide +kernel
theorem d_X9_keepValue_40 : decode prog_11_method_9_code 40 = .ok (.aload_n 0, 1) := by decide +kernel
theorem d_X9_keepValue_41 : decode prog_11_method_9_code 41 = .ok (.getfield 19, 3) := by decide +kernel
theorem d_X9_keepValue_44 : decode prog_11_method_9_code 44 = .ok (.iload 5, 2) := by decide +kernel
theorem d_X9_keepValue_46 : decode prog_11_method_9_code 46 = .ok (.iaload, 1) := by decide +kernel
theorem d_X9_keepValue_47 : decode prog_11_method_9_code 47 = .ok (.iastore, 1) := by decide +kernel
theorem d_X9_keepValue_48 : decode prog_11_method_9_code 48 = .ok (.iinc 5 1, 3) := by decide +kernel
theorem d_X9_keepValue_51 : decode prog_11_method_9_code 51 = .ok (.goto (-45), 3) := by decide +kernel
theorem d_X9_keepValue_54 : decode prog_11_method_9_code 54 = .ok (.aload_n 0, 1) := by decide +kernel
theorem d_X9_keepValue_55 : decode prog_11_method_9_code 55 = .ok (.iload 4, 2) := by decide +kernel
theorem d_X9_keepValue_57 : decode prog_11_method_9_code 57 = .ok (.putfield 23, 3) := by decide +kernel
theorem d_X9_keepValue_60 : decode prog_11_method_9_code 60 = .ok (.iload 4, 2) := by decide +kernel
theorem d_X9_keepValue_62 : decode prog_11_method_9_code 62 = .ok (.ireturn, 1) := by decide +kernel
theorem v_X9_keepValue_0 {E : EE} {d : Nat} {Q : Option AV → AH → Prop} {x0 : Nat} {x1 : Nat} {x2 : Int32} {x3 : Int32} {G : AH} (h : wp E d M_X9_keepValue 6 [some (vr x0), some (vr x1), some (vi x2), some (vi x3), some (vi 0), some (vi 0)] [] G Q) : wp E d M_X9_keepValue 0 [some (vr x0), some (vr x1), some (vi x2), some (vi x3), none, none] [] G Q := by
  refine wp_iconst (pc := 0) (v := 0) d_X9_keepValue_0 rfl ?_
  refine wp_istore (pc := 1) (lv' := [some (vr _), some (vr _), some (vi _), some (vi _), some (vi _), none]) d_X9_keepValue_1 (by decide) rfl ?_
  refine wp_iconst (pc := 3) (v := 0) d_X9_keepValue_3 rfl ?_
  refine wp_istore (pc := 4) (lv' := [some (vr _), some (vr _), some (vi _), some (vi _), some (vi _), some (vi _)]) d_X9_keepValue_4 (by decide) rfl ?_
  refine wp_sub ?_ h
  exact ⟨rfl, ⟨rfl, ⟨rfl, ⟨rfl, ⟨rfl, ⟨rfl, trivial⟩⟩⟩⟩⟩⟩
theorem v_X9_keepValue_6 {E : EE} {d : Nat} {Q : Option AV → AH → Prop} {x0 : Nat} {x1 : Nat} {x2 : Int32} {x3 : Int32} {x4 : Int32} {x5 : Int32} {G : AH} (h0 : 0 < d) (h : isO E G x0 9 ∧ (((gI G x0 3) ≤ x5 → Q (some (vi x4)) (sI G x0 3 x4)) ∧ (¬ ((gI G x0 3) ≤ x5) → isO E G (gR G x0 2) 14 ∧ (vp_in x5 (gN G (gR G x0 2)) ∧ (isO E G x1 7 ∧ (wpI E (d - 1) M_X7_placeOf [vr x1, vi (gI G (gR G x0 2) (Int32.toNatClampNeg x5)), vi x2] G (fun r4 G5 => (¬ r4 = x3 → wp E d M_X9_keepValue 48 [some (vr x0), some (vr x1), some (vi x2), some (vi x3), some (vi x4), some (vi x5)] [] G5 Q) ∧ (r4 = x3 → isO E G5 x0 9 ∧ (isO E G5 (gR G5 x0 2) 14 ∧ (vp_in x5 (gN G5 (gR G5 x0 2)) ∧ (vp_in x4 (gN G5 (gR G5 x0 2)) ∧ (wp E d M_X9_keepValue 48 [some (vr x0), some (vr x1), some (vi x2), some (vi x3), some (vi (x4 + 1)), some (vi x5)] [] (sI G5 (gR G5 x0 2) (Int32.toNatClampNeg x4) (gI G5 (gR G5 x0 2) (Int32.toNatClampNeg x5))) Q)))))))))))) : wp E d M_X9_keepValue 6 [some (vr x0), some (vr x1), some (vi x2), some (vi x3), some (vi x4), some (vi x5)] [] G Q := by
  refine wp_iload (pc := 6) d_X9_keepValue_6 rfl ?_
  refine wp_aload_n (pc := 8) d_X9_keepValue_8 rfl ?_
  obtain ⟨ho1, h⟩ := h
  refine wp_getI (pc := 9) d_X9_keepValue_9 fl_X9_23 (fun _ _ _ => rfl) ho1 ?_
  refine wp_icmp_ge (pc := 12) (tgt := 54) d_X9_keepValue_12 (by decide) (fun hc => ?_) (fun hc => ?_)
  · have h := h.1 hc
    refine wp_aload_n (pc := 54) d_X9_keepValue_54 rfl ?_
    refine wp_iload (pc := 55) d_X9_keepValue_55 rfl ?_
    refine wp_putI (pc := 57) d_X9_keepValue_57 fl_X9_23 (fun _ _ _ => rfl) (Or.inl rfl) ho1 (okI_int _) ?_
    refine wp_iload (pc := 60) d_X9_keepValue_60 rfl ?_
    exact wp_iret (pc := 62) d_X9_keepValue_62 rfl h
  · have h := h.2 hc
    refine wp_aload_n (pc := 15) d_X9_keepValue_15 rfl ?_
    refine wp_aload_n (pc := 16) d_X9_keepValue_16 rfl ?_
    refine wp_getR (pc := 17) d_X9_keepValue_17 fl_X9_19 (fun _ _ _ => rfl) ho1 ?_
    refine wp_iload (pc := 20) d_X9_keepValue_20 rfl ?_
    obtain ⟨ho2, h⟩ := h
    obtain ⟨hi3, h⟩ := h
    refine wp_iald (pc := 22) d_X9_keepValue_22 ho2 hi3 ?_
    refine wp_iload_n (pc := 23) d_X9_keepValue_23 rfl ?_
    obtain ⟨ho10, h⟩ := h
    refine wp_invV (pc := 24) (N := M_X7_placeOf) (As := [vi _, vi _]) (rest := []) (r := (cn_7, ct_7, 5)) d_X9_keepValue_24 ml_X9_107 mk_X7_placeOf mv_X7_placeOf h0 ho10 rfl rfl (Nat.le_of_ble_eq_true rfl) ?_
    refine wpM.mono h (fun rr G5 hr => ?_)
    obtain ⟨r4, rfl, h⟩ := hr
    show wp E d M_X9_keepValue 27 [some (vr _), some (vr _), some (vi _), some (vi _), some (vi _), some (vi _)] [vi _] G5 Q
    refine wp_iload_n (pc := 27) d_X9_keepValue_27 rfl ?_
    refine wp_icmp_ne (pc := 28) (tgt := 48) d_X9_keepValue_28 (by decide) (fun hc => ?_) (fun hc => ?_)
    · have h := h.1 hc
      refine wp_sub ?_ h
      exact ⟨rfl, ⟨rfl, ⟨rfl, ⟨rfl, ⟨rfl, ⟨rfl, trivial⟩⟩⟩⟩⟩⟩
    · have h := h.2 hc
      refine wp_aload_n (pc := 31) d_X9_keepValue_31 rfl ?_
      obtain ⟨ho6, h⟩ := h
      refine wp_getR (pc := 32) d_X9_keepValue_32 fl_X9_19 (fun _ _ _ => rfl) ho6 ?_
      refine wp_iload (pc := 35) d_X9_keepValue_35 rfl ?_
      refine wp_iinc (pc := 37) (v := 1) (lv' := [some (vr _), some (vr _), some (vi _), some (vi _), some (vi _), some (vi _)]) d_X9_keepValue_37 (by decide) rfl rfl rfl ?_
      refine wp_aload_n (pc := 40) d_X9_keepValue_40 rfl ?_
      refine wp_getR (pc := 41) d_X9_keepValue_41 fl_X9_19 (fun _ _ _ => rfl) ho6 ?_
      refine wp_iload (pc := 44) d_X9_keepValue_44 rfl ?_
      obtain ⟨ho7, h⟩ := h
      obtain ⟨hi8, h⟩ := h
      refine wp_iald (pc := 46) d_X9_keepValue_46 ho7 hi8 ?_
      obtain ⟨hi9, h⟩ := h
      refine wp_iast (pc := 47) d_X9_keepValue_47 ho7 hi9 ?_
      refine wp_sub ?_ h
      exact ⟨rfl, ⟨rfl, ⟨rfl, ⟨rfl, ⟨rfl, ⟨rfl, trivial⟩⟩⟩⟩⟩⟩
theorem v_X9_keepValue_48 {E : EE} {d : Nat} {Q : Option AV → AH → Prop} {x0 : Nat} {x1 : Nat} {x2 : Int32} {x3 : Int32} {x4 : Int32} {x5 : Int32} {G : AH} (h : wp E d M_X9_keepValue 6 [some (vr x0), some (vr x1), some (vi x2), some (vi x3), some (vi x4), some (vi (x5 + 1))] [] G Q) : wp E d M_X9_keepValue 48 [some (vr x0), some (vr x1), some (vi x2), some (vi x3), some (vi x4), some (vi x5)] [] G Q := by
  refine wp_iinc (pc := 48) (v := 1) (lv' := [some (vr _), some (vr _), some (vi _), some (vi _), some (vi _), some (vi _)]) d_X9_keepValue_48 (by decide) rfl rfl rfl ?_
  refine wp_goto (pc := 51) (tgt := 6) d_X9_keepValue_51 (by decide) ?_
  refine wp_sub ?_ h
  exact ⟨rfl, ⟨rfl, ⟨rfl, ⟨rfl, ⟨rfl, ⟨rfl, trivial⟩⟩⟩⟩⟩⟩
theorem d_X9_keepBest_0 : decode prog_11_method_8_code 0 = .ok (.aload_n 0, 1) := by decide +kernel
theorem d_X9_keepBest_1 : decode prog_11_method_8_code 1 = .ok (.getfield 23, 3) := by decide +kernel
theorem d_X9_keepBest_4 : decode prog_11_method_8_code 4 = .ok (.ifCond .ne 5, 3) := by decide +kernel
theorem d_X9_keepBest_7 : decode prog_11_method_8_code 7 = .ok (.iconst 0, 1) := by decide +kernel
theorem d_X9_keepBest_8 : decode prog_11_method_8_code 8 = .ok (.ireturn, 1) := by decide +kernel
theorem d_X9_keepBest_9 : decode prog_11_method_8_code 9 = .ok (.aload_n 0, 1) := by decide +kernel
theorem d_X9_keepBest_10 : decode prog_11_method_8_code 10 = .ok (.getfield 19, 3) := by decide +kernel
theorem d_X9_keepBest_13 : decode prog_11_method_8_code 13 = .ok (.iconst 0, 1) := by decide +kernel
theorem d_X9_keepBest_14 : decode prog_11_method_8_code 14 = .ok (.iaload, 1) := by decide +kernel
theorem d_X9_keepBest_15 : decode prog_11_method_8_code 15 = .ok (.istore_n 1, 1) := by decide +kernel
theorem d_X9_keepBest_16 : decode prog_11_method_8_code 16 = .ok (.iconst 1, 1) := by decide +kernel
theorem d_X9_keepBest_17 : decode prog_11_method_8_code 17 = .ok (.istore_n 2, 1) := by decide +kernel
theorem d_X9_keepBest_18 : decode prog_11_method_8_code 18 = .ok (.iload_n 2, 1) := by decide +kernel
theorem d_X9_keepBest_19 : decode prog_11_method_8_code 19 = .ok (.aload_n 0, 1) := by decide +kernel
theorem d_X9_keepBest_20 : decode prog_11_method_8_code 20 = .ok (.getfield 23, 3) := by decide +kernel
theorem d_X9_keepBest_23 : decode prog_11_method_8_code 23 = .ok (.if_icmp .ge 30, 3) := by decide +kernel
theorem d_X9_keepBest_26 : decode prog_11_method_8_code 26 = .ok (.aload_n 0, 1) := by decide +kernel
theorem d_X9_keepBest_27 : decode prog_11_method_8_code 27 = .ok (.aload_n 0, 1) := by decide +kernel
theorem d_X9_keepBest_28 : decode prog_11_method_8_code 28 = .ok (.getfield 19, 3) := by decide +kernel
theorem d_X9_keepBest_31 : decode prog_11_method_8_code 31 = .ok (.iload_n 2, 1) := by decide +kernel
theorem d_X9_keepBest_32 : decode prog_11_method_8_code 32 = .ok (.iaload, 1) := by decide +kernel
theorem d_X9_keepBest_33 : decode prog_11_method_8_code 33 = .ok (.iload_n 1, 1) := by decide +kernel
theorem d_X9_keepBest_34 : decode prog_11_method_8_code 34 = .ok (.invokevirtual 103, 3) := by decide +kernel
theorem d_X9_keepBest_37 : decode prog_11_method_8_code 37 = .ok (.ifCond .eq 10, 3) := by decide +kernel
theorem d_X9_keepBest_40 : decode prog_11_method_8_code 40 = .ok (.aload_n 0, 1) := by decide +kernel
theorem d_X9_keepBest_41 : decode prog_11_method_8_code 41 = .ok (.getfield 19, 3) := by decide +kernel
theorem d_X9_keepBest_44 : decode prog_11_method_8_code 44 = .ok (.iload_n 2, 1) := by decide +kernel
theorem d_X9_keepBest_45 : decode prog_11_method_8_code 45 = .ok (.iaload, 1) := by decide +kernel
theorem d_X9_keepBest_46 : decode prog_11_method_8_code 46 = .ok (.istore_n 1, 1) := by decide +kernel
theorem d_X9_keepBest_47 : decode prog_11_method_8_code 47 = .ok (.iinc 2 1, 3) := by decide +kernel
theorem d_X9_keepBest_50 : decode prog_11_method_8_code 50 = .ok (.goto (-32), 3) := by decide +kernel
theorem d_X9_keepBest_53 : decode prog_11_method_8_code 53 = .ok (.iconst 0, 1) := by decide +kernel
theorem d_X9_keepBest_54 : decode prog_11_method_8_code 54 = .ok (.istore_n 2, 1) := by decide +kernel
theorem d_X9_keepBest_55 : decode prog_11_method_8_code 55 = .ok (.iconst 0, 1) := by decide +kernel
theorem d_X9_keepBest_56 : decode prog_11_method_8_code 56 = .ok (.istore_n 3, 1) := by decide +kernel
theorem d_X9_keepBest_57 : decode prog_11_method_8_code 57 = .ok (.iload_n 3, 1) := by decide +kernel
theorem d_X9_keepBest_58 : decode prog_11_method_8_code 58 = .ok (.aload_n 0, 1) := by decide +kernel
theorem d_X9_keepBest_59 : decode prog_11_method_8_code 59 = .ok (.getfield 23, 3) := by decide +kernel
theorem d_X9_keepBest_62 : decode prog_11_method_8_code 62 = .ok (.if_icmp .ge 38, 3) := by decide +kernel
theorem d_X9_keepBest_65 : decode prog_11_method_8_code 65 = .ok (.aload_n 0, 1) := by decide +kernel
theorem d_X9_keepBest_66 : decode prog_11_method_8_code 66 = .ok (.iload_n 1, 1) := by decide +kernel
theorem d_X9_keepBest_67 : decode prog_11_method_8_code 67 = .ok (.aload_n 0, 1) := by decide +kernel
theorem d_X9_keepBest_68 : decode prog_11_method_8_code 68 = .ok (.getfield 19, 3) := by decide +kernel
theorem d_X9_keepBest_71 : decode prog_11_method_8_code 71 = .ok (.iload_n 3, 1) := by decide +kernel
theorem d_X9_keepBest_72 : decode prog_11_method_8_code 72 = .ok (.iaload, 1) := by decide +kernel
theorem d_X9_keepBest_73 : decode prog_11_method_8_code 73 = .ok (.invokevirtual 103, 3) := by decide +kernel
theorem d_X9_keepBest_76 : decode prog_11_method_8_code 76 = .ok (.ifCond .ne 18, 3) := by decide +kernel
theorem d_X9_keepBest_79 : decode prog_11_method_8_code 79 = .ok (.aload_n 0, 1) := by decide +kernel
theorem d_X9_keepBest_80 : decode prog_11_method_8_code 80 = .ok (.getfield 19, 3) := by decide +kernel
theorem d_X9_keepBest_83 : decode prog_11_method_8_code 83 = .ok (.iload_n 2, 1) := by decide +kernel
theorem d_X9_keepBest_84 : decode prog_11_method_8_code 84 = .ok (.iinc 2 1, 3) := by decide +kernel
theorem d_X9_keepBest_87 : decode prog_11_method_8_code 87 = .ok (.aload_n 0, 1) := by decide +kernel
theorem d_X9_keepBest_88 : decode prog_11_method_8_code 88 = .ok (.getfield 19, 3) := by decide +kernel
theorem d_X9_keepBest_91 : decode prog_11_method_8_code 91 = .ok (.iload_n 3, 1) := by decide +kernel
theorem d_X9_keepBest_92 : decode prog_11_method_8_code 92 = .ok (.iaload, 1) := by decide +kernel
theorem d_X9_keepBest_93 : decode prog_11_method_8_code 93 = .ok (.iastore, 1) := by decide +kernel
theorem d_X9_keepBest_94 : decode prog_11_method_8_code 94 = .ok (.iinc 3 1, 3) := by decide +kernel
theorem d_X9_keepBest_97 : decode prog_11_method_8_code 97 = .ok (.goto (-40), 3) := by decide +kernel
theorem d_X9_keepBest_100 : decode prog_11_method_8_code 100 = .ok (.aload_n 0, 1) := by decide +kernel
theorem d_X9_keepBest_101 : decode prog_11_method_8_code 101 = .ok (.iload_n 2, 1) := by decide +kernel
theorem d_X9_keepBest_102 : decode prog_11_method_8_code 102 = .ok (.putfield 23, 3) := by decide +kernel
theorem d_X9_keepBest_105 : decode prog_11_method_8_code 105 = .ok (.iload_n 2, 1) := by decide +kernel
theorem d_X9_keepBest_106 : decode prog_11_method_8_code 106 = .ok (.ireturn, 1) := by decide +kernel
theorem v_X9_keepBest_0 {E : EE} {d : Nat} {Q : Option AV → AH → Prop} {x0 : Nat} {G : AH} (h : isO E G x0 9 ∧ ((¬ (gI G x0 3) = 0 → isO E G (gR G x0 2) 14 ∧ (vp_in 0 (gN G (gR G x0 2)) ∧ (wp E d M_X9_keepBest 18 [some (vr x0), some (vi (gI G (gR G x0 2) (Int32.toNatClampNeg 0))), some (vi 1), none] [] G Q))) ∧ ((gI G x0 3) = 0 → Q (some (vi 0)) G))) : wp E d M_X9_keepBest 0 [some (vr x0), none, none, none] [] G Q := by
  refine wp_aload_n (pc := 0) d_X9_keepBest_0 rfl ?_
  obtain ⟨ho1, h⟩ := h
  refine wp_getI (pc := 1) d_X9_keepBest_1 fl_X9_23 (fun _ _ _ => rfl) ho1 ?_
  refine wp_if_ne (pc := 4) (tgt := 9) d_X9_keepBest_4 (by decide) (fun hc => ?_) (fun hc => ?_)
  · have h := h.1 hc
    refine wp_aload_n (pc := 9) d_X9_keepBest_9 rfl ?_
    refine wp_getR (pc := 10) d_X9_keepBest_10 fl_X9_19 (fun _ _ _ => rfl) ho1 ?_
    refine wp_iconst (pc := 13) (v := 0) d_X9_keepBest_13 rfl ?_
    obtain ⟨ho2, h⟩ := h
    obtain ⟨hi3, h⟩ := h
    refine wp_iald (pc := 14) d_X9_keepBest_14 ho2 hi3 ?_
    refine wp_istore_n (pc := 15) (lv' := [some (vr _), some (vi _), none, none]) d_X9_keepBest_15 (by decide) rfl ?_
    refine wp_iconst (pc := 16) (v := 1) d_X9_keepBest_16 rfl ?_
    refine wp_istore_n (pc := 17) (lv' := [some (vr _), some (vi _), some (vi _), none]) d_X9_keepBest_17 (by decide) rfl ?_
    refine wp_sub ?_ h
    exact ⟨rfl, ⟨rfl, ⟨rfl, trivial⟩⟩⟩
  · have h := h.2 hc
    refine wp_iconst (pc := 7) (v := 0) d_X9_keepBest_7 rfl ?_
    exact wp_iret (pc := 8) d_X9_keepBest_8 rfl h
theorem v_X9_keepBest_18 {E : EE} {d : Nat} {Q : Option AV → AH → Prop} {x0 : Nat} {x1 : Int32} {x2 : Int32} {G : AH} (h0 : 0 < d) (h : isO E G x0 9 ∧ (((gI G x0 3) ≤ x2 → wp E d M_X9_keepBest 57 [some (vr x0), some (vi x1), some (vi 0), some (vi 0)] [] G Q) ∧ (¬ ((gI G x0 3) ≤ x2) → isO E G (gR G x0 2) 14 ∧ (vp_in x2 (gN G (gR G x0 2)) ∧ (wpI E (d - 1) M_X9_isBetter [vr x0, vi (gI G (gR G x0 2) (Int32.toNatClampNeg x2)), vi x1] G (fun r4 G5 => (r4 = 0 → wp E d M_X9_keepBest 47 [some (vr x0), some (vi x1), some (vi x2), none] [] G5 Q) ∧ (¬ (r4 = 0) → isO E G5 x0 9 ∧ (isO E G5 (gR G5 x0 2) 14 ∧ (vp_in x2 (gN G5 (gR G5 x0 2)) ∧ (wp E d M_X9_keepBest 47 [some (vr x0), some (vi (gI G5 (gR G5 x0 2) (Int32.toNatClampNeg x2))), some (vi x2), none] [] G5 Q)))))))))) : wp E d M_X9_keepBest 18 [some (vr x0), some (vi x1), some (vi x2), none] [] G Q := by
  refine wp_iload_n (pc := 18) d_X9_keepBest_18 rfl ?_
  refine wp_aload_n (pc := 19) d_X9_keepBest_19 rfl ?_
  obtain ⟨ho1, h⟩ := h
  refine wp_getI (pc := 20) d_X9_keepBest_20 fl_X9_23 (fun _ _ _ => rfl) ho1 ?_
  refine wp_icmp_ge (pc := 23) (tgt := 53) d_X9_keepBest_23 (by decide) (fun hc => ?_) (fun hc => ?_)
  · have h := h.1 hc
    refine wp_iconst (pc := 53) (v := 0) d_X9_keepBest_53 rfl ?_
    refine wp_istore_n (pc := 54) (lv' := [some (vr _), some (vi _), some (vi _), none]) d_X9_keepBest_54 (by decide) rfl ?_
    refine wp_iconst (pc := 55) (v := 0) d_X9_keepBest_55 rfl ?_
    refine wp_istore_n (pc := 56) (lv' := [some (vr _), some (vi _), some (vi _), some (vi _)]) d_X9_keepBest_56 (by decide) rfl ?_
    refine wp_sub ?_ h
    exact ⟨rfl, ⟨rfl, ⟨rfl, ⟨rfl, trivial⟩⟩⟩⟩
  · have h := h.2 hc
    refine wp_aload_n (pc := 26) d_X9_keepBest_26 rfl ?_
    refine wp_aload_n (pc := 27) d_X9_keepBest_27 rfl ?_
    refine wp_getR (pc := 28) d_X9_keepBest_28 fl_X9_19 (fun _ _ _ => rfl) ho1 ?_
    refine wp_iload_n (pc := 31) d_X9_keepBest_31 rfl ?_
    obtain ⟨ho2, h⟩ := h
    obtain ⟨hi3, h⟩ := h
    refine wp_iald (pc := 32) d_X9_keepBest_32 ho2 hi3 ?_
    refine wp_iload_n (pc := 33) d_X9_keepBest_33 rfl ?_
    refine wp_invV (pc := 34) (N := M_X9_isBetter) (As := [vi _, vi _]) (rest := []) (r := (cn_9, ct_9, 8)) d_X9_keepBest_34 ml_X9_103 mk_X9_isBetter mv_X9_isBetter h0 ho1 rfl rfl (Nat.le_of_ble_eq_true rfl) ?_
    refine wpM.mono h (fun rr G5 hr => ?_)
    obtain ⟨r4, rfl, h⟩ := hr
    show wp E d M_X9_keepBest 37 [some (vr _), some (vi _), some (vi _), none] [vi _] G5 Q
    refine wp_if_eq (pc := 37) (tgt := 47) d_X9_keepBest_37 (by decide) (fun hc => ?_) (fun hc => ?_)
    · have h := h.1 hc
      refine wp_sub ?_ h
      exact ⟨rfl, ⟨rfl, ⟨rfl, trivial⟩⟩⟩
    · have h := h.2 hc
      refine wp_aload_n (pc := 40) d_X9_keepBest_40 rfl ?_
      obtain ⟨ho6, h⟩ := h
      refine wp_getR (pc := 41) d_X9_keepBest_41 fl_X9_19 (fun _ _ _ => rfl) ho6 ?_
      refine wp_iload_n (pc := 44) d_X9_keepBest_44 rfl ?_
      obtain ⟨ho7, h⟩ := h
      obtain ⟨hi8, h⟩ := h
      refine wp_iald (pc := 45) d_X9_keepBest_45 ho7 hi8 ?_
      refine wp_istore_n (pc := 46) (lv' := [some (vr _), some (vi _), some (vi _), none]) d_X9_keepBest_46 (by decide) rfl ?_
      refine wp_sub ?_ h
      exact ⟨rfl, ⟨rfl, ⟨rfl, trivial⟩⟩⟩
theorem v_X9_keepBest_47 {E : EE} {d : Nat} {Q : Option AV → AH → Prop} {x0 : Nat} {x1 : Int32} {x2 : Int32} {G : AH} (h : wp E d M_X9_keepBest 18 [some (vr x0), some (vi x1), some (vi (x2 + 1)), none] [] G Q) : wp E d M_X9_keepBest 47 [some (vr x0), some (vi x1), some (vi x2), none] [] G Q := by
  refine wp_iinc (pc := 47) (v := 1) (lv' := [some (vr _), some (vi _), some (vi _), none]) d_X9_keepBest_47 (by decide) rfl rfl rfl ?_
  refine wp_goto (pc := 50) (tgt := 18) d_X9_keepBest_50 (by decide) ?_
  refine wp_sub ?_ h
  exact ⟨rfl, ⟨rfl, ⟨rfl, trivial⟩⟩⟩
theorem v_X9_keepBest_57 {E : EE} {d : Nat} {Q : Option AV → AH → Prop} {x0 : Nat} {x1 : Int32} {x2 : Int32} {x3 : Int32} {G : AH} (h0 : 0 < d) (h : isO E G x0 9 ∧ (((gI G x0 3) ≤ x3 → Q (some (vi x2)) (sI G x0 3 x2)) ∧ (¬ ((gI G x0 3) ≤ x3) → isO E G (gR G x0 2) 14 ∧ (vp_in x3 (gN G (gR G x0 2)) ∧ (wpI E (d - 1) M_X9_isBetter [vr x0, vi x1, vi (gI G (gR G x0 2) (Int32.toNatClampNeg x3))] G (fun r4 G5 => (¬ r4 = 0 → wp E d M_X9_keepBest 94 [some (vr x0), some (vi x1), some (vi x2), some (vi x3)] [] G5 Q) ∧ (r4 = 0 → isO E G5 x0 9 ∧ (isO E G5 (gR G5 x0 2) 14 ∧ (vp_in x3 (gN G5 (gR G5 x0 2)) ∧ (vp_in x2 (gN G5 (gR G5 x0 2)) ∧ (wp E d M_X9_keepBest 94 [some (vr x0), some (vi x1), some (vi (x2 + 1)), some (vi x3)] [] (sI G5 (gR G5 x0 2) (Int32.toNatClampNeg x2) (gI G5 (gR G5 x0 2) (Int32.toNatClampNeg x3))) Q))))))))))) : wp E d M_X9_keepBest 57 [some (vr x0), some (vi x1), some (vi x2), some (vi x3)] [] G Q := by
  refine wp_iload_n (pc := 57) d_X9_keepBest_57 rfl ?_
  refine wp_aload_n (pc := 58) d_X9_keepBest_58 rfl ?_
  obtain ⟨ho1, h⟩ := h
  refine wp_getI (pc := 59) d_X9_keepBest_59 fl_X9_23 (fun _ _ _ => rfl) ho1 ?_
  refine wp_icmp_ge (pc := 62) (tgt := 100) d_X9_keepBest_62 (by decide) (fun hc => ?_) (fun hc => ?_)
  · have h := h.1 hc
    refine wp_aload_n (pc := 100) d_X9_keepBest_100 rfl ?_
    refine wp_iload_n (pc := 101) d_X9_keepBest_101 rfl ?_
    refine wp_putI (pc := 102) d_X9_keepBest_102 fl_X9_23 (fun _ _ _ => rfl) (Or.inl rfl) ho1 (okI_int _) ?_
    refine wp_iload_n (pc := 105) d_X9_keepBest_105 rfl ?_
    exact wp_iret (pc := 106) d_X9_keepBest_106 rfl h
  · have h := h.2 hc
    refine wp_aload_n (pc := 65) d_X9_keepBest_65 rfl ?_
    refine wp_iload_n (pc := 66) d_X9_keepBest_66 rfl ?_
    refine wp_aload_n (pc := 67) d_X9_keepBest_67 rfl ?_
    refine wp_getR (pc := 68) d_X9_keepBest_68 fl_X9_19 (fun _ _ _ => rfl) ho1 ?_
    refine wp_iload_n (pc := 71) d_X9_keepBest_71 rfl ?_
    obtain ⟨ho2, h⟩ := h
    obtain ⟨hi3, h⟩ := h
    refine wp_iald (pc := 72) d_X9_keepBest_72 ho2 hi3 ?_
    refine wp_invV (pc := 73) (N := M_X9_isBetter) (As := [vi _, vi _]) (rest := []) (r := (cn_9, ct_9, 8)) d_X9_keepBest_73 ml_X9_103 mk_X9_isBetter mv_X9_isBetter h0 ho1 rfl rfl (Nat.le_of_ble_eq_true rfl) ?_
    refine wpM.mono h (fun rr G5 hr => ?_)
    obtain ⟨r4, rfl, h⟩ := hr
    show wp E d M_X9_keepBest 76 [some (vr _), some (vi _), some (vi _), some (vi _)] [vi _] G5 Q
    refine wp_if_ne (pc := 76) (tgt := 94) d_X9_keepBest_76 (by decide) (fun hc => ?_) (fun hc => ?_)
    · have h := h.1 hc
      refine wp_sub ?_ h
      exact ⟨rfl, ⟨rfl, ⟨rfl, ⟨rfl, trivial⟩⟩⟩⟩
    · have h := h.2 hc
      refine wp_aload_n (pc := 79) d_X9_keepBest_79 rfl ?_
      obtain ⟨ho6, h⟩ := h
      refine wp_getR (pc := 80) d_X9_keepBest_80 fl_X9_19 (fun _ _ _ => rfl) ho6 ?_
      refine wp_iload_n (pc := 83) d_X9_keepBest_83 rfl ?_
      refine wp_iinc (pc := 84) (v := 1) (lv' := [some (vr _), some (vi _), some (vi _), some (vi _)]) d_X9_keepBest_84 (by decide) rfl rfl rfl ?_
      refine wp_aload_n (pc := 87) d_X9_keepBest_87 rfl ?_
      refine wp_getR (pc := 88) d_X9_keepBest_88 fl_X9_19 (fun _ _ _ => rfl) ho6 ?_
      refine wp_iload_n (pc := 91) d_X9_keepBest_91 rfl ?_
      obtain ⟨ho7, h⟩ := h
      obtain ⟨hi8, h⟩ := h
      refine wp_iald (pc := 92) d_X9_keepBest_92 ho7 hi8 ?_
      obtain ⟨hi9, h⟩ := h
      refine wp_iast (pc := 93) d_X9_keepBest_93 ho7 hi9 ?_
      refine wp_sub ?_ h
      exact ⟨rfl, ⟨rfl, ⟨rfl, ⟨rfl, trivial⟩⟩⟩⟩
theorem v_X9_keepBest_94 {E : EE} {d : Nat} {Q : Option AV → AH → Prop} {x0 : Nat} {x1 : Int32} {x2 : Int32} {x3 : Int32} {G : AH} (h : wp E d M_X9_keepBest 57 [some (vr x0), some (vi x1), some (vi x2), some (vi (x3 + 1))] [] G Q) : wp E d M_X9_keepBest 94 [some (vr x0), some (vi x1), some (vi x2), some (vi x3)] [] G Q := by
  refine wp_iinc (pc := 94) (v := 1) (lv' := [some (vr _), some (vi _), some (vi _), some (vi _)]) d_X9_keepBest_94 (by decide) rfl rfl rfl ?_
  refine wp_goto (pc := 97) (tgt := 57) d_X9_keepBest_97 (by decide) ?_
  refine wp_sub ?_ h
  exact ⟨rfl, ⟨rfl, ⟨rfl, ⟨rfl, trivial⟩⟩⟩⟩
theorem d_X9_gatherFor_0 : decode prog_11_method_7_code 0 = .ok (.aload_n 0, 1) := by decide +kernel
theorem d_X9_gatherFor_1 : decode prog_11_method_7_code 1 = .ok (.aload_n 1, 1) := by decide +kernel
theorem d_X9_gatherFor_2 : decode prog_11_method_7_code 2 = .ok (.aload_n 1, 1) := by decide +kernel
theorem d_X9_gatherFor_3 : decode prog_11_method_7_code 3 = .ok (.getfield 92, 3) := by decide +kernel
theorem d_X9_gatherFor_6 : decode prog_11_method_7_code 6 = .ok (.invokevirtual 95, 3) := by decide +kernel
theorem d_X9_gatherFor_9 : decode prog_11_method_7_code 9 = .ok (.pop, 1) := by decide +kernel
theorem d_X9_gatherFor_10 : decode prog_11_method_7_code 10 = .ok (.iload_n 2, 1) := by decide +kernel
theorem d_X9_gatherFor_11 : decode prog_11_method_7_code 11 = .ok (.ifCond .eq 10, 3) := by decide +kernel
theorem d_X9_gatherFor_14 : decode prog_11_method_7_code 14 = .ok (.aload_n 0, 1) := by decide +kernel
theorem d_X9_gatherFor_15 : decode prog_11_method_7_code 15 = .ok (.invokevirtual 99, 3) := by decide +kernel
theorem d_X9_gatherFor_18 : decode prog_11_method_7_code 18 = .ok (.goto 7, 3) := by decide +kernel
theorem d_X9_gatherFor_21 : decode prog_11_method_7_code 21 = .ok (.aload_n 0, 1) := by decide +kernel
theorem d_X9_gatherFor_22 : decode prog_11_method_7_code 22 = .ok (.getfield 23, 3) := by decide +kernel
theorem d_X9_gatherFor_25 : decode prog_11_method_7_code 25 = .ok (.ireturn, 1) := by decide +kernel
theorem v_X9_gatherFor_0 {E : EE} {d : Nat} {Q : Option AV → AH → Prop} {x0 : Nat} {x1 : Nat} {x2 : Int32} {G : AH} (h0 : 0 < d) (h : isO E G x1 3 ∧ (isO E G x0 9 ∧ (wpI E (d - 1) M_X9_gather [vr x0, vr x1, vi (gI G x1 9)] G (fun r2 G3 => (x2 = 0 → isO E G3 x0 9 ∧ (Q (some (vi (gI G3 x0 3))) G3)) ∧ (¬ (x2 = 0) → isO E G3 x0 9 ∧ (wpI E (d - 1) M_X9_keepBest [vr x0] G3 (fun r5 G6 => Q (some (vi r5)) G6))))))) : wp E d M_X9_gatherFor 0 [some (vr x0), some (vr x1), some (vi x2)] [] G Q := by
  refine wp_aload_n (pc := 0) d_X9_gatherFor_0 rfl ?_
  refine wp_aload_n (pc := 1) d_X9_gatherFor_1 rfl ?_
  refine wp_aload_n (pc := 2) d_X9_gatherFor_2 rfl ?_
  obtain ⟨ho1, h⟩ := h
  refine wp_getI (pc := 3) d_X9_gatherFor_3 fl_X9_92 (fun _ _ _ => rfl) ho1 ?_
  obtain ⟨ho8, h⟩ := h
  refine wp_invV (pc := 6) (N := M_X9_gather) (As := [vr _, vi _]) (rest := []) (r := (cn_9, ct_9, 8)) d_X9_gatherFor_6 ml_X9_95 mk_X9_gather mv_X9_gather h0 ho8 rfl rfl (Nat.le_of_ble_eq_true rfl) ?_
  refine wpM.mono h (fun rr G3 hr => ?_)
  obtain ⟨r2, rfl, h⟩ := hr
  show wp E d M_X9_gatherFor 9 [some (vr _), some (vr _), some (vi _)] [vi _] G3 Q
  refine wp_pop (pc := 9) d_X9_gatherFor_9 (c1_i _) ?_
  refine wp_iload_n (pc := 10) d_X9_gatherFor_10 rfl ?_
  refine wp_if_eq (pc := 11) (tgt := 21) d_X9_gatherFor_11 (by decide) (fun hc => ?_) (fun hc => ?_)
  · have h := h.1 hc
    refine wp_aload_n (pc := 21) d_X9_gatherFor_21 rfl ?_
    obtain ⟨ho4, h⟩ := h
    refine wp_getI (pc := 22) d_X9_gatherFor_22 fl_X9_23 (fun _ _ _ => rfl) ho4 ?_
    exact wp_iret (pc := 25) d_X9_gatherFor_25 rfl h
  · have h := h.2 hc
    refine wp_aload_n (pc := 14) d_X9_gatherFor_14 rfl ?_
    obtain ⟨ho7, h⟩ := h
    refine wp_invV (pc := 15) (N := M_X9_keepBest) (As := []) (rest := []) (r := (cn_9, ct_9, 8)) d_X9_gatherFor_15 ml_X9_99 mk_X9_keepBest mv_X9_keepBest h0 ho7 rfl rfl (Nat.le_of_ble_eq_true rfl) ?_
    refine wpM.mono h (fun rr G6 hr => ?_)
    obtain ⟨r5, rfl, h⟩ := hr
    show wp E d M_X9_gatherFor 18 [some (vr _), some (vr _), some (vi _)] [vi _] G6 Q
    refine wp_goto (pc := 18) (tgt := 25) d_X9_gatherFor_18 (by decide) ?_
    exact wp_iret (pc := 25) d_X9_gatherFor_25 rfl h
theorem d_X9_walkFront_0 : decode prog_11_method_12_code 0 = .ok (.aload_n 0, 1) := by decide +kernel
theorem d_X9_walkFront_1 : decode prog_11_method_12_code 1 = .ok (.aload_n 1, 1) := by decide +kernel
theorem d_X9_walkFront_2 : decode prog_11_method_12_code 2 = .ok (.aload_n 1, 1) := by decide +kernel
theorem d_X9_walkFront_3 : decode prog_11_method_12_code 3 = .ok (.getfield 92, 3) := by decide +kernel
theorem d_X9_walkFront_6 : decode prog_11_method_12_code 6 = .ok (.invokevirtual 95, 3) := by decide +kernel
theorem d_X9_walkFront_9 : decode prog_11_method_12_code 9 = .ok (.pop, 1) := by decide +kernel
theorem d_X9_walkFront_10 : decode prog_11_method_12_code 10 = .ok (.aload_n 0, 1) := by decide +kernel
theorem d_X9_walkFront_11 : decode prog_11_method_12_code 11 = .ok (.invokevirtual 115, 3) := by decide +kernel
theorem d_X9_walkFront_14 : decode prog_11_method_12_code 14 = .ok (.iconst 0, 1) := by decide +kernel
theorem d_X9_walkFront_15 : decode prog_11_method_12_code 15 = .ok (.istore_n 3, 1) := by decide +kernel
theorem d_X9_walkFront_16 : decode prog_11_method_12_code 16 = .ok (.ldc2_w 120, 3) := by decide +kernel
theorem d_X9_walkFront_19 : decode prog_11_method_12_code 19 = .ok (.lstore 4, 2) := by decide +kernel
theorem d_X9_walkFront_21 : decode prog_11_method_12_code 21 = .ok (.iconst 0, 1) := by decide +kernel
theorem d_X9_walkFront_22 : decode prog_11_method_12_code 22 = .ok (.istore 6, 2) := by decide +kernel
theorem d_X9_walkFront_24 : decode prog_11_method_12_code 24 = .ok (.iconst 0, 1) := by decide +kernel
theorem d_X9_walkFront_25 : decode prog_11_method_12_code 25 = .ok (.istore 7, 2) := by decide +kernel
theorem d_X9_walkFront_27 : decode prog_11_method_12_code 27 = .ok (.iload 7, 2) := by decide +kernel
theorem d_X9_walkFront_29 : decode prog_11_method_12_code 29 = .ok (.sipush 20000, 3) := by decide +kernel
theorem d_X9_walkFront_32 : decode prog_11_method_12_code 32 = .ok (.if_icmp .ge 113, 3) := by decide +kernel
theorem d_X9_walkFront_35 : decode prog_11_method_12_code 35 = .ok (.iload 6, 2) := by decide +kernel
theorem d_X9_walkFront_37 : decode prog_11_method_12_code 37 = .ok (.aload_n 0, 1) := by decide +kernel
theorem d_X9_walkFront_38 : decode prog_11_method_12_code 38 = .ok (.getfield 23, 3) := by decide +kernel
theorem d_X9_walkFront_41 : decode prog_11_method_12_code 41 = .ok (.if_icmp .ge 104, 3) := by decide +kernel
theorem d_X9_walkFront_44 : decode prog_11_method_12_code 44 = .ok (.aload_n 0, 1) := by decide +kernel
theorem d_X9_walkFront_45 : decode prog_11_method_12_code 45 = .ok (.getfield 19, 3) := by decide +kernel
theorem d_X9_walkFront_48 : decode prog_11_method_12_code 48 = .ok (.iload 6, 2) := by decide +kernel
theorem d_X9_walkFront_50 : decode prog_11_method_12_code 50 = .ok (.iaload, 1) := by decide +kernel
theorem d_X9_walkFront_51 : decode prog_11_method_12_code 51 = .ok (.istore 8, 2) := by decide +kernel
theorem d_X9_walkFront_53 : decode prog_11_method_12_code 53 = .ok (.iload 6, 2) := by decide +kernel
theorem d_X9_walkFront_55 : decode prog_11_method_12_code 55 = .ok (.istore 9, 2) := by decide +kernel
theorem d_X9_walkFront_57 : decode prog_11_method_12_code 57 = .ok (.iinc 6 1, 3) := by decide +kernel
theorem d_X9_walkFront_60 : decode prog_11_method_12_code 60 = .ok (.iload 6, 2) := by decide +kernel
theorem d_X9_walkFront_62 : decode prog_11_method_12_code 62 = .ok (.aload_n 0, 1) := by decide +kernel
theorem d_X9_walkFront_63 : decode prog_11_method_12_code 63 = .ok (.getfield 23, 3) := by decide +kernel
theorem d_X9_walkFront_66 : decode prog_11_method_12_code 66 = .ok (.if_icmp .ge 25, 3) := by decide +kernel
theorem d_X9_walkFront_69 : decode prog_11_method_12_code 69 = .ok (.aload_n 0, 1) := by decide +kernel
theorem d_X9_walkFront_70 : decode prog_11_method_12_code 70 = .ok (.aload_n 0, 1) := by decide +kernel
theorem d_X9_walkFront_71 : decode prog_11_method_12_code 71 = .ok (.getfield 19, 3) := by decide +kernel
theorem d_X9_walkFront_74 : decode prog_11_method_12_code 74 = .ok (.iload 6, 2) := by decide +kernel
theorem d_X9_walkFront_76 : decode prog_11_method_12_code 76 = .ok (.iaload, 1) := by decide +kernel
theorem d_X9_walkFront_77 : decode prog_11_method_12_code 77 = .ok (.iload 8, 2) := by decide +kernel
theorem d_X9_walkFront_79 : decode prog_11_method_12_code 79 = .ok (.invokevirtual 122, 3) := by decide +kernel
theorem d_X9_walkFront_82 : decode prog_11_method_12_code 82 = .ok (.ifCond .eq 9, 3) := by decide +kernel
theorem d_X9_walkFront_85 : decode prog_11_method_12_code 85 = .ok (.iinc 6 1, 3) := by decide +kernel
theorem d_X9_walkFront_88 : decode prog_11_method_12_code 88 = .ok (.goto (-28), 3) := by decide +kernel
theorem d_X9_walkFront_91 : decode prog_11_method_12_code 91 = .ok (.aload_n 0, 1) := by decide +kernel
theorem d_X9_walkFront_92 : decode prog_11_method_12_code 92 = .ok (.iload 8, 2) := by decide +kernel
theorem d_X9_walkFront_94 : decode prog_11_method_12_code 94 = .ok (.iconst 2, 1) := by decide +kernel
theorem d_X9_walkFront_95 : decode prog_11_method_12_code 95 = .ok (.invokevirtual 72, 3) := by decide +kernel
theorem d_X9_walkFront_98 : decode prog_11_method_12_code 98 = .ok (.lload 4, 2) := by decide +kernel
theorem d_X9_walkFront_100 : decode prog_11_method_12_code 100 = .ok (.lcmp, 1) := by decide +kernel
theorem d_X9_walkFront_101 : decode prog_11_method_12_code 101 = .ok (.ifCond .lt 6, 3) := by decide +kernel
theorem d_X9_walkFront_104 : decode prog_11_method_12_code 104 = .ok (.goto 35, 3) := by decide +kernel
theorem d_X9_walkFront_107 : decode prog_11_method_12_code 107 = .ok (.aload_n 0, 1) := by decide +kernel
theorem d_X9_walkFront_108 : decode prog_11_method_12_code 108 = .ok (.iload 8, 2) := by decide +kernel
theorem d_X9_walkFront_110 : decode prog_11_method_12_code 110 = .ok (.iconst 2, 1) := by decide +kernel
theorem d_X9_walkFront_111 : decode prog_11_method_12_code 111 = .ok (.invokevirtual 72, 3) := by decide +kernel
theorem d_X9_walkFront_114 : decode prog_11_method_12_code 114 = .ok (.lstore 4, 2) := by decide +kernel
theorem d_X9_walkFront_116 : decode prog_11_method_12_code 116 = .ok (.iload_n 3, 1) := by decide +kernel
theorem d_X9_walkFront_117 : decode prog_11_method_12_code 117 = .ok (.iload_n 2, 1) := by decide +kernel
theorem d_X9_walkFront_118 : decode prog_11_method_12_code 118 = .ok (.if_icmp .ne 18, 3) := by decide +kernel
theorem d_X9_walkFront_121 : decode prog_11_method_12_code 121 = .ok (.aload_n 0, 1) := by decide +kernel
theorem d_X9_walkFront_122 : decode prog_11_method_12_code 122 = .ok (.iload 8, 2) := by decide +kernel
theorem d_X9_walkFront_124 : decode prog_11_method_12_code 124 = .ok (.putfield 26, 3) := by decide +kernel
theorem d_X9_walkFront_127 : decode prog_11_method_12_code 127 = .ok (.aload_n 0, 1) := by decide +kernel
theorem d_X9_walkFront_128 : decode prog_11_method_12_code 128 = .ok (.iload 6, 2) := by decide +kernel
theorem d_X9_walkFront_130 : decode prog_11_method_12_code 130 = .ok (.iload 9, 2) := by decide +kernel
theorem d_X9_walkFront_132 : decode prog_11_method_12_code 132 = .ok (.isub, 1) := by decide +kernel
theorem d_X9_walkFront_133 : decode prog_11_method_12_code 133 = .ok (.putfield 29, 3) := by decide +kernel
theorem d_X9_walkFront_136 : decode prog_11_method_12_code 136 = .ok (.iinc 3 1, 3) := by decide +kernel
theorem d_X9_walkFront_139 : decode prog_11_method_12_code 139 = .ok (.iinc 7 1, 3) := by decide +kernel
theorem d_X9_walkFront_142 : decode prog_11_method_12_code 142 = .ok (.goto (-115), 3) := by decide +kernel
theorem d_X9_walkFront_145 : decode prog_11_method_12_code 145 = .ok (.iload_n 3, 1) := by decide +kernel
theorem d_X9_walkFront_146 : decode prog_11_method_12_code 146 = .ok (.ireturn, 1) := by decide +kernel
theorem v_X9_walkFront_0 {E : EE} {d : Nat} {Q : Option AV → AH → Prop} {x0 : Nat} {x1 : Nat} {x2 : Int32} {G : AH} (h0 : 0 < d) (h : isO E G x1 3 ∧ (isO E G x0 9 ∧ (wpI E (d - 1) M_X9_gather [vr x0, vr x1, vi (gI G x1 9)] G (fun r2 G3 => isO E G3 x0 9 ∧ (wpV E (d - 1) M_X9_sortByPair [vr x0] G3 (fun G4 => wp E d M_X9_walkFront 27 [some (vr x0), some (vr x1), some (vi x2), some (vi 0), some (vj 9223372036854775807), none, some (vi 0), some (vi 0), none, none] [] G4 Q)))))) : wp E d M_X9_walkFront 0 [some (vr x0), some (vr x1), some (vi x2), none, none, none, none, none, none, none] [] G Q := by
  refine wp_aload_n (pc := 0) d_X9_walkFront_0 rfl ?_
  refine wp_aload_n (pc := 1) d_X9_walkFront_1 rfl ?_
  refine wp_aload_n (pc := 2) d_X9_walkFront_2 rfl ?_
  obtain ⟨ho1, h⟩ := h
  refine wp_getI (pc := 3) d_X9_walkFront_3 fl_X9_92 (fun _ _ _ => rfl) ho1 ?_
  obtain ⟨ho6, h⟩ := h
  refine wp_invV (pc := 6) (N := M_X9_gather) (As := [vr _, vi _]) (rest := []) (r := (cn_9, ct_9, 8)) d_X9_walkFront_6 ml_X9_95 mk_X9_gather mv_X9_gather h0 ho6 rfl rfl (Nat.le_of_ble_eq_true rfl) ?_
  refine wpM.mono h (fun rr G3 hr => ?_)
  obtain ⟨r2, rfl, h⟩ := hr
  show wp E d M_X9_walkFront 9 [some (vr _), some (vr _), some (vi _), none, none, none, none, none, none, none] [vi _] G3 Q
  refine wp_pop (pc := 9) d_X9_walkFront_9 (c1_i _) ?_
  refine wp_aload_n (pc := 10) d_X9_walkFront_10 rfl ?_
  obtain ⟨ho5, h⟩ := h
  refine wp_invV (pc := 11) (N := M_X9_sortByPair) (As := []) (rest := []) (r := (cn_9, ct_9, 8)) d_X9_walkFront_11 ml_X9_115 mk_X9_sortByPair mv_X9_sortByPair h0 ho5 rfl rfl (Nat.le_of_ble_eq_true rfl) ?_
  refine wpM.mono h (fun rr G4 hr => ?_)
  obtain ⟨rfl, h⟩ := hr
  show wp E d M_X9_walkFront 14 [some (vr _), some (vr _), some (vi _), none, none, none, none, none, none, none] [] G4 Q
  refine wp_iconst (pc := 14) (v := 0) d_X9_walkFront_14 rfl ?_
  refine wp_istore_n (pc := 15) (lv' := [some (vr _), some (vr _), some (vi _), some (vi _), none, none, none, none, none, none]) d_X9_walkFront_15 (by decide) rfl ?_
  refine wp_ldc2 (pc := 16) (v := 9223372036854775807) d_X9_walkFront_16 cj_X9_120 ?_
  refine wp_lstore (pc := 19) (lv' := [some (vr _), some (vr _), some (vi _), some (vi _), some (vj _), none, none, none, none, none]) d_X9_walkFront_19 (by decide) rfl ?_
  refine wp_iconst (pc := 21) (v := 0) d_X9_walkFront_21 rfl ?_
  refine wp_istore (pc := 22) (lv' := [some (vr _), some (vr _), some (vi _), some (vi _), some (vj _), none, some (vi _), none, none, none]) d_X9_walkFront_22 (by decide) rfl ?_
  refine wp_iconst (pc := 24) (v := 0) d_X9_walkFront_24 rfl ?_
  refine wp_istore (pc := 25) (lv' := [some (vr _), some (vr _), some (vi _), some (vi _), some (vj _), none, some (vi _), some (vi _), none, none]) d_X9_walkFront_25 (by decide) rfl ?_
  refine wp_sub ?_ h
  exact ⟨rfl, ⟨rfl, ⟨rfl, ⟨rfl, ⟨rfl, ⟨rfl, ⟨rfl, trivial⟩⟩⟩⟩⟩⟩⟩
theorem v_X9_walkFront_27 {E : EE} {d : Nat} {Q : Option AV → AH → Prop} {x0 : Nat} {x1 : Nat} {x2 : Int32} {x3 : Int32} {x4 : Int64} {x6 : Int32} {x7 : Int32} {G : AH} (h : (20000 ≤ x7 → Q (some (vi x3)) G) ∧ (¬ (20000 ≤ x7) → isO E G x0 9 ∧ (((gI G x0 3) ≤ x6 → Q (some (vi x3)) G) ∧ (¬ ((gI G x0 3) ≤ x6) → isO E G (gR G x0 2) 14 ∧ (vp_in x6 (gN G (gR G x0 2)) ∧ (wp E d M_X9_walkFront 60 [some (vr x0), some (vr x1), some (vi x2), some (vi x3), some (vj x4), none, some (vi (x6 + 1)), some (vi x7), some (vi (gI G (gR G x0 2) (Int32.toNatClampNeg x6))), some (vi x6)] [] G Q)))))) : wp E d M_X9_walkFront 27 [some (vr x0), some (vr x1), some (vi x2), some (vi x3), some (vj x4), none, some (vi x6), some (vi x7), none, none] [] G Q := by
  refine wp_iload (pc := 27) d_X9_walkFront_27 rfl ?_
  refine wp_sipush (pc := 29) (v := 20000) d_X9_walkFront_29 rfl ?_
  refine wp_icmp_ge (pc := 32) (tgt := 145) d_X9_walkFront_32 (by decide) (fun hc => ?_) (fun hc => ?_)
  · have h := h.1 hc
    refine wp_iload_n (pc := 145) d_X9_walkFront_145 rfl ?_
    exact wp_iret (pc := 146) d_X9_walkFront_146 rfl h
  · have h := h.2 hc
    refine wp_iload (pc := 35) d_X9_walkFront_35 rfl ?_
    refine wp_aload_n (pc := 37) d_X9_walkFront_37 rfl ?_
    obtain ⟨ho1, h⟩ := h
    refine wp_getI (pc := 38) d_X9_walkFront_38 fl_X9_23 (fun _ _ _ => rfl) ho1 ?_
    refine wp_icmp_ge (pc := 41) (tgt := 145) d_X9_walkFront_41 (by decide) (fun hc => ?_) (fun hc => ?_)
    · have h := h.1 hc
      refine wp_iload_n (pc := 145) d_X9_walkFront_145 rfl ?_
      exact wp_iret (pc := 146) d_X9_walkFront_146 rfl h
    · have h := h.2 hc
      refine wp_aload_n (pc := 44) d_X9_walkFront_44 rfl ?_
      refine wp_getR (pc := 45) d_X9_walkFront_45 fl_X9_19 (fun _ _ _ => rfl) ho1 ?_
      refine wp_iload (pc := 48) d_X9_walkFront_48 rfl ?_
      obtain ⟨ho2, h⟩ := h
      obtain ⟨hi3, h⟩ := h
      refine wp_iald (pc := 50) d_X9_walkFront_50 ho2 hi3 ?_
      refine wp_istore (pc := 51) (lv' := [some (vr _), some (vr _), some (vi _), some (vi _), some (vj _), none, some (vi _), some (vi _), some (vi _), none]) d_X9_walkFront_51 (by decide) rfl ?_
      refine wp_iload (pc := 53) d_X9_walkFront_53 rfl ?_
      refine wp_istore (pc := 55) (lv' := [some (vr _), some (vr _), some (vi _), some (vi _), some (vj _), none, some (vi _), some (vi _), some (vi _), some (vi _)]) d_X9_walkFront_55 (by decide) rfl ?_
      refine wp_iinc (pc := 57) (v := 1) (lv' := [some (vr _), some (vr _), some (vi _), some (vi _), some (vj _), none, some (vi _), some (vi _), some (vi _), some (vi _)]) d_X9_walkFront_57 (by decide) rfl rfl rfl ?_
      refine wp_sub ?_ h
      exact ⟨rfl, ⟨rfl, ⟨rfl, ⟨rfl, ⟨rfl, ⟨rfl, ⟨rfl, ⟨rfl, ⟨rfl, trivial⟩⟩⟩⟩⟩⟩⟩⟩⟩
theorem v_X9_walkFront_60 {E : EE} {d : Nat} {Q : Option AV → AH → Prop} {x0 : Nat} {x1 : Nat} {x2 : Int32} {x3 : Int32} {x4 : Int64} {x6 : Int32} {x7 : Int32} {x8 : Int32} {x9 : Int32} {G : AH} (h0 : 0 < d) (h : isO E G x0 9 ∧ (((gI G x0 3) ≤ x6 → wp E d M_X9_walkFront 91 [some (vr x0), some (vr x1), some (vi x2), some (vi x3), some (vj x4), none, some (vi x6), some (vi x7), some (vi x8), some (vi x9)] [] G Q) ∧ (¬ ((gI G x0 3) ≤ x6) → isO E G (gR G x0 2) 14 ∧ (vp_in x6 (gN G (gR G x0 2)) ∧ (wpI E (d - 1) M_X9_isSamePair [vr x0, vi (gI G (gR G x0 2) (Int32.toNatClampNeg x6)), vi x8] G (fun r4 G5 => (r4 = 0 → wp E d M_X9_walkFront 91 [some (vr x0), some (vr x1), some (vi x2), some (vi x3), some (vj x4), none, some (vi x6), some (vi x7), some (vi x8), some (vi x9)] [] G5 Q) ∧ (¬ (r4 = 0) → wp E d M_X9_walkFront 60 [some (vr x0), some (vr x1), some (vi x2), some (vi x3), some (vj x4), none, some (vi (x6 + 1)), some (vi x7), some (vi x8), some (vi x9)] [] G5 Q))))))) : wp E d M_X9_walkFront 60 [some (vr x0), some (vr x1), some (vi x2), some (vi x3), some (vj x4), none, some (vi x6), some (vi x7), some (vi x8), some (vi x9)] [] G Q := by
  refine wp_iload (pc := 60) d_X9_walkFront_60 rfl ?_
  refine wp_aload_n (pc := 62) d_X9_walkFront_62 rfl ?_
  obtain ⟨ho1, h⟩ := h
  refine wp_getI (pc := 63) d_X9_walkFront_63 fl_X9_23 (fun _ _ _ => rfl) ho1 ?_
  refine wp_icmp_ge (pc := 66) (tgt := 91) d_X9_walkFront_66 (by decide) (fun hc => ?_) (fun hc => ?_)
  · have h := h.1 hc
    refine wp_sub ?_ h
    exact ⟨rfl, ⟨rfl, ⟨rfl, ⟨rfl, ⟨rfl, ⟨rfl, ⟨rfl, ⟨rfl, ⟨rfl, trivial⟩⟩⟩⟩⟩⟩⟩⟩⟩
  · have h := h.2 hc
    refine wp_aload_n (pc := 69) d_X9_walkFront_69 rfl ?_
    refine wp_aload_n (pc := 70) d_X9_walkFront_70 rfl ?_
    refine wp_getR (pc := 71) d_X9_walkFront_71 fl_X9_19 (fun _ _ _ => rfl) ho1 ?_
    refine wp_iload (pc := 74) d_X9_walkFront_74 rfl ?_
    obtain ⟨ho2, h⟩ := h
    obtain ⟨hi3, h⟩ := h
    refine wp_iald (pc := 76) d_X9_walkFront_76 ho2 hi3 ?_
    refine wp_iload (pc := 77) d_X9_walkFront_77 rfl ?_
    refine wp_invV (pc := 79) (N := M_X9_isSamePair) (As := [vi _, vi _]) (rest := []) (r := (cn_9, ct_9, 8)) d_X9_walkFront_79 ml_X9_122 mk_X9_isSamePair mv_X9_isSamePair h0 ho1 rfl rfl (Nat.le_of_ble_eq_true rfl) ?_
    refine wpM.mono h (fun rr G5 hr => ?_)
    obtain ⟨r4, rfl, h⟩ := hr
    show wp E d M_X9_walkFront 82 [some (vr _), some (vr _), some (vi _), some (vi _), some (vj _), none, some (vi _), some (vi _), some (vi _), some (vi _)] [vi _] G5 Q
    refine wp_if_eq (pc := 82) (tgt := 91) d_X9_walkFront_82 (by decide) (fun hc => ?_) (fun hc => ?_)
    · have h := h.1 hc
      refine wp_sub ?_ h
      exact ⟨rfl, ⟨rfl, ⟨rfl, ⟨rfl, ⟨rfl, ⟨rfl, ⟨rfl, ⟨rfl, ⟨rfl, trivial⟩⟩⟩⟩⟩⟩⟩⟩⟩
    · have h := h.2 hc
      refine wp_iinc (pc := 85) (v := 1) (lv' := [some (vr _), some (vr _), some (vi _), some (vi _), some (vj _), none, some (vi _), some (vi _), some (vi _), some (vi _)]) d_X9_walkFront_85 (by decide) rfl rfl rfl ?_
      refine wp_goto (pc := 88) (tgt := 60) d_X9_walkFront_88 (by decide) ?_
      refine wp_sub ?_ h
      exact ⟨rfl, ⟨rfl, ⟨rfl, ⟨rfl, ⟨rfl, ⟨rfl, ⟨rfl, ⟨rfl, ⟨rfl, trivial⟩⟩⟩⟩⟩⟩⟩⟩⟩
theorem v_X9_walkFront_91 {E : EE} {d : Nat} {Q : Option AV → AH → Prop} {x0 : Nat} {x1 : Nat} {x2 : Int32} {x3 : Int32} {x4 : Int64} {x6 : Int32} {x7 : Int32} {x8 : Int32} {x9 : Int32} {G : AH} (h0 : 0 < d) (h : isO E G x0 9 ∧ (wpJ E (d - 1) M_X9_scoreOf [vr x0, vi x8, vi 2] G (fun r1 G2 => (r1 < x4 → isO E G2 x0 9 ∧ (wpJ E (d - 1) M_X9_scoreOf [vr x0, vi x8, vi 2] G2 (fun r3 G4 => (¬ x3 = x2 → wp E d M_X9_walkFront 136 [some (vr x0), some (vr x1), some (vi x2), some (vi x3), some (vj r3), none, some (vi x6), some (vi x7), some (vi x8), some (vi x9)] [] G4 Q) ∧ (x3 = x2 → isO E G4 x0 9 ∧ (∀ G6 : AH, G6 = sI G4 x0 4 x8 → ∀ G8 : AH, G8 = sI G6 x0 5 (x6 - x9) → wp E d M_X9_walkFront 136 [some (vr x0), some (vr x1), some (vi x2), some (vi x3), some (vj r3), none, some (vi x6), some (vi x7), some (vi x8), some (vi x9)] [] G8 Q))))) ∧ (¬ (r1 < x4) → wp E d M_X9_walkFront 139 [some (vr x0), some (vr x1), some (vi x2), some (vi x3), some (vj x4), none, some (vi x6), some (vi x7), some (vi x8), some (vi x9)] [] G2 Q)))) : wp E d M_X9_walkFront 91 [some (vr x0), some (vr x1), some (vi x2), some (vi x3), some (vj x4), none, some (vi x6), some (vi x7), some (vi x8), some (vi x9)] [] G Q := by
  refine wp_aload_n (pc := 91) d_X9_walkFront_91 rfl ?_
  refine wp_iload (pc := 92) d_X9_walkFront_92 rfl ?_
  refine wp_iconst (pc := 94) (v := 2) d_X9_walkFront_94 rfl ?_
  obtain ⟨ho11, h⟩ := h
  refine wp_invV (pc := 95) (N := M_X9_scoreOf) (As := [vi _, vi _]) (rest := []) (r := (cn_9, ct_9, 8)) d_X9_walkFront_95 ml_X9_72 mk_X9_scoreOf mv_X9_scoreOf h0 ho11 rfl rfl (Nat.le_of_ble_eq_true rfl) ?_
  refine wpM.mono h (fun rr G2 hr => ?_)
  obtain ⟨r1, rfl, h⟩ := hr
  show wp E d M_X9_walkFront 98 [some (vr _), some (vr _), some (vi _), some (vi _), some (vj _), none, some (vi _), some (vi _), some (vi _), some (vi _)] [vj _] G2 Q
  refine wp_lload (pc := 98) d_X9_walkFront_98 rfl ?_
  refine wp_lcmp_lt (pc := 100) (tgt := 107) d_X9_walkFront_100 d_X9_walkFront_101 (by decide) (fun hc => ?_) (fun hc => ?_)
  · have h := h.1 hc
    refine wp_aload_n (pc := 107) d_X9_walkFront_107 rfl ?_
    refine wp_iload (pc := 108) d_X9_walkFront_108 rfl ?_
    refine wp_iconst (pc := 110) (v := 2) d_X9_walkFront_110 rfl ?_
    obtain ⟨ho10, h⟩ := h
    refine wp_invV (pc := 111) (N := M_X9_scoreOf) (As := [vi _, vi _]) (rest := []) (r := (cn_9, ct_9, 8)) d_X9_walkFront_111 ml_X9_72 mk_X9_scoreOf mv_X9_scoreOf h0 ho10 rfl rfl (Nat.le_of_ble_eq_true rfl) ?_
    refine wpM.mono h (fun rr G4 hr => ?_)
    obtain ⟨r3, rfl, h⟩ := hr
    show wp E d M_X9_walkFront 114 [some (vr _), some (vr _), some (vi _), some (vi _), some (vj _), none, some (vi _), some (vi _), some (vi _), some (vi _)] [vj _] G4 Q
    refine wp_lstore (pc := 114) (lv' := [some (vr _), some (vr _), some (vi _), some (vi _), some (vj _), none, some (vi _), some (vi _), some (vi _), some (vi _)]) d_X9_walkFront_114 (by decide) rfl ?_
    refine wp_iload_n (pc := 116) d_X9_walkFront_116 rfl ?_
    refine wp_iload_n (pc := 117) d_X9_walkFront_117 rfl ?_
    refine wp_icmp_ne (pc := 118) (tgt := 136) d_X9_walkFront_118 (by decide) (fun hc => ?_) (fun hc => ?_)
    · have h := h.1 hc
      refine wp_sub ?_ h
      exact ⟨rfl, ⟨rfl, ⟨rfl, ⟨rfl, ⟨rfl, ⟨rfl, ⟨rfl, ⟨rfl, ⟨rfl, trivial⟩⟩⟩⟩⟩⟩⟩⟩⟩
    · have h := h.2 hc
      refine wp_aload_n (pc := 121) d_X9_walkFront_121 rfl ?_
      refine wp_iload (pc := 122) d_X9_walkFront_122 rfl ?_
      obtain ⟨ho5, h⟩ := h
      refine wp_putI (pc := 124) d_X9_walkFront_124 fl_X9_26 (fun _ _ _ => rfl) (Or.inl rfl) ho5 (okI_int _) ?_
      refine wp_nm (fun G6 eG6 => ?_)
      have h := h G6 eG6
      have ho7 := isO_sI eG6 ho5
      refine wp_aload_n (pc := 127) d_X9_walkFront_127 rfl ?_
      refine wp_iload (pc := 128) d_X9_walkFront_128 rfl ?_
      refine wp_iload (pc := 130) d_X9_walkFront_130 rfl ?_
      refine wp_isub (pc := 132) d_X9_walkFront_132 ?_
      refine wp_putI (pc := 133) d_X9_walkFront_133 fl_X9_29 (fun _ _ _ => rfl) (Or.inl rfl) ho7 (okI_int _) ?_
      refine wp_nm (fun G8 eG8 => ?_)
      have h := h G8 eG8
      have ho9 := isO_sI eG8 ho7
      refine wp_sub ?_ h
      exact ⟨rfl, ⟨rfl, ⟨rfl, ⟨rfl, ⟨rfl, ⟨rfl, ⟨rfl, ⟨rfl, ⟨rfl, trivial⟩⟩⟩⟩⟩⟩⟩⟩⟩
  · have h := h.2 hc
    refine wp_goto (pc := 104) (tgt := 139) d_X9_walkFront_104 (by decide) ?_
    refine wp_sub ?_ h
    exact ⟨rfl, ⟨rfl, ⟨rfl, ⟨rfl, ⟨rfl, ⟨rfl, ⟨rfl, ⟨rfl, ⟨rfl, trivial⟩⟩⟩⟩⟩⟩⟩⟩⟩
theorem v_X9_walkFront_136 {E : EE} {d : Nat} {Q : Option AV → AH → Prop} {x0 : Nat} {x1 : Nat} {x2 : Int32} {x3 : Int32} {x4 : Int64} {x6 : Int32} {x7 : Int32} {x8 : Int32} {x9 : Int32} {G : AH} (h : wp E d M_X9_walkFront 139 [some (vr x0), some (vr x1), some (vi x2), some (vi (x3 + 1)), some (vj x4), none, some (vi x6), some (vi x7), some (vi x8), some (vi x9)] [] G Q) : wp E d M_X9_walkFront 136 [some (vr x0), some (vr x1), some (vi x2), some (vi x3), some (vj x4), none, some (vi x6), some (vi x7), some (vi x8), some (vi x9)] [] G Q := by
  refine wp_iinc (pc := 136) (v := 1) (lv' := [some (vr _), some (vr _), some (vi _), some (vi _), some (vj _), none, some (vi _), some (vi _), some (vi _), some (vi _)]) d_X9_walkFront_136 (by decide) rfl rfl rfl ?_
  refine wp_sub ?_ h
  exact ⟨rfl, ⟨rfl, ⟨rfl, ⟨rfl, ⟨rfl, ⟨rfl, ⟨rfl, ⟨rfl, ⟨rfl, trivial⟩⟩⟩⟩⟩⟩⟩⟩⟩
theorem v_X9_walkFront_139 {E : EE} {d : Nat} {Q : Option AV → AH → Prop} {x0 : Nat} {x1 : Nat} {x2 : Int32} {x3 : Int32} {x4 : Int64} {x6 : Int32} {x7 : Int32} {x8 : Int32} {x9 : Int32} {G : AH} (h : wp E d M_X9_walkFront 27 [some (vr x0), some (vr x1), some (vi x2), some (vi x3), some (vj x4), none, some (vi x6), some (vi (x7 + 1)), none, none] [] G Q) : wp E d M_X9_walkFront 139 [some (vr x0), some (vr x1), some (vi x2), some (vi x3), some (vj x4), none, some (vi x6), some (vi x7), some (vi x8), some (vi x9)] [] G Q := by
  refine wp_iinc (pc := 139) (v := 1) (lv' := [some (vr _), some (vr _), some (vi _), some (vi _), some (vj _), none, some (vi _), some (vi _), some (vi _), some (vi _)]) d_X9_walkFront_139 (by decide) rfl rfl rfl ?_
  refine wp_goto (pc := 142) (tgt := 27) d_X9_walkFront_142 (by decide) ?_
  refine wp_sub ?_ h
  exact ⟨rfl, ⟨rfl, ⟨rfl, ⟨rfl, ⟨rfl, ⟨rfl, ⟨rfl, trivial⟩⟩⟩⟩⟩⟩⟩
theorem d_X9_sortByPair_0 : decode prog_11_method_14_code 0 = .ok (.aload_n 0, 1) := by decide +kernel
theorem d_X9_sortByPair_1 : decode prog_11_method_14_code 1 = .ok (.getfield 23, 3) := by decide +kernel
theorem d_X9_sortByPair_4 : decode prog_11_method_14_code 4 = .ok (.iconst 2, 1) := by decide +kernel
theorem d_X9_sortByPair_5 : decode prog_11_method_14_code 5 = .ok (.idiv, 1) := by decide +kernel
theorem d_X9_sortByPair_6 : decode prog_11_method_14_code 6 = .ok (.iconst 1, 1) := by decide +kernel
theorem d_X9_sortByPair_7 : decode prog_11_method_14_code 7 = .ok (.isub, 1) := by decide +kernel
theorem d_X9_sortByPair_8 : decode prog_11_method_14_code 8 = .ok (.istore_n 1, 1) := by decide +kernel
theorem d_X9_sortByPair_9 : decode prog_11_method_14_code 9 = .ok (.iload_n 1, 1) := by decide +kernel
theorem d_X9_sortByPair_10 : decode prog_11_method_14_code 10 = .ok (.ifCond .lt 18, 3) := by decide +kernel
theorem d_X9_sortByPair_13 : decode prog_11_method_14_code 13 = .ok (.aload_n 0, 1) := by decide +kernel
theorem d_X9_sortByPair_14 : decode prog_11_method_14_code 14 = .ok (.iload_n 1, 1) := by decide +kernel
theorem d_X9_sortByPair_15 : decode prog_11_method_14_code 15 = .ok (.aload_n 0, 1) := by decide +kernel
theorem d_X9_sortByPair_16 : decode prog_11_method_14_code 16 = .ok (.getfield 23, 3) := by decide +kernel
theorem d_X9_sortByPair_19 : decode prog_11_method_14_code 19 = .ok (.invokevirtual 125, 3) := by decide +kernel
theorem d_X9_sortByPair_22 : decode prog_11_method_14_code 22 = .ok (.iinc 1 (-1), 3) := by decide +kernel
theorem d_X9_sortByPair_25 : decode prog_11_method_14_code 25 = .ok (.goto (-16), 3) := by decide +kernel
theorem d_X9_sortByPair_28 : decode prog_11_method_14_code 28 = .ok (.aload_n 0, 1) := by decide +kernel
theorem d_X9_sortByPair_29 : decode prog_11_method_14_code 29 = .ok (.getfield 23, 3) := by decide +kernel
theorem d_X9_sortByPair_32 : decode prog_11_method_14_code 32 = .ok (.iconst 1, 1) := by decide +kernel
theorem d_X9_sortByPair_33 : decode prog_11_method_14_code 33 = .ok (.isub, 1) := by decide +kernel
theorem d_X9_sortByPair_34 : decode prog_11_method_14_code 34 = .ok (.istore_n 1, 1) := by decide +kernel
theorem d_X9_sortByPair_35 : decode prog_11_method_14_code 35 = .ok (.iload_n 1, 1) := by decide +kernel
theorem d_X9_sortByPair_36 : decode prog_11_method_14_code 36 = .ok (.ifCond .le 41, 3) := by decide +kernel
theorem d_X9_sortByPair_39 : decode prog_11_method_14_code 39 = .ok (.aload_n 0, 1) := by decide +kernel
theorem d_X9_sortByPair_40 : decode prog_11_method_14_code 40 = .ok (.getfield 19, 3) := by decide +kernel
theorem d_X9_sortByPair_43 : decode prog_11_method_14_code 43 = .ok (.iconst 0, 1) := by decide +kernel
theorem d_X9_sortByPair_44 : decode prog_11_method_14_code 44 = .ok (.iaload, 1) := by decide +kernel
theorem d_X9_sortByPair_45 : decode prog_11_method_14_code 45 = .ok (.istore_n 2, 1) := by decide +kernel
theorem d_X9_sortByPair_46 : decode prog_11_method_14_code 46 = .ok (.aload_n 0, 1) := by decide +kernel
theorem d_X9_sortByPair_47 : decode prog_11_method_14_code 47 = .ok (.getfield 19, 3) := by decide +kernel
theorem d_X9_sortByPair_50 : decode prog_11_method_14_code 50 = .ok (.iconst 0, 1) := by decide +kernel
theorem d_X9_sortByPair_51 : decode prog_11_method_14_code 51 = .ok (.aload_n 0, 1) := by decide +kernel
theorem d_X9_sortByPair_52 : decode prog_11_method_14_code 52 = .ok (.getfield 19, 3) := by decide +kernel
theorem d_X9_sortByPair_55 : decode prog_11_method_14_code 55 = .ok (.iload_n 1, 1) := by decide +kernel
theorem d_X9_sortByPair_56 : decode prog_11_method_14_code 56 = .ok (.iaload, 1) := by decide +kernel
theorem d_X9_sortByPair_57 : decode prog_11_method_14_code 57 = .ok (.iastore, 1) := by decide +kernel
theorem d_X9_sortByPair_58 : decode prog_11_method_14_code 58 = .ok (.aload_n 0, 1) := by decide +kernel
theorem d_X9_sortByPair_59 : decode prog_11_method_14_code 59 = .ok (.getfield 19, 3) := by decide +kernel
theorem d_X9_sortByPair_62 : decode prog_11_method_14_code 62 = .ok (.iload_n 1, 1) := by decide +kernel
theorem d_X9_sortByPair_63 : decode prog_11_method_14_code 63 = .ok (.iload_n 2, 1) := by decide +kernel
theorem d_X9_sortByPair_64 : decode prog_11_method_14_code 64 = .ok (.iastore, 1) := by decide +kernel
theorem d_X9_sortByPair_65 : decode prog_11_method_14_code 65 = .ok (.aload_n 0, 1) := by decide +kernel
theorem d_X9_sortByPair_66 : decode prog_11_method_14_code 66 = .ok (.iconst 0, 1) := by decide +kernel
theorem d_X9_sortByPair_67 : decode prog_11_method_14_code 67 = .ok (.iload_n 1, 1) := by decide +kernel
theorem d_X9_sortByPair_68 : decode prog_11_method_14_code 68 = .ok (.invokevirtual 125, 3) := by decide +kernel
theorem d_X9_sortByPair_71 : decode prog_11_method_14_code 71 = .ok (.iinc 1 (-1), 3) := by decide +kernel
theorem d_X9_sortByPair_74 : decode prog_11_method_14_code 74 = .ok (.goto (-39), 3) := by decide +kernel
theorem d_X9_sortByPair_77 : decode prog_11_method_14_code 77 = .ok (.return_, 1) := by decide +kernel
theorem v_X9_sortByPair_0 {E : EE} {d : Nat} {Q : Option AV → AH → Prop} {x0 : Nat} {G : AH} (h : isO E G x0 9 ∧ (wp E d M_X9_sortByPair 9 [some (vr x0), some (vi (((gI G x0 3) / 2) - 1)), none] [] G Q)) : wp E d M_X9_sortByPair 0 [some (vr x0), none, none] [] G Q := by
  refine wp_aload_n (pc := 0) d_X9_sortByPair_0 rfl ?_
  obtain ⟨ho1, h⟩ := h
  refine wp_getI (pc := 1) d_X9_sortByPair_1 fl_X9_23 (fun _ _ _ => rfl) ho1 ?_
  refine wp_iconst (pc := 4) (v := 2) d_X9_sortByPair_4 rfl ?_
  refine wp_idiv (pc := 5) d_X9_sortByPair_5 (by decide) ?_
  refine wp_iconst (pc := 6) (v := 1) d_X9_sortByPair_6 rfl ?_
  refine wp_isub (pc := 7) d_X9_sortByPair_7 ?_
  refine wp_istore_n (pc := 8) (lv' := [some (vr _), some (vi _), none]) d_X9_sortByPair_8 (by decide) rfl ?_
  refine wp_sub ?_ h
  exact ⟨rfl, ⟨rfl, trivial⟩⟩
theorem v_X9_sortByPair_9 {E : EE} {d : Nat} {Q : Option AV → AH → Prop} {x0 : Nat} {x1 : Int32} {G : AH} (h0 : 0 < d) (h : (x1 < 0 → isO E G x0 9 ∧ (wp E d M_X9_sortByPair 35 [some (vr x0), some (vi ((gI G x0 3) - 1)), none] [] G Q)) ∧ (¬ (x1 < 0) → isO E G x0 9 ∧ (wpV E (d - 1) M_X9_sink [vr x0, vi x1, vi (gI G x0 3)] G (fun G3 => wp E d M_X9_sortByPair 9 [some (vr x0), some (vi (x1 + (-1))), none] [] G3 Q)))) : wp E d M_X9_sortByPair 9 [some (vr x0), some (vi x1), none] [] G Q := by
  refine wp_iload_n (pc := 9) d_X9_sortByPair_9 rfl ?_
  refine wp_if_lt (pc := 10) (tgt := 28) d_X9_sortByPair_10 (by decide) (fun hc => ?_) (fun hc => ?_)
  · have h := h.1 hc
    refine wp_aload_n (pc := 28) d_X9_sortByPair_28 rfl ?_
    obtain ⟨ho1, h⟩ := h
    refine wp_getI (pc := 29) d_X9_sortByPair_29 fl_X9_23 (fun _ _ _ => rfl) ho1 ?_
    refine wp_iconst (pc := 32) (v := 1) d_X9_sortByPair_32 rfl ?_
    refine wp_isub (pc := 33) d_X9_sortByPair_33 ?_
    refine wp_istore_n (pc := 34) (lv' := [some (vr _), some (vi _), none]) d_X9_sortByPair_34 (by decide) rfl ?_
    refine wp_sub ?_ h
    exact ⟨rfl, ⟨rfl, trivial⟩⟩
  · have h := h.2 hc
    refine wp_aload_n (pc := 13) d_X9_sortByPair_13 rfl ?_
    refine wp_iload_n (pc := 14) d_X9_sortByPair_14 rfl ?_
    refine wp_aload_n (pc := 15) d_X9_sortByPair_15 rfl ?_
    obtain ⟨ho2, h⟩ := h
    refine wp_getI (pc := 16) d_X9_sortByPair_16 fl_X9_23 (fun _ _ _ => rfl) ho2 ?_
    refine wp_invV (pc := 19) (N := M_X9_sink) (As := [vi _, vi _]) (rest := []) (r := (cn_9, ct_9, 8)) d_X9_sortByPair_19 ml_X9_125 mk_X9_sink mv_X9_sink h0 ho2 rfl rfl (Nat.le_of_ble_eq_true rfl) ?_
    refine wpM.mono h (fun rr G3 hr => ?_)
    obtain ⟨rfl, h⟩ := hr
    show wp E d M_X9_sortByPair 22 [some (vr _), some (vi _), none] [] G3 Q
    refine wp_iinc (pc := 22) (v := (-1)) (lv' := [some (vr _), some (vi _), none]) d_X9_sortByPair_22 (by decide) rfl rfl rfl ?_
    refine wp_goto (pc := 25) (tgt := 9) d_X9_sortByPair_25 (by decide) ?_
    refine wp_sub ?_ h
    exact ⟨rfl, ⟨rfl, trivial⟩⟩
theorem v_X9_sortByPair_35 {E : EE} {d : Nat} {Q : Option AV → AH → Prop} {x0 : Nat} {x1 : Int32} {G : AH} (h0 : 0 < d) (h : (x1 ≤ 0 → Q none G) ∧ (¬ (x1 ≤ 0) → isO E G x0 9 ∧ (isO E G (gR G x0 2) 14 ∧ (vp_in 0 (gN G (gR G x0 2)) ∧ (vp_in x1 (gN G (gR G x0 2)) ∧ (vp_in 0 (gN G (gR G x0 2)) ∧ (∀ G6 : AH, G6 = sI G (gR G x0 2) (Int32.toNatClampNeg 0) (gI G (gR G x0 2) (Int32.toNatClampNeg x1)) → isO E G6 (gR G6 x0 2) 14 ∧ (vp_in x1 (gN G6 (gR G6 x0 2)) ∧ (∀ G10 : AH, G10 = sI G6 (gR G6 x0 2) (Int32.toNatClampNeg x1) (gI G (gR G x0 2) (Int32.toNatClampNeg 0)) → wpV E (d - 1) M_X9_sink [vr x0, vi 0, vi x1] G10 (fun G12 => wp E d M_X9_sortByPair 35 [some (vr x0), some (vi (x1 + (-1))), none] [] G12 Q)))))))))) : wp E d M_X9_sortByPair 35 [some (vr x0), some (vi x1), none] [] G Q := by
  refine wp_iload_n (pc := 35) d_X9_sortByPair_35 rfl ?_
  refine wp_if_le (pc := 36) (tgt := 77) d_X9_sortByPair_36 (by decide) (fun hc => ?_) (fun hc => ?_)
  · have h := h.1 hc
    exact wp_vret (pc := 77) d_X9_sortByPair_77 rfl h
  · have h := h.2 hc
    refine wp_aload_n (pc := 39) d_X9_sortByPair_39 rfl ?_
    obtain ⟨ho1, h⟩ := h
    refine wp_getR (pc := 40) d_X9_sortByPair_40 fl_X9_19 (fun _ _ _ => rfl) ho1 ?_
    refine wp_iconst (pc := 43) (v := 0) d_X9_sortByPair_43 rfl ?_
    obtain ⟨ho2, h⟩ := h
    obtain ⟨hi3, h⟩ := h
    refine wp_iald (pc := 44) d_X9_sortByPair_44 ho2 hi3 ?_
    refine wp_istore_n (pc := 45) (lv' := [some (vr _), some (vi _), some (vi _)]) d_X9_sortByPair_45 (by decide) rfl ?_
    refine wp_aload_n (pc := 46) d_X9_sortByPair_46 rfl ?_
    refine wp_getR (pc := 47) d_X9_sortByPair_47 fl_X9_19 (fun _ _ _ => rfl) ho1 ?_
    refine wp_iconst (pc := 50) (v := 0) d_X9_sortByPair_50 rfl ?_
    refine wp_aload_n (pc := 51) d_X9_sortByPair_51 rfl ?_
    refine wp_getR (pc := 52) d_X9_sortByPair_52 fl_X9_19 (fun _ _ _ => rfl) ho1 ?_
    refine wp_iload_n (pc := 55) d_X9_sortByPair_55 rfl ?_
    obtain ⟨hi4, h⟩ := h
    refine wp_iald (pc := 56) d_X9_sortByPair_56 ho2 hi4 ?_
    obtain ⟨hi5, h⟩ := h
    refine wp_iast (pc := 57) d_X9_sortByPair_57 ho2 hi5 ?_
    refine wp_nm (fun G6 eG6 => ?_)
    have h := h G6 eG6
    have ho7 := isO_sI eG6 ho1
    refine wp_aload_n (pc := 58) d_X9_sortByPair_58 rfl ?_
    refine wp_getR (pc := 59) d_X9_sortByPair_59 fl_X9_19 (fun _ _ _ => rfl) ho7 ?_
    refine wp_iload_n (pc := 62) d_X9_sortByPair_62 rfl ?_
    refine wp_iload_n (pc := 63) d_X9_sortByPair_63 rfl ?_
    obtain ⟨ho8, h⟩ := h
    obtain ⟨hi9, h⟩ := h
    refine wp_iast (pc := 64) d_X9_sortByPair_64 ho8 hi9 ?_
    refine wp_nm (fun G10 eG10 => ?_)
    have h := h G10 eG10
    have ho11 := isO_sI eG10 ho7
    refine wp_aload_n (pc := 65) d_X9_sortByPair_65 rfl ?_
    refine wp_iconst (pc := 66) (v := 0) d_X9_sortByPair_66 rfl ?_
    refine wp_iload_n (pc := 67) d_X9_sortByPair_67 rfl ?_
    refine wp_invV (pc := 68) (N := M_X9_sink) (As := [vi _, vi _]) (rest := []) (r := (cn_9, ct_9, 8)) d_X9_sortByPair_68 ml_X9_125 mk_X9_sink mv_X9_sink h0 ho11 rfl rfl (Nat.le_of_ble_eq_true rfl) ?_
    refine wpM.mono h (fun rr G12 hr => ?_)
    obtain ⟨rfl, h⟩ := hr
    show wp E d M_X9_sortByPair 71 [some (vr _), some (vi _), some (vi _)] [] G12 Q
    refine wp_iinc (pc := 71) (v := (-1)) (lv' := [some (vr _), some (vi _), some (vi _)]) d_X9_sortByPair_71 (by decide) rfl rfl rfl ?_
    refine wp_goto (pc := 74) (tgt := 35) d_X9_sortByPair_74 (by decide) ?_
    refine wp_sub ?_ h
    exact ⟨rfl, ⟨rfl, trivial⟩⟩
theorem d_X9_sink_0 : decode prog_11_method_15_code 0 = .ok (.iload_n 1, 1) := by decide +kernel
theorem d_X9_sink_1 : decode prog_11_method_15_code 1 = .ok (.istore_n 3, 1) := by decide +kernel
theorem d_X9_sink_2 : decode prog_11_method_15_code 2 = .ok (.iconst 0, 1) := by decide +kernel
theorem d_X9_sink_3 : decode prog_11_method_15_code 3 = .ok (.istore 4, 2) := by decide +kernel
theorem d_X9_sink_5 : decode prog_11_method_15_code 5 = .ok (.iload 4, 2) := by decide +kernel
theorem d_X9_sink_7 : decode prog_11_method_15_code 7 = .ok (.iload_n 2, 1) := by decide +kernel
theorem d_X9_sink_8 : decode prog_11_method_15_code 8 = .ok (.if_icmp .ge 113, 3) := by decide +kernel
theorem d_X9_sink_11 : decode prog_11_method_15_code 11 = .ok (.iconst 2, 1) := by decide +kernel
theorem d_X9_sink_12 : decode prog_11_method_15_code 12 = .ok (.iload_n 3, 1) := by decide +kernel
theorem d_X9_sink_13 : decode prog_11_method_15_code 13 = .ok (.imul, 1) := by decide +kernel
theorem d_X9_sink_14 : decode prog_11_method_15_code 14 = .ok (.iconst 1, 1) := by decide +kernel
theorem d_X9_sink_15 : decode prog_11_method_15_code 15 = .ok (.iadd, 1) := by decide +kernel
theorem d_X9_sink_16 : decode prog_11_method_15_code 16 = .ok (.iload_n 2, 1) := by decide +kernel
theorem d_X9_sink_17 : decode prog_11_method_15_code 17 = .ok (.if_icmp .ge 104, 3) := by decide +kernel
theorem d_X9_sink_20 : decode prog_11_method_15_code 20 = .ok (.iconst 2, 1) := by decide +kernel
theorem d_X9_sink_21 : decode prog_11_method_15_code 21 = .ok (.iload_n 3, 1) := by decide +kernel
theorem d_X9_sink_22 : decode prog_11_method_15_code 22 = .ok (.imul, 1) := by decide +kernel
theorem d_X9_sink_23 : decode prog_11_method_15_code 23 = .ok (.iconst 1, 1) := by decide +kernel
theorem d_X9_sink_24 : decode prog_11_method_15_code 24 = .ok (.iadd, 1) := by decide +kernel
theorem d_X9_sink_25 : decode prog_11_method_15_code 25 = .ok (.istore 5, 2) := by decide +kernel
theorem d_X9_sink_27 : decode prog_11_method_15_code 27 = .ok (.iload 5, 2) := by decide +kernel
theorem d_X9_sink_29 : decode prog_11_method_15_code 29 = .ok (.iconst 1, 1) := by decide +kernel
theorem d_X9_sink_30 : decode prog_11_method_15_code 30 = .ok (.iadd, 1) := by decide +kernel
theorem d_X9_sink_31 : decode prog_11_method_15_code 31 = .ok (.iload_n 2, 1) := by decide +kernel
theorem d_X9_sink_32 : decode prog_11_method_15_code 32 = .ok (.if_icmp .ge 29, 3) := by decide +kernel
theorem d_X9_sink_35 : decode prog_11_method_15_code 35 = .ok (.aload_n 0, 1) := by decide +kernel
theorem d_X9_sink_36 : decode prog_11_method_15_code 36 = .ok (.aload_n 0, 1) := by decide +kernel
theorem d_X9_sink_37 : decode prog_11_method_15_code 37 = .ok (.getfield 19, 3) := by decide +kernel
theorem d_X9_sink_40 : decode prog_11_method_15_code 40 = .ok (.iload 5, 2) := by decide +kernel
theorem d_X9_sink_42 : decode prog_11_method_15_code 42 = .ok (.iconst 1, 1) := by decide +kernel
theorem d_X9_sink_43 : decode prog_11_method_15_code 43 = .ok (.iadd, 1) := by decide +kernel
theorem d_X9_sink_44 : decode prog_11_method_15_code 44 = .ok (.iaload, 1) := by decide +kernel
theorem d_X9_sink_45 : decode prog_11_method_15_code 45 = .ok (.aload_n 0, 1) := by decide +kernel
theorem d_X9_sink_46 : decode prog_11_method_15_code 46 = .ok (.getfield 19, 3) := by decide +kernel
theorem d_X9_sink_49 : decode prog_11_method_15_code 49 = .ok (.iload 5, 2) := by decide +kernel
theorem d_X9_sink_51 : decode prog_11_method_15_code 51 = .ok (.iaload, 1) := by decide +kernel
theorem d_X9_sink_52 : decode prog_11_method_15_code 52 = .ok (.invokevirtual 129, 3) := by decide +kernel
theorem d_X9_sink_55 : decode prog_11_method_15_code 55 = .ok (.ifCond .eq 6, 3) := by decide +kernel
theorem d_X9_sink_58 : decode prog_11_method_15_code 58 = .ok (.iinc 5 1, 3) := by decide +kernel
theorem d_X9_sink_61 : decode prog_11_method_15_code 61 = .ok (.aload_n 0, 1) := by decide +kernel
theorem d_X9_sink_62 : decode prog_11_method_15_code 62 = .ok (.aload_n 0, 1) := by decide +kernel
theorem d_X9_sink_63 : decode prog_11_method_15_code 63 = .ok (.getfield 19, 3) := by decide +kernel
theorem d_X9_sink_66 : decode prog_11_method_15_code 66 = .ok (.iload 5, 2) := by decide +kernel
theorem d_X9_sink_68 : decode prog_11_method_15_code 68 = .ok (.iaload, 1) := by decide +kernel
theorem d_X9_sink_69 : decode prog_11_method_15_code 69 = .ok (.aload_n 0, 1) := by decide +kernel
theorem d_X9_sink_70 : decode prog_11_method_15_code 70 = .ok (.getfield 19, 3) := by decide +kernel
theorem d_X9_sink_73 : decode prog_11_method_15_code 73 = .ok (.iload_n 3, 1) := by decide +kernel
theorem d_X9_sink_74 : decode prog_11_method_15_code 74 = .ok (.iaload, 1) := by decide +kernel
theorem d_X9_sink_75 : decode prog_11_method_15_code 75 = .ok (.invokevirtual 129, 3) := by decide +kernel
theorem d_X9_sink_78 : decode prog_11_method_15_code 78 = .ok (.ifCond .ne 4, 3) := by decide +kernel
theorem d_X9_sink_81 : decode prog_11_method_15_code 81 = .ok (.return_, 1) := by decide +kernel
theorem d_X9_sink_82 : decode prog_11_method_15_code 82 = .ok (.aload_n 0, 1) := by decide +kernel
theorem d_X9_sink_83 : decode prog_11_method_15_code 83 = .ok (.getfield 19, 3) := by decide +kernel
theorem d_X9_sink_86 : decode prog_11_method_15_code 86 = .ok (.iload 5, 2) := by decide +kernel
theorem d_X9_sink_88 : decode prog_11_method_15_code 88 = .ok (.iaload, 1) := by decide +kernel
theorem d_X9_sink_89 : decode prog_11_method_15_code 89 = .ok (.istore 6, 2) := by decide +kernel
theorem d_X9_sink_91 : decode prog_11_method_15_code 91 = .ok (.aload_n 0, 1) := by decide +kernel
theorem d_X9_sink_92 : decode prog_11_method_15_code 92 = .ok (.getfield 19, 3) := by decide +kernel
theorem d_X9_sink_95 : decode prog_11_method_15_code 95 = .ok (.iload 5, 2) := by decide +kernel
theorem d_X9_sink_97 : decode prog_11_method_15_code 97 = .ok (.aload_n 0, 1) := by decide +kernel
theorem d_X9_sink_98 : decode prog_11_method_15_code 98 = .ok (.getfield 19, 3) := by decide +kernel
theorem d_X9_sink_101 : decode prog_11_method_15_code 101 = .ok (.iload_n 3, 1) := by decide +kernel
theorem d_X9_sink_102 : decode prog_11_method_15_code 102 = .ok (.iaload, 1) := by decide +kernel
theorem d_X9_sink_103 : decode prog_11_method_15_code 103 = .ok (.iastore, 1) := by decide +kernel
theorem d_X9_sink_104 : decode prog_11_method_15_code 104 = .ok (.aload_n 0, 1) := by decide +kernel
theorem d_X9_sink_105 : decode prog_11_method_15_code 105 = .ok (.getfield 19, 3) := by decide +kernel
theorem d_X9_sink_108 : decode prog_11_method_15_code 108 = .ok (.iload_n 3, 1) := by decide +kernel
theorem d_X9_sink_109 : decode prog_11_method_15_code 109 = .ok (.iload 6, 2) := by decide +kernel
theorem d_X9_sink_111 : decode prog_11_method_15_code 111 = .ok (.iastore, 1) := by decide +kernel
theorem d_X9_sink_112 : decode prog_11_method_15_code 112 = .ok (.iload 5, 2) := by decide +kernel
theorem d_X9_sink_114 : decode prog_11_method_15_code 114 = .ok (.istore_n 3, 1) := by decide +kernel
theorem d_X9_sink_115 : decode prog_11_method_15_code 115 = .ok (.iinc 4 1, 3) := by decide +kernel
theorem d_X9_sink_118 : decode prog_11_method_15_code 118 = .ok (.goto (-113), 3) := by decide +kernel
theorem d_X9_sink_121 : decode prog_11_method_15_code 121 = .ok (.return_, 1) := by decide +kernel
theorem v_X9_sink_0 {E : EE} {d : Nat} {Q : Option AV → AH → Prop} {x0 : Nat} {x1 : Int32} {x2 : Int32} {G : AH} (h : wp E d M_X9_sink 5 [some (vr x0), some (vi x1), some (vi x2), some (vi x1), some (vi 0), none, none] [] G Q) : wp E d M_X9_sink 0 [some (vr x0), some (vi x1), some (vi x2), none, none, none, none] [] G Q := by
  refine wp_iload_n (pc := 0) d_X9_sink_0 rfl ?_
  refine wp_istore_n (pc := 1) (lv' := [some (vr _), some (vi _), some (vi _), some (vi _), none, none, none]) d_X9_sink_1 (by decide) rfl ?_
  refine wp_iconst (pc := 2) (v := 0) d_X9_sink_2 rfl ?_
  refine wp_istore (pc := 3) (lv' := [some (vr _), some (vi _), some (vi _), some (vi _), some (vi _), none, none]) d_X9_sink_3 (by decide) rfl ?_
  refine wp_sub ?_ h
  exact ⟨rfl, ⟨rfl, ⟨rfl, ⟨rfl, ⟨rfl, trivial⟩⟩⟩⟩⟩
theorem v_X9_sink_5 {E : EE} {d : Nat} {Q : Option AV → AH → Prop} {x0 : Nat} {x1 : Int32} {x2 : Int32} {x3 : Int32} {x4 : Int32} {G : AH} (h0 : 0 < d) (h : (x2 ≤ x4 → Q none G) ∧ (¬ (x2 ≤ x4) → (x2 ≤ ((2 * x3) + 1) → Q none G) ∧ (¬ (x2 ≤ ((2 * x3) + 1)) → (x2 ≤ (((2 * x3) + 1) + 1) → wp E d M_X9_sink 61 [some (vr x0), some (vi x1), some (vi x2), some (vi x3), some (vi x4), some (vi ((2 * x3) + 1)), none] [] G Q) ∧ (¬ (x2 ≤ (((2 * x3) + 1) + 1)) → isO E G x0 9 ∧ (isO E G (gR G x0 2) 14 ∧ (vp_in (((2 * x3) + 1) + 1) (gN G (gR G x0 2)) ∧ (vp_in ((2 * x3) + 1) (gN G (gR G x0 2)) ∧ (wpI E (d - 1) M_X9_isBehind [vr x0, vi (gI G (gR G x0 2) (Int32.toNatClampNeg (((2 * x3) + 1) + 1))), vi (gI G (gR G x0 2) (Int32.toNatClampNeg ((2 * x3) + 1)))] G (fun r5 G6 => (r5 = 0 → wp E d M_X9_sink 61 [some (vr x0), some (vi x1), some (vi x2), some (vi x3), some (vi x4), some (vi ((2 * x3) + 1)), none] [] G6 Q) ∧ (¬ (r5 = 0) → wp E d M_X9_sink 61 [some (vr x0), some (vi x1), some (vi x2), some (vi x3), some (vi x4), some (vi (((2 * x3) + 1) + 1)), none] [] G6 Q)))))))))) : wp E d M_X9_sink 5 [some (vr x0), some (vi x1), some (vi x2), some (vi x3), some (vi x4), none, none] [] G Q := by
  refine wp_iload (pc := 5) d_X9_sink_5 rfl ?_
  refine wp_iload_n (pc := 7) d_X9_sink_7 rfl ?_
  refine wp_icmp_ge (pc := 8) (tgt := 121) d_X9_sink_8 (by decide) (fun hc => ?_) (fun hc => ?_)
  · have h := h.1 hc
    exact wp_vret (pc := 121) d_X9_sink_121 rfl h
  · have h := h.2 hc
    refine wp_iconst (pc := 11) (v := 2) d_X9_sink_11 rfl ?_
    refine wp_iload_n (pc := 12) d_X9_sink_12 rfl ?_
    refine wp_imul (pc := 13) d_X9_sink_13 ?_
    refine wp_iconst (pc := 14) (v := 1) d_X9_sink_14 rfl ?_
    refine wp_iadd (pc := 15) d_X9_sink_15 ?_
    refine wp_iload_n (pc := 16) d_X9_sink_16 rfl ?_
    refine wp_icmp_ge (pc := 17) (tgt := 121) d_X9_sink_17 (by decide) (fun hc => ?_) (fun hc => ?_)
    · have h := h.1 hc
      exact wp_vret (pc := 121) d_X9_sink_121 rfl h
    · have h := h.2 hc
      refine wp_iconst (pc := 20) (v := 2) d_X9_sink_20 rfl ?_
      refine wp_iload_n (pc := 21) d_X9_sink_21 rfl ?_
      refine wp_imul (pc := 22) d_X9_sink_22 ?_
      refine wp_iconst (pc := 23) (v := 1) d_X9_sink_23 rfl ?_
      refine wp_iadd (pc := 24) d_X9_sink_24 ?_
      refine wp_istore (pc := 25) (lv' := [some (vr _), some (vi _), some (vi _), some (vi _), some (vi _), some (vi _), none]) d_X9_sink_25 (by decide) rfl ?_
      refine wp_iload (pc := 27) d_X9_sink_27 rfl ?_
      refine wp_iconst (pc := 29) (v := 1) d_X9_sink_29 rfl ?_
      refine wp_iadd (pc := 30) d_X9_sink_30 ?_
      refine wp_iload_n (pc := 31) d_X9_sink_31 rfl ?_
      refine wp_icmp_ge (pc := 32) (tgt := 61) d_X9_sink_32 (by decide) (fun hc => ?_) (fun hc => ?_)
      · have h := h.1 hc
        refine wp_sub ?_ h
        exact ⟨rfl, ⟨rfl, ⟨rfl, ⟨rfl, ⟨rfl, ⟨rfl, trivial⟩⟩⟩⟩⟩⟩
      · have h := h.2 hc
        refine wp_aload_n (pc := 35) d_X9_sink_35 rfl ?_
        refine wp_aload_n (pc := 36) d_X9_sink_36 rfl ?_
        obtain ⟨ho1, h⟩ := h
        refine wp_getR (pc := 37) d_X9_sink_37 fl_X9_19 (fun _ _ _ => rfl) ho1 ?_
        refine wp_iload (pc := 40) d_X9_sink_40 rfl ?_
        refine wp_iconst (pc := 42) (v := 1) d_X9_sink_42 rfl ?_
        refine wp_iadd (pc := 43) d_X9_sink_43 ?_
        obtain ⟨ho2, h⟩ := h
        obtain ⟨hi3, h⟩ := h
        refine wp_iald (pc := 44) d_X9_sink_44 ho2 hi3 ?_
        refine wp_aload_n (pc := 45) d_X9_sink_45 rfl ?_
        refine wp_getR (pc := 46) d_X9_sink_46 fl_X9_19 (fun _ _ _ => rfl) ho1 ?_
        refine wp_iload (pc := 49) d_X9_sink_49 rfl ?_
        obtain ⟨hi4, h⟩ := h
        refine wp_iald (pc := 51) d_X9_sink_51 ho2 hi4 ?_
        refine wp_invV (pc := 52) (N := M_X9_isBehind) (As := [vi _, vi _]) (rest := []) (r := (cn_9, ct_9, 8)) d_X9_sink_52 ml_X9_129 mk_X9_isBehind mv_X9_isBehind h0 ho1 rfl rfl (Nat.le_of_ble_eq_true rfl) ?_
        refine wpM.mono h (fun rr G6 hr => ?_)
        obtain ⟨r5, rfl, h⟩ := hr
        show wp E d M_X9_sink 55 [some (vr _), some (vi _), some (vi _), some (vi _), some (vi _), some (vi _), none] [vi _] G6 Q
        refine wp_if_eq (pc := 55) (tgt := 61) d_X9_sink_55 (by decide) (fun hc => ?_) (fun hc => ?_)
        · have h := h.1 hc
          refine wp_sub ?_ h
          exact ⟨rfl, ⟨rfl, ⟨rfl, ⟨rfl, ⟨rfl, ⟨rfl, trivial⟩⟩⟩⟩⟩⟩
        · have h := h.2 hc
          refine wp_iinc (pc := 58) (v := 1) (lv' := [some (vr _), some (vi _), some (vi _), some (vi _), some (vi _), some (vi _), none]) d_X9_sink_58 (by decide) rfl rfl rfl ?_
          refine wp_sub ?_ h
          exact ⟨rfl, ⟨rfl, ⟨rfl, ⟨rfl, ⟨rfl, ⟨rfl, trivial⟩⟩⟩⟩⟩⟩
theorem v_X9_sink_61 {E : EE} {d : Nat} {Q : Option AV → AH → Prop} {x0 : Nat} {x1 : Int32} {x2 : Int32} {x3 : Int32} {x4 : Int32} {x5 : Int32} {G : AH} (h0 : 0 < d) (h : isO E G x0 9 ∧ (isO E G (gR G x0 2) 14 ∧ (vp_in x5 (gN G (gR G x0 2)) ∧ (vp_in x3 (gN G (gR G x0 2)) ∧ (wpI E (d - 1) M_X9_isBehind [vr x0, vi (gI G (gR G x0 2) (Int32.toNatClampNeg x5)), vi (gI G (gR G x0 2) (Int32.toNatClampNeg x3))] G (fun r5 G6 => (¬ r5 = 0 → isO E G6 x0 9 ∧ (isO E G6 (gR G6 x0 2) 14 ∧ (vp_in x5 (gN G6 (gR G6 x0 2)) ∧ (vp_in x3 (gN G6 (gR G6 x0 2)) ∧ (vp_in x5 (gN G6 (gR G6 x0 2)) ∧ (∀ G12 : AH, G12 = sI G6 (gR G6 x0 2) (Int32.toNatClampNeg x5) (gI G6 (gR G6 x0 2) (Int32.toNatClampNeg x3)) → isO E G12 (gR G12 x0 2) 14 ∧ (vp_in x3 (gN G12 (gR G12 x0 2)) ∧ (∀ G16 : AH, G16 = sI G12 (gR G12 x0 2) (Int32.toNatClampNeg x3) (gI G6 (gR G6 x0 2) (Int32.toNatClampNeg x5)) → wp E d M_X9_sink 5 [some (vr x0), some (vi x1), some (vi x2), some (vi x5), some (vi (x4 + 1)), none, none] [] G16 Q)))))))) ∧ (r5 = 0 → Q none G6))))))) : wp E d M_X9_sink 61 [some (vr x0), some (vi x1), some (vi x2), some (vi x3), some (vi x4), some (vi x5), none] [] G Q := by
  refine wp_aload_n (pc := 61) d_X9_sink_61 rfl ?_
  refine wp_aload_n (pc := 62) d_X9_sink_62 rfl ?_
  obtain ⟨ho1, h⟩ := h
  refine wp_getR (pc := 63) d_X9_sink_63 fl_X9_19 (fun _ _ _ => rfl) ho1 ?_
  refine wp_iload (pc := 66) d_X9_sink_66 rfl ?_
  obtain ⟨ho2, h⟩ := h
  obtain ⟨hi3, h⟩ := h
  refine wp_iald (pc := 68) d_X9_sink_68 ho2 hi3 ?_
  refine wp_aload_n (pc := 69) d_X9_sink_69 rfl ?_
  refine wp_getR (pc := 70) d_X9_sink_70 fl_X9_19 (fun _ _ _ => rfl) ho1 ?_
  refine wp_iload_n (pc := 73) d_X9_sink_73 rfl ?_
  obtain ⟨hi4, h⟩ := h
  refine wp_iald (pc := 74) d_X9_sink_74 ho2 hi4 ?_
  refine wp_invV (pc := 75) (N := M_X9_isBehind) (As := [vi _, vi _]) (rest := []) (r := (cn_9, ct_9, 8)) d_X9_sink_75 ml_X9_129 mk_X9_isBehind mv_X9_isBehind h0 ho1 rfl rfl (Nat.le_of_ble_eq_true rfl) ?_
  refine wpM.mono h (fun rr G6 hr => ?_)
  obtain ⟨r5, rfl, h⟩ := hr
  show wp E d M_X9_sink 78 [some (vr _), some (vi _), some (vi _), some (vi _), some (vi _), some (vi _), none] [vi _] G6 Q
  refine wp_if_ne (pc := 78) (tgt := 82) d_X9_sink_78 (by decide) (fun hc => ?_) (fun hc => ?_)
  · have h := h.1 hc
    refine wp_aload_n (pc := 82) d_X9_sink_82 rfl ?_
    obtain ⟨ho7, h⟩ := h
    refine wp_getR (pc := 83) d_X9_sink_83 fl_X9_19 (fun _ _ _ => rfl) ho7 ?_
    refine wp_iload (pc := 86) d_X9_sink_86 rfl ?_
    obtain ⟨ho8, h⟩ := h
    obtain ⟨hi9, h⟩ := h
    refine wp_iald (pc := 88) d_X9_sink_88 ho8 hi9 ?_
    refine wp_istore (pc := 89) (lv' := [some (vr _), some (vi _), some (vi _), some (vi _), some (vi _), some (vi _), some (vi _)]) d_X9_sink_89 (by decide) rfl ?_
    refine wp_aload_n (pc := 91) d_X9_sink_91 rfl ?_
    refine wp_getR (pc := 92) d_X9_sink_92 fl_X9_19 (fun _ _ _ => rfl) ho7 ?_
    refine wp_iload (pc := 95) d_X9_sink_95 rfl ?_
    refine wp_aload_n (pc := 97) d_X9_sink_97 rfl ?_
    refine wp_getR (pc := 98) d_X9_sink_98 fl_X9_19 (fun _ _ _ => rfl) ho7 ?_
    refine wp_iload_n (pc := 101) d_X9_sink_101 rfl ?_
    obtain ⟨hi10, h⟩ := h
    refine wp_iald (pc := 102) d_X9_sink_102 ho8 hi10 ?_
    obtain ⟨hi11, h⟩ := h
    refine wp_iast (pc := 103) d_X9_sink_103 ho8 hi11 ?_
    refine wp_nm (fun G12 eG12 => ?_)
    have h := h G12 eG12
    have ho13 := isO_sI eG12 ho7
    refine wp_aload_n (pc := 104) d_X9_sink_104 rfl ?_
    refine wp_getR (pc := 105) d_X9_sink_105 fl_X9_19 (fun _ _ _ => rfl) ho13 ?_
    refine wp_iload_n (pc := 108) d_X9_sink_108 rfl ?_
    refine wp_iload (pc := 109) d_X9_sink_109 rfl ?_
    obtain ⟨ho14, h⟩ := h
    obtain ⟨hi15, h⟩ := h
    refine wp_iast (pc := 111) d_X9_sink_111 ho14 hi15 ?_
    refine wp_nm (fun G16 eG16 => ?_)
    have h := h G16 eG16
    have ho17 := isO_sI eG16 ho13
    refine wp_iload (pc := 112) d_X9_sink_112 rfl ?_
    refine wp_istore_n (pc := 114) (lv' := [some (vr _), some (vi _), some (vi _), some (vi _), some (vi _), some (vi _), some (vi _)]) d_X9_sink_114 (by decide) rfl ?_
    refine wp_iinc (pc := 115) (v := 1) (lv' := [some (vr _), some (vi _), some (vi _), some (vi _), some (vi _), some (vi _), some (vi _)]) d_X9_sink_115 (by decide) rfl rfl rfl ?_
    refine wp_goto (pc := 118) (tgt := 5) d_X9_sink_118 (by decide) ?_
    refine wp_sub ?_ h
    exact ⟨rfl, ⟨rfl, ⟨rfl, ⟨rfl, ⟨rfl, trivial⟩⟩⟩⟩⟩
  · have h := h.2 hc
    exact wp_vret (pc := 81) d_X9_sink_81 rfl h
theorem d_X9_isBehind_0 : decode prog_11_method_16_code 0 = .ok (.iconst 1, 1) := by decide +kernel
theorem d_X9_isBehind_1 : decode prog_11_method_16_code 1 = .ok (.istore_n 3, 1) := by decide +kernel
theorem d_X9_isBehind_2 : decode prog_11_method_16_code 2 = .ok (.iload_n 3, 1) := by decide +kernel
theorem d_X9_isBehind_3 : decode prog_11_method_16_code 3 = .ok (.iconst 3, 1) := by decide +kernel
theorem d_X9_isBehind_4 : decode prog_11_method_16_code 4 = .ok (.if_icmp .ge 47, 3) := by decide +kernel
theorem d_X9_isBehind_7 : decode prog_11_method_16_code 7 = .ok (.aload_n 0, 1) := by decide +kernel
theorem d_X9_isBehind_8 : decode prog_11_method_16_code 8 = .ok (.iload_n 1, 1) := by decide +kernel
theorem d_X9_isBehind_9 : decode prog_11_method_16_code 9 = .ok (.iload_n 3, 1) := by decide +kernel
theorem d_X9_isBehind_10 : decode prog_11_method_16_code 10 = .ok (.invokevirtual 72, 3) := by decide +kernel
theorem d_X9_isBehind_13 : decode prog_11_method_16_code 13 = .ok (.lstore 4, 2) := by decide +kernel
theorem d_X9_isBehind_15 : decode prog_11_method_16_code 15 = .ok (.aload_n 0, 1) := by decide +kernel
theorem d_X9_isBehind_16 : decode prog_11_method_16_code 16 = .ok (.iload_n 2, 1) := by decide +kernel
theorem d_X9_isBehind_17 : decode prog_11_method_16_code 17 = .ok (.iload_n 3, 1) := by decide +kernel
theorem d_X9_isBehind_18 : decode prog_11_method_16_code 18 = .ok (.invokevirtual 72, 3) := by decide +kernel
theorem d_X9_isBehind_21 : decode prog_11_method_16_code 21 = .ok (.lstore 6, 2) := by decide +kernel
theorem d_X9_isBehind_23 : decode prog_11_method_16_code 23 = .ok (.lload 4, 2) := by decide +kernel
theorem d_X9_isBehind_25 : decode prog_11_method_16_code 25 = .ok (.lload 6, 2) := by decide +kernel
theorem d_X9_isBehind_27 : decode prog_11_method_16_code 27 = .ok (.lcmp, 1) := by decide +kernel
theorem d_X9_isBehind_28 : decode prog_11_method_16_code 28 = .ok (.ifCond .eq 17, 3) := by decide +kernel
theorem d_X9_isBehind_31 : decode prog_11_method_16_code 31 = .ok (.lload 4, 2) := by decide +kernel
theorem d_X9_isBehind_33 : decode prog_11_method_16_code 33 = .ok (.lload 6, 2) := by decide +kernel
theorem d_X9_isBehind_35 : decode prog_11_method_16_code 35 = .ok (.lcmp, 1) := by decide +kernel
theorem d_X9_isBehind_36 : decode prog_11_method_16_code 36 = .ok (.ifCond .le 7, 3) := by decide +kernel
theorem d_X9_isBehind_39 : decode prog_11_method_16_code 39 = .ok (.iconst 1, 1) := by decide +kernel
theorem d_X9_isBehind_40 : decode prog_11_method_16_code 40 = .ok (.goto 4, 3) := by decide +kernel
theorem d_X9_isBehind_43 : decode prog_11_method_16_code 43 = .ok (.iconst 0, 1) := by decide +kernel
theorem d_X9_isBehind_44 : decode prog_11_method_16_code 44 = .ok (.ireturn, 1) := by decide +kernel
theorem d_X9_isBehind_45 : decode prog_11_method_16_code 45 = .ok (.iinc 3 1, 3) := by decide +kernel
theorem d_X9_isBehind_48 : decode prog_11_method_16_code 48 = .ok (.goto (-46), 3) := by decide +kernel
theorem d_X9_isBehind_51 : decode prog_11_method_16_code 51 = .ok (.iload_n 1, 1) := by decide +kernel
theorem d_X9_isBehind_52 : decode prog_11_method_16_code 52 = .ok (.iload_n 2, 1) := by decide +kernel
theorem d_X9_isBehind_53 : decode prog_11_method_16_code 53 = .ok (.if_icmp .le 7, 3) := by decide +kernel
theorem d_X9_isBehind_56 : decode prog_11_method_16_code 56 = .ok (.iconst 1, 1) := by decide +kernel
theorem d_X9_isBehind_57 : decode prog_11_method_16_code 57 = .ok (.goto 4, 3) := by decide +kernel
theorem d_X9_isBehind_60 : decode prog_11_method_16_code 60 = .ok (.iconst 0, 1) := by decide +kernel
theorem d_X9_isBehind_61 : decode prog_11_method_16_code 61 = .ok (.ireturn, 1) := by decide +kernel
theorem v_X9_isBehind_0 {E : EE} {d : Nat} {Q : Option AV → AH → Prop} {x0 : Nat} {x1 : Int32} {x2 : Int32} {G : AH} (h : wp E d M_X9_isBehind 2 [some (vr x0), some (vi x1), some (vi x2), some (vi 1), none, none, none, none] [] G Q) : wp E d M_X9_isBehind 0 [some (vr x0), some (vi x1), some (vi x2), none, none, none, none, none] [] G Q := by
  refine wp_iconst (pc := 0) (v := 1) d_X9_isBehind_0 rfl ?_
  refine wp_istore_n (pc := 1) (lv' := [some (vr _), some (vi _), some (vi _), some (vi _), none, none, none, none]) d_X9_isBehind_1 (by decide) rfl ?_
  refine wp_sub ?_ h
  exact ⟨rfl, ⟨rfl, ⟨rfl, ⟨rfl, trivial⟩⟩⟩⟩
theorem v_X9_isBehind_2 {E : EE} {d : Nat} {Q : Option AV → AH → Prop} {x0 : Nat} {x1 : Int32} {x2 : Int32} {x3 : Int32} {G : AH} (h0 : 0 < d) (h : (3 ≤ x3 → (x1 ≤ x2 → Q (some (vi 0)) G) ∧ (¬ (x1 ≤ x2) → Q (some (vi 1)) G)) ∧ (¬ (3 ≤ x3) → isO E G x0 9 ∧ (wpJ E (d - 1) M_X9_scoreOf [vr x0, vi x1, vi x3] G (fun r1 G2 => isO E G2 x0 9 ∧ (wpJ E (d - 1) M_X9_scoreOf [vr x0, vi x2, vi x3] G2 (fun r3 G4 => (r1 = r3 → wp E d M_X9_isBehind 2 [some (vr x0), some (vi x1), some (vi x2), some (vi (x3 + 1)), none, none, none, none] [] G4 Q) ∧ (¬ (r1 = r3) → (r1 ≤ r3 → Q (some (vi 0)) G4) ∧ (¬ (r1 ≤ r3) → Q (some (vi 1)) G4)))))))) : wp E d M_X9_isBehind 2 [some (vr x0), some (vi x1), some (vi x2), some (vi x3), none, none, none, none] [] G Q := by
  refine wp_iload_n (pc := 2) d_X9_isBehind_2 rfl ?_
  refine wp_iconst (pc := 3) (v := 3) d_X9_isBehind_3 rfl ?_
  refine wp_icmp_ge (pc := 4) (tgt := 51) d_X9_isBehind_4 (by decide) (fun hc => ?_) (fun hc => ?_)
  · have h := h.1 hc
    refine wp_iload_n (pc := 51) d_X9_isBehind_51 rfl ?_
    refine wp_iload_n (pc := 52) d_X9_isBehind_52 rfl ?_
    refine wp_icmp_le (pc := 53) (tgt := 60) d_X9_isBehind_53 (by decide) (fun hc => ?_) (fun hc => ?_)
    · have h := h.1 hc
      refine wp_iconst (pc := 60) (v := 0) d_X9_isBehind_60 rfl ?_
      exact wp_zret (pc := 61) d_X9_isBehind_61 rfl rfl h
    · have h := h.2 hc
      refine wp_iconst (pc := 56) (v := 1) d_X9_isBehind_56 rfl ?_
      refine wp_goto (pc := 57) (tgt := 61) d_X9_isBehind_57 (by decide) ?_
      exact wp_zret (pc := 61) d_X9_isBehind_61 rfl rfl h
  · have h := h.2 hc
    refine wp_aload_n (pc := 7) d_X9_isBehind_7 rfl ?_
    refine wp_iload_n (pc := 8) d_X9_isBehind_8 rfl ?_
    refine wp_iload_n (pc := 9) d_X9_isBehind_9 rfl ?_
    obtain ⟨ho6, h⟩ := h
    refine wp_invV (pc := 10) (N := M_X9_scoreOf) (As := [vi _, vi _]) (rest := []) (r := (cn_9, ct_9, 8)) d_X9_isBehind_10 ml_X9_72 mk_X9_scoreOf mv_X9_scoreOf h0 ho6 rfl rfl (Nat.le_of_ble_eq_true rfl) ?_
    refine wpM.mono h (fun rr G2 hr => ?_)
    obtain ⟨r1, rfl, h⟩ := hr
    show wp E d M_X9_isBehind 13 [some (vr _), some (vi _), some (vi _), some (vi _), none, none, none, none] [vj _] G2 Q
    refine wp_lstore (pc := 13) (lv' := [some (vr _), some (vi _), some (vi _), some (vi _), some (vj _), none, none, none]) d_X9_isBehind_13 (by decide) rfl ?_
    refine wp_aload_n (pc := 15) d_X9_isBehind_15 rfl ?_
    refine wp_iload_n (pc := 16) d_X9_isBehind_16 rfl ?_
    refine wp_iload_n (pc := 17) d_X9_isBehind_17 rfl ?_
    obtain ⟨ho5, h⟩ := h
    refine wp_invV (pc := 18) (N := M_X9_scoreOf) (As := [vi _, vi _]) (rest := []) (r := (cn_9, ct_9, 8)) d_X9_isBehind_18 ml_X9_72 mk_X9_scoreOf mv_X9_scoreOf h0 ho5 rfl rfl (Nat.le_of_ble_eq_true rfl) ?_
    refine wpM.mono h (fun rr G4 hr => ?_)
    obtain ⟨r3, rfl, h⟩ := hr
    show wp E d M_X9_isBehind 21 [some (vr _), some (vi _), some (vi _), some (vi _), some (vj _), none, none, none] [vj _] G4 Q
    refine wp_lstore (pc := 21) (lv' := [some (vr _), some (vi _), some (vi _), some (vi _), some (vj _), none, some (vj _), none]) d_X9_isBehind_21 (by decide) rfl ?_
    refine wp_lload (pc := 23) d_X9_isBehind_23 rfl ?_
    refine wp_lload (pc := 25) d_X9_isBehind_25 rfl ?_
    refine wp_lcmp_eq (pc := 27) (tgt := 45) d_X9_isBehind_27 d_X9_isBehind_28 (by decide) (fun hc => ?_) (fun hc => ?_)
    · have h := h.1 hc
      refine wp_iinc (pc := 45) (v := 1) (lv' := [some (vr _), some (vi _), some (vi _), some (vi _), some (vj _), none, some (vj _), none]) d_X9_isBehind_45 (by decide) rfl rfl rfl ?_
      refine wp_goto (pc := 48) (tgt := 2) d_X9_isBehind_48 (by decide) ?_
      refine wp_sub ?_ h
      exact ⟨rfl, ⟨rfl, ⟨rfl, ⟨rfl, trivial⟩⟩⟩⟩
    · have h := h.2 hc
      refine wp_lload (pc := 31) d_X9_isBehind_31 rfl ?_
      refine wp_lload (pc := 33) d_X9_isBehind_33 rfl ?_
      refine wp_lcmp_le (pc := 35) (tgt := 43) d_X9_isBehind_35 d_X9_isBehind_36 (by decide) (fun hc => ?_) (fun hc => ?_)
      · have h := h.1 hc
        refine wp_iconst (pc := 43) (v := 0) d_X9_isBehind_43 rfl ?_
        exact wp_zret (pc := 44) d_X9_isBehind_44 rfl rfl h
      · have h := h.2 hc
        refine wp_iconst (pc := 39) (v := 1) d_X9_isBehind_39 rfl ?_
        refine wp_goto (pc := 40) (tgt := 44) d_X9_isBehind_40 (by decide) ?_
        exact wp_zret (pc := 44) d_X9_isBehind_44 rfl rfl h
theorem d_X9_isSamePair_0 : decode prog_11_method_13_code 0 = .ok (.aload_n 0, 1) := by decide +kernel
theorem d_X9_isSamePair_1 : decode prog_11_method_13_code 1 = .ok (.iload_n 1, 1) := by decide +kernel
theorem d_X9_isSamePair_2 : decode prog_11_method_13_code 2 = .ok (.iconst 1, 1) := by decide +kernel
theorem d_X9_isSamePair_3 : decode prog_11_method_13_code 3 = .ok (.invokevirtual 72, 3) := by decide +kernel
theorem d_X9_isSamePair_6 : decode prog_11_method_13_code 6 = .ok (.aload_n 0, 1) := by decide +kernel
theorem d_X9_isSamePair_7 : decode prog_11_method_13_code 7 = .ok (.iload_n 2, 1) := by decide +kernel
theorem d_X9_isSamePair_8 : decode prog_11_method_13_code 8 = .ok (.iconst 1, 1) := by decide +kernel
theorem d_X9_isSamePair_9 : decode prog_11_method_13_code 9 = .ok (.invokevirtual 72, 3) := by decide +kernel
theorem d_X9_isSamePair_12 : decode prog_11_method_13_code 12 = .ok (.lcmp, 1) := by decide +kernel
theorem d_X9_isSamePair_13 : decode prog_11_method_13_code 13 = .ok (.ifCond .ne 23, 3) := by decide +kernel
theorem d_X9_isSamePair_16 : decode prog_11_method_13_code 16 = .ok (.aload_n 0, 1) := by decide +kernel
theorem d_X9_isSamePair_17 : decode prog_11_method_13_code 17 = .ok (.iload_n 1, 1) := by decide +kernel
theorem d_X9_isSamePair_18 : decode prog_11_method_13_code 18 = .ok (.iconst 2, 1) := by decide +kernel
theorem d_X9_isSamePair_19 : decode prog_11_method_13_code 19 = .ok (.invokevirtual 72, 3) := by decide +kernel
theorem d_X9_isSamePair_22 : decode prog_11_method_13_code 22 = .ok (.aload_n 0, 1) := by decide +kernel
theorem d_X9_isSamePair_23 : decode prog_11_method_13_code 23 = .ok (.iload_n 2, 1) := by decide +kernel
theorem d_X9_isSamePair_24 : decode prog_11_method_13_code 24 = .ok (.iconst 2, 1) := by decide +kernel
theorem d_X9_isSamePair_25 : decode prog_11_method_13_code 25 = .ok (.invokevirtual 72, 3) := by decide +kernel
theorem d_X9_isSamePair_28 : decode prog_11_method_13_code 28 = .ok (.lcmp, 1) := by decide +kernel
theorem d_X9_isSamePair_29 : decode prog_11_method_13_code 29 = .ok (.ifCond .ne 7, 3) := by decide +kernel
theorem d_X9_isSamePair_32 : decode prog_11_method_13_code 32 = .ok (.iconst 1, 1) := by decide +kernel
theorem d_X9_isSamePair_33 : decode prog_11_method_13_code 33 = .ok (.goto 4, 3) := by decide +kernel
theorem d_X9_isSamePair_36 : decode prog_11_method_13_code 36 = .ok (.iconst 0, 1) := by decide +kernel
theorem d_X9_isSamePair_37 : decode prog_11_method_13_code 37 = .ok (.ireturn, 1) := by decide +kernel
theorem v_X9_isSamePair_0 {E : EE} {d : Nat} {Q : Option AV → AH → Prop} {x0 : Nat} {x1 : Int32} {x2 : Int32} {G : AH} (h0 : 0 < d) (h : isO E G x0 9 ∧ (wpJ E (d - 1) M_X9_scoreOf [vr x0, vi x1, vi 1] G (fun r1 G2 => isO E G2 x0 9 ∧ (wpJ E (d - 1) M_X9_scoreOf [vr x0, vi x2, vi 1] G2 (fun r3 G4 => (¬ r1 = r3 → Q (some (vi 0)) G4) ∧ (r1 = r3 → isO E G4 x0 9 ∧ (wpJ E (d - 1) M_X9_scoreOf [vr x0, vi x1, vi 2] G4 (fun r5 G6 => isO E G6 x0 9 ∧ (wpJ E (d - 1) M_X9_scoreOf [vr x0, vi x2, vi 2] G6 (fun r7 G8 => (¬ r5 = r7 → Q (some (vi 0)) G8) ∧ (r5 = r7 → Q (some (vi 1)) G8))))))))))) : wp E d M_X9_isSamePair 0 [some (vr x0), some (vi x1), some (vi x2)] [] G Q := by
  refine wp_aload_n (pc := 0) d_X9_isSamePair_0 rfl ?_
  refine wp_iload_n (pc := 1) d_X9_isSamePair_1 rfl ?_
  refine wp_iconst (pc := 2) (v := 1) d_X9_isSamePair_2 rfl ?_
  obtain ⟨ho12, h⟩ := h
  refine wp_invV (pc := 3) (N := M_X9_scoreOf) (As := [vi _, vi _]) (rest := []) (r := (cn_9, ct_9, 8)) d_X9_isSamePair_3 ml_X9_72 mk_X9_scoreOf mv_X9_scoreOf h0 ho12 rfl rfl (Nat.le_of_ble_eq_true rfl) ?_
  refine wpM.mono h (fun rr G2 hr => ?_)
  obtain ⟨r1, rfl, h⟩ := hr
  show wp E d M_X9_isSamePair 6 [some (vr _), some (vi _), some (vi _)] [vj _] G2 Q
  refine wp_aload_n (pc := 6) d_X9_isSamePair_6 rfl ?_
  refine wp_iload_n (pc := 7) d_X9_isSamePair_7 rfl ?_
  refine wp_iconst (pc := 8) (v := 1) d_X9_isSamePair_8 rfl ?_
  obtain ⟨ho11, h⟩ := h
  refine wp_invV (pc := 9) (N := M_X9_scoreOf) (As := [vi _, vi _]) (rest := [vj _]) (r := (cn_9, ct_9, 8)) d_X9_isSamePair_9 ml_X9_72 mk_X9_scoreOf mv_X9_scoreOf h0 ho11 rfl rfl (Nat.le_of_ble_eq_true rfl) ?_
  refine wpM.mono h (fun rr G4 hr => ?_)
  obtain ⟨r3, rfl, h⟩ := hr
  show wp E d M_X9_isSamePair 12 [some (vr _), some (vi _), some (vi _)] [vj _, vj _] G4 Q
  refine wp_lcmp_ne (pc := 12) (tgt := 36) d_X9_isSamePair_12 d_X9_isSamePair_13 (by decide) (fun hc => ?_) (fun hc => ?_)
  · have h := h.1 hc
    refine wp_iconst (pc := 36) (v := 0) d_X9_isSamePair_36 rfl ?_
    exact wp_zret (pc := 37) d_X9_isSamePair_37 rfl rfl h
  · have h := h.2 hc
    refine wp_aload_n (pc := 16) d_X9_isSamePair_16 rfl ?_
    refine wp_iload_n (pc := 17) d_X9_isSamePair_17 rfl ?_
    refine wp_iconst (pc := 18) (v := 2) d_X9_isSamePair_18 rfl ?_
    obtain ⟨ho10, h⟩ := h
    refine wp_invV (pc := 19) (N := M_X9_scoreOf) (As := [vi _, vi _]) (rest := []) (r := (cn_9, ct_9, 8)) d_X9_isSamePair_19 ml_X9_72 mk_X9_scoreOf mv_X9_scoreOf h0 ho10 rfl rfl (Nat.le_of_ble_eq_true rfl) ?_
    refine wpM.mono h (fun rr G6 hr => ?_)
    obtain ⟨r5, rfl, h⟩ := hr
    show wp E d M_X9_isSamePair 22 [some (vr _), some (vi _), some (vi _)] [vj _] G6 Q
    refine wp_aload_n (pc := 22) d_X9_isSamePair_22 rfl ?_
    refine wp_iload_n (pc := 23) d_X9_isSamePair_23 rfl ?_
    refine wp_iconst (pc := 24) (v := 2) d_X9_isSamePair_24 rfl ?_
    obtain ⟨ho9, h⟩ := h
    refine wp_invV (pc := 25) (N := M_X9_scoreOf) (As := [vi _, vi _]) (rest := [vj _]) (r := (cn_9, ct_9, 8)) d_X9_isSamePair_25 ml_X9_72 mk_X9_scoreOf mv_X9_scoreOf h0 ho9 rfl rfl (Nat.le_of_ble_eq_true rfl) ?_
    refine wpM.mono h (fun rr G8 hr => ?_)
    obtain ⟨r7, rfl, h⟩ := hr
    show wp E d M_X9_isSamePair 28 [some (vr _), some (vi _), some (vi _)] [vj _, vj _] G8 Q
    refine wp_lcmp_ne (pc := 28) (tgt := 36) d_X9_isSamePair_28 d_X9_isSamePair_29 (by decide) (fun hc => ?_) (fun hc => ?_)
    · have h := h.1 hc
      refine wp_iconst (pc := 36) (v := 0) d_X9_isSamePair_36 rfl ?_
      exact wp_zret (pc := 37) d_X9_isSamePair_37 rfl rfl h
    · have h := h.2 hc
      refine wp_iconst (pc := 32) (v := 1) d_X9_isSamePair_32 rfl ?_
      refine wp_goto (pc := 33) (tgt := 37) d_X9_isSamePair_33 (by decide) ?_
      exact wp_zret (pc := 37) d_X9_isSamePair_37 rfl rfl h
