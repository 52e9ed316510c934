theorem d_X2_init_0 : decode prog_4_method_1_code 0 = .ok (.aload_n 0, 1) := by decide +kernel
theorem d_X2_init_1 : decode prog_4_method_1_code 1 = .ok (.invokespecial 3, 3) := by decide +kernel
theorem d_X2_init_4 : decode prog_4_method_1_code 4 = .ok (.aload_n 0, 1) := by decide +kernel
theorem d_X2_init_5 : decode prog_4_method_1_code 5 = .ok (.iconst 0, 1) := by decide +kernel
theorem d_X2_init_6 : decode prog_4_method_1_code 6 = .ok (.putfield 9, 3) := by decide +kernel
theorem d_X2_init_9 : decode prog_4_method_1_code 9 = .ok (.aload_n 0, 1) := by decide +kernel
theorem d_X2_init_10 : decode prog_4_method_1_code 10 = .ok (.iconst 0, 1) := by decide +kernel
theorem d_X2_init_11 : decode prog_4_method_1_code 11 = .ok (.putfield 15, 3) := by decide +kernel
theorem d_X2_init_14 : decode prog_4_method_1_code 14 = .ok (.aload_n 0, 1) := by decide +kernel
theorem d_X2_init_15 : decode prog_4_method_1_code 15 = .ok (.iconst 0, 1) := by decide +kernel
theorem d_X2_init_16 : decode prog_4_method_1_code 16 = .ok (.putfield 18, 3) := by decide +kernel
theorem d_X2_init_19 : decode prog_4_method_1_code 19 = .ok (.aload_n 0, 1) := by decide +kernel
theorem d_X2_init_20 : decode prog_4_method_1_code 20 = .ok (.iconst 0, 1) := by decide +kernel
theorem d_X2_init_21 : decode prog_4_method_1_code 21 = .ok (.putfield 21, 3) := by decide +kernel
theorem d_X2_init_24 : decode prog_4_method_1_code 24 = .ok (.aload_n 0, 1) := by decide +kernel
theorem d_X2_init_25 : decode prog_4_method_1_code 25 = .ok (.bipush 30, 2) := by decide +kernel
theorem d_X2_init_27 : decode prog_4_method_1_code 27 = .ok (.newarray .int, 2) := by decide +kernel
theorem d_X2_init_29 : decode prog_4_method_1_code 29 = .ok (.putfield 24, 3) := by decide +kernel
theorem d_X2_init_32 : decode prog_4_method_1_code 32 = .ok (.aload_n 0, 1) := by decide +kernel
theorem d_X2_init_33 : decode prog_4_method_1_code 33 = .ok (.bipush 24, 2) := by decide +kernel
theorem d_X2_init_35 : decode prog_4_method_1_code 35 = .ok (.newarray .int, 2) := by decide +kernel
theorem d_X2_init_37 : decode prog_4_method_1_code 37 = .ok (.putfield 28, 3) := by decide +kernel
theorem d_X2_init_40 : decode prog_4_method_1_code 40 = .ok (.aload_n 0, 1) := by decide +kernel
theorem d_X2_init_41 : decode prog_4_method_1_code 41 = .ok (.bipush 24, 2) := by decide +kernel
theorem d_X2_init_43 : decode prog_4_method_1_code 43 = .ok (.newarray .int, 2) := by decide +kernel
theorem d_X2_init_45 : decode prog_4_method_1_code 45 = .ok (.putfield 31, 3) := by decide +kernel
theorem d_X2_init_48 : decode prog_4_method_1_code 48 = .ok (.aload_n 0, 1) := by decide +kernel
theorem d_X2_init_49 : decode prog_4_method_1_code 49 = .ok (.bipush 30, 2) := by decide +kernel
theorem d_X2_init_51 : decode prog_4_method_1_code 51 = .ok (.newarray .int, 2) := by decide +kernel
theorem d_X2_init_53 : decode prog_4_method_1_code 53 = .ok (.putfield 34, 3) := by decide +kernel
theorem d_X2_init_56 : decode prog_4_method_1_code 56 = .ok (.aload_n 0, 1) := by decide +kernel
theorem d_X2_init_57 : decode prog_4_method_1_code 57 = .ok (.bipush 30, 2) := by decide +kernel
theorem d_X2_init_59 : decode prog_4_method_1_code 59 = .ok (.newarray .int, 2) := by decide +kernel
theorem d_X2_init_61 : decode prog_4_method_1_code 61 = .ok (.putfield 37, 3) := by decide +kernel
theorem d_X2_init_64 : decode prog_4_method_1_code 64 = .ok (.aload_n 0, 1) := by decide +kernel
theorem d_X2_init_65 : decode prog_4_method_1_code 65 = .ok (.sipush 128, 3) := by decide +kernel
theorem d_X2_init_68 : decode prog_4_method_1_code 68 = .ok (.newarray .int, 2) := by decide +kernel
theorem d_X2_init_70 : decode prog_4_method_1_code 70 = .ok (.putfield 40, 3) := by decide +kernel
theorem d_X2_init_73 : decode prog_4_method_1_code 73 = .ok (.aload_n 0, 1) := by decide +kernel
theorem d_X2_init_74 : decode prog_4_method_1_code 74 = .ok (.iconst 0, 1) := by decide +kernel
theorem d_X2_init_75 : decode prog_4_method_1_code 75 = .ok (.putfield 43, 3) := by decide +kernel
theorem d_X2_init_78 : decode prog_4_method_1_code 78 = .ok (.aload_n 0, 1) := by decide +kernel
theorem d_X2_init_79 : decode prog_4_method_1_code 79 = .ok (.sipush 128, 3) := by decide +kernel
theorem d_X2_init_82 : decode prog_4_method_1_code 82 = .ok (.newarray .int, 2) := by decide +kernel
theorem d_X2_init_84 : decode prog_4_method_1_code 84 = .ok (.putfield 46, 3) := by decide +kernel
theorem d_X2_init_87 : decode prog_4_method_1_code 87 = .ok (.aload_n 0, 1) := by decide +kernel
theorem d_X2_init_88 : decode prog_4_method_1_code 88 = .ok (.sipush 128, 3) := by decide +kernel
theorem d_X2_init_91 : decode prog_4_method_1_code 91 = .ok (.newarray .int, 2) := by decide +kernel
theorem d_X2_init_93 : decode prog_4_method_1_code 93 = .ok (.putfield 49, 3) := by decide +kernel
theorem d_X2_init_96 : decode prog_4_method_1_code 96 = .ok (.aload_n 0, 1) := by decide +kernel
theorem d_X2_init_97 : decode prog_4_method_1_code 97 = .ok (.iconst 0, 1) := by decide +kernel
theorem d_X2_init_98 : decode prog_4_method_1_code 98 = .ok (.putfield 52, 3) := by decide +kernel
theorem d_X2_init_101 : decode prog_4_method_1_code 101 = .ok (.aload_n 0, 1) := by decide +kernel
theorem d_X2_init_102 : decode prog_4_method_1_code 102 = .ok (.bipush 12, 2) := by decide +kernel
theorem d_X2_init_104 : decode prog_4_method_1_code 104 = .ok (.newarray .int, 2) := by decide +kernel
theorem d_X2_init_106 : decode prog_4_method_1_code 106 = .ok (.putfield 55, 3) := by decide +kernel
theorem d_X2_init_109 : decode prog_4_method_1_code 109 = .ok (.return_, 1) := by decide +kernel
theorem v_X2_init_0 {E : EE} {d : Nat} {Q : Option AV → AH → Prop} {x0 : Nat} {G : AH} (h0 : 0 < d) (h : isO E G x0 2 ∧ (∀ G2 : AH, G2 = sI G x0 0 0 → ∀ G4 : AH, G4 = sI G2 x0 1 0 → ∀ G6 : AH, G6 = sI G4 x0 2 0 → ∀ G8 : AH, G8 = sI G6 x0 3 0 → eB E ≤ gT G8 ∧ (∀ G14 : AH, G14 = nw G8 14 (Int32.toNatClampNeg 30) (Int32.toNatClampNeg 30) → ∀ G18 : AH, G18 = sR G14 x0 4 (gT G8) → ∀ G24 : AH, G24 = nw G18 14 (Int32.toNatClampNeg 24) (Int32.toNatClampNeg 24) → ∀ G28 : AH, G28 = sR G24 x0 5 (gT G18) → ∀ G34 : AH, G34 = nw G28 14 (Int32.toNatClampNeg 24) (Int32.toNatClampNeg 24) → ∀ G38 : AH, G38 = sR G34 x0 6 (gT G28) → ∀ G44 : AH, G44 = nw G38 14 (Int32.toNatClampNeg 30) (Int32.toNatClampNeg 30) → ∀ G48 : AH, G48 = sR G44 x0 7 (gT G38) → ∀ G54 : AH, G54 = nw G48 14 (Int32.toNatClampNeg 30) (Int32.toNatClampNeg 30) → ∀ G58 : AH, G58 = sR G54 x0 8 (gT G48) → ∀ G64 : AH, G64 = nw G58 14 (Int32.toNatClampNeg 128) (Int32.toNatClampNeg 128) → ∀ G68 : AH, G68 = sR G64 x0 9 (gT G58) → ∀ G71 : AH, G71 = sI G68 x0 10 0 → ∀ G77 : AH, G77 = nw G71 14 (Int32.toNatClampNeg 128) (Int32.toNatClampNeg 128) → ∀ G81 : AH, G81 = sR G77 x0 11 (gT G71) → ∀ G87 : AH, G87 = nw G81 14 (Int32.toNatClampNeg 128) (Int32.toNatClampNeg 128) → ∀ G91 : AH, G91 = sR G87 x0 12 (gT G81) → ∀ G94 : AH, G94 = sI G91 x0 13 0 → ∀ G100 : AH, G100 = nw G94 14 (Int32.toNatClampNeg 12) (Int32.toNatClampNeg 12) → ∀ G104 : AH, G104 = sR G100 x0 14 (gT G94) → Q none G104))) : wp E d M_X2_init 0 [some (vr x0)] [] G Q := by
  refine wp_aload_n (pc := 0) d_X2_init_0 rfl ?_
  obtain ⟨ho1, h⟩ := h
  refine wp_objI (pc := 1) d_X2_init_1 ml_X2_3 in_obj mc_obj h0 ho1 (Nat.le_of_ble_eq_true rfl) ?_
  refine wp_aload_n (pc := 4) d_X2_init_4 rfl ?_
  refine wp_iconst (pc := 5) (v := 0) d_X2_init_5 rfl ?_
  refine wp_putI (pc := 6) d_X2_init_6 fl_X2_9 (fun _ _ _ => rfl) (Or.inl rfl) ho1 (okI_int _) ?_
  refine wp_nm (fun G2 eG2 => ?_)
  have h := h G2 eG2
  have ho3 := isO_sI eG2 ho1
  refine wp_aload_n (pc := 9) d_X2_init_9 rfl ?_
  refine wp_iconst (pc := 10) (v := 0) d_X2_init_10 rfl ?_
  refine wp_putI (pc := 11) d_X2_init_11 fl_X2_15 (fun _ _ _ => rfl) (Or.inl rfl) ho3 (okI_int _) ?_
  refine wp_nm (fun G4 eG4 => ?_)
  have h := h G4 eG4
  have ho5 := isO_sI eG4 ho3
  refine wp_aload_n (pc := 14) d_X2_init_14 rfl ?_
  refine wp_iconst (pc := 15) (v := 0) d_X2_init_15 rfl ?_
  refine wp_putI (pc := 16) d_X2_init_16 fl_X2_18 (fun _ _ _ => rfl) (Or.inl rfl) ho5 (okI_int _) ?_
  refine wp_nm (fun G6 eG6 => ?_)
  have h := h G6 eG6
  have ho7 := isO_sI eG6 ho5
  refine wp_aload_n (pc := 19) d_X2_init_19 rfl ?_
  refine wp_iconst (pc := 20) (v := 0) d_X2_init_20 rfl ?_
  refine wp_putI (pc := 21) d_X2_init_21 fl_X2_21 (fun _ _ _ => rfl) (Or.inl rfl) ho7 (okI_int _) ?_
  refine wp_nm (fun G8 eG8 => ?_)
  have h := h G8 eG8
  have ho9 := isO_sI eG8 ho7
  refine wp_aload_n (pc := 24) d_X2_init_24 rfl ?_
  refine wp_bipush (pc := 25) (v := 30) d_X2_init_25 rfl ?_
  obtain ⟨hb10, h⟩ := h
  refine wp_newa (pc := 27) (t0 := 1) (kd := 14) d_X2_init_27 rfl (fun _ q => by cases q) ac_int (by decide) (fun _ => rfl) rfl (by decide) (by decide) (by decide) ?_
  refine wp_nm (fun G14 eG14 => ?_)
  have h := h G14 eG14
  have ho15 := isO_nwE eG14 ho9
  have hb16 := base_nwE eG14 hb10
  have ho17 := isO_newE eG14 hb10
  refine wp_putR (pc := 29) d_X2_init_29 fl_X2_24 (fun _ _ _ => rfl) (Or.inr ⟨_, rfl⟩) (Or.inr ⟨rfl, rfl, rfl⟩) ho15 ?_
  refine wp_nm (fun G18 eG18 => ?_)
  have h := h G18 eG18
  have ho19 := isO_sR eG18 ho15
  have hb20 := base_sR eG18 hb16
  refine wp_aload_n (pc := 32) d_X2_init_32 rfl ?_
  refine wp_bipush (pc := 33) (v := 24) d_X2_init_33 rfl ?_
  refine wp_newa (pc := 35) (t0 := 1) (kd := 14) d_X2_init_35 rfl (fun _ q => by cases q) ac_int (by decide) (fun _ => rfl) rfl (by decide) (by decide) (by decide) ?_
  refine wp_nm (fun G24 eG24 => ?_)
  have h := h G24 eG24
  have ho25 := isO_nwE eG24 ho19
  have hb26 := base_nwE eG24 hb20
  have ho27 := isO_newE eG24 hb20
  refine wp_putR (pc := 37) d_X2_init_37 fl_X2_28 (fun _ _ _ => rfl) (Or.inr ⟨_, rfl⟩) (Or.inr ⟨rfl, rfl, rfl⟩) ho25 ?_
  refine wp_nm (fun G28 eG28 => ?_)
  have h := h G28 eG28
  have ho29 := isO_sR eG28 ho25
  have hb30 := base_sR eG28 hb26
  refine wp_aload_n (pc := 40) d_X2_init_40 rfl ?_
  refine wp_bipush (pc := 41) (v := 24) d_X2_init_41 rfl ?_
  refine wp_newa (pc := 43) (t0 := 1) (kd := 14) d_X2_init_43 rfl (fun _ q => by cases q) ac_int (by decide) (fun _ => rfl) rfl (by decide) (by decide) (by decide) ?_
  refine wp_nm (fun G34 eG34 => ?_)
  have h := h G34 eG34
  have ho35 := isO_nwE eG34 ho29
  have hb36 := base_nwE eG34 hb30
  have ho37 := isO_newE eG34 hb30
  refine wp_putR (pc := 45) d_X2_init_45 fl_X2_31 (fun _ _ _ => rfl) (Or.inr ⟨_, rfl⟩) (Or.inr ⟨rfl, rfl, rfl⟩) ho35 ?_
  refine wp_nm (fun G38 eG38 => ?_)
  have h := h G38 eG38
  have ho39 := isO_sR eG38 ho35
  have hb40 := base_sR eG38 hb36
  refine wp_aload_n (pc := 48) d_X2_init_48 rfl ?_
  refine wp_bipush (pc := 49) (v := 30) d_X2_init_49 rfl ?_
  refine wp_newa (pc := 51) (t0 := 1) (kd := 14) d_X2_init_51 rfl (fun _ q => by cases q) ac_int (by decide) (fun _ => rfl) rfl (by decide) (by decide) (by decide) ?_
  refine wp_nm (fun G44 eG44 => ?_)
  have h := h G44 eG44
  have ho45 := isO_nwE eG44 ho39
  have hb46 := base_nwE eG44 hb40
  have ho47 := isO_newE eG44 hb40
  refine wp_putR (pc := 53) d_X2_init_53 fl_X2_34 (fun _ _ _ => rfl) (Or.inr ⟨_, rfl⟩) (Or.inr ⟨rfl, rfl, rfl⟩) ho45 ?_
  refine wp_nm (fun G48 eG48 => ?_)
  have h := h G48 eG48
  have ho49 := isO_sR eG48 ho45
  have hb50 := base_sR eG48 hb46
  refine wp_aload_n (pc := 56) d_X2_init_56 rfl ?_
  refine wp_bipush (pc := 57) (v := 30) d_X2_init_57 rfl ?_
  refine wp_newa (pc := 59) (t0 := 1) (kd := 14) d_X2_init_59 rfl (fun _ q => by cases q) ac_int (by decide) (fun _ => rfl) rfl (by decide) (by decide) (by decide) ?_
  refine wp_nm (fun G54 eG54 => ?_)
  have h := h G54 eG54
  have ho55 := isO_nwE eG54 ho49
  have hb56 := base_nwE eG54 hb50
  have ho57 := isO_newE eG54 hb50
  refine wp_putR (pc := 61) d_X2_init_61 fl_X2_37 (fun _ _ _ => rfl) (Or.inr ⟨_, rfl⟩) (Or.inr ⟨rfl, rfl, rfl⟩) ho55 ?_
  refine wp_nm (fun G58 eG58 => ?_)
  have h := h G58 eG58
  have ho59 := isO_sR eG58 ho55
  have hb60 := base_sR eG58 hb56
  refine wp_aload_n (pc := 64) d_X2_init_64 rfl ?_
  refine wp_sipush (pc := 65) (v := 128) d_X2_init_65 rfl ?_
  refine wp_newa (pc := 68) (t0 := 1) (kd := 14) d_X2_init_68 rfl (fun _ q => by cases q) ac_int (by decide) (fun _ => rfl) rfl (by decide) (by decide) (by decide) ?_
  refine wp_nm (fun G64 eG64 => ?_)
  have h := h G64 eG64
  have ho65 := isO_nwE eG64 ho59
  have hb66 := base_nwE eG64 hb60
  have ho67 := isO_newE eG64 hb60
  refine wp_putR (pc := 70) d_X2_init_70 fl_X2_40 (fun _ _ _ => rfl) (Or.inr ⟨_, rfl⟩) (Or.inl rfl) ho65 ?_
  refine wp_nm (fun G68 eG68 => ?_)
  have h := h G68 eG68
  have ho69 := isO_sR eG68 ho65
  have hb70 := base_sR eG68 hb66
  refine wp_aload_n (pc := 73) d_X2_init_73 rfl ?_
  refine wp_iconst (pc := 74) (v := 0) d_X2_init_74 rfl ?_
  refine wp_putI (pc := 75) d_X2_init_75 fl_X2_43 (fun _ _ _ => rfl) (Or.inl rfl) ho69 (okI_int _) ?_
  refine wp_nm (fun G71 eG71 => ?_)
  have h := h G71 eG71
  have ho72 := isO_sI eG71 ho69
  have hb73 := base_sI eG71 hb70
  refine wp_aload_n (pc := 78) d_X2_init_78 rfl ?_
  refine wp_sipush (pc := 79) (v := 128) d_X2_init_79 rfl ?_
  refine wp_newa (pc := 82) (t0 := 1) (kd := 14) d_X2_init_82 rfl (fun _ q => by cases q) ac_int (by decide) (fun _ => rfl) rfl (by decide) (by decide) (by decide) ?_
  refine wp_nm (fun G77 eG77 => ?_)
  have h := h G77 eG77
  have ho78 := isO_nwE eG77 ho72
  have hb79 := base_nwE eG77 hb73
  have ho80 := isO_newE eG77 hb73
  refine wp_putR (pc := 84) d_X2_init_84 fl_X2_46 (fun _ _ _ => rfl) (Or.inr ⟨_, rfl⟩) (Or.inl rfl) ho78 ?_
  refine wp_nm (fun G81 eG81 => ?_)
  have h := h G81 eG81
  have ho82 := isO_sR eG81 ho78
  have hb83 := base_sR eG81 hb79
  refine wp_aload_n (pc := 87) d_X2_init_87 rfl ?_
  refine wp_sipush (pc := 88) (v := 128) d_X2_init_88 rfl ?_
  refine wp_newa (pc := 91) (t0 := 1) (kd := 14) d_X2_init_91 rfl (fun _ q => by cases q) ac_int (by decide) (fun _ => rfl) rfl (by decide) (by decide) (by decide) ?_
  refine wp_nm (fun G87 eG87 => ?_)
  have h := h G87 eG87
  have ho88 := isO_nwE eG87 ho82
  have hb89 := base_nwE eG87 hb83
  have ho90 := isO_newE eG87 hb83
  refine wp_putR (pc := 93) d_X2_init_93 fl_X2_49 (fun _ _ _ => rfl) (Or.inr ⟨_, rfl⟩) (Or.inr ⟨rfl, rfl, rfl⟩) ho88 ?_
  refine wp_nm (fun G91 eG91 => ?_)
  have h := h G91 eG91
  have ho92 := isO_sR eG91 ho88
  have hb93 := base_sR eG91 hb89
  refine wp_aload_n (pc := 96) d_X2_init_96 rfl ?_
  refine wp_iconst (pc := 97) (v := 0) d_X2_init_97 rfl ?_
  refine wp_putI (pc := 98) d_X2_init_98 fl_X2_52 (fun _ _ _ => rfl) (Or.inl rfl) ho92 (okI_int _) ?_
  refine wp_nm (fun G94 eG94 => ?_)
  have h := h G94 eG94
  have ho95 := isO_sI eG94 ho92
  have hb96 := base_sI eG94 hb93
  refine wp_aload_n (pc := 101) d_X2_init_101 rfl ?_
  refine wp_bipush (pc := 102) (v := 12) d_X2_init_102 rfl ?_
  refine wp_newa (pc := 104) (t0 := 1) (kd := 14) d_X2_init_104 rfl (fun _ q => by cases q) ac_int (by decide) (fun _ => rfl) rfl (by decide) (by decide) (by decide) ?_
  refine wp_nm (fun G100 eG100 => ?_)
  have h := h G100 eG100
  have ho101 := isO_nwE eG100 ho95
  have hb102 := base_nwE eG100 hb96
  have ho103 := isO_newE eG100 hb96
  refine wp_putR (pc := 106) d_X2_init_106 fl_X2_55 (fun _ _ _ => rfl) (Or.inr ⟨_, rfl⟩) (Or.inr ⟨rfl, rfl, rfl⟩) ho101 ?_
  refine wp_nm (fun G104 eG104 => ?_)
  have h := h G104 eG104
  have ho105 := isO_sR eG104 ho101
  have hb106 := base_sR eG104 hb102
  exact wp_vret (pc := 109) d_X2_init_109 rfl h
theorem d_X2_clear_0 : decode prog_4_method_2_code 0 = .ok (.aload_n 0, 1) := by decide +kernel
theorem d_X2_clear_1 : decode prog_4_method_2_code 1 = .ok (.iconst 0, 1) := by decide +kernel
theorem d_X2_clear_2 : decode prog_4_method_2_code 2 = .ok (.putfield 9, 3) := by decide +kernel
theorem d_X2_clear_5 : decode prog_4_method_2_code 5 = .ok (.aload_n 0, 1) := by decide +kernel
theorem d_X2_clear_6 : decode prog_4_method_2_code 6 = .ok (.iconst 0, 1) := by decide +kernel
theorem d_X2_clear_7 : decode prog_4_method_2_code 7 = .ok (.putfield 15, 3) := by decide +kernel
theorem d_X2_clear_10 : decode prog_4_method_2_code 10 = .ok (.aload_n 0, 1) := by decide +kernel
theorem d_X2_clear_11 : decode prog_4_method_2_code 11 = .ok (.iconst 0, 1) := by decide +kernel
theorem d_X2_clear_12 : decode prog_4_method_2_code 12 = .ok (.putfield 18, 3) := by decide +kernel
theorem d_X2_clear_15 : decode prog_4_method_2_code 15 = .ok (.aload_n 0, 1) := by decide +kernel
theorem d_X2_clear_16 : decode prog_4_method_2_code 16 = .ok (.iconst 0, 1) := by decide +kernel
theorem d_X2_clear_17 : decode prog_4_method_2_code 17 = .ok (.putfield 21, 3) := by decide +kernel
theorem d_X2_clear_20 : decode prog_4_method_2_code 20 = .ok (.aload_n 0, 1) := by decide +kernel
theorem d_X2_clear_21 : decode prog_4_method_2_code 21 = .ok (.iconst 0, 1) := by decide +kernel
theorem d_X2_clear_22 : decode prog_4_method_2_code 22 = .ok (.putfield 43, 3) := by decide +kernel
theorem d_X2_clear_25 : decode prog_4_method_2_code 25 = .ok (.return_, 1) := by decide +kernel
theorem v_X2_clear_0 {E : EE} {d : Nat} {Q : Option AV → AH → Prop} {x0 : Nat} {G : AH} (h : isO E G x0 2 ∧ (∀ G2 : AH, G2 = sI G x0 0 0 → ∀ G4 : AH, G4 = sI G2 x0 1 0 → ∀ G6 : AH, G6 = sI G4 x0 2 0 → ∀ G8 : AH, G8 = sI G6 x0 3 0 → ∀ G10 : AH, G10 = sI G8 x0 10 0 → Q none G10)) : wp E d M_X2_clear 0 [some (vr x0)] [] G Q := by
  refine wp_aload_n (pc := 0) d_X2_clear_0 rfl ?_
  refine wp_iconst (pc := 1) (v := 0) d_X2_clear_1 rfl ?_
  obtain ⟨ho1, h⟩ := h
  refine wp_putI (pc := 2) d_X2_clear_2 fl_X2_9 (fun _ _ _ => rfl) (Or.inl rfl) ho1 (okI_int _) ?_
  refine wp_nm (fun G2 eG2 => ?_)
  have h := h G2 eG2
  have ho3 := isO_sI eG2 ho1
  refine wp_aload_n (pc := 5) d_X2_clear_5 rfl ?_
  refine wp_iconst (pc := 6) (v := 0) d_X2_clear_6 rfl ?_
  refine wp_putI (pc := 7) d_X2_clear_7 fl_X2_15 (fun _ _ _ => rfl) (Or.inl rfl) ho3 (okI_int _) ?_
  refine wp_nm (fun G4 eG4 => ?_)
  have h := h G4 eG4
  have ho5 := isO_sI eG4 ho3
  refine wp_aload_n (pc := 10) d_X2_clear_10 rfl ?_
  refine wp_iconst (pc := 11) (v := 0) d_X2_clear_11 rfl ?_
  refine wp_putI (pc := 12) d_X2_clear_12 fl_X2_18 (fun _ _ _ => rfl) (Or.inl rfl) ho5 (okI_int _) ?_
  refine wp_nm (fun G6 eG6 => ?_)
  have h := h G6 eG6
  have ho7 := isO_sI eG6 ho5
  refine wp_aload_n (pc := 15) d_X2_clear_15 rfl ?_
  refine wp_iconst (pc := 16) (v := 0) d_X2_clear_16 rfl ?_
  refine wp_putI (pc := 17) d_X2_clear_17 fl_X2_21 (fun _ _ _ => rfl) (Or.inl rfl) ho7 (okI_int _) ?_
  refine wp_nm (fun G8 eG8 => ?_)
  have h := h G8 eG8
  have ho9 := isO_sI eG8 ho7
  refine wp_aload_n (pc := 20) d_X2_clear_20 rfl ?_
  refine wp_iconst (pc := 21) (v := 0) d_X2_clear_21 rfl ?_
  refine wp_putI (pc := 22) d_X2_clear_22 fl_X2_43 (fun _ _ _ => rfl) (Or.inl rfl) ho9 (okI_int _) ?_
  refine wp_nm (fun G10 eG10 => ?_)
  have h := h G10 eG10
  have ho11 := isO_sI eG10 ho9
  exact wp_vret (pc := 25) d_X2_clear_25 rfl h
theorem d_X3_init_0 : decode prog_5_method_1_code 0 = .ok (.aload_n 0, 1) := by decide +kernel
theorem d_X3_init_1 : decode prog_5_method_1_code 1 = .ok (.invokespecial 3, 3) := by decide +kernel
theorem d_X3_init_4 : decode prog_5_method_1_code 4 = .ok (.aload_n 0, 1) := by decide +kernel
theorem d_X3_init_5 : decode prog_5_method_1_code 5 = .ok (.iconst 0, 1) := by decide +kernel
theorem d_X3_init_6 : decode prog_5_method_1_code 6 = .ok (.putfield 9, 3) := by decide +kernel
theorem d_X3_init_9 : decode prog_5_method_1_code 9 = .ok (.aload_n 0, 1) := by decide +kernel
theorem d_X3_init_10 : decode prog_5_method_1_code 10 = .ok (.new 15, 3) := by decide +kernel
theorem d_X3_init_13 : decode prog_5_method_1_code 13 = .ok (.dup, 1) := by decide +kernel
theorem d_X3_init_14 : decode prog_5_method_1_code 14 = .ok (.invokespecial 17, 3) := by decide +kernel
theorem d_X3_init_17 : decode prog_5_method_1_code 17 = .ok (.putfield 18, 3) := by decide +kernel
theorem d_X3_init_20 : decode prog_5_method_1_code 20 = .ok (.aload_n 0, 1) := by decide +kernel
theorem d_X3_init_21 : decode prog_5_method_1_code 21 = .ok (.bipush 96, 2) := by decide +kernel
theorem d_X3_init_23 : decode prog_5_method_1_code 23 = .ok (.newarray .long, 2) := by decide +kernel
theorem d_X3_init_25 : decode prog_5_method_1_code 25 = .ok (.putfield 22, 3) := by decide +kernel
theorem d_X3_init_28 : decode prog_5_method_1_code 28 = .ok (.aload_n 0, 1) := by decide +kernel
theorem d_X3_init_29 : decode prog_5_method_1_code 29 = .ok (.iconst 4, 1) := by decide +kernel
theorem d_X3_init_30 : decode prog_5_method_1_code 30 = .ok (.newarray .int, 2) := by decide +kernel
theorem d_X3_init_32 : decode prog_5_method_1_code 32 = .ok (.putfield 26, 3) := by decide +kernel
theorem d_X3_init_35 : decode prog_5_method_1_code 35 = .ok (.aload_n 0, 1) := by decide +kernel
theorem d_X3_init_36 : decode prog_5_method_1_code 36 = .ok (.new 30, 3) := by decide +kernel
theorem d_X3_init_39 : decode prog_5_method_1_code 39 = .ok (.dup, 1) := by decide +kernel
theorem d_X3_init_40 : decode prog_5_method_1_code 40 = .ok (.invokespecial 32, 3) := by decide +kernel
theorem d_X3_init_43 : decode prog_5_method_1_code 43 = .ok (.putfield 33, 3) := by decide +kernel
theorem d_X3_init_46 : decode prog_5_method_1_code 46 = .ok (.aload_n 0, 1) := by decide +kernel
theorem d_X3_init_47 : decode prog_5_method_1_code 47 = .ok (.new 37, 3) := by decide +kernel
theorem d_X3_init_50 : decode prog_5_method_1_code 50 = .ok (.dup, 1) := by decide +kernel
theorem d_X3_init_51 : decode prog_5_method_1_code 51 = .ok (.invokespecial 39, 3) := by decide +kernel
theorem d_X3_init_54 : decode prog_5_method_1_code 54 = .ok (.putfield 40, 3) := by decide +kernel
theorem d_X3_init_57 : decode prog_5_method_1_code 57 = .ok (.aload_n 0, 1) := by decide +kernel
theorem d_X3_init_58 : decode prog_5_method_1_code 58 = .ok (.new 44, 3) := by decide +kernel
theorem d_X3_init_61 : decode prog_5_method_1_code 61 = .ok (.dup, 1) := by decide +kernel
theorem d_X3_init_62 : decode prog_5_method_1_code 62 = .ok (.invokespecial 46, 3) := by decide +kernel
theorem d_X3_init_65 : decode prog_5_method_1_code 65 = .ok (.putfield 47, 3) := by decide +kernel
theorem d_X3_init_68 : decode prog_5_method_1_code 68 = .ok (.aload_n 0, 1) := by decide +kernel
theorem d_X3_init_69 : decode prog_5_method_1_code 69 = .ok (.bipush 16, 2) := by decide +kernel
theorem d_X3_init_71 : decode prog_5_method_1_code 71 = .ok (.newarray .int, 2) := by decide +kernel
theorem d_X3_init_73 : decode prog_5_method_1_code 73 = .ok (.putfield 51, 3) := by decide +kernel
theorem d_X3_init_76 : decode prog_5_method_1_code 76 = .ok (.aload_n 0, 1) := by decide +kernel
theorem d_X3_init_77 : decode prog_5_method_1_code 77 = .ok (.iconst 0, 1) := by decide +kernel
theorem d_X3_init_78 : decode prog_5_method_1_code 78 = .ok (.putfield 54, 3) := by decide +kernel
theorem d_X3_init_81 : decode prog_5_method_1_code 81 = .ok (.aload_n 0, 1) := by decide +kernel
theorem d_X3_init_82 : decode prog_5_method_1_code 82 = .ok (.iconst 0, 1) := by decide +kernel
theorem d_X3_init_83 : decode prog_5_method_1_code 83 = .ok (.putfield 58, 3) := by decide +kernel
theorem d_X3_init_86 : decode prog_5_method_1_code 86 = .ok (.aload_n 0, 1) := by decide +kernel
theorem d_X3_init_87 : decode prog_5_method_1_code 87 = .ok (.bipush 12, 2) := by decide +kernel
theorem d_X3_init_89 : decode prog_5_method_1_code 89 = .ok (.newarray .int, 2) := by decide +kernel
theorem d_X3_init_91 : decode prog_5_method_1_code 91 = .ok (.putfield 61, 3) := by decide +kernel
theorem d_X3_init_94 : decode prog_5_method_1_code 94 = .ok (.aload_n 0, 1) := by decide +kernel
theorem d_X3_init_95 : decode prog_5_method_1_code 95 = .ok (.iconst 0, 1) := by decide +kernel
theorem d_X3_init_96 : decode prog_5_method_1_code 96 = .ok (.putfield 64, 3) := by decide +kernel
theorem d_X3_init_99 : decode prog_5_method_1_code 99 = .ok (.aload_n 0, 1) := by decide +kernel
theorem d_X3_init_100 : decode prog_5_method_1_code 100 = .ok (.bipush 6, 2) := by decide +kernel
theorem d_X3_init_102 : decode prog_5_method_1_code 102 = .ok (.newarray .int, 2) := by decide +kernel
theorem d_X3_init_104 : decode prog_5_method_1_code 104 = .ok (.putfield 67, 3) := by decide +kernel
theorem d_X3_init_107 : decode prog_5_method_1_code 107 = .ok (.aload_n 0, 1) := by decide +kernel
theorem d_X3_init_108 : decode prog_5_method_1_code 108 = .ok (.bipush 96, 2) := by decide +kernel
theorem d_X3_init_110 : decode prog_5_method_1_code 110 = .ok (.newarray .int, 2) := by decide +kernel
theorem d_X3_init_112 : decode prog_5_method_1_code 112 = .ok (.putfield 70, 3) := by decide +kernel
theorem d_X3_init_115 : decode prog_5_method_1_code 115 = .ok (.aload_n 0, 1) := by decide +kernel
theorem d_X3_init_116 : decode prog_5_method_1_code 116 = .ok (.iconst 3, 1) := by decide +kernel
theorem d_X3_init_117 : decode prog_5_method_1_code 117 = .ok (.newarray .long, 2) := by decide +kernel
theorem d_X3_init_119 : decode prog_5_method_1_code 119 = .ok (.putfield 73, 3) := by decide +kernel
theorem d_X3_init_122 : decode prog_5_method_1_code 122 = .ok (.aload_n 0, 1) := by decide +kernel
theorem d_X3_init_123 : decode prog_5_method_1_code 123 = .ok (.iconst 3, 1) := by decide +kernel
theorem d_X3_init_124 : decode prog_5_method_1_code 124 = .ok (.newarray .long, 2) := by decide +kernel
theorem d_X3_init_126 : decode prog_5_method_1_code 126 = .ok (.putfield 76, 3) := by decide +kernel
theorem d_X3_init_129 : decode prog_5_method_1_code 129 = .ok (.aload_n 0, 1) := by decide +kernel
theorem d_X3_init_130 : decode prog_5_method_1_code 130 = .ok (.bipush 6, 2) := by decide +kernel
theorem d_X3_init_132 : decode prog_5_method_1_code 132 = .ok (.newarray .int, 2) := by decide +kernel
theorem d_X3_init_134 : decode prog_5_method_1_code 134 = .ok (.putfield 79, 3) := by decide +kernel
theorem d_X3_init_137 : decode prog_5_method_1_code 137 = .ok (.aload_n 0, 1) := by decide +kernel
theorem d_X3_init_138 : decode prog_5_method_1_code 138 = .ok (.bipush 16, 2) := by decide +kernel
theorem d_X3_init_140 : decode prog_5_method_1_code 140 = .ok (.newarray .int, 2) := by decide +kernel
theorem d_X3_init_142 : decode prog_5_method_1_code 142 = .ok (.putfield 82, 3) := by decide +kernel
theorem d_X3_init_145 : decode prog_5_method_1_code 145 = .ok (.aload_n 0, 1) := by decide +kernel
theorem d_X3_init_146 : decode prog_5_method_1_code 146 = .ok (.iconst 3, 1) := by decide +kernel
theorem d_X3_init_147 : decode prog_5_method_1_code 147 = .ok (.newarray .long, 2) := by decide +kernel
theorem d_X3_init_149 : decode prog_5_method_1_code 149 = .ok (.putfield 85, 3) := by decide +kernel
theorem d_X3_init_152 : decode prog_5_method_1_code 152 = .ok (.return_, 1) := by decide +kernel
theorem v_X3_init_0 {E : EE} {d : Nat} {Q : Option AV → AH → Prop} {x0 : Nat} {G : AH} (h0 : 0 < d) (h : isO E G x0 3 ∧ (∀ G2 : AH, G2 = sI G x0 0 0 → eB E ≤ gT G2 ∧ (∀ G8 : AH, G8 = nw G2 0 0 2 → wpV E (d - 1) M_X0_init [vr (gT G2)] G8 (fun G12 => isO E G12 x0 3 ∧ (∀ G14 : AH, G14 = sR G12 x0 1 (gT G2) → eB E ≤ gT G14 ∧ (∀ G20 : AH, G20 = nw G14 15 (Int32.toNatClampNeg 96) (Int32.toNatClampNeg 96) → ∀ G24 : AH, G24 = sR G20 x0 2 (gT G14) → ∀ G30 : AH, G30 = nw G24 14 (Int32.toNatClampNeg 4) (Int32.toNatClampNeg 4) → ∀ G34 : AH, G34 = sR G30 x0 3 (gT G24) → ∀ G40 : AH, G40 = nw G34 7 0 5 → wpV E (d - 1) M_X7_init [vr (gT G34)] G40 (fun G44 => isO E G44 x0 3 ∧ (∀ G46 : AH, G46 = sR G44 x0 4 (gT G34) → eB E ≤ gT G46 ∧ (∀ G52 : AH, G52 = nw G46 2 0 15 → wpV E (d - 1) M_X2_init [vr (gT G46)] G52 (fun G56 => isO E G56 x0 3 ∧ (∀ G58 : AH, G58 = sR G56 x0 5 (gT G46) → eB E ≤ gT G58 ∧ (∀ G64 : AH, G64 = nw G58 9 0 8 → wpV E (d - 1) M_X9_init [vr (gT G58)] G64 (fun G68 => isO E G68 x0 3 ∧ (∀ G70 : AH, G70 = sR G68 x0 6 (gT G58) → eB E ≤ gT G70 ∧ (∀ G76 : AH, G76 = nw G70 14 (Int32.toNatClampNeg 16) (Int32.toNatClampNeg 16) → ∀ G80 : AH, G80 = sR G76 x0 7 (gT G70) → ∀ G83 : AH, G83 = sI G80 x0 8 0 → ∀ G86 : AH, G86 = sI G83 x0 9 0 → ∀ G92 : AH, G92 = nw G86 14 (Int32.toNatClampNeg 12) (Int32.toNatClampNeg 12) → ∀ G96 : AH, G96 = sR G92 x0 10 (gT G86) → ∀ G99 : AH, G99 = sI G96 x0 11 0 → ∀ G105 : AH, G105 = nw G99 14 (Int32.toNatClampNeg 6) (Int32.toNatClampNeg 6) → ∀ G109 : AH, G109 = sR G105 x0 12 (gT G99) → ∀ G115 : AH, G115 = nw G109 14 (Int32.toNatClampNeg 96) (Int32.toNatClampNeg 96) → ∀ G119 : AH, G119 = sR G115 x0 13 (gT G109) → ∀ G125 : AH, G125 = nw G119 15 (Int32.toNatClampNeg 3) (Int32.toNatClampNeg 3) → ∀ G129 : AH, G129 = sR G125 x0 14 (gT G119) → ∀ G135 : AH, G135 = nw G129 15 (Int32.toNatClampNeg 3) (Int32.toNatClampNeg 3) → ∀ G139 : AH, G139 = sR G135 x0 15 (gT G129) → ∀ G145 : AH, G145 = nw G139 14 (Int32.toNatClampNeg 6) (Int32.toNatClampNeg 6) → ∀ G149 : AH, G149 = sR G145 x0 16 (gT G139) → ∀ G155 : AH, G155 = nw G149 14 (Int32.toNatClampNeg 16) (Int32.toNatClampNeg 16) → ∀ G159 : AH, G159 = sR G155 x0 17 (gT G149) → ∀ G165 : AH, G165 = nw G159 15 (Int32.toNatClampNeg 3) (Int32.toNatClampNeg 3) → ∀ G169 : AH, G169 = sR G165 x0 18 (gT G159) → Q none G169))))))))))))))) : wp E d M_X3_init 0 [some (vr x0)] [] G Q := by
  refine wp_aload_n (pc := 0) d_X3_init_0 rfl ?_
  obtain ⟨ho1, h⟩ := h
  refine wp_objI (pc := 1) d_X3_init_1 ml_X3_3 in_obj mc_obj h0 ho1 (Nat.le_of_ble_eq_true rfl) ?_
  refine wp_aload_n (pc := 4) d_X3_init_4 rfl ?_
  refine wp_iconst (pc := 5) (v := 0) d_X3_init_5 rfl ?_
  refine wp_putI (pc := 6) d_X3_init_6 fl_X3_9 (fun _ _ _ => rfl) (Or.inl rfl) ho1 okI_z0 ?_
  refine wp_nm (fun G2 eG2 => ?_)
  have h := h G2 eG2
  have ho3 := isO_sI eG2 ho1
  refine wp_aload_n (pc := 9) d_X3_init_9 rfl ?_
  obtain ⟨hb4, h⟩ := h
  refine wp_new (pc := 10) (c := 0) (r := (cn_0, ct_0, 2)) d_X3_init_10 rfl cx_X3_15 it_0 ii_0 ?_
  refine wp_nm (fun G8 eG8 => ?_)
  have h := h G8 eG8
  have ho9 := isO_nwE eG8 ho3
  have hb10 := base_nwE eG8 hb4
  have ho11 := isO_newE eG8 hb4
  refine wp_dup (pc := 13) d_X3_init_13 (c1_r _) ?_
  refine wp_invI (pc := 14) (N := M_X0_init) (As := []) (rest := [vr _, vr _]) d_X3_init_14 ml_X3_17 mk_X0_init mi_X0_init h0 ho11 (Nat.le_of_ble_eq_true rfl) ?_
  refine wpM.mono h (fun rr G12 hr => ?_)
  obtain ⟨rfl, h⟩ := hr
  show wp E d M_X3_init 17 [some (vr _)] [vr _, vr _] G12 Q
  obtain ⟨ho13, h⟩ := h
  refine wp_putR (pc := 17) d_X3_init_17 fl_X3_18 (fun _ _ _ => rfl) (Or.inl ⟨_, rfl⟩) (Or.inr ⟨rfl, rfl, rfl⟩) ho13 ?_
  refine wp_nm (fun G14 eG14 => ?_)
  have h := h G14 eG14
  have ho15 := isO_sR eG14 ho13
  refine wp_aload_n (pc := 20) d_X3_init_20 rfl ?_
  refine wp_bipush (pc := 21) (v := 96) d_X3_init_21 rfl ?_
  obtain ⟨hb16, h⟩ := h
  refine wp_newa (pc := 23) (t0 := 2) (kd := 15) d_X3_init_23 rfl (fun _ q => by cases q) ac_long (by decide) (fun _ => rfl) rfl (by decide) (by decide) (by decide) ?_
  refine wp_nm (fun G20 eG20 => ?_)
  have h := h G20 eG20
  have ho21 := isO_nwE eG20 ho15
  have hb22 := base_nwE eG20 hb16
  have ho23 := isO_newE eG20 hb16
  refine wp_putR (pc := 25) d_X3_init_25 fl_X3_22 (fun _ _ _ => rfl) (Or.inr ⟨_, rfl⟩) (Or.inr ⟨rfl, rfl, rfl⟩) ho21 ?_
  refine wp_nm (fun G24 eG24 => ?_)
  have h := h G24 eG24
  have ho25 := isO_sR eG24 ho21
  have hb26 := base_sR eG24 hb22
  refine wp_aload_n (pc := 28) d_X3_init_28 rfl ?_
  refine wp_iconst (pc := 29) (v := 4) d_X3_init_29 rfl ?_
  refine wp_newa (pc := 30) (t0 := 1) (kd := 14) d_X3_init_30 rfl (fun _ q => by cases q) ac_int (by decide) (fun _ => rfl) rfl (by decide) (by decide) (by decide) ?_
  refine wp_nm (fun G30 eG30 => ?_)
  have h := h G30 eG30
  have ho31 := isO_nwE eG30 ho25
  have hb32 := base_nwE eG30 hb26
  have ho33 := isO_newE eG30 hb26
  refine wp_putR (pc := 32) d_X3_init_32 fl_X3_26 (fun _ _ _ => rfl) (Or.inr ⟨_, rfl⟩) (Or.inr ⟨rfl, rfl, rfl⟩) ho31 ?_
  refine wp_nm (fun G34 eG34 => ?_)
  have h := h G34 eG34
  have ho35 := isO_sR eG34 ho31
  have hb36 := base_sR eG34 hb32
  refine wp_aload_n (pc := 35) d_X3_init_35 rfl ?_
  refine wp_new (pc := 36) (c := 7) (r := (cn_7, ct_7, 5)) d_X3_init_36 rfl cx_X3_30 it_7 ii_7 ?_
  refine wp_nm (fun G40 eG40 => ?_)
  have h := h G40 eG40
  have ho41 := isO_nwE eG40 ho35
  have hb42 := base_nwE eG40 hb36
  have ho43 := isO_newE eG40 hb36
  refine wp_dup (pc := 39) d_X3_init_39 (c1_r _) ?_
  refine wp_invI (pc := 40) (N := M_X7_init) (As := []) (rest := [vr _, vr _]) d_X3_init_40 ml_X3_32 mk_X7_init mi_X7_init h0 ho43 (Nat.le_of_ble_eq_true rfl) ?_
  refine wpM.mono h (fun rr G44 hr => ?_)
  obtain ⟨rfl, h⟩ := hr
  show wp E d M_X3_init 43 [some (vr _)] [vr _, vr _] G44 Q
  obtain ⟨ho45, h⟩ := h
  refine wp_putR (pc := 43) d_X3_init_43 fl_X3_33 (fun _ _ _ => rfl) (Or.inl ⟨_, rfl⟩) (Or.inr ⟨rfl, rfl, rfl⟩) ho45 ?_
  refine wp_nm (fun G46 eG46 => ?_)
  have h := h G46 eG46
  have ho47 := isO_sR eG46 ho45
  refine wp_aload_n (pc := 46) d_X3_init_46 rfl ?_
  obtain ⟨hb48, h⟩ := h
  refine wp_new (pc := 47) (c := 2) (r := (cn_2, ct_2, 15)) d_X3_init_47 rfl cx_X3_37 it_2 ii_2 ?_
  refine wp_nm (fun G52 eG52 => ?_)
  have h := h G52 eG52
  have ho53 := isO_nwE eG52 ho47
  have hb54 := base_nwE eG52 hb48
  have ho55 := isO_newE eG52 hb48
  refine wp_dup (pc := 50) d_X3_init_50 (c1_r _) ?_
  refine wp_invI (pc := 51) (N := M_X2_init) (As := []) (rest := [vr _, vr _]) d_X3_init_51 ml_X3_39 mk_X2_init mi_X2_init h0 ho55 (Nat.le_of_ble_eq_true rfl) ?_
  refine wpM.mono h (fun rr G56 hr => ?_)
  obtain ⟨rfl, h⟩ := hr
  show wp E d M_X3_init 54 [some (vr _)] [vr _, vr _] G56 Q
  obtain ⟨ho57, h⟩ := h
  refine wp_putR (pc := 54) d_X3_init_54 fl_X3_40 (fun _ _ _ => rfl) (Or.inl ⟨_, rfl⟩) (Or.inr ⟨rfl, rfl, rfl⟩) ho57 ?_
  refine wp_nm (fun G58 eG58 => ?_)
  have h := h G58 eG58
  have ho59 := isO_sR eG58 ho57
  refine wp_aload_n (pc := 57) d_X3_init_57 rfl ?_
  obtain ⟨hb60, h⟩ := h
  refine wp_new (pc := 58) (c := 9) (r := (cn_9, ct_9, 8)) d_X3_init_58 rfl cx_X3_44 it_9 ii_9 ?_
  refine wp_nm (fun G64 eG64 => ?_)
  have h := h G64 eG64
  have ho65 := isO_nwE eG64 ho59
  have hb66 := base_nwE eG64 hb60
  have ho67 := isO_newE eG64 hb60
  refine wp_dup (pc := 61) d_X3_init_61 (c1_r _) ?_
  refine wp_invI (pc := 62) (N := M_X9_init) (As := []) (rest := [vr _, vr _]) d_X3_init_62 ml_X3_46 mk_X9_init mi_X9_init h0 ho67 (Nat.le_of_ble_eq_true rfl) ?_
  refine wpM.mono h (fun rr G68 hr => ?_)
  obtain ⟨rfl, h⟩ := hr
  show wp E d M_X3_init 65 [some (vr _)] [vr _, vr _] G68 Q
  obtain ⟨ho69, h⟩ := h
  refine wp_putR (pc := 65) d_X3_init_65 fl_X3_47 (fun _ _ _ => rfl) (Or.inl ⟨_, rfl⟩) (Or.inr ⟨rfl, rfl, rfl⟩) ho69 ?_
  refine wp_nm (fun G70 eG70 => ?_)
  have h := h G70 eG70
  have ho71 := isO_sR eG70 ho69
  refine wp_aload_n (pc := 68) d_X3_init_68 rfl ?_
  refine wp_bipush (pc := 69) (v := 16) d_X3_init_69 rfl ?_
  obtain ⟨hb72, h⟩ := h
  refine wp_newa (pc := 71) (t0 := 1) (kd := 14) d_X3_init_71 rfl (fun _ q => by cases q) ac_int (by decide) (fun _ => rfl) rfl (by decide) (by decide) (by decide) ?_
  refine wp_nm (fun G76 eG76 => ?_)
  have h := h G76 eG76
  have ho77 := isO_nwE eG76 ho71
  have hb78 := base_nwE eG76 hb72
  have ho79 := isO_newE eG76 hb72
  refine wp_putR (pc := 73) d_X3_init_73 fl_X3_51 (fun _ _ _ => rfl) (Or.inr ⟨_, rfl⟩) (Or.inr ⟨rfl, rfl, rfl⟩) ho77 ?_
  refine wp_nm (fun G80 eG80 => ?_)
  have h := h G80 eG80
  have ho81 := isO_sR eG80 ho77
  have hb82 := base_sR eG80 hb78
  refine wp_aload_n (pc := 76) d_X3_init_76 rfl ?_
  refine wp_iconst (pc := 77) (v := 0) d_X3_init_77 rfl ?_
  refine wp_putI (pc := 78) d_X3_init_78 fl_X3_54 (fun _ _ _ => rfl) (Or.inl rfl) ho81 (okI_int _) ?_
  refine wp_nm (fun G83 eG83 => ?_)
  have h := h G83 eG83
  have ho84 := isO_sI eG83 ho81
  have hb85 := base_sI eG83 hb82
  refine wp_aload_n (pc := 81) d_X3_init_81 rfl ?_
  refine wp_iconst (pc := 82) (v := 0) d_X3_init_82 rfl ?_
  refine wp_putI (pc := 83) d_X3_init_83 fl_X3_58 (fun _ _ _ => rfl) (Or.inl rfl) ho84 (okI_int _) ?_
  refine wp_nm (fun G86 eG86 => ?_)
  have h := h G86 eG86
  have ho87 := isO_sI eG86 ho84
  have hb88 := base_sI eG86 hb85
  refine wp_aload_n (pc := 86) d_X3_init_86 rfl ?_
  refine wp_bipush (pc := 87) (v := 12) d_X3_init_87 rfl ?_
  refine wp_newa (pc := 89) (t0 := 1) (kd := 14) d_X3_init_89 rfl (fun _ q => by cases q) ac_int (by decide) (fun _ => rfl) rfl (by decide) (by decide) (by decide) ?_
  refine wp_nm (fun G92 eG92 => ?_)
  have h := h G92 eG92
  have ho93 := isO_nwE eG92 ho87
  have hb94 := base_nwE eG92 hb88
  have ho95 := isO_newE eG92 hb88
  refine wp_putR (pc := 91) d_X3_init_91 fl_X3_61 (fun _ _ _ => rfl) (Or.inr ⟨_, rfl⟩) (Or.inr ⟨rfl, rfl, rfl⟩) ho93 ?_
  refine wp_nm (fun G96 eG96 => ?_)
  have h := h G96 eG96
  have ho97 := isO_sR eG96 ho93
  have hb98 := base_sR eG96 hb94
  refine wp_aload_n (pc := 94) d_X3_init_94 rfl ?_
  refine wp_iconst (pc := 95) (v := 0) d_X3_init_95 rfl ?_
  refine wp_putI (pc := 96) d_X3_init_96 fl_X3_64 (fun _ _ _ => rfl) (Or.inl rfl) ho97 (okI_int _) ?_
  refine wp_nm (fun G99 eG99 => ?_)
  have h := h G99 eG99
  have ho100 := isO_sI eG99 ho97
  have hb101 := base_sI eG99 hb98
  refine wp_aload_n (pc := 99) d_X3_init_99 rfl ?_
  refine wp_bipush (pc := 100) (v := 6) d_X3_init_100 rfl ?_
  refine wp_newa (pc := 102) (t0 := 1) (kd := 14) d_X3_init_102 rfl (fun _ q => by cases q) ac_int (by decide) (fun _ => rfl) rfl (by decide) (by decide) (by decide) ?_
  refine wp_nm (fun G105 eG105 => ?_)
  have h := h G105 eG105
  have ho106 := isO_nwE eG105 ho100
  have hb107 := base_nwE eG105 hb101
  have ho108 := isO_newE eG105 hb101
  refine wp_putR (pc := 104) d_X3_init_104 fl_X3_67 (fun _ _ _ => rfl) (Or.inr ⟨_, rfl⟩) (Or.inr ⟨rfl, rfl, rfl⟩) ho106 ?_
  refine wp_nm (fun G109 eG109 => ?_)
  have h := h G109 eG109
  have ho110 := isO_sR eG109 ho106
  have hb111 := base_sR eG109 hb107
  refine wp_aload_n (pc := 107) d_X3_init_107 rfl ?_
  refine wp_bipush (pc := 108) (v := 96) d_X3_init_108 rfl ?_
  refine wp_newa (pc := 110) (t0 := 1) (kd := 14) d_X3_init_110 rfl (fun _ q => by cases q) ac_int (by decide) (fun _ => rfl) rfl (by decide) (by decide) (by decide) ?_
  refine wp_nm (fun G115 eG115 => ?_)
  have h := h G115 eG115
  have ho116 := isO_nwE eG115 ho110
  have hb117 := base_nwE eG115 hb111
  have ho118 := isO_newE eG115 hb111
  refine wp_putR (pc := 112) d_X3_init_112 fl_X3_70 (fun _ _ _ => rfl) (Or.inr ⟨_, rfl⟩) (Or.inr ⟨rfl, rfl, rfl⟩) ho116 ?_
  refine wp_nm (fun G119 eG119 => ?_)
  have h := h G119 eG119
  have ho120 := isO_sR eG119 ho116
  have hb121 := base_sR eG119 hb117
  refine wp_aload_n (pc := 115) d_X3_init_115 rfl ?_
  refine wp_iconst (pc := 116) (v := 3) d_X3_init_116 rfl ?_
  refine wp_newa (pc := 117) (t0 := 2) (kd := 15) d_X3_init_117 rfl (fun _ q => by cases q) ac_long (by decide) (fun _ => rfl) rfl (by decide) (by decide) (by decide) ?_
  refine wp_nm (fun G125 eG125 => ?_)
  have h := h G125 eG125
  have ho126 := isO_nwE eG125 ho120
  have hb127 := base_nwE eG125 hb121
  have ho128 := isO_newE eG125 hb121
  refine wp_putR (pc := 119) d_X3_init_119 fl_X3_73 (fun _ _ _ => rfl) (Or.inr ⟨_, rfl⟩) (Or.inr ⟨rfl, rfl, rfl⟩) ho126 ?_
  refine wp_nm (fun G129 eG129 => ?_)
  have h := h G129 eG129
  have ho130 := isO_sR eG129 ho126
  have hb131 := base_sR eG129 hb127
  refine wp_aload_n (pc := 122) d_X3_init_122 rfl ?_
  refine wp_iconst (pc := 123) (v := 3) d_X3_init_123 rfl ?_
  refine wp_newa (pc := 124) (t0 := 2) (kd := 15) d_X3_init_124 rfl (fun _ q => by cases q) ac_long (by decide) (fun _ => rfl) rfl (by decide) (by decide) (by decide) ?_
  refine wp_nm (fun G135 eG135 => ?_)
  have h := h G135 eG135
  have ho136 := isO_nwE eG135 ho130
  have hb137 := base_nwE eG135 hb131
  have ho138 := isO_newE eG135 hb131
  refine wp_putR (pc := 126) d_X3_init_126 fl_X3_76 (fun _ _ _ => rfl) (Or.inr ⟨_, rfl⟩) (Or.inr ⟨rfl, rfl, rfl⟩) ho136 ?_
  refine wp_nm (fun G139 eG139 => ?_)
  have h := h G139 eG139
  have ho140 := isO_sR eG139 ho136
  have hb141 := base_sR eG139 hb137
  refine wp_aload_n (pc := 129) d_X3_init_129 rfl ?_
  refine wp_bipush (pc := 130) (v := 6) d_X3_init_130 rfl ?_
  refine wp_newa (pc := 132) (t0 := 1) (kd := 14) d_X3_init_132 rfl (fun _ q => by cases q) ac_int (by decide) (fun _ => rfl) rfl (by decide) (by decide) (by decide) ?_
  refine wp_nm (fun G145 eG145 => ?_)
  have h := h G145 eG145
  have ho146 := isO_nwE eG145 ho140
  have hb147 := base_nwE eG145 hb141
  have ho148 := isO_newE eG145 hb141
  refine wp_putR (pc := 134) d_X3_init_134 fl_X3_79 (fun _ _ _ => rfl) (Or.inr ⟨_, rfl⟩) (Or.inr ⟨rfl, rfl, rfl⟩) ho146 ?_
  refine wp_nm (fun G149 eG149 => ?_)
  have h := h G149 eG149
  have ho150 := isO_sR eG149 ho146
  have hb151 := base_sR eG149 hb147
  refine wp_aload_n (pc := 137) d_X3_init_137 rfl ?_
  refine wp_bipush (pc := 138) (v := 16) d_X3_init_138 rfl ?_
  refine wp_newa (pc := 140) (t0 := 1) (kd := 14) d_X3_init_140 rfl (fun _ q => by cases q) ac_int (by decide) (fun _ => rfl) rfl (by decide) (by decide) (by decide) ?_
  refine wp_nm (fun G155 eG155 => ?_)
  have h := h G155 eG155
  have ho156 := isO_nwE eG155 ho150
  have hb157 := base_nwE eG155 hb151
  have ho158 := isO_newE eG155 hb151
  refine wp_putR (pc := 142) d_X3_init_142 fl_X3_82 (fun _ _ _ => rfl) (Or.inr ⟨_, rfl⟩) (Or.inr ⟨rfl, rfl, rfl⟩) ho156 ?_
  refine wp_nm (fun G159 eG159 => ?_)
  have h := h G159 eG159
  have ho160 := isO_sR eG159 ho156
  have hb161 := base_sR eG159 hb157
  refine wp_aload_n (pc := 145) d_X3_init_145 rfl ?_
  refine wp_iconst (pc := 146) (v := 3) d_X3_init_146 rfl ?_
  refine wp_newa (pc := 147) (t0 := 2) (kd := 15) d_X3_init_147 rfl (fun _ q => by cases q) ac_long (by decide) (fun _ => rfl) rfl (by decide) (by decide) (by decide) ?_
  refine wp_nm (fun G165 eG165 => ?_)
  have h := h G165 eG165
  have ho166 := isO_nwE eG165 ho160
  have hb167 := base_nwE eG165 hb161
  have ho168 := isO_newE eG165 hb161
  refine wp_putR (pc := 149) d_X3_init_149 fl_X3_85 (fun _ _ _ => rfl) (Or.inr ⟨_, rfl⟩) (Or.inr ⟨rfl, rfl, rfl⟩) ho166 ?_
  refine wp_nm (fun G169 eG169 => ?_)
  have h := h G169 eG169
  have ho170 := isO_sR eG169 ho166
  have hb171 := base_sR eG169 hb167
  exact wp_vret (pc := 152) d_X3_init_152 rfl h
theorem d_X3_clear_0 : decode prog_5_method_2_code 0 = .ok (.aload_n 0, 1) := by decide +kernel
theorem d_X3_clear_1 : decode prog_5_method_2_code 1 = .ok (.iconst 0, 1) := by decide +kernel
theorem d_X3_clear_2 : decode prog_5_method_2_code 2 = .ok (.putfield 9, 3) := by decide +kernel
theorem d_X3_clear_5 : decode prog_5_method_2_code 5 = .ok (.aload_n 0, 1) := by decide +kernel
theorem d_X3_clear_6 : decode prog_5_method_2_code 6 = .ok (.getfield 26, 3) := by decide +kernel
theorem d_X3_clear_9 : decode prog_5_method_2_code 9 = .ok (.iconst 0, 1) := by decide +kernel
theorem d_X3_clear_10 : decode prog_5_method_2_code 10 = .ok (.invokestatic 88, 3) := by decide +kernel
theorem d_X3_clear_13 : decode prog_5_method_2_code 13 = .ok (.aload_n 0, 1) := by decide +kernel
theorem d_X3_clear_14 : decode prog_5_method_2_code 14 = .ok (.getfield 33, 3) := by decide +kernel
theorem d_X3_clear_17 : decode prog_5_method_2_code 17 = .ok (.invokevirtual 94, 3) := by decide +kernel
theorem d_X3_clear_20 : decode prog_5_method_2_code 20 = .ok (.aload_n 0, 1) := by decide +kernel
theorem d_X3_clear_21 : decode prog_5_method_2_code 21 = .ok (.getfield 40, 3) := by decide +kernel
theorem d_X3_clear_24 : decode prog_5_method_2_code 24 = .ok (.invokevirtual 97, 3) := by decide +kernel
theorem d_X3_clear_27 : decode prog_5_method_2_code 27 = .ok (.aload_n 0, 1) := by decide +kernel
theorem d_X3_clear_28 : decode prog_5_method_2_code 28 = .ok (.getfield 47, 3) := by decide +kernel
theorem d_X3_clear_31 : decode prog_5_method_2_code 31 = .ok (.iconst 0, 1) := by decide +kernel
theorem d_X3_clear_32 : decode prog_5_method_2_code 32 = .ok (.putfield 98, 3) := by decide +kernel
theorem d_X3_clear_35 : decode prog_5_method_2_code 35 = .ok (.aload_n 0, 1) := by decide +kernel
theorem d_X3_clear_36 : decode prog_5_method_2_code 36 = .ok (.iconst 0, 1) := by decide +kernel
theorem d_X3_clear_37 : decode prog_5_method_2_code 37 = .ok (.putfield 54, 3) := by decide +kernel
theorem d_X3_clear_40 : decode prog_5_method_2_code 40 = .ok (.aload_n 0, 1) := by decide +kernel
theorem d_X3_clear_41 : decode prog_5_method_2_code 41 = .ok (.iconst 0, 1) := by decide +kernel
theorem d_X3_clear_42 : decode prog_5_method_2_code 42 = .ok (.putfield 58, 3) := by decide +kernel
theorem d_X3_clear_45 : decode prog_5_method_2_code 45 = .ok (.aload_n 0, 1) := by decide +kernel
theorem d_X3_clear_46 : decode prog_5_method_2_code 46 = .ok (.getfield 61, 3) := by decide +kernel
theorem d_X3_clear_49 : decode prog_5_method_2_code 49 = .ok (.iconst 1, 1) := by decide +kernel
theorem d_X3_clear_50 : decode prog_5_method_2_code 50 = .ok (.invokestatic 88, 3) := by decide +kernel
theorem d_X3_clear_53 : decode prog_5_method_2_code 53 = .ok (.aload_n 0, 1) := by decide +kernel
theorem d_X3_clear_54 : decode prog_5_method_2_code 54 = .ok (.iconst 0, 1) := by decide +kernel
theorem d_X3_clear_55 : decode prog_5_method_2_code 55 = .ok (.putfield 64, 3) := by decide +kernel
theorem d_X3_clear_58 : decode prog_5_method_2_code 58 = .ok (.return_, 1) := by decide +kernel
theorem v_X3_clear_0 {E : EE} {d : Nat} {Q : Option AV → AH → Prop} {x0 : Nat} {G : AH} (h0 : 0 < d) (h : isO E G x0 3 ∧ (∀ G2 : AH, G2 = sI G x0 0 0 → wpV E (d - 1) M_J7_fill_53178 [vr (gR G2 x0 3), vi 0] G2 (fun G4 => isO E G4 x0 3 ∧ (isO E G4 (gR G4 x0 4) 7 ∧ (wpV E (d - 1) M_X7_clear [vr (gR G4 x0 4)] G4 (fun G6 => isO E G6 x0 3 ∧ (isO E G6 (gR G6 x0 5) 2 ∧ (wpV E (d - 1) M_X2_clear [vr (gR G6 x0 5)] G6 (fun G8 => isO E G8 x0 3 ∧ (isO E G8 (gR G8 x0 6) 9 ∧ (∀ G11 : AH, G11 = sI G8 (gR G8 x0 6) 0 0 → ∀ G13 : AH, G13 = sI G11 x0 8 0 → ∀ G15 : AH, G15 = sI G13 x0 9 0 → wpV E (d - 1) M_J7_fill_53178 [vr (gR G15 x0 10), vi 1] G15 (fun G17 => isO E G17 x0 3 ∧ (∀ G19 : AH, G19 = sI G17 x0 11 0 → Q none G19))))))))))))) : wp E d M_X3_clear 0 [some (vr x0)] [] G Q := by
  refine wp_aload_n (pc := 0) d_X3_clear_0 rfl ?_
  refine wp_iconst (pc := 1) (v := 0) d_X3_clear_1 rfl ?_
  obtain ⟨ho1, h⟩ := h
  refine wp_putI (pc := 2) d_X3_clear_2 fl_X3_9 (fun _ _ _ => rfl) (Or.inl rfl) ho1 okI_z0 ?_
  refine wp_nm (fun G2 eG2 => ?_)
  have h := h G2 eG2
  have ho3 := isO_sI eG2 ho1
  refine wp_aload_n (pc := 5) d_X3_clear_5 rfl ?_
  refine wp_getR (pc := 6) d_X3_clear_6 fl_X3_26 (fun _ _ _ => rfl) ho3 ?_
  refine wp_iconst (pc := 9) (v := 0) d_X3_clear_9 rfl ?_
  refine wp_invS (pc := 10) (N := M_J7_fill_53178) (As := [vr _, vi _]) (rest := []) d_X3_clear_10 ml_X3_88 mk_J7_fill_53178 ms_J7_fill_53178 h0 (Nat.le_of_ble_eq_true rfl) ?_
  refine wpM.mono h (fun rr G4 hr => ?_)
  obtain ⟨rfl, h⟩ := hr
  show wp E d M_X3_clear 13 [some (vr _)] [] G4 Q
  refine wp_aload_n (pc := 13) d_X3_clear_13 rfl ?_
  obtain ⟨ho5, h⟩ := h
  refine wp_getR (pc := 14) d_X3_clear_14 fl_X3_33 (fun _ _ _ => rfl) ho5 ?_
  obtain ⟨ho22, h⟩ := h
  refine wp_invV (pc := 17) (N := M_X7_clear) (As := []) (rest := []) (r := (cn_7, ct_7, 5)) d_X3_clear_17 ml_X3_94 mk_X7_clear mv_X7_clear h0 ho22 rfl rfl (Nat.le_of_ble_eq_true rfl) ?_
  refine wpM.mono h (fun rr G6 hr => ?_)
  obtain ⟨rfl, h⟩ := hr
  show wp E d M_X3_clear 20 [some (vr _)] [] G6 Q
  refine wp_aload_n (pc := 20) d_X3_clear_20 rfl ?_
  obtain ⟨ho7, h⟩ := h
  refine wp_getR (pc := 21) d_X3_clear_21 fl_X3_40 (fun _ _ _ => rfl) ho7 ?_
  obtain ⟨ho21, h⟩ := h
  refine wp_invV (pc := 24) (N := M_X2_clear) (As := []) (rest := []) (r := (cn_2, ct_2, 15)) d_X3_clear_24 ml_X3_97 mk_X2_clear mv_X2_clear h0 ho21 rfl rfl (Nat.le_of_ble_eq_true rfl) ?_
  refine wpM.mono h (fun rr G8 hr => ?_)
  obtain ⟨rfl, h⟩ := hr
  show wp E d M_X3_clear 27 [some (vr _)] [] G8 Q
  refine wp_aload_n (pc := 27) d_X3_clear_27 rfl ?_
  obtain ⟨ho9, h⟩ := h
  refine wp_getR (pc := 28) d_X3_clear_28 fl_X3_47 (fun _ _ _ => rfl) ho9 ?_
  refine wp_iconst (pc := 31) (v := 0) d_X3_clear_31 rfl ?_
  obtain ⟨ho10, h⟩ := h
  refine wp_putI (pc := 32) d_X3_clear_32 fl_X3_98 (fun _ _ _ => rfl) (Or.inl rfl) ho10 okI_z0 ?_
  refine wp_nm (fun G11 eG11 => ?_)
  have h := h G11 eG11
  have ho12 := isO_sI eG11 ho9
  refine wp_aload_n (pc := 35) d_X3_clear_35 rfl ?_
  refine wp_iconst (pc := 36) (v := 0) d_X3_clear_36 rfl ?_
  refine wp_putI (pc := 37) d_X3_clear_37 fl_X3_54 (fun _ _ _ => rfl) (Or.inl rfl) ho12 (okI_int _) ?_
  refine wp_nm (fun G13 eG13 => ?_)
  have h := h G13 eG13
  have ho14 := isO_sI eG13 ho12
  refine wp_aload_n (pc := 40) d_X3_clear_40 rfl ?_
  refine wp_iconst (pc := 41) (v := 0) d_X3_clear_41 rfl ?_
  refine wp_putI (pc := 42) d_X3_clear_42 fl_X3_58 (fun _ _ _ => rfl) (Or.inl rfl) ho14 (okI_int _) ?_
  refine wp_nm (fun G15 eG15 => ?_)
  have h := h G15 eG15
  have ho16 := isO_sI eG15 ho14
  refine wp_aload_n (pc := 45) d_X3_clear_45 rfl ?_
  refine wp_getR (pc := 46) d_X3_clear_46 fl_X3_61 (fun _ _ _ => rfl) ho16 ?_
  refine wp_iconst (pc := 49) (v := 1) d_X3_clear_49 rfl ?_
  refine wp_invS (pc := 50) (N := M_J7_fill_53178) (As := [vr _, vi _]) (rest := []) d_X3_clear_50 ml_X3_88 mk_J7_fill_53178 ms_J7_fill_53178 h0 (Nat.le_of_ble_eq_true rfl) ?_
  refine wpM.mono h (fun rr G17 hr => ?_)
  obtain ⟨rfl, h⟩ := hr
  show wp E d M_X3_clear 53 [some (vr _)] [] G17 Q
  refine wp_aload_n (pc := 53) d_X3_clear_53 rfl ?_
  refine wp_iconst (pc := 54) (v := 0) d_X3_clear_54 rfl ?_
  obtain ⟨ho18, h⟩ := h
  refine wp_putI (pc := 55) d_X3_clear_55 fl_X3_64 (fun _ _ _ => rfl) (Or.inl rfl) ho18 (okI_int _) ?_
  refine wp_nm (fun G19 eG19 => ?_)
  have h := h G19 eG19
  have ho20 := isO_sI eG19 ho18
  exact wp_vret (pc := 58) d_X3_clear_58 rfl h
