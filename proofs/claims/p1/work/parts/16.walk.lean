theorem d_X1_init_0 : decode prog_3_method_1_code 0 = .ok (.aload_n 0, 1) := by decide +kernel
theorem d_X1_init_1 : decode prog_3_method_1_code 1 = .ok (.invokespecial 3, 3) := by decide +kernel
theorem d_X1_init_4 : decode prog_3_method_1_code 4 = .ok (.aload_n 0, 1) := by decide +kernel
theorem d_X1_init_5 : decode prog_3_method_1_code 5 = .ok (.bipush 12, 2) := by decide +kernel
theorem d_X1_init_7 : decode prog_3_method_1_code 7 = .ok (.newarray .int, 2) := by decide +kernel
theorem d_X1_init_9 : decode prog_3_method_1_code 9 = .ok (.putfield 9, 3) := by decide +kernel
theorem d_X1_init_12 : decode prog_3_method_1_code 12 = .ok (.aload_n 0, 1) := by decide +kernel
theorem d_X1_init_13 : decode prog_3_method_1_code 13 = .ok (.sipush 288, 3) := by decide +kernel
theorem d_X1_init_16 : decode prog_3_method_1_code 16 = .ok (.newarray .int, 2) := by decide +kernel
theorem d_X1_init_18 : decode prog_3_method_1_code 18 = .ok (.putfield 15, 3) := by decide +kernel
theorem d_X1_init_21 : decode prog_3_method_1_code 21 = .ok (.aload_n 0, 1) := by decide +kernel
theorem d_X1_init_22 : decode prog_3_method_1_code 22 = .ok (.bipush 12, 2) := by decide +kernel
theorem d_X1_init_24 : decode prog_3_method_1_code 24 = .ok (.newarray .int, 2) := by decide +kernel
theorem d_X1_init_26 : decode prog_3_method_1_code 26 = .ok (.putfield 18, 3) := by decide +kernel
theorem d_X1_init_29 : decode prog_3_method_1_code 29 = .ok (.aload_n 0, 1) := by decide +kernel
theorem d_X1_init_30 : decode prog_3_method_1_code 30 = .ok (.bipush 12, 2) := by decide +kernel
theorem d_X1_init_32 : decode prog_3_method_1_code 32 = .ok (.newarray .int, 2) := by decide +kernel
theorem d_X1_init_34 : decode prog_3_method_1_code 34 = .ok (.putfield 21, 3) := by decide +kernel
theorem d_X1_init_37 : decode prog_3_method_1_code 37 = .ok (.aload_n 0, 1) := by decide +kernel
theorem d_X1_init_38 : decode prog_3_method_1_code 38 = .ok (.iconst 0, 1) := by decide +kernel
theorem d_X1_init_39 : decode prog_3_method_1_code 39 = .ok (.putfield 24, 3) := by decide +kernel
theorem d_X1_init_42 : decode prog_3_method_1_code 42 = .ok (.aload_n 0, 1) := by decide +kernel
theorem d_X1_init_43 : decode prog_3_method_1_code 43 = .ok (.iconst 0, 1) := by decide +kernel
theorem d_X1_init_44 : decode prog_3_method_1_code 44 = .ok (.newarray .boolean, 2) := by decide +kernel
theorem d_X1_init_46 : decode prog_3_method_1_code 46 = .ok (.putfield 28, 3) := by decide +kernel
theorem d_X1_init_49 : decode prog_3_method_1_code 49 = .ok (.return_, 1) := by decide +kernel
theorem v_X1_init_0 {E : EE} {d : Nat} {Q : Option AV → AH → Prop} {x0 : Nat} {G : AH} (h0 : 0 < d) (h : isO E G x0 1 ∧ (eB E ≤ gT G ∧ (∀ G6 : AH, G6 = nw G 14 (Int32.toNatClampNeg 12) (Int32.toNatClampNeg 12) → ∀ G10 : AH, G10 = sR G6 x0 0 (gT G) → ∀ G16 : AH, G16 = nw G10 14 (Int32.toNatClampNeg 288) (Int32.toNatClampNeg 288) → ∀ G20 : AH, G20 = sR G16 x0 1 (gT G10) → ∀ G26 : AH, G26 = nw G20 14 (Int32.toNatClampNeg 12) (Int32.toNatClampNeg 12) → ∀ G30 : AH, G30 = sR G26 x0 2 (gT G20) → ∀ G36 : AH, G36 = nw G30 14 (Int32.toNatClampNeg 12) (Int32.toNatClampNeg 12) → ∀ G40 : AH, G40 = sR G36 x0 3 (gT G30) → ∀ G43 : AH, G43 = sI G40 x0 4 0 → ∀ G49 : AH, G49 = nw G43 16 (Int32.toNatClampNeg 0) (Int32.toNatClampNeg 0) → ∀ G53 : AH, G53 = sR G49 x0 5 (gT G43) → Q none G53))) : wp E d M_X1_init 0 [some (vr x0)] [] G Q := by
  refine wp_aload_n (pc := 0) d_X1_init_0 rfl ?_
  obtain ⟨ho1, h⟩ := h
  refine wp_objI (pc := 1) d_X1_init_1 ml_X1_3 in_obj mc_obj h0 ho1 (Nat.le_of_ble_eq_true rfl) ?_
  refine wp_aload_n (pc := 4) d_X1_init_4 rfl ?_
  refine wp_bipush (pc := 5) (v := 12) d_X1_init_5 rfl ?_
  obtain ⟨hb2, h⟩ := h
  refine wp_newa (pc := 7) (t0 := 1) (kd := 14) d_X1_init_7 rfl (fun _ q => by cases q) ac_int (by decide) (fun _ => rfl) rfl (by decide) (by decide) (by decide) ?_
  refine wp_nm (fun G6 eG6 => ?_)
  have h := h G6 eG6
  have ho7 := isO_nwE eG6 ho1
  have hb8 := base_nwE eG6 hb2
  have ho9 := isO_newE eG6 hb2
  refine wp_putR (pc := 9) d_X1_init_9 fl_X1_9 (fun _ _ _ => rfl) (Or.inr ⟨_, rfl⟩) (Or.inr ⟨rfl, rfl, rfl⟩) ho7 ?_
  refine wp_nm (fun G10 eG10 => ?_)
  have h := h G10 eG10
  have ho11 := isO_sR eG10 ho7
  have hb12 := base_sR eG10 hb8
  refine wp_aload_n (pc := 12) d_X1_init_12 rfl ?_
  refine wp_sipush (pc := 13) (v := 288) d_X1_init_13 rfl ?_
  refine wp_newa (pc := 16) (t0 := 1) (kd := 14) d_X1_init_16 rfl (fun _ q => by cases q) ac_int (by decide) (fun _ => rfl) rfl (by decide) (by decide) (by decide) ?_
  refine wp_nm (fun G16 eG16 => ?_)
  have h := h G16 eG16
  have ho17 := isO_nwE eG16 ho11
  have hb18 := base_nwE eG16 hb12
  have ho19 := isO_newE eG16 hb12
  refine wp_putR (pc := 18) d_X1_init_18 fl_X1_15 (fun _ _ _ => rfl) (Or.inr ⟨_, rfl⟩) (Or.inr ⟨rfl, rfl, rfl⟩) ho17 ?_
  refine wp_nm (fun G20 eG20 => ?_)
  have h := h G20 eG20
  have ho21 := isO_sR eG20 ho17
  have hb22 := base_sR eG20 hb18
  refine wp_aload_n (pc := 21) d_X1_init_21 rfl ?_
  refine wp_bipush (pc := 22) (v := 12) d_X1_init_22 rfl ?_
  refine wp_newa (pc := 24) (t0 := 1) (kd := 14) d_X1_init_24 rfl (fun _ q => by cases q) ac_int (by decide) (fun _ => rfl) rfl (by decide) (by decide) (by decide) ?_
  refine wp_nm (fun G26 eG26 => ?_)
  have h := h G26 eG26
  have ho27 := isO_nwE eG26 ho21
  have hb28 := base_nwE eG26 hb22
  have ho29 := isO_newE eG26 hb22
  refine wp_putR (pc := 26) d_X1_init_26 fl_X1_18 (fun _ _ _ => rfl) (Or.inr ⟨_, rfl⟩) (Or.inr ⟨rfl, rfl, rfl⟩) ho27 ?_
  refine wp_nm (fun G30 eG30 => ?_)
  have h := h G30 eG30
  have ho31 := isO_sR eG30 ho27
  have hb32 := base_sR eG30 hb28
  refine wp_aload_n (pc := 29) d_X1_init_29 rfl ?_
  refine wp_bipush (pc := 30) (v := 12) d_X1_init_30 rfl ?_
  refine wp_newa (pc := 32) (t0 := 1) (kd := 14) d_X1_init_32 rfl (fun _ q => by cases q) ac_int (by decide) (fun _ => rfl) rfl (by decide) (by decide) (by decide) ?_
  refine wp_nm (fun G36 eG36 => ?_)
  have h := h G36 eG36
  have ho37 := isO_nwE eG36 ho31
  have hb38 := base_nwE eG36 hb32
  have ho39 := isO_newE eG36 hb32
  refine wp_putR (pc := 34) d_X1_init_34 fl_X1_21 (fun _ _ _ => rfl) (Or.inr ⟨_, rfl⟩) (Or.inr ⟨rfl, rfl, rfl⟩) ho37 ?_
  refine wp_nm (fun G40 eG40 => ?_)
  have h := h G40 eG40
  have ho41 := isO_sR eG40 ho37
  have hb42 := base_sR eG40 hb38
  refine wp_aload_n (pc := 37) d_X1_init_37 rfl ?_
  refine wp_iconst (pc := 38) (v := 0) d_X1_init_38 rfl ?_
  refine wp_putI (pc := 39) d_X1_init_39 fl_X1_24 (fun _ _ _ => rfl) (Or.inl rfl) ho41 (okI_int _) ?_
  refine wp_nm (fun G43 eG43 => ?_)
  have h := h G43 eG43
  have ho44 := isO_sI eG43 ho41
  have hb45 := base_sI eG43 hb42
  refine wp_aload_n (pc := 42) d_X1_init_42 rfl ?_
  refine wp_iconst (pc := 43) (v := 0) d_X1_init_43 rfl ?_
  refine wp_newa (pc := 44) (t0 := 3) (kd := 16) d_X1_init_44 rfl (fun _ q => by cases q) ac_boolean (by decide) (fun _ => rfl) rfl (by decide) (by decide) (by decide) ?_
  refine wp_nm (fun G49 eG49 => ?_)
  have h := h G49 eG49
  have ho50 := isO_nwE eG49 ho44
  have hb51 := base_nwE eG49 hb45
  have ho52 := isO_newE eG49 hb45
  refine wp_putR (pc := 46) d_X1_init_46 fl_X1_28 (fun _ _ _ => rfl) (Or.inr ⟨_, rfl⟩) (Or.inl rfl) ho50 ?_
  refine wp_nm (fun G53 eG53 => ?_)
  have h := h G53 eG53
  have ho54 := isO_sR eG53 ho50
  have hb55 := base_sR eG53 hb51
  exact wp_vret (pc := 49) d_X1_init_49 rfl h
theorem d_X6_init_0 : decode prog_8_method_1_code 0 = .ok (.aload_n 0, 1) := by decide +kernel
theorem d_X6_init_1 : decode prog_8_method_1_code 1 = .ok (.invokespecial 3, 3) := by decide +kernel
theorem d_X6_init_4 : decode prog_8_method_1_code 4 = .ok (.aload_n 0, 1) := by decide +kernel
theorem d_X6_init_5 : decode prog_8_method_1_code 5 = .ok (.iconst 0, 1) := by decide +kernel
theorem d_X6_init_6 : decode prog_8_method_1_code 6 = .ok (.putfield 9, 3) := by decide +kernel
theorem d_X6_init_9 : decode prog_8_method_1_code 9 = .ok (.aload_n 0, 1) := by decide +kernel
theorem d_X6_init_10 : decode prog_8_method_1_code 10 = .ok (.iconst 1, 1) := by decide +kernel
theorem d_X6_init_11 : decode prog_8_method_1_code 11 = .ok (.putfield 15, 3) := by decide +kernel
theorem d_X6_init_14 : decode prog_8_method_1_code 14 = .ok (.aload_n 0, 1) := by decide +kernel
theorem d_X6_init_15 : decode prog_8_method_1_code 15 = .ok (.iconst 0, 1) := by decide +kernel
theorem d_X6_init_16 : decode prog_8_method_1_code 16 = .ok (.putfield 19, 3) := by decide +kernel
theorem d_X6_init_19 : decode prog_8_method_1_code 19 = .ok (.aload_n 0, 1) := by decide +kernel
theorem d_X6_init_20 : decode prog_8_method_1_code 20 = .ok (.iconst (-1), 1) := by decide +kernel
theorem d_X6_init_21 : decode prog_8_method_1_code 21 = .ok (.putfield 22, 3) := by decide +kernel
theorem d_X6_init_24 : decode prog_8_method_1_code 24 = .ok (.aload_n 0, 1) := by decide +kernel
theorem d_X6_init_25 : decode prog_8_method_1_code 25 = .ok (.bipush 12, 2) := by decide +kernel
theorem d_X6_init_27 : decode prog_8_method_1_code 27 = .ok (.newarray .int, 2) := by decide +kernel
theorem d_X6_init_29 : decode prog_8_method_1_code 29 = .ok (.putfield 25, 3) := by decide +kernel
theorem d_X6_init_32 : decode prog_8_method_1_code 32 = .ok (.aload_n 0, 1) := by decide +kernel
theorem d_X6_init_33 : decode prog_8_method_1_code 33 = .ok (.iconst 0, 1) := by decide +kernel
theorem d_X6_init_34 : decode prog_8_method_1_code 34 = .ok (.putfield 29, 3) := by decide +kernel
theorem d_X6_init_37 : decode prog_8_method_1_code 37 = .ok (.aload_n 0, 1) := by decide +kernel
theorem d_X6_init_38 : decode prog_8_method_1_code 38 = .ok (.bipush 20, 2) := by decide +kernel
theorem d_X6_init_40 : decode prog_8_method_1_code 40 = .ok (.newarray .int, 2) := by decide +kernel
theorem d_X6_init_42 : decode prog_8_method_1_code 42 = .ok (.putfield 32, 3) := by decide +kernel
theorem d_X6_init_45 : decode prog_8_method_1_code 45 = .ok (.aload_n 0, 1) := by decide +kernel
theorem d_X6_init_46 : decode prog_8_method_1_code 46 = .ok (.bipush 12, 2) := by decide +kernel
theorem d_X6_init_48 : decode prog_8_method_1_code 48 = .ok (.newarray .int, 2) := by decide +kernel
theorem d_X6_init_50 : decode prog_8_method_1_code 50 = .ok (.putfield 35, 3) := by decide +kernel
theorem d_X6_init_53 : decode prog_8_method_1_code 53 = .ok (.aload_n 0, 1) := by decide +kernel
theorem d_X6_init_54 : decode prog_8_method_1_code 54 = .ok (.iconst 0, 1) := by decide +kernel
theorem d_X6_init_55 : decode prog_8_method_1_code 55 = .ok (.putfield 38, 3) := by decide +kernel
theorem d_X6_init_58 : decode prog_8_method_1_code 58 = .ok (.aload_n 0, 1) := by decide +kernel
theorem d_X6_init_59 : decode prog_8_method_1_code 59 = .ok (.iconst 0, 1) := by decide +kernel
theorem d_X6_init_60 : decode prog_8_method_1_code 60 = .ok (.putfield 41, 3) := by decide +kernel
theorem d_X6_init_63 : decode prog_8_method_1_code 63 = .ok (.aload_n 0, 1) := by decide +kernel
theorem d_X6_init_64 : decode prog_8_method_1_code 64 = .ok (.iconst 0, 1) := by decide +kernel
theorem d_X6_init_65 : decode prog_8_method_1_code 65 = .ok (.putfield 44, 3) := by decide +kernel
theorem d_X6_init_68 : decode prog_8_method_1_code 68 = .ok (.aload_n 0, 1) := by decide +kernel
theorem d_X6_init_69 : decode prog_8_method_1_code 69 = .ok (.iconst 0, 1) := by decide +kernel
theorem d_X6_init_70 : decode prog_8_method_1_code 70 = .ok (.putfield 47, 3) := by decide +kernel
theorem d_X6_init_73 : decode prog_8_method_1_code 73 = .ok (.aload_n 0, 1) := by decide +kernel
theorem d_X6_init_74 : decode prog_8_method_1_code 74 = .ok (.iconst 0, 1) := by decide +kernel
theorem d_X6_init_75 : decode prog_8_method_1_code 75 = .ok (.putfield 50, 3) := by decide +kernel
theorem d_X6_init_78 : decode prog_8_method_1_code 78 = .ok (.aload_n 0, 1) := by decide +kernel
theorem d_X6_init_79 : decode prog_8_method_1_code 79 = .ok (.iconst 0, 1) := by decide +kernel
theorem d_X6_init_80 : decode prog_8_method_1_code 80 = .ok (.putfield 53, 3) := by decide +kernel
theorem d_X6_init_83 : decode prog_8_method_1_code 83 = .ok (.return_, 1) := by decide +kernel
theorem v_X6_init_0 {E : EE} {d : Nat} {Q : Option AV → AH → Prop} {x0 : Nat} {G : AH} (h0 : 0 < d) (h : isO E G x0 6 ∧ (∀ G2 : AH, G2 = sI G x0 0 0 → ∀ G4 : AH, G4 = sI G2 x0 1 1 → ∀ G6 : AH, G6 = sI G4 x0 2 0 → ∀ G8 : AH, G8 = sI G6 x0 3 (-1) → eB E ≤ gT G8 ∧ (∀ G14 : AH, G14 = nw G8 14 (Int32.toNatClampNeg 12) (Int32.toNatClampNeg 12) → ∀ G18 : AH, G18 = sR G14 x0 4 (gT G8) → ∀ G21 : AH, G21 = sI G18 x0 5 0 → ∀ G27 : AH, G27 = nw G21 14 (Int32.toNatClampNeg 20) (Int32.toNatClampNeg 20) → ∀ G31 : AH, G31 = sR G27 x0 6 (gT G21) → ∀ G37 : AH, G37 = nw G31 14 (Int32.toNatClampNeg 12) (Int32.toNatClampNeg 12) → ∀ G41 : AH, G41 = sR G37 x0 7 (gT G31) → ∀ G44 : AH, G44 = sI G41 x0 8 0 → ∀ G47 : AH, G47 = sI G44 x0 9 0 → ∀ G50 : AH, G50 = sI G47 x0 10 0 → ∀ G53 : AH, G53 = sI G50 x0 11 0 → ∀ G56 : AH, G56 = sI G53 x0 12 0 → ∀ G59 : AH, G59 = sI G56 x0 13 0 → Q none G59))) : wp E d M_X6_init 0 [some (vr x0)] [] G Q := by
  refine wp_aload_n (pc := 0) d_X6_init_0 rfl ?_
  obtain ⟨ho1, h⟩ := h
  refine wp_objI (pc := 1) d_X6_init_1 ml_X6_3 in_obj mc_obj h0 ho1 (Nat.le_of_ble_eq_true rfl) ?_
  refine wp_aload_n (pc := 4) d_X6_init_4 rfl ?_
  refine wp_iconst (pc := 5) (v := 0) d_X6_init_5 rfl ?_
  refine wp_putI (pc := 6) d_X6_init_6 fl_X6_9 (fun _ _ _ => rfl) (Or.inl rfl) ho1 okI_z0 ?_
  refine wp_nm (fun G2 eG2 => ?_)
  have h := h G2 eG2
  have ho3 := isO_sI eG2 ho1
  refine wp_aload_n (pc := 9) d_X6_init_9 rfl ?_
  refine wp_iconst (pc := 10) (v := 1) d_X6_init_10 rfl ?_
  refine wp_putI (pc := 11) d_X6_init_11 fl_X6_15 (fun _ _ _ => rfl) (Or.inl rfl) ho3 (okI_int _) ?_
  refine wp_nm (fun G4 eG4 => ?_)
  have h := h G4 eG4
  have ho5 := isO_sI eG4 ho3
  refine wp_aload_n (pc := 14) d_X6_init_14 rfl ?_
  refine wp_iconst (pc := 15) (v := 0) d_X6_init_15 rfl ?_
  refine wp_putI (pc := 16) d_X6_init_16 fl_X6_19 (fun _ _ _ => rfl) (Or.inl rfl) ho5 (okI_int _) ?_
  refine wp_nm (fun G6 eG6 => ?_)
  have h := h G6 eG6
  have ho7 := isO_sI eG6 ho5
  refine wp_aload_n (pc := 19) d_X6_init_19 rfl ?_
  refine wp_iconst (pc := 20) (v := (-1)) d_X6_init_20 rfl ?_
  refine wp_putI (pc := 21) d_X6_init_21 fl_X6_22 (fun _ _ _ => rfl) (Or.inl rfl) ho7 (okI_int _) ?_
  refine wp_nm (fun G8 eG8 => ?_)
  have h := h G8 eG8
  have ho9 := isO_sI eG8 ho7
  refine wp_aload_n (pc := 24) d_X6_init_24 rfl ?_
  refine wp_bipush (pc := 25) (v := 12) d_X6_init_25 rfl ?_
  obtain ⟨hb10, h⟩ := h
  refine wp_newa (pc := 27) (t0 := 1) (kd := 14) d_X6_init_27 rfl (fun _ q => by cases q) ac_int (by decide) (fun _ => rfl) rfl (by decide) (by decide) (by decide) ?_
  refine wp_nm (fun G14 eG14 => ?_)
  have h := h G14 eG14
  have ho15 := isO_nwE eG14 ho9
  have hb16 := base_nwE eG14 hb10
  have ho17 := isO_newE eG14 hb10
  refine wp_putR (pc := 29) d_X6_init_29 fl_X6_25 (fun _ _ _ => rfl) (Or.inr ⟨_, rfl⟩) (Or.inr ⟨rfl, rfl, rfl⟩) ho15 ?_
  refine wp_nm (fun G18 eG18 => ?_)
  have h := h G18 eG18
  have ho19 := isO_sR eG18 ho15
  have hb20 := base_sR eG18 hb16
  refine wp_aload_n (pc := 32) d_X6_init_32 rfl ?_
  refine wp_iconst (pc := 33) (v := 0) d_X6_init_33 rfl ?_
  refine wp_putI (pc := 34) d_X6_init_34 fl_X6_29 (fun _ _ _ => rfl) (Or.inl rfl) ho19 (okI_int _) ?_
  refine wp_nm (fun G21 eG21 => ?_)
  have h := h G21 eG21
  have ho22 := isO_sI eG21 ho19
  have hb23 := base_sI eG21 hb20
  refine wp_aload_n (pc := 37) d_X6_init_37 rfl ?_
  refine wp_bipush (pc := 38) (v := 20) d_X6_init_38 rfl ?_
  refine wp_newa (pc := 40) (t0 := 1) (kd := 14) d_X6_init_40 rfl (fun _ q => by cases q) ac_int (by decide) (fun _ => rfl) rfl (by decide) (by decide) (by decide) ?_
  refine wp_nm (fun G27 eG27 => ?_)
  have h := h G27 eG27
  have ho28 := isO_nwE eG27 ho22
  have hb29 := base_nwE eG27 hb23
  have ho30 := isO_newE eG27 hb23
  refine wp_putR (pc := 42) d_X6_init_42 fl_X6_32 (fun _ _ _ => rfl) (Or.inr ⟨_, rfl⟩) (Or.inr ⟨rfl, rfl, rfl⟩) ho28 ?_
  refine wp_nm (fun G31 eG31 => ?_)
  have h := h G31 eG31
  have ho32 := isO_sR eG31 ho28
  have hb33 := base_sR eG31 hb29
  refine wp_aload_n (pc := 45) d_X6_init_45 rfl ?_
  refine wp_bipush (pc := 46) (v := 12) d_X6_init_46 rfl ?_
  refine wp_newa (pc := 48) (t0 := 1) (kd := 14) d_X6_init_48 rfl (fun _ q => by cases q) ac_int (by decide) (fun _ => rfl) rfl (by decide) (by decide) (by decide) ?_
  refine wp_nm (fun G37 eG37 => ?_)
  have h := h G37 eG37
  have ho38 := isO_nwE eG37 ho32
  have hb39 := base_nwE eG37 hb33
  have ho40 := isO_newE eG37 hb33
  refine wp_putR (pc := 50) d_X6_init_50 fl_X6_35 (fun _ _ _ => rfl) (Or.inr ⟨_, rfl⟩) (Or.inr ⟨rfl, rfl, rfl⟩) ho38 ?_
  refine wp_nm (fun G41 eG41 => ?_)
  have h := h G41 eG41
  have ho42 := isO_sR eG41 ho38
  have hb43 := base_sR eG41 hb39
  refine wp_aload_n (pc := 53) d_X6_init_53 rfl ?_
  refine wp_iconst (pc := 54) (v := 0) d_X6_init_54 rfl ?_
  refine wp_putI (pc := 55) d_X6_init_55 fl_X6_38 (fun _ _ _ => rfl) (Or.inl rfl) ho42 (okI_int _) ?_
  refine wp_nm (fun G44 eG44 => ?_)
  have h := h G44 eG44
  have ho45 := isO_sI eG44 ho42
  have hb46 := base_sI eG44 hb43
  refine wp_aload_n (pc := 58) d_X6_init_58 rfl ?_
  refine wp_iconst (pc := 59) (v := 0) d_X6_init_59 rfl ?_
  refine wp_putI (pc := 60) d_X6_init_60 fl_X6_41 (fun _ _ _ => rfl) (Or.inl rfl) ho45 (okI_int _) ?_
  refine wp_nm (fun G47 eG47 => ?_)
  have h := h G47 eG47
  have ho48 := isO_sI eG47 ho45
  have hb49 := base_sI eG47 hb46
  refine wp_aload_n (pc := 63) d_X6_init_63 rfl ?_
  refine wp_iconst (pc := 64) (v := 0) d_X6_init_64 rfl ?_
  refine wp_putI (pc := 65) d_X6_init_65 fl_X6_44 (fun _ _ _ => rfl) (Or.inl rfl) ho48 (okI_int _) ?_
  refine wp_nm (fun G50 eG50 => ?_)
  have h := h G50 eG50
  have ho51 := isO_sI eG50 ho48
  have hb52 := base_sI eG50 hb49
  refine wp_aload_n (pc := 68) d_X6_init_68 rfl ?_
  refine wp_iconst (pc := 69) (v := 0) d_X6_init_69 rfl ?_
  refine wp_putI (pc := 70) d_X6_init_70 fl_X6_47 (fun _ _ _ => rfl) (Or.inl rfl) ho51 (okI_int _) ?_
  refine wp_nm (fun G53 eG53 => ?_)
  have h := h G53 eG53
  have ho54 := isO_sI eG53 ho51
  have hb55 := base_sI eG53 hb52
  refine wp_aload_n (pc := 73) d_X6_init_73 rfl ?_
  refine wp_iconst (pc := 74) (v := 0) d_X6_init_74 rfl ?_
  refine wp_putI (pc := 75) d_X6_init_75 fl_X6_50 (fun _ _ _ => rfl) (Or.inl rfl) ho54 (okI_int _) ?_
  refine wp_nm (fun G56 eG56 => ?_)
  have h := h G56 eG56
  have ho57 := isO_sI eG56 ho54
  have hb58 := base_sI eG56 hb55
  refine wp_aload_n (pc := 78) d_X6_init_78 rfl ?_
  refine wp_iconst (pc := 79) (v := 0) d_X6_init_79 rfl ?_
  refine wp_putI (pc := 80) d_X6_init_80 fl_X6_53 (fun _ _ _ => rfl) (Or.inl rfl) ho57 (okI_int _) ?_
  refine wp_nm (fun G59 eG59 => ?_)
  have h := h G59 eG59
  have ho60 := isO_sI eG59 ho57
  have hb61 := base_sI eG59 hb58
  exact wp_vret (pc := 83) d_X6_init_83 rfl h
