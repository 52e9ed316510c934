theorem d_X11_init_0 : decode prog_1_method_1_code 0 = .ok (.aload_n 0, 1) := by decide +kernel
theorem d_X11_init_1 : decode prog_1_method_1_code 1 = .ok (.invokespecial 3, 3) := by decide +kernel
theorem d_X11_init_4 : decode prog_1_method_1_code 4 = .ok (.aload_n 0, 1) := by decide +kernel
theorem d_X11_init_5 : decode prog_1_method_1_code 5 = .ok (.new 9, 3) := by decide +kernel
theorem d_X11_init_8 : decode prog_1_method_1_code 8 = .ok (.dup, 1) := by decide +kernel
theorem d_X11_init_9 : decode prog_1_method_1_code 9 = .ok (.invokespecial 11, 3) := by decide +kernel
theorem d_X11_init_12 : decode prog_1_method_1_code 12 = .ok (.putfield 12, 3) := by decide +kernel
theorem d_X11_init_15 : decode prog_1_method_1_code 15 = .ok (.aload_n 0, 1) := by decide +kernel
theorem d_X11_init_16 : decode prog_1_method_1_code 16 = .ok (.new 18, 3) := by decide +kernel
theorem d_X11_init_19 : decode prog_1_method_1_code 19 = .ok (.dup, 1) := by decide +kernel
theorem d_X11_init_20 : decode prog_1_method_1_code 20 = .ok (.invokespecial 20, 3) := by decide +kernel
theorem d_X11_init_23 : decode prog_1_method_1_code 23 = .ok (.putfield 21, 3) := by decide +kernel
theorem d_X11_init_26 : decode prog_1_method_1_code 26 = .ok (.aload_n 0, 1) := by decide +kernel
theorem d_X11_init_27 : decode prog_1_method_1_code 27 = .ok (.new 25, 3) := by decide +kernel
theorem d_X11_init_30 : decode prog_1_method_1_code 30 = .ok (.dup, 1) := by decide +kernel
theorem d_X11_init_31 : decode prog_1_method_1_code 31 = .ok (.aload_n 0, 1) := by decide +kernel
theorem d_X11_init_32 : decode prog_1_method_1_code 32 = .ok (.getfield 21, 3) := by decide +kernel
theorem d_X11_init_35 : decode prog_1_method_1_code 35 = .ok (.invokespecial 27, 3) := by decide +kernel
theorem d_X11_init_38 : decode prog_1_method_1_code 38 = .ok (.putfield 30, 3) := by decide +kernel
theorem d_X11_init_41 : decode prog_1_method_1_code 41 = .ok (.aload_n 0, 1) := by decide +kernel
theorem d_X11_init_42 : decode prog_1_method_1_code 42 = .ok (.iconst 4, 1) := by decide +kernel
theorem d_X11_init_43 : decode prog_1_method_1_code 43 = .ok (.anewarray 34, 3) := by decide +kernel
theorem d_X11_init_46 : decode prog_1_method_1_code 46 = .ok (.putfield 36, 3) := by decide +kernel
theorem d_X11_init_49 : decode prog_1_method_1_code 49 = .ok (.aload_n 0, 1) := by decide +kernel
theorem d_X11_init_50 : decode prog_1_method_1_code 50 = .ok (.new 40, 3) := by decide +kernel
theorem d_X11_init_53 : decode prog_1_method_1_code 53 = .ok (.dup, 1) := by decide +kernel
theorem d_X11_init_54 : decode prog_1_method_1_code 54 = .ok (.invokespecial 42, 3) := by decide +kernel
theorem d_X11_init_57 : decode prog_1_method_1_code 57 = .ok (.putfield 43, 3) := by decide +kernel
theorem d_X11_init_60 : decode prog_1_method_1_code 60 = .ok (.aload_n 0, 1) := by decide +kernel
theorem d_X11_init_61 : decode prog_1_method_1_code 61 = .ok (.new 47, 3) := by decide +kernel
theorem d_X11_init_64 : decode prog_1_method_1_code 64 = .ok (.dup, 1) := by decide +kernel
theorem d_X11_init_65 : decode prog_1_method_1_code 65 = .ok (.invokespecial 49, 3) := by decide +kernel
theorem d_X11_init_68 : decode prog_1_method_1_code 68 = .ok (.putfield 50, 3) := by decide +kernel
theorem d_X11_init_71 : decode prog_1_method_1_code 71 = .ok (.aload_n 0, 1) := by decide +kernel
theorem d_X11_init_72 : decode prog_1_method_1_code 72 = .ok (.new 54, 3) := by decide +kernel
theorem d_X11_init_75 : decode prog_1_method_1_code 75 = .ok (.dup, 1) := by decide +kernel
theorem d_X11_init_76 : decode prog_1_method_1_code 76 = .ok (.aload_n 0, 1) := by decide +kernel
theorem d_X11_init_77 : decode prog_1_method_1_code 77 = .ok (.getfield 21, 3) := by decide +kernel
theorem d_X11_init_80 : decode prog_1_method_1_code 80 = .ok (.invokespecial 56, 3) := by decide +kernel
theorem d_X11_init_83 : decode prog_1_method_1_code 83 = .ok (.putfield 57, 3) := by decide +kernel
theorem d_X11_init_86 : decode prog_1_method_1_code 86 = .ok (.aload_n 0, 1) := by decide +kernel
theorem d_X11_init_87 : decode prog_1_method_1_code 87 = .ok (.new 61, 3) := by decide +kernel
theorem d_X11_init_90 : decode prog_1_method_1_code 90 = .ok (.dup, 1) := by decide +kernel
theorem d_X11_init_91 : decode prog_1_method_1_code 91 = .ok (.invokespecial 63, 3) := by decide +kernel
theorem d_X11_init_94 : decode prog_1_method_1_code 94 = .ok (.putfield 64, 3) := by decide +kernel
theorem d_X11_init_97 : decode prog_1_method_1_code 97 = .ok (.aload_n 0, 1) := by decide +kernel
theorem d_X11_init_98 : decode prog_1_method_1_code 98 = .ok (.aconst_null, 1) := by decide +kernel
theorem d_X11_init_99 : decode prog_1_method_1_code 99 = .ok (.putfield 68, 3) := by decide +kernel
theorem d_X11_init_102 : decode prog_1_method_1_code 102 = .ok (.aload_n 0, 1) := by decide +kernel
theorem d_X11_init_103 : decode prog_1_method_1_code 103 = .ok (.iconst 0, 1) := by decide +kernel
theorem d_X11_init_104 : decode prog_1_method_1_code 104 = .ok (.putfield 72, 3) := by decide +kernel
theorem d_X11_init_107 : decode prog_1_method_1_code 107 = .ok (.aload_n 0, 1) := by decide +kernel
theorem d_X11_init_108 : decode prog_1_method_1_code 108 = .ok (.lconst 0, 1) := by decide +kernel
theorem d_X11_init_109 : decode prog_1_method_1_code 109 = .ok (.putfield 76, 3) := by decide +kernel
theorem d_X11_init_112 : decode prog_1_method_1_code 112 = .ok (.aload_n 0, 1) := by decide +kernel
theorem d_X11_init_113 : decode prog_1_method_1_code 113 = .ok (.lconst 1, 1) := by decide +kernel
theorem d_X11_init_114 : decode prog_1_method_1_code 114 = .ok (.putfield 80, 3) := by decide +kernel
theorem d_X11_init_117 : decode prog_1_method_1_code 117 = .ok (.return_, 1) := by decide +kernel
theorem v_X11_init_0 {E : EE} {d : Nat} {Q : Option AV → AH → Prop} {x0 : Nat} {G : AH} (h0 : 0 < d) (h : isO E G x0 11 ∧ (eB E ≤ gT G ∧ (∀ G6 : AH, G6 = nw G 0 0 2 → wpV E (d - 1) M_X0_init [vr (gT G)] G6 (fun G10 => isO E G10 x0 11 ∧ (∀ G12 : AH, G12 = sR G10 x0 0 (gT G) → eB E ≤ gT G12 ∧ (∀ G18 : AH, G18 = nw G12 10 0 12 → wpV E (d - 1) M_X10_init [vr (gT G12)] G18 (fun G22 => isO E G22 x0 11 ∧ (∀ G24 : AH, G24 = sR G22 x0 1 (gT G12) → eB E ≤ gT G24 ∧ (∀ G30 : AH, G30 = nw G24 5 0 11 → wpV E (d - 1) M_X5_init [vr (gT G24), vr (gR G30 x0 1)] G30 (fun G34 => isO E G34 x0 11 ∧ (∀ G36 : AH, G36 = sR G34 x0 2 (gT G24) → eB E ≤ gT G36 ∧ (∀ G42 : AH, G42 = nw G36 17 (Int32.toNatClampNeg 4) (Int32.toNatClampNeg 4) → ∀ G46 : AH, G46 = sR G42 x0 3 (gT G36) → ∀ G52 : AH, G52 = nw G46 1 0 6 → wpV E (d - 1) M_X1_init [vr (gT G46)] G52 (fun G56 => isO E G56 x0 11 ∧ (∀ G58 : AH, G58 = sR G56 x0 4 (gT G46) → eB E ≤ gT G58 ∧ (∀ G64 : AH, G64 = nw G58 6 0 14 → wpV E (d - 1) M_X6_init [vr (gT G58)] G64 (fun G68 => isO E G68 x0 11 ∧ (∀ G70 : AH, G70 = sR G68 x0 5 (gT G58) → eB E ≤ gT G70 ∧ (∀ G76 : AH, G76 = nw G70 4 0 3 → wpV E (d - 1) M_X4_init [vr (gT G70), vr (gR G76 x0 1)] G76 (fun G80 => isO E G80 x0 11 ∧ (∀ G82 : AH, G82 = sR G80 x0 6 (gT G70) → eB E ≤ gT G82 ∧ (∀ G88 : AH, G88 = nw G82 8 0 5 → wpV E (d - 1) M_X8_init [vr (gT G82)] G88 (fun G92 => isO E G92 x0 11 ∧ (∀ G94 : AH, G94 = sR G92 x0 7 (gT G82) → ∀ G96 : AH, G96 = sR G94 x0 8 0 → ∀ G98 : AH, G98 = sI G96 x0 9 0 → ∀ G100 : AH, G100 = sJ G98 x0 10 0 → ∀ G102 : AH, G102 = sJ G100 x0 11 1 → Q none G102))))))))))))))))))))))) : wp E d M_X11_init 0 [some (vr x0)] [] G Q := by
  refine wp_aload_n (pc := 0) d_X11_init_0 rfl ?_
  obtain ⟨ho1, h⟩ := h
  refine wp_objI (pc := 1) d_X11_init_1 ml_X11_3 in_obj mc_obj h0 ho1 (Nat.le_of_ble_eq_true rfl) ?_
  refine wp_aload_n (pc := 4) d_X11_init_4 rfl ?_
  obtain ⟨hb2, h⟩ := h
  refine wp_new (pc := 5) (c := 0) (r := (cn_0, ct_0, 2)) d_X11_init_5 rfl cx_X11_9 it_0 ii_0 ?_
  refine wp_nm (fun G6 eG6 => ?_)
  have h := h G6 eG6
  have ho7 := isO_nwE eG6 ho1
  have hb8 := base_nwE eG6 hb2
  have ho9 := isO_newE eG6 hb2
  refine wp_dup (pc := 8) d_X11_init_8 (c1_r _) ?_
  refine wp_invI (pc := 9) (N := M_X0_init) (As := []) (rest := [vr _, vr _]) d_X11_init_9 ml_X11_11 mk_X0_init mi_X0_init h0 ho9 (Nat.le_of_ble_eq_true rfl) ?_
  refine wpM.mono h (fun rr G10 hr => ?_)
  obtain ⟨rfl, h⟩ := hr
  show wp E d M_X11_init 12 [some (vr _)] [vr _, vr _] G10 Q
  obtain ⟨ho11, h⟩ := h
  refine wp_putR (pc := 12) d_X11_init_12 fl_X11_12 (fun _ _ _ => rfl) (Or.inl ⟨_, rfl⟩) (Or.inr ⟨rfl, rfl, rfl⟩) ho11 ?_
  refine wp_nm (fun G12 eG12 => ?_)
  have h := h G12 eG12
  have ho13 := isO_sR eG12 ho11
  refine wp_aload_n (pc := 15) d_X11_init_15 rfl ?_
  obtain ⟨hb14, h⟩ := h
  refine wp_new (pc := 16) (c := 10) (r := (cn_10, ct_10, 12)) d_X11_init_16 rfl cx_X11_18 it_10 ii_10 ?_
  refine wp_nm (fun G18 eG18 => ?_)
  have h := h G18 eG18
  have ho19 := isO_nwE eG18 ho13
  have hb20 := base_nwE eG18 hb14
  have ho21 := isO_newE eG18 hb14
  refine wp_dup (pc := 19) d_X11_init_19 (c1_r _) ?_
  refine wp_invI (pc := 20) (N := M_X10_init) (As := []) (rest := [vr _, vr _]) d_X11_init_20 ml_X11_20 mk_X10_init mi_X10_init h0 ho21 (Nat.le_of_ble_eq_true rfl) ?_
  refine wpM.mono h (fun rr G22 hr => ?_)
  obtain ⟨rfl, h⟩ := hr
  show wp E d M_X11_init 23 [some (vr _)] [vr _, vr _] G22 Q
  obtain ⟨ho23, h⟩ := h
  refine wp_putR (pc := 23) d_X11_init_23 fl_X11_21 (fun _ _ _ => rfl) (Or.inl ⟨_, rfl⟩) (Or.inr ⟨rfl, rfl, rfl⟩) ho23 ?_
  refine wp_nm (fun G24 eG24 => ?_)
  have h := h G24 eG24
  have ho25 := isO_sR eG24 ho23
  refine wp_aload_n (pc := 26) d_X11_init_26 rfl ?_
  obtain ⟨hb26, h⟩ := h
  refine wp_new (pc := 27) (c := 5) (r := (cn_5, ct_5, 11)) d_X11_init_27 rfl cx_X11_25 it_5 ii_5 ?_
  refine wp_nm (fun G30 eG30 => ?_)
  have h := h G30 eG30
  have ho31 := isO_nwE eG30 ho25
  have hb32 := base_nwE eG30 hb26
  have ho33 := isO_newE eG30 hb26
  refine wp_dup (pc := 30) d_X11_init_30 (c1_r _) ?_
  refine wp_aload_n (pc := 31) d_X11_init_31 rfl ?_
  refine wp_getR (pc := 32) d_X11_init_32 fl_X11_21 (fun _ _ _ => rfl) ho31 ?_
  refine wp_invI (pc := 35) (N := M_X5_init) (As := [vr _]) (rest := [vr _, vr _]) d_X11_init_35 ml_X11_27 mk_X5_init mi_X5_init h0 ho33 (Nat.le_of_ble_eq_true rfl) ?_
  refine wpM.mono h (fun rr G34 hr => ?_)
  obtain ⟨rfl, h⟩ := hr
  show wp E d M_X11_init 38 [some (vr _)] [vr _, vr _] G34 Q
  obtain ⟨ho35, h⟩ := h
  refine wp_putR (pc := 38) d_X11_init_38 fl_X11_30 (fun _ _ _ => rfl) (Or.inl ⟨_, rfl⟩) (Or.inr ⟨rfl, rfl, rfl⟩) ho35 ?_
  refine wp_nm (fun G36 eG36 => ?_)
  have h := h G36 eG36
  have ho37 := isO_sR eG36 ho35
  refine wp_aload_n (pc := 41) d_X11_init_41 rfl ?_
  refine wp_iconst (pc := 42) (v := 4) d_X11_init_42 rfl ?_
  obtain ⟨hb38, h⟩ := h
  refine wp_anew (pc := 43) d_X11_init_43 cx_X11_34 (by decide) (by decide) ?_
  refine wp_nm (fun G42 eG42 => ?_)
  have h := h G42 eG42
  have ho43 := isO_nwE eG42 ho37
  have hb44 := base_nwE eG42 hb38
  have ho45 := isO_newE eG42 hb38
  refine wp_putR (pc := 46) d_X11_init_46 fl_X11_36 (fun _ _ _ => rfl) (Or.inr ⟨_, rfl⟩) (Or.inr ⟨rfl, rfl, rfl⟩) ho43 ?_
  refine wp_nm (fun G46 eG46 => ?_)
  have h := h G46 eG46
  have ho47 := isO_sR eG46 ho43
  have hb48 := base_sR eG46 hb44
  refine wp_aload_n (pc := 49) d_X11_init_49 rfl ?_
  refine wp_new (pc := 50) (c := 1) (r := (cn_1, ct_1, 6)) d_X11_init_50 rfl cx_X11_40 it_1 ii_1 ?_
  refine wp_nm (fun G52 eG52 => ?_)
  have h := h G52 eG52
  have ho53 := isO_nwE eG52 ho47
  have hb54 := base_nwE eG52 hb48
  have ho55 := isO_newE eG52 hb48
  refine wp_dup (pc := 53) d_X11_init_53 (c1_r _) ?_
  refine wp_invI (pc := 54) (N := M_X1_init) (As := []) (rest := [vr _, vr _]) d_X11_init_54 ml_X11_42 mk_X1_init mi_X1_init h0 ho55 (Nat.le_of_ble_eq_true rfl) ?_
  refine wpM.mono h (fun rr G56 hr => ?_)
  obtain ⟨rfl, h⟩ := hr
  show wp E d M_X11_init 57 [some (vr _)] [vr _, vr _] G56 Q
  obtain ⟨ho57, h⟩ := h
  refine wp_putR (pc := 57) d_X11_init_57 fl_X11_43 (fun _ _ _ => rfl) (Or.inl ⟨_, rfl⟩) (Or.inr ⟨rfl, rfl, rfl⟩) ho57 ?_
  refine wp_nm (fun G58 eG58 => ?_)
  have h := h G58 eG58
  have ho59 := isO_sR eG58 ho57
  refine wp_aload_n (pc := 60) d_X11_init_60 rfl ?_
  obtain ⟨hb60, h⟩ := h
  refine wp_new (pc := 61) (c := 6) (r := (cn_6, ct_6, 14)) d_X11_init_61 rfl cx_X11_47 it_6 ii_6 ?_
  refine wp_nm (fun G64 eG64 => ?_)
  have h := h G64 eG64
  have ho65 := isO_nwE eG64 ho59
  have hb66 := base_nwE eG64 hb60
  have ho67 := isO_newE eG64 hb60
  refine wp_dup (pc := 64) d_X11_init_64 (c1_r _) ?_
  refine wp_invI (pc := 65) (N := M_X6_init) (As := []) (rest := [vr _, vr _]) d_X11_init_65 ml_X11_49 mk_X6_init mi_X6_init h0 ho67 (Nat.le_of_ble_eq_true rfl) ?_
  refine wpM.mono h (fun rr G68 hr => ?_)
  obtain ⟨rfl, h⟩ := hr
  show wp E d M_X11_init 68 [some (vr _)] [vr _, vr _] G68 Q
  obtain ⟨ho69, h⟩ := h
  refine wp_putR (pc := 68) d_X11_init_68 fl_X11_50 (fun _ _ _ => rfl) (Or.inl ⟨_, rfl⟩) (Or.inr ⟨rfl, rfl, rfl⟩) ho69 ?_
  refine wp_nm (fun G70 eG70 => ?_)
  have h := h G70 eG70
  have ho71 := isO_sR eG70 ho69
  refine wp_aload_n (pc := 71) d_X11_init_71 rfl ?_
  obtain ⟨hb72, h⟩ := h
  refine wp_new (pc := 72) (c := 4) (r := (cn_4, ct_4, 3)) d_X11_init_72 rfl cx_X11_54 it_4 ii_4 ?_
  refine wp_nm (fun G76 eG76 => ?_)
  have h := h G76 eG76
  have ho77 := isO_nwE eG76 ho71
  have hb78 := base_nwE eG76 hb72
  have ho79 := isO_newE eG76 hb72
  refine wp_dup (pc := 75) d_X11_init_75 (c1_r _) ?_
  refine wp_aload_n (pc := 76) d_X11_init_76 rfl ?_
  refine wp_getR (pc := 77) d_X11_init_77 fl_X11_21 (fun _ _ _ => rfl) ho77 ?_
  refine wp_invI (pc := 80) (N := M_X4_init) (As := [vr _]) (rest := [vr _, vr _]) d_X11_init_80 ml_X11_56 mk_X4_init mi_X4_init h0 ho79 (Nat.le_of_ble_eq_true rfl) ?_
  refine wpM.mono h (fun rr G80 hr => ?_)
  obtain ⟨rfl, h⟩ := hr
  show wp E d M_X11_init 83 [some (vr _)] [vr _, vr _] G80 Q
  obtain ⟨ho81, h⟩ := h
  refine wp_putR (pc := 83) d_X11_init_83 fl_X11_57 (fun _ _ _ => rfl) (Or.inl ⟨_, rfl⟩) (Or.inr ⟨rfl, rfl, rfl⟩) ho81 ?_
  refine wp_nm (fun G82 eG82 => ?_)
  have h := h G82 eG82
  have ho83 := isO_sR eG82 ho81
  refine wp_aload_n (pc := 86) d_X11_init_86 rfl ?_
  obtain ⟨hb84, h⟩ := h
  refine wp_new (pc := 87) (c := 8) (r := (cn_8, ct_8, 5)) d_X11_init_87 rfl cx_X11_61 it_8 ii_8 ?_
  refine wp_nm (fun G88 eG88 => ?_)
  have h := h G88 eG88
  have ho89 := isO_nwE eG88 ho83
  have hb90 := base_nwE eG88 hb84
  have ho91 := isO_newE eG88 hb84
  refine wp_dup (pc := 90) d_X11_init_90 (c1_r _) ?_
  refine wp_invI (pc := 91) (N := M_X8_init) (As := []) (rest := [vr _, vr _]) d_X11_init_91 ml_X11_63 mk_X8_init mi_X8_init h0 ho91 (Nat.le_of_ble_eq_true rfl) ?_
  refine wpM.mono h (fun rr G92 hr => ?_)
  obtain ⟨rfl, h⟩ := hr
  show wp E d M_X11_init 94 [some (vr _)] [vr _, vr _] G92 Q
  obtain ⟨ho93, h⟩ := h
  refine wp_putR (pc := 94) d_X11_init_94 fl_X11_64 (fun _ _ _ => rfl) (Or.inl ⟨_, rfl⟩) (Or.inr ⟨rfl, rfl, rfl⟩) ho93 ?_
  refine wp_nm (fun G94 eG94 => ?_)
  have h := h G94 eG94
  have ho95 := isO_sR eG94 ho93
  refine wp_aload_n (pc := 97) d_X11_init_97 rfl ?_
  refine wp_null (pc := 98) d_X11_init_98 ?_
  refine wp_putR (pc := 99) d_X11_init_99 fl_X11_68 (fun _ _ _ => rfl) (Or.inl ⟨_, rfl⟩) (Or.inl rfl) ho95 ?_
  refine wp_nm (fun G96 eG96 => ?_)
  have h := h G96 eG96
  have ho97 := isO_sR eG96 ho95
  refine wp_aload_n (pc := 102) d_X11_init_102 rfl ?_
  refine wp_iconst (pc := 103) (v := 0) d_X11_init_103 rfl ?_
  refine wp_putI (pc := 104) d_X11_init_104 fl_X11_72 (fun _ _ _ => rfl) (Or.inl rfl) ho97 (okI_int _) ?_
  refine wp_nm (fun G98 eG98 => ?_)
  have h := h G98 eG98
  have ho99 := isO_sI eG98 ho97
  refine wp_aload_n (pc := 107) d_X11_init_107 rfl ?_
  refine wp_lconst (pc := 108) (v := 0) d_X11_init_108 rfl ?_
  refine wp_putJ (pc := 109) d_X11_init_109 fl_X11_76 (fun _ _ _ => rfl) rfl (Or.inl rfl) ho99 ?_
  refine wp_nm (fun G100 eG100 => ?_)
  have h := h G100 eG100
  have ho101 := isO_sJ eG100 ho99
  refine wp_aload_n (pc := 112) d_X11_init_112 rfl ?_
  refine wp_lconst (pc := 113) (v := 1) d_X11_init_113 rfl ?_
  refine wp_putJ (pc := 114) d_X11_init_114 fl_X11_80 (fun _ _ _ => rfl) rfl (Or.inl rfl) ho101 ?_
  refine wp_nm (fun G102 eG102 => ?_)
  have h := h G102 eG102
  have ho103 := isO_sJ eG102 ho101
  exact wp_vret (pc := 117) d_X11_init_117 rfl h
theorem d_X11_bring_0 : decode prog_1_method_66_code 0 = .ok (.aload_n 0, 1) := by decide +kernel
theorem d_X11_bring_1 : decode prog_1_method_66_code 1 = .ok (.getfield 64, 3) := by decide +kernel
theorem d_X11_bring_4 : decode prog_1_method_66_code 4 = .ok (.aload_n 0, 1) := by decide +kernel
theorem d_X11_bring_5 : decode prog_1_method_66_code 5 = .ok (.getfield 12, 3) := by decide +kernel
theorem d_X11_bring_8 : decode prog_1_method_66_code 8 = .ok (.invokevirtual 456, 3) := by decide +kernel
theorem d_X11_bring_11 : decode prog_1_method_66_code 11 = .ok (.istore_n 1, 1) := by decide +kernel
theorem d_X11_bring_12 : decode prog_1_method_66_code 12 = .ok (.iload_n 1, 1) := by decide +kernel
theorem d_X11_bring_13 : decode prog_1_method_66_code 13 = .ok (.ifCond .ge 5, 3) := by decide +kernel
theorem d_X11_bring_16 : decode prog_1_method_66_code 16 = .ok (.iconst (-1), 1) := by decide +kernel
theorem d_X11_bring_17 : decode prog_1_method_66_code 17 = .ok (.ireturn, 1) := by decide +kernel
theorem d_X11_bring_18 : decode prog_1_method_66_code 18 = .ok (.aload_n 0, 1) := by decide +kernel
theorem d_X11_bring_19 : decode prog_1_method_66_code 19 = .ok (.getfield 68, 3) := by decide +kernel
theorem d_X11_bring_22 : decode prog_1_method_66_code 22 = .ok (.ifnonnull 14, 3) := by decide +kernel
theorem d_X11_bring_25 : decode prog_1_method_66_code 25 = .ok (.aload_n 0, 1) := by decide +kernel
theorem d_X11_bring_26 : decode prog_1_method_66_code 26 = .ok (.new 34, 3) := by decide +kernel
theorem d_X11_bring_29 : decode prog_1_method_66_code 29 = .ok (.dup, 1) := by decide +kernel
theorem d_X11_bring_30 : decode prog_1_method_66_code 30 = .ok (.invokespecial 460, 3) := by decide +kernel
theorem d_X11_bring_33 : decode prog_1_method_66_code 33 = .ok (.putfield 68, 3) := by decide +kernel
theorem v_X11_bring_0 {E : EE} {d : Nat} {Q : Option AV → AH → Prop} {x0 : Nat} {G : AH} (h0 : 0 < d) (h : isO E G x0 11 ∧ (isO E G (gR G x0 7) 8 ∧ (wpI E (d - 1) M_X8_announced [vr (gR G x0 7), vr (gR G x0 0)] G (fun r2 G3 => (0 ≤ r2 → isO E G3 x0 11 ∧ ((¬ (gR G3 x0 8) = 0 → wp E d M_X11_bring 36 [some (vr x0), some (vi r2), none, none, none] [] G3 Q) ∧ ((gR G3 x0 8) = 0 → eB E ≤ gT G3 ∧ (∀ G9 : AH, G9 = nw G3 3 0 19 → wpV E (d - 1) M_X3_init [vr (gT G3)] G9 (fun G13 => isO E G13 x0 11 ∧ (∀ G15 : AH, G15 = sR G13 x0 8 (gT G3) → wp E d M_X11_bring 36 [some (vr x0), some (vi r2), none, none, none] [] G15 Q)))))) ∧ (¬ (0 ≤ r2) → Q (some (vi (-1))) G3))))) : wp E d M_X11_bring 0 [some (vr x0), none, none, none, none] [] G Q := by
  refine wp_aload_n (pc := 0) d_X11_bring_0 rfl ?_
  obtain ⟨ho1, h⟩ := h
  refine wp_getR (pc := 1) d_X11_bring_1 fl_X11_64 (fun _ _ _ => rfl) ho1 ?_
  refine wp_aload_n (pc := 4) d_X11_bring_4 rfl ?_
  refine wp_getR (pc := 5) d_X11_bring_5 fl_X11_12 (fun _ _ _ => rfl) ho1 ?_
  obtain ⟨ho17, h⟩ := h
  refine wp_invV (pc := 8) (N := M_X8_announced) (As := [vr _]) (rest := []) (r := (cn_8, ct_8, 5)) d_X11_bring_8 ml_X11_456 mk_X8_announced mv_X8_announced h0 ho17 rfl rfl (Nat.le_of_ble_eq_true rfl) ?_
  refine wpM.mono h (fun rr G3 hr => ?_)
  obtain ⟨r2, rfl, h⟩ := hr
  show wp E d M_X11_bring 11 [some (vr _), none, none, none, none] [vi _] G3 Q
  refine wp_istore_n (pc := 11) (lv' := [some (vr _), some (vi _), none, none, none]) d_X11_bring_11 (by decide) rfl ?_
  refine wp_iload_n (pc := 12) d_X11_bring_12 rfl ?_
  refine wp_if_ge (pc := 13) (tgt := 18) d_X11_bring_13 (by decide) (fun hc => ?_) (fun hc => ?_)
  · have h := h.1 hc
    refine wp_aload_n (pc := 18) d_X11_bring_18 rfl ?_
    obtain ⟨ho4, h⟩ := h
    refine wp_getR (pc := 19) d_X11_bring_19 fl_X11_68 (fun _ _ _ => rfl) ho4 ?_
    refine wp_ifnonnull (pc := 22) (tgt := 36) d_X11_bring_22 (by decide) (fun hc => ?_) (fun hc => ?_)
    · have h := h.1 hc
      refine wp_sub ?_ h
      exact ⟨rfl, ⟨rfl, trivial⟩⟩
    · have h := h.2 hc
      refine wp_aload_n (pc := 25) d_X11_bring_25 rfl ?_
      obtain ⟨hb5, h⟩ := h
      refine wp_new (pc := 26) (c := 3) (r := (cn_3, ct_3, 19)) d_X11_bring_26 rfl cx_X11_34 it_3 ii_3 ?_
      refine wp_nm (fun G9 eG9 => ?_)
      have h := h G9 eG9
      have ho10 := isO_nwE eG9 ho4
      have hb11 := base_nwE eG9 hb5
      have ho12 := isO_newE eG9 hb5
      refine wp_dup (pc := 29) d_X11_bring_29 (c1_r _) ?_
      refine wp_invI (pc := 30) (N := M_X3_init) (As := []) (rest := [vr _, vr _]) d_X11_bring_30 ml_X11_460 mk_X3_init mi_X3_init h0 ho12 (Nat.le_of_ble_eq_true rfl) ?_
      refine wpM.mono h (fun rr G13 hr => ?_)
      obtain ⟨rfl, h⟩ := hr
      show wp E d M_X11_bring 33 [some (vr _), some (vi _), none, none, none] [vr _, vr _] G13 Q
      obtain ⟨ho14, h⟩ := h
      refine wp_putR (pc := 33) d_X11_bring_33 fl_X11_68 (fun _ _ _ => rfl) (Or.inl ⟨_, rfl⟩) (Or.inl rfl) ho14 ?_
      refine wp_nm (fun G15 eG15 => ?_)
      have h := h G15 eG15
      have ho16 := isO_sR eG15 ho14
      refine wp_sub ?_ h
      exact ⟨rfl, ⟨rfl, trivial⟩⟩
  · have h := h.2 hc
    refine wp_iconst (pc := 16) (v := (-1)) d_X11_bring_16 rfl ?_
    exact wp_iret (pc := 17) d_X11_bring_17 rfl h
theorem d_X11_take_0 : decode prog_1_method_65_code 0 = .ok (.aload_n 0, 1) := by decide +kernel
theorem d_X11_take_1 : decode prog_1_method_65_code 1 = .ok (.getfield 64, 3) := by decide +kernel
theorem d_X11_take_4 : decode prog_1_method_65_code 4 = .ok (.aload_n 0, 1) := by decide +kernel
theorem d_X11_take_5 : decode prog_1_method_65_code 5 = .ok (.getfield 12, 3) := by decide +kernel
theorem d_X11_take_8 : decode prog_1_method_65_code 8 = .ok (.invokevirtual 453, 3) := by decide +kernel
theorem d_X11_take_11 : decode prog_1_method_65_code 11 = .ok (.aload_n 0, 1) := by decide +kernel
theorem d_X11_take_12 : decode prog_1_method_65_code 12 = .ok (.getfield 12, 3) := by decide +kernel
theorem d_X11_take_15 : decode prog_1_method_65_code 15 = .ok (.getfield 83, 3) := by decide +kernel
theorem d_X11_take_18 : decode prog_1_method_65_code 18 = .ok (.ireturn, 1) := by decide +kernel
theorem v_X11_take_0 {E : EE} {d : Nat} {Q : Option AV → AH → Prop} {x0 : Nat} {G : AH} (h0 : 0 < d) (h : isO E G x0 11 ∧ (isO E G (gR G x0 7) 8 ∧ (wpV E (d - 1) M_X8_export [vr (gR G x0 7), vr (gR G x0 0)] G (fun G2 => isO E G2 x0 11 ∧ (isO E G2 (gR G2 x0 0) 0 ∧ (Q (some (vi (gI G2 (gR G2 x0 0) 1))) G2)))))) : wp E d M_X11_take 0 [some (vr x0)] [] G Q := by
  refine wp_aload_n (pc := 0) d_X11_take_0 rfl ?_
  obtain ⟨ho1, h⟩ := h
  refine wp_getR (pc := 1) d_X11_take_1 fl_X11_64 (fun _ _ _ => rfl) ho1 ?_
  refine wp_aload_n (pc := 4) d_X11_take_4 rfl ?_
  refine wp_getR (pc := 5) d_X11_take_5 fl_X11_12 (fun _ _ _ => rfl) ho1 ?_
  obtain ⟨ho5, h⟩ := h
  refine wp_invV (pc := 8) (N := M_X8_export) (As := [vr _]) (rest := []) (r := (cn_8, ct_8, 5)) d_X11_take_8 ml_X11_453 mk_X8_export mv_X8_export h0 ho5 rfl rfl (Nat.le_of_ble_eq_true rfl) ?_
  refine wpM.mono h (fun rr G2 hr => ?_)
  obtain ⟨rfl, h⟩ := hr
  show wp E d M_X11_take 11 [some (vr _)] [] G2 Q
  refine wp_aload_n (pc := 11) d_X11_take_11 rfl ?_
  obtain ⟨ho3, h⟩ := h
  refine wp_getR (pc := 12) d_X11_take_12 fl_X11_12 (fun _ _ _ => rfl) ho3 ?_
  obtain ⟨ho4, h⟩ := h
  refine wp_getI (pc := 15) d_X11_take_15 fl_X11_83 (fun _ _ _ => rfl) ho4 ?_
  exact wp_iret (pc := 18) d_X11_take_18 rfl h
theorem d_X11_crash_0 : decode prog_1_method_64_code 0 = .ok (.iload_n 1, 1) := by decide +kernel
theorem d_X11_crash_1 : decode prog_1_method_64_code 1 = .ok (.ifCond .ge 7, 3) := by decide +kernel
theorem d_X11_crash_4 : decode prog_1_method_64_code 4 = .ok (.iconst (-1), 1) := by decide +kernel
theorem d_X11_crash_5 : decode prog_1_method_64_code 5 = .ok (.goto 11, 3) := by decide +kernel
theorem d_X11_crash_8 : decode prog_1_method_64_code 8 = .ok (.aload_n 0, 1) := by decide +kernel
theorem d_X11_crash_9 : decode prog_1_method_64_code 9 = .ok (.getfield 64, 3) := by decide +kernel
theorem d_X11_crash_12 : decode prog_1_method_64_code 12 = .ok (.iload_n 1, 1) := by decide +kernel
theorem d_X11_crash_13 : decode prog_1_method_64_code 13 = .ok (.invokevirtual 450, 3) := by decide +kernel
theorem d_X11_crash_16 : decode prog_1_method_64_code 16 = .ok (.ireturn, 1) := by decide +kernel
theorem v_X11_crash_0 {E : EE} {d : Nat} {Q : Option AV → AH → Prop} {x0 : Nat} {x1 : Int32} {G : AH} (h0 : 0 < d) (h : (0 ≤ x1 → isO E G x0 11 ∧ (isO E G (gR G x0 7) 8 ∧ (wpI E (d - 1) M_X8_lose [vr (gR G x0 7), vi x1] G (fun r2 G3 => Q (some (vi r2)) G3)))) ∧ (¬ (0 ≤ x1) → Q (some (vi (-1))) G)) : wp E d M_X11_crash 0 [some (vr x0), some (vi x1)] [] G Q := by
  refine wp_iload_n (pc := 0) d_X11_crash_0 rfl ?_
  refine wp_if_ge (pc := 1) (tgt := 8) d_X11_crash_1 (by decide) (fun hc => ?_) (fun hc => ?_)
  · have h := h.1 hc
    refine wp_aload_n (pc := 8) d_X11_crash_8 rfl ?_
    obtain ⟨ho1, h⟩ := h
    refine wp_getR (pc := 9) d_X11_crash_9 fl_X11_64 (fun _ _ _ => rfl) ho1 ?_
    refine wp_iload_n (pc := 12) d_X11_crash_12 rfl ?_
    obtain ⟨ho4, h⟩ := h
    refine wp_invV (pc := 13) (N := M_X8_lose) (As := [vi _]) (rest := []) (r := (cn_8, ct_8, 5)) d_X11_crash_13 ml_X11_450 mk_X8_lose mv_X8_lose h0 ho4 rfl rfl (Nat.le_of_ble_eq_true rfl) ?_
    refine wpM.mono h (fun rr G3 hr => ?_)
    obtain ⟨r2, rfl, h⟩ := hr
    show wp E d M_X11_crash 16 [some (vr _), some (vi _)] [vi _] G3 Q
    exact wp_iret (pc := 16) d_X11_crash_16 rfl h
  · have h := h.2 hc
    refine wp_iconst (pc := 4) (v := (-1)) d_X11_crash_4 rfl ?_
    refine wp_goto (pc := 5) (tgt := 16) d_X11_crash_5 (by decide) ?_
    exact wp_iret (pc := 16) d_X11_crash_16 rfl h
theorem d_X11_byteAt_0 : decode prog_1_method_63_code 0 = .ok (.aload_n 0, 1) := by decide +kernel
theorem d_X11_byteAt_1 : decode prog_1_method_63_code 1 = .ok (.getfield 64, 3) := by decide +kernel
theorem d_X11_byteAt_4 : decode prog_1_method_63_code 4 = .ok (.getfield 438, 3) := by decide +kernel
theorem d_X11_byteAt_7 : decode prog_1_method_63_code 7 = .ok (.iload_n 1, 1) := by decide +kernel
theorem d_X11_byteAt_8 : decode prog_1_method_63_code 8 = .ok (.invokevirtual 95, 3) := by decide +kernel
theorem d_X11_byteAt_11 : decode prog_1_method_63_code 11 = .ok (.ireturn, 1) := by decide +kernel
theorem v_X11_byteAt_0 {E : EE} {d : Nat} {Q : Option AV → AH → Prop} {x0 : Nat} {x1 : Int32} {G : AH} (h0 : 0 < d) (h : isO E G x0 11 ∧ (isO E G (gR G x0 7) 8 ∧ (isO E G (gR G (gR G x0 7) 0) 0 ∧ (wpI E (d - 1) M_X0_at [vr (gR G (gR G x0 7) 0), vi x1] G (fun r3 G4 => Q (some (vi r3)) G4))))) : wp E d M_X11_byteAt 0 [some (vr x0), some (vi x1)] [] G Q := by
  refine wp_aload_n (pc := 0) d_X11_byteAt_0 rfl ?_
  obtain ⟨ho1, h⟩ := h
  refine wp_getR (pc := 1) d_X11_byteAt_1 fl_X11_64 (fun _ _ _ => rfl) ho1 ?_
  obtain ⟨ho2, h⟩ := h
  refine wp_getR (pc := 4) d_X11_byteAt_4 fl_X11_438 (fun _ _ _ => rfl) ho2 ?_
  refine wp_iload_n (pc := 7) d_X11_byteAt_7 rfl ?_
  obtain ⟨ho5, h⟩ := h
  refine wp_invV (pc := 8) (N := M_X0_at) (As := [vi _]) (rest := []) (r := (cn_0, ct_0, 2)) d_X11_byteAt_8 ml_X11_95 mk_X0_at mv_X0_at h0 ho5 rfl rfl (Nat.le_of_ble_eq_true rfl) ?_
  refine wpM.mono h (fun rr G4 hr => ?_)
  obtain ⟨r3, rfl, h⟩ := hr
  show wp E d M_X11_byteAt 11 [some (vr _), some (vi _)] [vi _] G4 Q
  exact wp_iret (pc := 11) d_X11_byteAt_11 rfl h
theorem d_X11_size_0 : decode prog_1_method_62_code 0 = .ok (.aload_n 0, 1) := by decide +kernel
theorem d_X11_size_1 : decode prog_1_method_62_code 1 = .ok (.getfield 64, 3) := by decide +kernel
theorem d_X11_size_4 : decode prog_1_method_62_code 4 = .ok (.getfield 438, 3) := by decide +kernel
theorem d_X11_size_7 : decode prog_1_method_62_code 7 = .ok (.getfield 83, 3) := by decide +kernel
theorem d_X11_size_10 : decode prog_1_method_62_code 10 = .ok (.ireturn, 1) := by decide +kernel
theorem v_X11_size_0 {E : EE} {d : Nat} {Q : Option AV → AH → Prop} {x0 : Nat} {G : AH} (h : isO E G x0 11 ∧ (isO E G (gR G x0 7) 8 ∧ (isO E G (gR G (gR G x0 7) 0) 0 ∧ (Q (some (vi (gI G (gR G (gR G x0 7) 0) 1))) G)))) : wp E d M_X11_size 0 [some (vr x0)] [] G Q := by
  refine wp_aload_n (pc := 0) d_X11_size_0 rfl ?_
  obtain ⟨ho1, h⟩ := h
  refine wp_getR (pc := 1) d_X11_size_1 fl_X11_64 (fun _ _ _ => rfl) ho1 ?_
  obtain ⟨ho2, h⟩ := h
  refine wp_getR (pc := 4) d_X11_size_4 fl_X11_438 (fun _ _ _ => rfl) ho2 ?_
  obtain ⟨ho3, h⟩ := h
  refine wp_getI (pc := 7) d_X11_size_7 fl_X11_83 (fun _ _ _ => rfl) ho3 ?_
  exact wp_iret (pc := 10) d_X11_size_10 rfl h
theorem d_X11_rows_0 : decode prog_1_method_61_code 0 = .ok (.aload_n 0, 1) := by decide +kernel
theorem d_X11_rows_1 : decode prog_1_method_61_code 1 = .ok (.getfield 64, 3) := by decide +kernel
theorem d_X11_rows_4 : decode prog_1_method_61_code 4 = .ok (.getfield 449, 3) := by decide +kernel
theorem d_X11_rows_7 : decode prog_1_method_61_code 7 = .ok (.ireturn, 1) := by decide +kernel
theorem v_X11_rows_0 {E : EE} {d : Nat} {Q : Option AV → AH → Prop} {x0 : Nat} {G : AH} (h : isO E G x0 11 ∧ (isO E G (gR G x0 7) 8 ∧ (Q (some (vi (gI G (gR G x0 7) 1))) G))) : wp E d M_X11_rows 0 [some (vr x0)] [] G Q := by
  refine wp_aload_n (pc := 0) d_X11_rows_0 rfl ?_
  obtain ⟨ho1, h⟩ := h
  refine wp_getR (pc := 1) d_X11_rows_1 fl_X11_64 (fun _ _ _ => rfl) ho1 ?_
  obtain ⟨ho2, h⟩ := h
  refine wp_getI (pc := 4) d_X11_rows_4 fl_X11_449 (fun _ _ _ => rfl) ho2 ?_
  exact wp_iret (pc := 7) d_X11_rows_7 rfl h
theorem d_X11_load_0 : decode prog_1_method_60_code 0 = .ok (.aload_n 0, 1) := by decide +kernel
theorem d_X11_load_1 : decode prog_1_method_60_code 1 = .ok (.getfield 64, 3) := by decide +kernel
theorem d_X11_load_4 : decode prog_1_method_60_code 4 = .ok (.iload_n 1, 1) := by decide +kernel
theorem d_X11_load_5 : decode prog_1_method_60_code 5 = .ok (.invokevirtual 435, 3) := by decide +kernel
theorem d_X11_load_8 : decode prog_1_method_60_code 8 = .ok (.istore_n 2, 1) := by decide +kernel
theorem d_X11_load_9 : decode prog_1_method_60_code 9 = .ok (.iload_n 2, 1) := by decide +kernel
theorem d_X11_load_10 : decode prog_1_method_60_code 10 = .ok (.ifCond .ge 5, 3) := by decide +kernel
theorem d_X11_load_13 : decode prog_1_method_60_code 13 = .ok (.iconst (-1), 1) := by decide +kernel
theorem d_X11_load_14 : decode prog_1_method_60_code 14 = .ok (.ireturn, 1) := by decide +kernel
theorem d_X11_load_15 : decode prog_1_method_60_code 15 = .ok (.aload_n 0, 1) := by decide +kernel
theorem d_X11_load_16 : decode prog_1_method_60_code 16 = .ok (.invokevirtual 103, 3) := by decide +kernel
theorem d_X11_load_19 : decode prog_1_method_60_code 19 = .ok (.istore_n 3, 1) := by decide +kernel
theorem d_X11_load_20 : decode prog_1_method_60_code 20 = .ok (.iload_n 3, 1) := by decide +kernel
theorem d_X11_load_21 : decode prog_1_method_60_code 21 = .ok (.ifCond .ge 6, 3) := by decide +kernel
theorem d_X11_load_24 : decode prog_1_method_60_code 24 = .ok (.ldc 86, 2) := by decide +kernel
theorem d_X11_load_26 : decode prog_1_method_60_code 26 = .ok (.ireturn, 1) := by decide +kernel
theorem d_X11_load_27 : decode prog_1_method_60_code 27 = .ok (.aload_n 0, 1) := by decide +kernel
theorem d_X11_load_28 : decode prog_1_method_60_code 28 = .ok (.iload_n 3, 1) := by decide +kernel
theorem d_X11_load_29 : decode prog_1_method_60_code 29 = .ok (.invokevirtual 107, 3) := by decide +kernel
theorem d_X11_load_32 : decode prog_1_method_60_code 32 = .ok (.astore 4, 2) := by decide +kernel
theorem d_X11_load_34 : decode prog_1_method_60_code 34 = .ok (.aload_n 0, 1) := by decide +kernel
theorem d_X11_load_35 : decode prog_1_method_60_code 35 = .ok (.getfield 64, 3) := by decide +kernel
theorem d_X11_load_38 : decode prog_1_method_60_code 38 = .ok (.aload_n 0, 1) := by decide +kernel
theorem d_X11_load_39 : decode prog_1_method_60_code 39 = .ok (.getfield 64, 3) := by decide +kernel
theorem d_X11_load_42 : decode prog_1_method_60_code 42 = .ok (.getfield 438, 3) := by decide +kernel
theorem d_X11_load_45 : decode prog_1_method_60_code 45 = .ok (.iload_n 2, 1) := by decide +kernel
theorem d_X11_load_46 : decode prog_1_method_60_code 46 = .ok (.invokevirtual 441, 3) := by decide +kernel
theorem d_X11_load_49 : decode prog_1_method_60_code 49 = .ok (.istore 5, 2) := by decide +kernel
theorem d_X11_load_51 : decode prog_1_method_60_code 51 = .ok (.aload 4, 2) := by decide +kernel
theorem d_X11_load_53 : decode prog_1_method_60_code 53 = .ok (.getfield 111, 3) := by decide +kernel
theorem d_X11_load_56 : decode prog_1_method_60_code 56 = .ok (.aload_n 0, 1) := by decide +kernel
theorem d_X11_load_57 : decode prog_1_method_60_code 57 = .ok (.getfield 64, 3) := by decide +kernel
theorem d_X11_load_60 : decode prog_1_method_60_code 60 = .ok (.getfield 438, 3) := by decide +kernel
theorem d_X11_load_63 : decode prog_1_method_60_code 63 = .ok (.iload_n 2, 1) := by decide +kernel
theorem d_X11_load_64 : decode prog_1_method_60_code 64 = .ok (.iconst 3, 1) := by decide +kernel
theorem d_X11_load_65 : decode prog_1_method_60_code 65 = .ok (.iadd, 1) := by decide +kernel
theorem d_X11_load_66 : decode prog_1_method_60_code 66 = .ok (.iload 5, 2) := by decide +kernel
theorem d_X11_load_68 : decode prog_1_method_60_code 68 = .ok (.invokevirtual 114, 3) := by decide +kernel
theorem d_X11_load_71 : decode prog_1_method_60_code 71 = .ok (.aload 4, 2) := by decide +kernel
theorem d_X11_load_73 : decode prog_1_method_60_code 73 = .ok (.aload_n 0, 1) := by decide +kernel
theorem d_X11_load_74 : decode prog_1_method_60_code 74 = .ok (.getfield 30, 3) := by decide +kernel
theorem d_X11_load_77 : decode prog_1_method_60_code 77 = .ok (.aload 4, 2) := by decide +kernel
theorem d_X11_load_79 : decode prog_1_method_60_code 79 = .ok (.invokevirtual 118, 3) := by decide +kernel
theorem d_X11_load_82 : decode prog_1_method_60_code 82 = .ok (.ifCond .eq 32, 3) := by decide +kernel
theorem d_X11_load_85 : decode prog_1_method_60_code 85 = .ok (.aload_n 0, 1) := by decide +kernel
theorem d_X11_load_86 : decode prog_1_method_60_code 86 = .ok (.getfield 64, 3) := by decide +kernel
theorem d_X11_load_89 : decode prog_1_method_60_code 89 = .ok (.aload_n 0, 1) := by decide +kernel
theorem d_X11_load_90 : decode prog_1_method_60_code 90 = .ok (.getfield 64, 3) := by decide +kernel
theorem d_X11_load_93 : decode prog_1_method_60_code 93 = .ok (.getfield 438, 3) := by decide +kernel
theorem d_X11_load_96 : decode prog_1_method_60_code 96 = .ok (.iload_n 2, 1) := by decide +kernel
theorem d_X11_load_97 : decode prog_1_method_60_code 97 = .ok (.iconst 3, 1) := by decide +kernel
theorem d_X11_load_98 : decode prog_1_method_60_code 98 = .ok (.iadd, 1) := by decide +kernel
theorem d_X11_load_99 : decode prog_1_method_60_code 99 = .ok (.iload 5, 2) := by decide +kernel
theorem d_X11_load_101 : decode prog_1_method_60_code 101 = .ok (.iadd, 1) := by decide +kernel
theorem d_X11_load_102 : decode prog_1_method_60_code 102 = .ok (.aload 4, 2) := by decide +kernel
theorem d_X11_load_104 : decode prog_1_method_60_code 104 = .ok (.invokevirtual 445, 3) := by decide +kernel
theorem d_X11_load_107 : decode prog_1_method_60_code 107 = .ok (.ifCond .eq 7, 3) := by decide +kernel
theorem d_X11_load_110 : decode prog_1_method_60_code 110 = .ok (.iconst 1, 1) := by decide +kernel
theorem d_X11_load_111 : decode prog_1_method_60_code 111 = .ok (.goto 4, 3) := by decide +kernel
theorem v_X11_load_0 {E : EE} {d : Nat} {Q : Option AV → AH → Prop} {x0 : Nat} {x1 : Int32} {G : AH} (h0 : 0 < d) (h : isO E G x0 11 ∧ (isO E G (gR G x0 7) 8 ∧ (wpI E (d - 1) M_X8_start [vr (gR G x0 7), vi x1] G (fun r2 G3 => (0 ≤ r2 → isO E G3 x0 11 ∧ (wpI E (d - 1) M_X11_freeNumber [vr x0] G3 (fun r4 G5 => (0 ≤ r4 → isO E G5 x0 11 ∧ (wpR E (d - 1) M_X11_roomFor [vr x0, vi r4] G5 (fun r6 G7 => isO E G7 x0 11 ∧ (isO E G7 (gR G7 x0 7) 8 ∧ (wpI E (d - 1) M_X8_textLength [vr (gR G7 x0 7), vr (gR G7 (gR G7 x0 7) 0), vi r2] G7 (fun r10 G11 => isO E G11 r6 3 ∧ (isO E G11 x0 11 ∧ (isO E G11 (gR G11 x0 7) 8 ∧ (isO E G11 (gR G11 r6 1) 0 ∧ (wpV E (d - 1) M_X0_become [vr (gR G11 r6 1), vr (gR G11 (gR G11 x0 7) 0), vi (r2 + 3), vi r10] G11 (fun G15 => isO E G15 x0 11 ∧ (isO E G15 (gR G15 x0 2) 5 ∧ (wpI E (d - 1) M_X5_read [vr (gR G15 x0 2), vr r6] G15 (fun r17 G18 => (r17 = 0 → wp E d M_X11_load 114 [some (vr x0), some (vi x1), some (vi r2), some (vi r4), some (vr r6), some (vi r10)] [vr r6] G18 Q) ∧ (¬ (r17 = 0) → isO E G18 x0 11 ∧ (isO E G18 (gR G18 x0 7) 8 ∧ (wpI E (d - 1) M_X8_restore [vr (gR G18 x0 7), vr (gR G18 (gR G18 x0 7) 0), vi ((r2 + 3) + r10), vr r6] G18 (fun r21 G22 => (r21 = 0 → wp E d M_X11_load 114 [some (vr x0), some (vi x1), some (vi r2), some (vi r4), some (vr r6), some (vi r10)] [vr r6] G22 Q) ∧ (¬ (r21 = 0) → wp E d M_X11_load 115 [some (vr x0), some (vi x1), some (vi r2), some (vi r4), some (vr r6), some (vi r10)] [vi 1, vr r6] G22 Q))))))))))))))))))) ∧ (¬ (0 ≤ r4) → Q (some (vi (-100000))) G5)))) ∧ (¬ (0 ≤ r2) → Q (some (vi (-1))) G3))))) : wp E d M_X11_load 0 [some (vr x0), some (vi x1), none, none, none, none] [] G Q := by
  refine wp_aload_n (pc := 0) d_X11_load_0 rfl ?_
  obtain ⟨ho1, h⟩ := h
  refine wp_getR (pc := 1) d_X11_load_1 fl_X11_64 (fun _ _ _ => rfl) ho1 ?_
  refine wp_iload_n (pc := 4) d_X11_load_4 rfl ?_
  obtain ⟨ho27, h⟩ := h
  refine wp_invV (pc := 5) (N := M_X8_start) (As := [vi _]) (rest := []) (r := (cn_8, ct_8, 5)) d_X11_load_5 ml_X11_435 mk_X8_start mv_X8_start h0 ho27 rfl rfl (Nat.le_of_ble_eq_true rfl) ?_
  refine wpM.mono h (fun rr G3 hr => ?_)
  obtain ⟨r2, rfl, h⟩ := hr
  show wp E d M_X11_load 8 [some (vr _), some (vi _), none, none, none, none] [vi _] G3 Q
  refine wp_istore_n (pc := 8) (lv' := [some (vr _), some (vi _), some (vi _), none, none, none]) d_X11_load_8 (by decide) rfl ?_
  refine wp_iload_n (pc := 9) d_X11_load_9 rfl ?_
  refine wp_if_ge (pc := 10) (tgt := 15) d_X11_load_10 (by decide) (fun hc => ?_) (fun hc => ?_)
  · have h := h.1 hc
    refine wp_aload_n (pc := 15) d_X11_load_15 rfl ?_
    obtain ⟨ho26, h⟩ := h
    refine wp_invV (pc := 16) (N := M_X11_freeNumber) (As := []) (rest := []) (r := (cn_11, ct_11, 12)) d_X11_load_16 ml_X11_103 mk_X11_freeNumber mv_X11_freeNumber h0 ho26 rfl rfl (Nat.le_of_ble_eq_true rfl) ?_
    refine wpM.mono h (fun rr G5 hr => ?_)
    obtain ⟨r4, rfl, h⟩ := hr
    show wp E d M_X11_load 19 [some (vr _), some (vi _), some (vi _), none, none, none] [vi _] G5 Q
    refine wp_istore_n (pc := 19) (lv' := [some (vr _), some (vi _), some (vi _), some (vi _), none, none]) d_X11_load_19 (by decide) rfl ?_
    refine wp_iload_n (pc := 20) d_X11_load_20 rfl ?_
    refine wp_if_ge (pc := 21) (tgt := 27) d_X11_load_21 (by decide) (fun hc => ?_) (fun hc => ?_)
    · have h := h.1 hc
      refine wp_aload_n (pc := 27) d_X11_load_27 rfl ?_
      refine wp_iload_n (pc := 28) d_X11_load_28 rfl ?_
      obtain ⟨ho25, h⟩ := h
      refine wp_invV (pc := 29) (N := M_X11_roomFor) (As := [vi _]) (rest := []) (r := (cn_11, ct_11, 12)) d_X11_load_29 ml_X11_107 mk_X11_roomFor mv_X11_roomFor h0 ho25 rfl rfl (Nat.le_of_ble_eq_true rfl) ?_
      refine wpM.mono h (fun rr G7 hr => ?_)
      obtain ⟨r6, rfl, h⟩ := hr
      show wp E d M_X11_load 32 [some (vr _), some (vi _), some (vi _), some (vi _), none, none] [vr _] G7 Q
      refine wp_astore (pc := 32) (lv' := [some (vr _), some (vi _), some (vi _), some (vi _), some (vr _), none]) d_X11_load_32 (by decide) rfl ?_
      refine wp_aload_n (pc := 34) d_X11_load_34 rfl ?_
      obtain ⟨ho8, h⟩ := h
      refine wp_getR (pc := 35) d_X11_load_35 fl_X11_64 (fun _ _ _ => rfl) ho8 ?_
      refine wp_aload_n (pc := 38) d_X11_load_38 rfl ?_
      refine wp_getR (pc := 39) d_X11_load_39 fl_X11_64 (fun _ _ _ => rfl) ho8 ?_
      obtain ⟨ho9, h⟩ := h
      refine wp_getR (pc := 42) d_X11_load_42 fl_X11_438 (fun _ _ _ => rfl) ho9 ?_
      refine wp_iload_n (pc := 45) d_X11_load_45 rfl ?_
      refine wp_invV (pc := 46) (N := M_X8_textLength) (As := [vr _, vi _]) (rest := []) (r := (cn_8, ct_8, 5)) d_X11_load_46 ml_X11_441 mk_X8_textLength mv_X8_textLength h0 ho9 rfl rfl (Nat.le_of_ble_eq_true rfl) ?_
      refine wpM.mono h (fun rr G11 hr => ?_)
      obtain ⟨r10, rfl, h⟩ := hr
      show wp E d M_X11_load 49 [some (vr _), some (vi _), some (vi _), some (vi _), some (vr _), none] [vi _] G11 Q
      refine wp_istore (pc := 49) (lv' := [some (vr _), some (vi _), some (vi _), some (vi _), some (vr _), some (vi _)]) d_X11_load_49 (by decide) rfl ?_
      refine wp_aload (pc := 51) d_X11_load_51 rfl ?_
      obtain ⟨ho12, h⟩ := h
      refine wp_getR (pc := 53) d_X11_load_53 fl_X11_111 (fun _ _ _ => rfl) ho12 ?_
      refine wp_aload_n (pc := 56) d_X11_load_56 rfl ?_
      obtain ⟨ho13, h⟩ := h
      refine wp_getR (pc := 57) d_X11_load_57 fl_X11_64 (fun _ _ _ => rfl) ho13 ?_
      obtain ⟨ho14, h⟩ := h
      refine wp_getR (pc := 60) d_X11_load_60 fl_X11_438 (fun _ _ _ => rfl) ho14 ?_
      refine wp_iload_n (pc := 63) d_X11_load_63 rfl ?_
      refine wp_iconst (pc := 64) (v := 3) d_X11_load_64 rfl ?_
      refine wp_iadd (pc := 65) d_X11_load_65 ?_
      refine wp_iload (pc := 66) d_X11_load_66 rfl ?_
      obtain ⟨ho24, h⟩ := h
      refine wp_invV (pc := 68) (N := M_X0_become) (As := [vr _, vi _, vi _]) (rest := []) (r := (cn_0, ct_0, 2)) d_X11_load_68 ml_X11_114 mk_X0_become mv_X0_become h0 ho24 rfl rfl (Nat.le_of_ble_eq_true rfl) ?_
      refine wpM.mono h (fun rr G15 hr => ?_)
      obtain ⟨rfl, h⟩ := hr
      show wp E d M_X11_load 71 [some (vr _), some (vi _), some (vi _), some (vi _), some (vr _), some (vi _)] [] G15 Q
      refine wp_aload (pc := 71) d_X11_load_71 rfl ?_
      refine wp_aload_n (pc := 73) d_X11_load_73 rfl ?_
      obtain ⟨ho16, h⟩ := h
      refine wp_getR (pc := 74) d_X11_load_74 fl_X11_30 (fun _ _ _ => rfl) ho16 ?_
      refine wp_aload (pc := 77) d_X11_load_77 rfl ?_
      obtain ⟨ho23, h⟩ := h
      refine wp_invV (pc := 79) (N := M_X5_read) (As := [vr _]) (rest := [vr _]) (r := (cn_5, ct_5, 11)) d_X11_load_79 ml_X11_118 mk_X5_read mv_X5_read h0 ho23 rfl rfl (Nat.le_of_ble_eq_true rfl) ?_
      refine wpM.mono h (fun rr G18 hr => ?_)
      obtain ⟨r17, rfl, h⟩ := hr
      show wp E d M_X11_load 82 [some (vr _), some (vi _), some (vi _), some (vi _), some (vr _), some (vi _)] [vi _, vr _] G18 Q
      refine wp_if_eq (pc := 82) (tgt := 114) d_X11_load_82 (by decide) (fun hc => ?_) (fun hc => ?_)
      · have h := h.1 hc
        refine wp_sub ?_ h
        exact ⟨rfl, ⟨rfl, ⟨rfl, ⟨rfl, ⟨rfl, ⟨rfl, trivial⟩⟩⟩⟩⟩⟩
      · have h := h.2 hc
        refine wp_aload_n (pc := 85) d_X11_load_85 rfl ?_
        obtain ⟨ho19, h⟩ := h
        refine wp_getR (pc := 86) d_X11_load_86 fl_X11_64 (fun _ _ _ => rfl) ho19 ?_
        refine wp_aload_n (pc := 89) d_X11_load_89 rfl ?_
        refine wp_getR (pc := 90) d_X11_load_90 fl_X11_64 (fun _ _ _ => rfl) ho19 ?_
        obtain ⟨ho20, h⟩ := h
        refine wp_getR (pc := 93) d_X11_load_93 fl_X11_438 (fun _ _ _ => rfl) ho20 ?_
        refine wp_iload_n (pc := 96) d_X11_load_96 rfl ?_
        refine wp_iconst (pc := 97) (v := 3) d_X11_load_97 rfl ?_
        refine wp_iadd (pc := 98) d_X11_load_98 ?_
        refine wp_iload (pc := 99) d_X11_load_99 rfl ?_
        refine wp_iadd (pc := 101) d_X11_load_101 ?_
        refine wp_aload (pc := 102) d_X11_load_102 rfl ?_
        refine wp_invV (pc := 104) (N := M_X8_restore) (As := [vr _, vi _, vr _]) (rest := [vr _]) (r := (cn_8, ct_8, 5)) d_X11_load_104 ml_X11_445 mk_X8_restore mv_X8_restore h0 ho20 rfl rfl (Nat.le_of_ble_eq_true rfl) ?_
        refine wpM.mono h (fun rr G22 hr => ?_)
        obtain ⟨r21, rfl, h⟩ := hr
        show wp E d M_X11_load 107 [some (vr _), some (vi _), some (vi _), some (vi _), some (vr _), some (vi _)] [vi _, vr _] G22 Q
        refine wp_if_eq (pc := 107) (tgt := 114) d_X11_load_107 (by decide) (fun hc => ?_) (fun hc => ?_)
        · have h := h.1 hc
          refine wp_sub ?_ h
          exact ⟨rfl, ⟨rfl, ⟨rfl, ⟨rfl, ⟨rfl, ⟨rfl, trivial⟩⟩⟩⟩⟩⟩
        · have h := h.2 hc
          refine wp_iconst (pc := 110) (v := 1) d_X11_load_110 rfl ?_
          refine wp_goto (pc := 111) (tgt := 115) d_X11_load_111 (by decide) ?_
          refine wp_sub ?_ h
          exact ⟨rfl, ⟨rfl, ⟨rfl, ⟨rfl, ⟨rfl, ⟨rfl, trivial⟩⟩⟩⟩⟩⟩
    · have h := h.2 hc
      refine wp_ldc (pc := 24) (v := (-100000)) d_X11_load_24 ci_X11_86 ?_
      exact wp_iret (pc := 26) d_X11_load_26 rfl h
  · have h := h.2 hc
    refine wp_iconst (pc := 13) (v := (-1)) d_X11_load_13 rfl ?_
    exact wp_iret (pc := 14) d_X11_load_14 rfl h
theorem d_X11_freeNumber_0 : decode prog_1_method_70_code 0 = .ok (.iconst 0, 1) := by decide +kernel
theorem d_X11_freeNumber_1 : decode prog_1_method_70_code 1 = .ok (.istore_n 1, 1) := by decide +kernel
theorem d_X11_freeNumber_2 : decode prog_1_method_70_code 2 = .ok (.iload_n 1, 1) := by decide +kernel
theorem d_X11_freeNumber_3 : decode prog_1_method_70_code 3 = .ok (.iconst 4, 1) := by decide +kernel
theorem d_X11_freeNumber_4 : decode prog_1_method_70_code 4 = .ok (.if_icmp .ge 29, 3) := by decide +kernel
theorem d_X11_freeNumber_7 : decode prog_1_method_70_code 7 = .ok (.aload_n 0, 1) := by decide +kernel
theorem d_X11_freeNumber_8 : decode prog_1_method_70_code 8 = .ok (.getfield 36, 3) := by decide +kernel
theorem d_X11_freeNumber_11 : decode prog_1_method_70_code 11 = .ok (.iload_n 1, 1) := by decide +kernel
theorem d_X11_freeNumber_12 : decode prog_1_method_70_code 12 = .ok (.aaload, 1) := by decide +kernel
theorem d_X11_freeNumber_13 : decode prog_1_method_70_code 13 = .ok (.astore_n 2, 1) := by decide +kernel
theorem d_X11_freeNumber_14 : decode prog_1_method_70_code 14 = .ok (.aload_n 2, 1) := by decide +kernel
theorem d_X11_freeNumber_15 : decode prog_1_method_70_code 15 = .ok (.ifnull 10, 3) := by decide +kernel
theorem d_X11_freeNumber_18 : decode prog_1_method_70_code 18 = .ok (.aload_n 2, 1) := by decide +kernel
theorem d_X11_freeNumber_19 : decode prog_1_method_70_code 19 = .ok (.getfield 122, 3) := by decide +kernel
theorem d_X11_freeNumber_22 : decode prog_1_method_70_code 22 = .ok (.ifCond .ne 5, 3) := by decide +kernel
theorem d_X11_freeNumber_25 : decode prog_1_method_70_code 25 = .ok (.iload_n 1, 1) := by decide +kernel
theorem d_X11_freeNumber_26 : decode prog_1_method_70_code 26 = .ok (.ireturn, 1) := by decide +kernel
theorem d_X11_freeNumber_27 : decode prog_1_method_70_code 27 = .ok (.iinc 1 1, 3) := by decide +kernel
theorem d_X11_freeNumber_30 : decode prog_1_method_70_code 30 = .ok (.goto (-28), 3) := by decide +kernel
theorem d_X11_freeNumber_33 : decode prog_1_method_70_code 33 = .ok (.iconst (-1), 1) := by decide +kernel
theorem d_X11_freeNumber_34 : decode prog_1_method_70_code 34 = .ok (.ireturn, 1) := by decide +kernel
theorem v_X11_freeNumber_0 {E : EE} {d : Nat} {Q : Option AV → AH → Prop} {x0 : Nat} {G : AH} (h : wp E d M_X11_freeNumber 2 [some (vr x0), some (vi 0), none] [] G Q) : wp E d M_X11_freeNumber 0 [some (vr x0), none, none] [] G Q := by
  refine wp_iconst (pc := 0) (v := 0) d_X11_freeNumber_0 rfl ?_
  refine wp_istore_n (pc := 1) (lv' := [some (vr _), some (vi _), none]) d_X11_freeNumber_1 (by decide) rfl ?_
  refine wp_sub ?_ h
  exact ⟨rfl, ⟨rfl, trivial⟩⟩
theorem v_X11_freeNumber_2 {E : EE} {d : Nat} {Q : Option AV → AH → Prop} {x0 : Nat} {x1 : Int32} {G : AH} (h : (4 ≤ x1 → Q (some (vi (-1))) G) ∧ (¬ (4 ≤ x1) → isO E G x0 11 ∧ (isO E G (gR G x0 3) 17 ∧ (vp_in x1 (gN G (gR G x0 3)) ∧ (((gR G (gR G x0 3) (Int32.toNatClampNeg x1)) = 0 → Q (some (vi x1)) G) ∧ (¬ (gR G (gR G x0 3) (Int32.toNatClampNeg x1)) = 0 → isO E G (gR G (gR G x0 3) (Int32.toNatClampNeg x1)) 3 ∧ ((¬ (gI G (gR G (gR G x0 3) (Int32.toNatClampNeg x1)) 0) = 0 → wp E d M_X11_freeNumber 2 [some (vr x0), some (vi (x1 + 1)), none] [] G Q) ∧ ((gI G (gR G (gR G x0 3) (Int32.toNatClampNeg x1)) 0) = 0 → Q (some (vi x1)) G)))))))) : wp E d M_X11_freeNumber 2 [some (vr x0), some (vi x1), none] [] G Q := by
  refine wp_iload_n (pc := 2) d_X11_freeNumber_2 rfl ?_
  refine wp_iconst (pc := 3) (v := 4) d_X11_freeNumber_3 rfl ?_
  refine wp_icmp_ge (pc := 4) (tgt := 33) d_X11_freeNumber_4 (by decide) (fun hc => ?_) (fun hc => ?_)
  · have h := h.1 hc
    refine wp_iconst (pc := 33) (v := (-1)) d_X11_freeNumber_33 rfl ?_
    exact wp_iret (pc := 34) d_X11_freeNumber_34 rfl h
  · have h := h.2 hc
    refine wp_aload_n (pc := 7) d_X11_freeNumber_7 rfl ?_
    obtain ⟨ho1, h⟩ := h
    refine wp_getR (pc := 8) d_X11_freeNumber_8 fl_X11_36 (fun _ _ _ => rfl) ho1 ?_
    refine wp_iload_n (pc := 11) d_X11_freeNumber_11 rfl ?_
    obtain ⟨ho2, h⟩ := h
    obtain ⟨hi3, h⟩ := h
    refine wp_aald (pc := 12) d_X11_freeNumber_12 ho2 hi3 ?_
    refine wp_astore_n (pc := 13) (lv' := [some (vr _), some (vi _), some (vr _)]) d_X11_freeNumber_13 (by decide) rfl ?_
    refine wp_aload_n (pc := 14) d_X11_freeNumber_14 rfl ?_
    refine wp_ifnull (pc := 15) (tgt := 25) d_X11_freeNumber_15 (by decide) (fun hc => ?_) (fun hc => ?_)
    · have h := h.1 hc
      refine wp_iload_n (pc := 25) d_X11_freeNumber_25 rfl ?_
      exact wp_iret (pc := 26) d_X11_freeNumber_26 rfl h
    · have h := h.2 hc
      refine wp_aload_n (pc := 18) d_X11_freeNumber_18 rfl ?_
      obtain ⟨ho4, h⟩ := h
      refine wp_getI (pc := 19) d_X11_freeNumber_19 fl_X11_122 (fun _ _ _ => rfl) ho4 ?_
      refine wp_if_ne (pc := 22) (tgt := 27) d_X11_freeNumber_22 (by decide) (fun hc => ?_) (fun hc => ?_)
      · have h := h.1 hc
        refine wp_iinc (pc := 27) (v := 1) (lv' := [some (vr _), some (vi _), some (vr _)]) d_X11_freeNumber_27 (by decide) rfl rfl rfl ?_
        refine wp_goto (pc := 30) (tgt := 2) d_X11_freeNumber_30 (by decide) ?_
        refine wp_sub ?_ h
        exact ⟨rfl, ⟨rfl, trivial⟩⟩
      · have h := h.2 hc
        refine wp_iload_n (pc := 25) d_X11_freeNumber_25 rfl ?_
        exact wp_iret (pc := 26) d_X11_freeNumber_26 rfl h
theorem d_X11_roomFor_0 : decode prog_1_method_71_code 0 = .ok (.aload_n 0, 1) := by decide +kernel
theorem d_X11_roomFor_1 : decode prog_1_method_71_code 1 = .ok (.getfield 36, 3) := by decide +kernel
theorem d_X11_roomFor_4 : decode prog_1_method_71_code 4 = .ok (.iload_n 1, 1) := by decide +kernel
theorem d_X11_roomFor_5 : decode prog_1_method_71_code 5 = .ok (.aaload, 1) := by decide +kernel
theorem d_X11_roomFor_6 : decode prog_1_method_71_code 6 = .ok (.astore_n 2, 1) := by decide +kernel
theorem d_X11_roomFor_7 : decode prog_1_method_71_code 7 = .ok (.aload_n 2, 1) := by decide +kernel
theorem d_X11_roomFor_8 : decode prog_1_method_71_code 8 = .ok (.ifnull 5, 3) := by decide +kernel
theorem d_X11_roomFor_11 : decode prog_1_method_71_code 11 = .ok (.aload_n 2, 1) := by decide +kernel
theorem d_X11_roomFor_12 : decode prog_1_method_71_code 12 = .ok (.areturn, 1) := by decide +kernel
theorem d_X11_roomFor_13 : decode prog_1_method_71_code 13 = .ok (.new 34, 3) := by decide +kernel
theorem d_X11_roomFor_16 : decode prog_1_method_71_code 16 = .ok (.dup, 1) := by decide +kernel
theorem d_X11_roomFor_17 : decode prog_1_method_71_code 17 = .ok (.invokespecial 460, 3) := by decide +kernel
theorem d_X11_roomFor_20 : decode prog_1_method_71_code 20 = .ok (.astore_n 3, 1) := by decide +kernel
theorem d_X11_roomFor_21 : decode prog_1_method_71_code 21 = .ok (.aload_n 0, 1) := by decide +kernel
theorem d_X11_roomFor_22 : decode prog_1_method_71_code 22 = .ok (.getfield 36, 3) := by decide +kernel
theorem d_X11_roomFor_25 : decode prog_1_method_71_code 25 = .ok (.iload_n 1, 1) := by decide +kernel
theorem d_X11_roomFor_26 : decode prog_1_method_71_code 26 = .ok (.aload_n 3, 1) := by decide +kernel
theorem d_X11_roomFor_27 : decode prog_1_method_71_code 27 = .ok (.aastore, 1) := by decide +kernel
theorem d_X11_roomFor_28 : decode prog_1_method_71_code 28 = .ok (.aload_n 3, 1) := by decide +kernel
theorem d_X11_roomFor_29 : decode prog_1_method_71_code 29 = .ok (.areturn, 1) := by decide +kernel
theorem v_X11_roomFor_0 {E : EE} {d : Nat} {Q : Option AV → AH → Prop} {x0 : Nat} {x1 : Int32} {G : AH} (h0 : 0 < d) (h : isO E G x0 11 ∧ (isO E G (gR G x0 3) 17 ∧ (vp_in x1 (gN G (gR G x0 3)) ∧ (((gR G (gR G x0 3) (Int32.toNatClampNeg x1)) = 0 → eB E ≤ gT G ∧ (∀ G9 : AH, G9 = nw G 3 0 19 → wpV E (d - 1) M_X3_init [vr (gT G)] G9 (fun G13 => isO E G13 x0 11 ∧ (isO E G13 (gR G13 x0 3) 17 ∧ (vp_in x1 (gN G13 (gR G13 x0 3)) ∧ (isO E G13 (gT G) 3 ∧ (∀ G18 : AH, G18 = sR G13 (gR G13 x0 3) (Int32.toNatClampNeg x1) (gT G) → Q (some (vr (gT G))) G18))))))) ∧ (¬ (gR G (gR G x0 3) (Int32.toNatClampNeg x1)) = 0 → Q (some (vr (gR G (gR G x0 3) (Int32.toNatClampNeg x1)))) G))))) : wp E d M_X11_roomFor 0 [some (vr x0), some (vi x1), none, none] [] G Q := by
  refine wp_aload_n (pc := 0) d_X11_roomFor_0 rfl ?_
  obtain ⟨ho1, h⟩ := h
  refine wp_getR (pc := 1) d_X11_roomFor_1 fl_X11_36 (fun _ _ _ => rfl) ho1 ?_
  refine wp_iload_n (pc := 4) d_X11_roomFor_4 rfl ?_
  obtain ⟨ho2, h⟩ := h
  obtain ⟨hi3, h⟩ := h
  refine wp_aald (pc := 5) d_X11_roomFor_5 ho2 hi3 ?_
  refine wp_astore_n (pc := 6) (lv' := [some (vr _), some (vi _), some (vr _), none]) d_X11_roomFor_6 (by decide) rfl ?_
  refine wp_aload_n (pc := 7) d_X11_roomFor_7 rfl ?_
  refine wp_ifnull (pc := 8) (tgt := 13) d_X11_roomFor_8 (by decide) (fun hc => ?_) (fun hc => ?_)
  · have h := h.1 hc
    obtain ⟨hb4, h⟩ := h
    refine wp_new (pc := 13) (c := 3) (r := (cn_3, ct_3, 19)) d_X11_roomFor_13 rfl cx_X11_34 it_3 ii_3 ?_
    refine wp_nm (fun G9 eG9 => ?_)
    have h := h G9 eG9
    have ho10 := isO_nwE eG9 ho1
    have hb11 := base_nwE eG9 hb4
    have ho12 := isO_newE eG9 hb4
    refine wp_dup (pc := 16) d_X11_roomFor_16 (c1_r _) ?_
    refine wp_invI (pc := 17) (N := M_X3_init) (As := []) (rest := [vr _]) d_X11_roomFor_17 ml_X11_460 mk_X3_init mi_X3_init h0 ho12 (Nat.le_of_ble_eq_true rfl) ?_
    refine wpM.mono h (fun rr G13 hr => ?_)
    obtain ⟨rfl, h⟩ := hr
    show wp E d M_X11_roomFor 20 [some (vr _), some (vi _), some (vr _), none] [vr _] G13 Q
    refine wp_astore_n (pc := 20) (lv' := [some (vr _), some (vi _), some (vr _), some (vr _)]) d_X11_roomFor_20 (by decide) rfl ?_
    refine wp_aload_n (pc := 21) d_X11_roomFor_21 rfl ?_
    obtain ⟨ho14, h⟩ := h
    refine wp_getR (pc := 22) d_X11_roomFor_22 fl_X11_36 (fun _ _ _ => rfl) ho14 ?_
    refine wp_iload_n (pc := 25) d_X11_roomFor_25 rfl ?_
    refine wp_aload_n (pc := 26) d_X11_roomFor_26 rfl ?_
    obtain ⟨ho15, h⟩ := h
    obtain ⟨hi16, h⟩ := h
    obtain ⟨ho17, h⟩ := h
    refine wp_aast (pc := 27) d_X11_roomFor_27 ho15 hi16 ho17 ?_
    refine wp_nm (fun G18 eG18 => ?_)
    have h := h G18 eG18
    have ho19 := isO_sR eG18 ho14
    have ho20 := isO_sR eG18 ho17
    refine wp_aload_n (pc := 28) d_X11_roomFor_28 rfl ?_
    exact wp_aret (pc := 29) d_X11_roomFor_29 rfl (Or.inl ⟨_, rfl⟩) h
  · have h := h.2 hc
    refine wp_aload_n (pc := 11) d_X11_roomFor_11 rfl ?_
    exact wp_aret (pc := 12) d_X11_roomFor_12 rfl (Or.inl ⟨_, rfl⟩) h
theorem d_X11_save_0 : decode prog_1_method_59_code 0 = .ok (.aload_n 0, 1) := by decide +kernel
theorem d_X11_save_1 : decode prog_1_method_59_code 1 = .ok (.iload_n 1, 1) := by decide +kernel
theorem d_X11_save_2 : decode prog_1_method_59_code 2 = .ok (.invokevirtual 132, 3) := by decide +kernel
theorem d_X11_save_5 : decode prog_1_method_59_code 5 = .ok (.astore_n 2, 1) := by decide +kernel
theorem d_X11_save_6 : decode prog_1_method_59_code 6 = .ok (.aload_n 2, 1) := by decide +kernel
theorem d_X11_save_7 : decode prog_1_method_59_code 7 = .ok (.ifnonnull 7, 3) := by decide +kernel
theorem d_X11_save_10 : decode prog_1_method_59_code 10 = .ok (.iconst (-1), 1) := by decide +kernel
theorem d_X11_save_11 : decode prog_1_method_59_code 11 = .ok (.goto 11, 3) := by decide +kernel
theorem d_X11_save_14 : decode prog_1_method_59_code 14 = .ok (.aload_n 0, 1) := by decide +kernel
theorem d_X11_save_15 : decode prog_1_method_59_code 15 = .ok (.getfield 64, 3) := by decide +kernel
theorem d_X11_save_18 : decode prog_1_method_59_code 18 = .ok (.aload_n 2, 1) := by decide +kernel
theorem d_X11_save_19 : decode prog_1_method_59_code 19 = .ok (.invokevirtual 432, 3) := by decide +kernel
theorem d_X11_save_22 : decode prog_1_method_59_code 22 = .ok (.ireturn, 1) := by decide +kernel
theorem v_X11_save_0 {E : EE} {d : Nat} {Q : Option AV → AH → Prop} {x0 : Nat} {x1 : Int32} {G : AH} (h0 : 0 < d) (h : isO E G x0 11 ∧ (wpR E (d - 1) M_X11_known [vr x0, vi x1] G (fun r1 G2 => (¬ r1 = 0 → isO E G2 x0 11 ∧ (isO E G2 (gR G2 x0 7) 8 ∧ (wpI E (d - 1) M_X8_add [vr (gR G2 x0 7), vr r1] G2 (fun r4 G5 => Q (some (vi r4)) G5)))) ∧ (r1 = 0 → Q (some (vi (-1))) G2)))) : wp E d M_X11_save 0 [some (vr x0), some (vi x1), none] [] G Q := by
  refine wp_aload_n (pc := 0) d_X11_save_0 rfl ?_
  refine wp_iload_n (pc := 1) d_X11_save_1 rfl ?_
  obtain ⟨ho7, h⟩ := h
  refine wp_invV (pc := 2) (N := M_X11_known) (As := [vi _]) (rest := []) (r := (cn_11, ct_11, 12)) d_X11_save_2 ml_X11_132 mk_X11_known mv_X11_known h0 ho7 rfl rfl (Nat.le_of_ble_eq_true rfl) ?_
  refine wpM.mono h (fun rr G2 hr => ?_)
  obtain ⟨r1, rfl, h⟩ := hr
  show wp E d M_X11_save 5 [some (vr _), some (vi _), none] [vr _] G2 Q
  refine wp_astore_n (pc := 5) (lv' := [some (vr _), some (vi _), some (vr _)]) d_X11_save_5 (by decide) rfl ?_
  refine wp_aload_n (pc := 6) d_X11_save_6 rfl ?_
  refine wp_ifnonnull (pc := 7) (tgt := 14) d_X11_save_7 (by decide) (fun hc => ?_) (fun hc => ?_)
  · have h := h.1 hc
    refine wp_aload_n (pc := 14) d_X11_save_14 rfl ?_
    obtain ⟨ho3, h⟩ := h
    refine wp_getR (pc := 15) d_X11_save_15 fl_X11_64 (fun _ _ _ => rfl) ho3 ?_
    refine wp_aload_n (pc := 18) d_X11_save_18 rfl ?_
    obtain ⟨ho6, h⟩ := h
    refine wp_invV (pc := 19) (N := M_X8_add) (As := [vr _]) (rest := []) (r := (cn_8, ct_8, 5)) d_X11_save_19 ml_X11_432 mk_X8_add mv_X8_add h0 ho6 rfl rfl (Nat.le_of_ble_eq_true rfl) ?_
    refine wpM.mono h (fun rr G5 hr => ?_)
    obtain ⟨r4, rfl, h⟩ := hr
    show wp E d M_X11_save 22 [some (vr _), some (vi _), some (vr _)] [vi _] G5 Q
    exact wp_iret (pc := 22) d_X11_save_22 rfl h
  · have h := h.2 hc
    refine wp_iconst (pc := 10) (v := (-1)) d_X11_save_10 rfl ?_
    refine wp_goto (pc := 11) (tgt := 22) d_X11_save_11 (by decide) ?_
    exact wp_iret (pc := 22) d_X11_save_22 rfl h
theorem d_X11_known_0 : decode prog_1_method_68_code 0 = .ok (.iload_n 1, 1) := by decide +kernel
theorem d_X11_known_1 : decode prog_1_method_68_code 1 = .ok (.ifCond .lt 8, 3) := by decide +kernel
theorem d_X11_known_4 : decode prog_1_method_68_code 4 = .ok (.iload_n 1, 1) := by decide +kernel
theorem d_X11_known_5 : decode prog_1_method_68_code 5 = .ok (.iconst 4, 1) := by decide +kernel
theorem d_X11_known_6 : decode prog_1_method_68_code 6 = .ok (.if_icmp .lt 5, 3) := by decide +kernel
theorem d_X11_known_9 : decode prog_1_method_68_code 9 = .ok (.aconst_null, 1) := by decide +kernel
theorem d_X11_known_10 : decode prog_1_method_68_code 10 = .ok (.areturn, 1) := by decide +kernel
theorem d_X11_known_11 : decode prog_1_method_68_code 11 = .ok (.aload_n 0, 1) := by decide +kernel
theorem d_X11_known_12 : decode prog_1_method_68_code 12 = .ok (.getfield 36, 3) := by decide +kernel
theorem d_X11_known_15 : decode prog_1_method_68_code 15 = .ok (.iload_n 1, 1) := by decide +kernel
theorem d_X11_known_16 : decode prog_1_method_68_code 16 = .ok (.aaload, 1) := by decide +kernel
theorem d_X11_known_17 : decode prog_1_method_68_code 17 = .ok (.astore_n 2, 1) := by decide +kernel
theorem d_X11_known_18 : decode prog_1_method_68_code 18 = .ok (.aload_n 2, 1) := by decide +kernel
theorem d_X11_known_19 : decode prog_1_method_68_code 19 = .ok (.ifnull 14, 3) := by decide +kernel
theorem d_X11_known_22 : decode prog_1_method_68_code 22 = .ok (.aload_n 2, 1) := by decide +kernel
theorem d_X11_known_23 : decode prog_1_method_68_code 23 = .ok (.getfield 122, 3) := by decide +kernel
theorem d_X11_known_26 : decode prog_1_method_68_code 26 = .ok (.ifCond .eq 7, 3) := by decide +kernel
theorem d_X11_known_29 : decode prog_1_method_68_code 29 = .ok (.aload_n 2, 1) := by decide +kernel
theorem d_X11_known_30 : decode prog_1_method_68_code 30 = .ok (.goto 4, 3) := by decide +kernel
theorem d_X11_known_33 : decode prog_1_method_68_code 33 = .ok (.aconst_null, 1) := by decide +kernel
theorem d_X11_known_34 : decode prog_1_method_68_code 34 = .ok (.areturn, 1) := by decide +kernel
theorem v_X11_known_0 {E : EE} {d : Nat} {Q : Option AV → AH → Prop} {x0 : Nat} {x1 : Int32} {G : AH} (h : (x1 < 0 → Q (some (vr 0)) G) ∧ (¬ (x1 < 0) → (x1 < 4 → isO E G x0 11 ∧ (isO E G (gR G x0 3) 17 ∧ (vp_in x1 (gN G (gR G x0 3)) ∧ (((gR G (gR G x0 3) (Int32.toNatClampNeg x1)) = 0 → Q (some (vr 0)) G) ∧ (¬ (gR G (gR G x0 3) (Int32.toNatClampNeg x1)) = 0 → isO E G (gR G (gR G x0 3) (Int32.toNatClampNeg x1)) 3 ∧ (((gI G (gR G (gR G x0 3) (Int32.toNatClampNeg x1)) 0) = 0 → Q (some (vr 0)) G) ∧ (¬ ((gI G (gR G (gR G x0 3) (Int32.toNatClampNeg x1)) 0) = 0) → Q (some (vr (gR G (gR G x0 3) (Int32.toNatClampNeg x1)))) G))))))) ∧ (¬ (x1 < 4) → Q (some (vr 0)) G))) : wp E d M_X11_known 0 [some (vr x0), some (vi x1), none] [] G Q := by
  refine wp_iload_n (pc := 0) d_X11_known_0 rfl ?_
  refine wp_if_lt (pc := 1) (tgt := 9) d_X11_known_1 (by decide) (fun hc => ?_) (fun hc => ?_)
  · have h := h.1 hc
    refine wp_null (pc := 9) d_X11_known_9 ?_
    exact wp_aret (pc := 10) d_X11_known_10 rfl (Or.inl ⟨_, rfl⟩) h
  · have h := h.2 hc
    refine wp_iload_n (pc := 4) d_X11_known_4 rfl ?_
    refine wp_iconst (pc := 5) (v := 4) d_X11_known_5 rfl ?_
    refine wp_icmp_lt (pc := 6) (tgt := 11) d_X11_known_6 (by decide) (fun hc => ?_) (fun hc => ?_)
    · have h := h.1 hc
      refine wp_aload_n (pc := 11) d_X11_known_11 rfl ?_
      obtain ⟨ho1, h⟩ := h
      refine wp_getR (pc := 12) d_X11_known_12 fl_X11_36 (fun _ _ _ => rfl) ho1 ?_
      refine wp_iload_n (pc := 15) d_X11_known_15 rfl ?_
      obtain ⟨ho2, h⟩ := h
      obtain ⟨hi3, h⟩ := h
      refine wp_aald (pc := 16) d_X11_known_16 ho2 hi3 ?_
      refine wp_astore_n (pc := 17) (lv' := [some (vr _), some (vi _), some (vr _)]) d_X11_known_17 (by decide) rfl ?_
      refine wp_aload_n (pc := 18) d_X11_known_18 rfl ?_
      refine wp_ifnull (pc := 19) (tgt := 33) d_X11_known_19 (by decide) (fun hc => ?_) (fun hc => ?_)
      · have h := h.1 hc
        refine wp_null (pc := 33) d_X11_known_33 ?_
        exact wp_aret (pc := 34) d_X11_known_34 rfl (Or.inl ⟨_, rfl⟩) h
      · have h := h.2 hc
        refine wp_aload_n (pc := 22) d_X11_known_22 rfl ?_
        obtain ⟨ho4, h⟩ := h
        refine wp_getI (pc := 23) d_X11_known_23 fl_X11_122 (fun _ _ _ => rfl) ho4 ?_
        refine wp_if_eq (pc := 26) (tgt := 33) d_X11_known_26 (by decide) (fun hc => ?_) (fun hc => ?_)
        · have h := h.1 hc
          refine wp_null (pc := 33) d_X11_known_33 ?_
          exact wp_aret (pc := 34) d_X11_known_34 rfl (Or.inl ⟨_, rfl⟩) h
        · have h := h.2 hc
          refine wp_aload_n (pc := 29) d_X11_known_29 rfl ?_
          refine wp_goto (pc := 30) (tgt := 34) d_X11_known_30 (by decide) ?_
          exact wp_aret (pc := 34) d_X11_known_34 rfl (Or.inl ⟨_, rfl⟩) h
    · have h := h.2 hc
      refine wp_null (pc := 9) d_X11_known_9 ?_
      exact wp_aret (pc := 10) d_X11_known_10 rfl (Or.inl ⟨_, rfl⟩) h
theorem d_X11_below_0 : decode prog_1_method_58_code 0 = .ok (.aload_n 0, 1) := by decide +kernel
theorem d_X11_below_1 : decode prog_1_method_58_code 1 = .ok (.getfield 80, 3) := by decide +kernel
theorem d_X11_below_4 : decode prog_1_method_58_code 4 = .ok (.lreturn, 1) := by decide +kernel
theorem v_X11_below_0 {E : EE} {d : Nat} {Q : Option AV → AH → Prop} {x0 : Nat} {G : AH} (h : isO E G x0 11 ∧ (Q (some (vj (gJ G x0 11))) G)) : wp E d M_X11_below 0 [some (vr x0)] [] G Q := by
  refine wp_aload_n (pc := 0) d_X11_below_0 rfl ?_
  obtain ⟨ho1, h⟩ := h
  refine wp_getJ (pc := 1) d_X11_below_1 fl_X11_80 (fun _ _ _ => rfl) ho1 ?_
  exact wp_lret (pc := 4) d_X11_below_4 rfl h
theorem d_X11_above_0 : decode prog_1_method_57_code 0 = .ok (.aload_n 0, 1) := by decide +kernel
theorem d_X11_above_1 : decode prog_1_method_57_code 1 = .ok (.getfield 76, 3) := by decide +kernel
theorem d_X11_above_4 : decode prog_1_method_57_code 4 = .ok (.lreturn, 1) := by decide +kernel
theorem v_X11_above_0 {E : EE} {d : Nat} {Q : Option AV → AH → Prop} {x0 : Nat} {G : AH} (h : isO E G x0 11 ∧ (Q (some (vj (gJ G x0 10))) G)) : wp E d M_X11_above 0 [some (vr x0)] [] G Q := by
  refine wp_aload_n (pc := 0) d_X11_above_0 rfl ?_
  obtain ⟨ho1, h⟩ := h
  refine wp_getJ (pc := 1) d_X11_above_1 fl_X11_76 (fun _ _ _ => rfl) ho1 ?_
  exact wp_lret (pc := 4) d_X11_above_4 rfl h
theorem d_X11_prove_0 : decode prog_1_method_56_code 0 = .ok (.aload_n 0, 1) := by decide +kernel
theorem d_X11_prove_1 : decode prog_1_method_56_code 1 = .ok (.iload_n 1, 1) := by decide +kernel
theorem d_X11_prove_2 : decode prog_1_method_56_code 2 = .ok (.invokevirtual 289, 3) := by decide +kernel
theorem d_X11_prove_5 : decode prog_1_method_56_code 5 = .ok (.astore_n 2, 1) := by decide +kernel
theorem d_X11_prove_6 : decode prog_1_method_56_code 6 = .ok (.aload_n 2, 1) := by decide +kernel
theorem d_X11_prove_7 : decode prog_1_method_56_code 7 = .ok (.ifnull 25, 3) := by decide +kernel
theorem d_X11_prove_10 : decode prog_1_method_56_code 10 = .ok (.aload_n 2, 1) := by decide +kernel
theorem d_X11_prove_11 : decode prog_1_method_56_code 11 = .ok (.getfield 232, 3) := by decide +kernel
theorem d_X11_prove_14 : decode prog_1_method_56_code 14 = .ok (.aload_n 2, 1) := by decide +kernel
theorem d_X11_prove_15 : decode prog_1_method_56_code 15 = .ok (.invokevirtual 422, 3) := by decide +kernel
theorem d_X11_prove_18 : decode prog_1_method_56_code 18 = .ok (.ifCond .ne 14, 3) := by decide +kernel
theorem d_X11_prove_21 : decode prog_1_method_56_code 21 = .ok (.aload_n 0, 1) := by decide +kernel
theorem d_X11_prove_22 : decode prog_1_method_56_code 22 = .ok (.getfield 57, 3) := by decide +kernel
theorem d_X11_prove_25 : decode prog_1_method_56_code 25 = .ok (.aload_n 2, 1) := by decide +kernel
theorem d_X11_prove_26 : decode prog_1_method_56_code 26 = .ok (.invokevirtual 425, 3) := by decide +kernel
theorem d_X11_prove_29 : decode prog_1_method_56_code 29 = .ok (.ifCond .ne 5, 3) := by decide +kernel
theorem d_X11_prove_32 : decode prog_1_method_56_code 32 = .ok (.iconst (-1), 1) := by decide +kernel
theorem d_X11_prove_33 : decode prog_1_method_56_code 33 = .ok (.ireturn, 1) := by decide +kernel
theorem d_X11_prove_34 : decode prog_1_method_56_code 34 = .ok (.aload_n 0, 1) := by decide +kernel
theorem d_X11_prove_35 : decode prog_1_method_56_code 35 = .ok (.getfield 57, 3) := by decide +kernel
theorem d_X11_prove_38 : decode prog_1_method_56_code 38 = .ok (.aload_n 2, 1) := by decide +kernel
theorem d_X11_prove_39 : decode prog_1_method_56_code 39 = .ok (.aload_n 0, 1) := by decide +kernel
theorem d_X11_prove_40 : decode prog_1_method_56_code 40 = .ok (.getfield 12, 3) := by decide +kernel
theorem d_X11_prove_43 : decode prog_1_method_56_code 43 = .ok (.invokevirtual 428, 3) := by decide +kernel
theorem d_X11_prove_46 : decode prog_1_method_56_code 46 = .ok (.aload_n 0, 1) := by decide +kernel
theorem d_X11_prove_47 : decode prog_1_method_56_code 47 = .ok (.getfield 12, 3) := by decide +kernel
theorem d_X11_prove_50 : decode prog_1_method_56_code 50 = .ok (.getfield 83, 3) := by decide +kernel
theorem d_X11_prove_53 : decode prog_1_method_56_code 53 = .ok (.ireturn, 1) := by decide +kernel
theorem v_X11_prove_0 {E : EE} {d : Nat} {Q : Option AV → AH → Prop} {x0 : Nat} {x1 : Int32} {G : AH} (h0 : 0 < d) (h : isO E G x0 11 ∧ (wpR E (d - 1) M_X11_scored [vr x0, vi x1] G (fun r1 G2 => (r1 = 0 → Q (some (vi (-1))) G2) ∧ (¬ r1 = 0 → isO E G2 r1 3 ∧ (isO E G2 (gR G2 r1 6) 9 ∧ (wpI E (d - 1) M_X9_beatsHand [vr (gR G2 r1 6), vr r1] G2 (fun r4 G5 => (¬ r4 = 0 → Q (some (vi (-1))) G5) ∧ (r4 = 0 → isO E G5 x0 11 ∧ (isO E G5 (gR G5 x0 6) 4 ∧ (wpI E (d - 1) M_X4_fits [vr (gR G5 x0 6), vr r1] G5 (fun r7 G8 => (¬ r7 = 0 → isO E G8 x0 11 ∧ (isO E G8 (gR G8 x0 6) 4 ∧ (wpV E (d - 1) M_X4_write [vr (gR G8 x0 6), vr r1, vr (gR G8 x0 0)] G8 (fun G10 => isO E G10 x0 11 ∧ (isO E G10 (gR G10 x0 0) 0 ∧ (Q (some (vi (gI G10 (gR G10 x0 0) 1))) G10)))))) ∧ (r7 = 0 → Q (some (vi (-1))) G8)))))))))))) : wp E d M_X11_prove 0 [some (vr x0), some (vi x1), none] [] G Q := by
  refine wp_aload_n (pc := 0) d_X11_prove_0 rfl ?_
  refine wp_iload_n (pc := 1) d_X11_prove_1 rfl ?_
  obtain ⟨ho16, h⟩ := h
  refine wp_invV (pc := 2) (N := M_X11_scored) (As := [vi _]) (rest := []) (r := (cn_11, ct_11, 12)) d_X11_prove_2 ml_X11_289 mk_X11_scored mv_X11_scored h0 ho16 rfl rfl (Nat.le_of_ble_eq_true rfl) ?_
  refine wpM.mono h (fun rr G2 hr => ?_)
  obtain ⟨r1, rfl, h⟩ := hr
  show wp E d M_X11_prove 5 [some (vr _), some (vi _), none] [vr _] G2 Q
  refine wp_astore_n (pc := 5) (lv' := [some (vr _), some (vi _), some (vr _)]) d_X11_prove_5 (by decide) rfl ?_
  refine wp_aload_n (pc := 6) d_X11_prove_6 rfl ?_
  refine wp_ifnull (pc := 7) (tgt := 32) d_X11_prove_7 (by decide) (fun hc => ?_) (fun hc => ?_)
  · have h := h.1 hc
    refine wp_iconst (pc := 32) (v := (-1)) d_X11_prove_32 rfl ?_
    exact wp_iret (pc := 33) d_X11_prove_33 rfl h
  · have h := h.2 hc
    refine wp_aload_n (pc := 10) d_X11_prove_10 rfl ?_
    obtain ⟨ho3, h⟩ := h
    refine wp_getR (pc := 11) d_X11_prove_11 fl_X11_232 (fun _ _ _ => rfl) ho3 ?_
    refine wp_aload_n (pc := 14) d_X11_prove_14 rfl ?_
    obtain ⟨ho15, h⟩ := h
    refine wp_invV (pc := 15) (N := M_X9_beatsHand) (As := [vr _]) (rest := []) (r := (cn_9, ct_9, 8)) d_X11_prove_15 ml_X11_422 mk_X9_beatsHand mv_X9_beatsHand h0 ho15 rfl rfl (Nat.le_of_ble_eq_true rfl) ?_
    refine wpM.mono h (fun rr G5 hr => ?_)
    obtain ⟨r4, rfl, h⟩ := hr
    show wp E d M_X11_prove 18 [some (vr _), some (vi _), some (vr _)] [vi _] G5 Q
    refine wp_if_ne (pc := 18) (tgt := 32) d_X11_prove_18 (by decide) (fun hc => ?_) (fun hc => ?_)
    · have h := h.1 hc
      refine wp_iconst (pc := 32) (v := (-1)) d_X11_prove_32 rfl ?_
      exact wp_iret (pc := 33) d_X11_prove_33 rfl h
    · have h := h.2 hc
      refine wp_aload_n (pc := 21) d_X11_prove_21 rfl ?_
      obtain ⟨ho6, h⟩ := h
      refine wp_getR (pc := 22) d_X11_prove_22 fl_X11_57 (fun _ _ _ => rfl) ho6 ?_
      refine wp_aload_n (pc := 25) d_X11_prove_25 rfl ?_
      obtain ⟨ho14, h⟩ := h
      refine wp_invV (pc := 26) (N := M_X4_fits) (As := [vr _]) (rest := []) (r := (cn_4, ct_4, 3)) d_X11_prove_26 ml_X11_425 mk_X4_fits mv_X4_fits h0 ho14 rfl rfl (Nat.le_of_ble_eq_true rfl) ?_
      refine wpM.mono h (fun rr G8 hr => ?_)
      obtain ⟨r7, rfl, h⟩ := hr
      show wp E d M_X11_prove 29 [some (vr _), some (vi _), some (vr _)] [vi _] G8 Q
      refine wp_if_ne (pc := 29) (tgt := 34) d_X11_prove_29 (by decide) (fun hc => ?_) (fun hc => ?_)
      · have h := h.1 hc
        refine wp_aload_n (pc := 34) d_X11_prove_34 rfl ?_
        obtain ⟨ho9, h⟩ := h
        refine wp_getR (pc := 35) d_X11_prove_35 fl_X11_57 (fun _ _ _ => rfl) ho9 ?_
        refine wp_aload_n (pc := 38) d_X11_prove_38 rfl ?_
        refine wp_aload_n (pc := 39) d_X11_prove_39 rfl ?_
        refine wp_getR (pc := 40) d_X11_prove_40 fl_X11_12 (fun _ _ _ => rfl) ho9 ?_
        obtain ⟨ho13, h⟩ := h
        refine wp_invV (pc := 43) (N := M_X4_write) (As := [vr _, vr _]) (rest := []) (r := (cn_4, ct_4, 3)) d_X11_prove_43 ml_X11_428 mk_X4_write mv_X4_write h0 ho13 rfl rfl (Nat.le_of_ble_eq_true rfl) ?_
        refine wpM.mono h (fun rr G10 hr => ?_)
        obtain ⟨rfl, h⟩ := hr
        show wp E d M_X11_prove 46 [some (vr _), some (vi _), some (vr _)] [] G10 Q
        refine wp_aload_n (pc := 46) d_X11_prove_46 rfl ?_
        obtain ⟨ho11, h⟩ := h
        refine wp_getR (pc := 47) d_X11_prove_47 fl_X11_12 (fun _ _ _ => rfl) ho11 ?_
        obtain ⟨ho12, h⟩ := h
        refine wp_getI (pc := 50) d_X11_prove_50 fl_X11_83 (fun _ _ _ => rfl) ho12 ?_
        exact wp_iret (pc := 53) d_X11_prove_53 rfl h
      · have h := h.2 hc
        refine wp_iconst (pc := 32) (v := (-1)) d_X11_prove_32 rfl ?_
        exact wp_iret (pc := 33) d_X11_prove_33 rfl h
theorem d_X11_scored_0 : decode prog_1_method_69_code 0 = .ok (.aload_n 0, 1) := by decide +kernel
theorem d_X11_scored_1 : decode prog_1_method_69_code 1 = .ok (.iload_n 1, 1) := by decide +kernel
theorem d_X11_scored_2 : decode prog_1_method_69_code 2 = .ok (.invokevirtual 132, 3) := by decide +kernel
theorem d_X11_scored_5 : decode prog_1_method_69_code 5 = .ok (.astore_n 2, 1) := by decide +kernel
theorem d_X11_scored_6 : decode prog_1_method_69_code 6 = .ok (.aload_n 2, 1) := by decide +kernel
theorem d_X11_scored_7 : decode prog_1_method_69_code 7 = .ok (.ifnull 11, 3) := by decide +kernel
theorem d_X11_scored_10 : decode prog_1_method_69_code 10 = .ok (.aload_n 2, 1) := by decide +kernel
theorem d_X11_scored_11 : decode prog_1_method_69_code 11 = .ok (.getfield 232, 3) := by decide +kernel
theorem d_X11_scored_14 : decode prog_1_method_69_code 14 = .ok (.aload_n 2, 1) := by decide +kernel
theorem d_X11_scored_15 : decode prog_1_method_69_code 15 = .ok (.invokevirtual 236, 3) := by decide +kernel
theorem d_X11_scored_18 : decode prog_1_method_69_code 18 = .ok (.aload_n 2, 1) := by decide +kernel
theorem d_X11_scored_19 : decode prog_1_method_69_code 19 = .ok (.areturn, 1) := by decide +kernel
theorem v_X11_scored_0 {E : EE} {d : Nat} {Q : Option AV → AH → Prop} {x0 : Nat} {x1 : Int32} {G : AH} (h0 : 0 < d) (h : isO E G x0 11 ∧ (wpR E (d - 1) M_X11_known [vr x0, vi x1] G (fun r1 G2 => (r1 = 0 → Q (some (vr r1)) G2) ∧ (¬ r1 = 0 → isO E G2 r1 3 ∧ (isO E G2 (gR G2 r1 6) 9 ∧ (wpV E (d - 1) M_X9_renew [vr (gR G2 r1 6), vr r1] G2 (fun G4 => Q (some (vr r1)) G4))))))) : wp E d M_X11_scored 0 [some (vr x0), some (vi x1), none] [] G Q := by
  refine wp_aload_n (pc := 0) d_X11_scored_0 rfl ?_
  refine wp_iload_n (pc := 1) d_X11_scored_1 rfl ?_
  obtain ⟨ho6, h⟩ := h
  refine wp_invV (pc := 2) (N := M_X11_known) (As := [vi _]) (rest := []) (r := (cn_11, ct_11, 12)) d_X11_scored_2 ml_X11_132 mk_X11_known mv_X11_known h0 ho6 rfl rfl (Nat.le_of_ble_eq_true rfl) ?_
  refine wpM.mono h (fun rr G2 hr => ?_)
  obtain ⟨r1, rfl, h⟩ := hr
  show wp E d M_X11_scored 5 [some (vr _), some (vi _), none] [vr _] G2 Q
  refine wp_astore_n (pc := 5) (lv' := [some (vr _), some (vi _), some (vr _)]) d_X11_scored_5 (by decide) rfl ?_
  refine wp_aload_n (pc := 6) d_X11_scored_6 rfl ?_
  refine wp_ifnull (pc := 7) (tgt := 18) d_X11_scored_7 (by decide) (fun hc => ?_) (fun hc => ?_)
  · have h := h.1 hc
    refine wp_aload_n (pc := 18) d_X11_scored_18 rfl ?_
    exact wp_aret (pc := 19) d_X11_scored_19 rfl (Or.inl ⟨_, rfl⟩) h
  · have h := h.2 hc
    refine wp_aload_n (pc := 10) d_X11_scored_10 rfl ?_
    obtain ⟨ho3, h⟩ := h
    refine wp_getR (pc := 11) d_X11_scored_11 fl_X11_232 (fun _ _ _ => rfl) ho3 ?_
    refine wp_aload_n (pc := 14) d_X11_scored_14 rfl ?_
    obtain ⟨ho5, h⟩ := h
    refine wp_invV (pc := 15) (N := M_X9_renew) (As := [vr _]) (rest := []) (r := (cn_9, ct_9, 8)) d_X11_scored_15 ml_X11_236 mk_X9_renew mv_X9_renew h0 ho5 rfl rfl (Nat.le_of_ble_eq_true rfl) ?_
    refine wpM.mono h (fun rr G4 hr => ?_)
    obtain ⟨rfl, h⟩ := hr
    show wp E d M_X11_scored 18 [some (vr _), some (vi _), some (vr _)] [] G4 Q
    refine wp_aload_n (pc := 18) d_X11_scored_18 rfl ?_
    exact wp_aret (pc := 19) d_X11_scored_19 rfl (Or.inl ⟨_, rfl⟩) h
theorem d_X11_check_0 : decode prog_1_method_55_code 0 = .ok (.aload_n 0, 1) := by decide +kernel
theorem d_X11_check_1 : decode prog_1_method_55_code 1 = .ok (.iload_n 1, 1) := by decide +kernel
theorem d_X11_check_2 : decode prog_1_method_55_code 2 = .ok (.invokevirtual 289, 3) := by decide +kernel
theorem d_X11_check_5 : decode prog_1_method_55_code 5 = .ok (.astore_n 2, 1) := by decide +kernel
theorem d_X11_check_6 : decode prog_1_method_55_code 6 = .ok (.aload_n 2, 1) := by decide +kernel
theorem d_X11_check_7 : decode prog_1_method_55_code 7 = .ok (.ifnonnull 6, 3) := by decide +kernel
theorem d_X11_check_10 : decode prog_1_method_55_code 10 = .ok (.ldc 86, 2) := by decide +kernel
theorem d_X11_check_12 : decode prog_1_method_55_code 12 = .ok (.ireturn, 1) := by decide +kernel
theorem d_X11_check_13 : decode prog_1_method_55_code 13 = .ok (.aload_n 0, 1) := by decide +kernel
theorem d_X11_check_14 : decode prog_1_method_55_code 14 = .ok (.getfield 57, 3) := by decide +kernel
theorem d_X11_check_17 : decode prog_1_method_55_code 17 = .ok (.aload_n 2, 1) := by decide +kernel
theorem d_X11_check_18 : decode prog_1_method_55_code 18 = .ok (.aload_n 0, 1) := by decide +kernel
theorem d_X11_check_19 : decode prog_1_method_55_code 19 = .ok (.getfield 12, 3) := by decide +kernel
theorem d_X11_check_22 : decode prog_1_method_55_code 22 = .ok (.invokevirtual 418, 3) := by decide +kernel
theorem d_X11_check_25 : decode prog_1_method_55_code 25 = .ok (.istore_n 3, 1) := by decide +kernel
theorem d_X11_check_26 : decode prog_1_method_55_code 26 = .ok (.aload_n 0, 1) := by decide +kernel
theorem d_X11_check_27 : decode prog_1_method_55_code 27 = .ok (.aload_n 0, 1) := by decide +kernel
theorem d_X11_check_28 : decode prog_1_method_55_code 28 = .ok (.getfield 21, 3) := by decide +kernel
theorem d_X11_check_31 : decode prog_1_method_55_code 31 = .ok (.getfield 126, 3) := by decide +kernel
theorem d_X11_check_34 : decode prog_1_method_55_code 34 = .ok (.putfield 72, 3) := by decide +kernel
theorem d_X11_check_37 : decode prog_1_method_55_code 37 = .ok (.iload_n 3, 1) := by decide +kernel
theorem d_X11_check_38 : decode prog_1_method_55_code 38 = .ok (.ifCond .eq 7, 3) := by decide +kernel
theorem d_X11_check_41 : decode prog_1_method_55_code 41 = .ok (.iconst 0, 1) := by decide +kernel
theorem d_X11_check_42 : decode prog_1_method_55_code 42 = .ok (.goto 12, 3) := by decide +kernel
theorem d_X11_check_45 : decode prog_1_method_55_code 45 = .ok (.iconst (-1), 1) := by decide +kernel
theorem d_X11_check_46 : decode prog_1_method_55_code 46 = .ok (.aload_n 0, 1) := by decide +kernel
theorem d_X11_check_47 : decode prog_1_method_55_code 47 = .ok (.getfield 21, 3) := by decide +kernel
theorem d_X11_check_50 : decode prog_1_method_55_code 50 = .ok (.getfield 129, 3) := by decide +kernel
theorem d_X11_check_53 : decode prog_1_method_55_code 53 = .ok (.isub, 1) := by decide +kernel
theorem d_X11_check_54 : decode prog_1_method_55_code 54 = .ok (.ireturn, 1) := by decide +kernel
theorem v_X11_check_0 {E : EE} {d : Nat} {Q : Option AV → AH → Prop} {x0 : Nat} {x1 : Int32} {G : AH} (h0 : 0 < d) (h : isO E G x0 11 ∧ (wpR E (d - 1) M_X11_scored [vr x0, vi x1] G (fun r1 G2 => (¬ r1 = 0 → isO E G2 x0 11 ∧ (isO E G2 (gR G2 x0 6) 4 ∧ (wpI E (d - 1) M_X4_isRight [vr (gR G2 x0 6), vr r1, vr (gR G2 x0 0)] G2 (fun r4 G5 => isO E G5 x0 11 ∧ (isO E G5 (gR G5 x0 1) 10 ∧ ((r4 = 0 → Q (some (vi ((-1) - (gI (sI G5 x0 9 (gI G5 (gR G5 x0 1) 10)) (gR G5 x0 1) 11)))) (sI G5 x0 9 (gI G5 (gR G5 x0 1) 10))) ∧ (¬ (r4 = 0) → Q (some (vi 0)) (sI G5 x0 9 (gI G5 (gR G5 x0 1) 10))))))))) ∧ (r1 = 0 → Q (some (vi (-100000))) G2)))) : wp E d M_X11_check 0 [some (vr x0), some (vi x1), none, none] [] G Q := by
  refine wp_aload_n (pc := 0) d_X11_check_0 rfl ?_
  refine wp_iload_n (pc := 1) d_X11_check_1 rfl ?_
  obtain ⟨ho9, h⟩ := h
  refine wp_invV (pc := 2) (N := M_X11_scored) (As := [vi _]) (rest := []) (r := (cn_11, ct_11, 12)) d_X11_check_2 ml_X11_289 mk_X11_scored mv_X11_scored h0 ho9 rfl rfl (Nat.le_of_ble_eq_true rfl) ?_
  refine wpM.mono h (fun rr G2 hr => ?_)
  obtain ⟨r1, rfl, h⟩ := hr
  show wp E d M_X11_check 5 [some (vr _), some (vi _), none, none] [vr _] G2 Q
  refine wp_astore_n (pc := 5) (lv' := [some (vr _), some (vi _), some (vr _), none]) d_X11_check_5 (by decide) rfl ?_
  refine wp_aload_n (pc := 6) d_X11_check_6 rfl ?_
  refine wp_ifnonnull (pc := 7) (tgt := 13) d_X11_check_7 (by decide) (fun hc => ?_) (fun hc => ?_)
  · have h := h.1 hc
    refine wp_aload_n (pc := 13) d_X11_check_13 rfl ?_
    obtain ⟨ho3, h⟩ := h
    refine wp_getR (pc := 14) d_X11_check_14 fl_X11_57 (fun _ _ _ => rfl) ho3 ?_
    refine wp_aload_n (pc := 17) d_X11_check_17 rfl ?_
    refine wp_aload_n (pc := 18) d_X11_check_18 rfl ?_
    refine wp_getR (pc := 19) d_X11_check_19 fl_X11_12 (fun _ _ _ => rfl) ho3 ?_
    obtain ⟨ho8, h⟩ := h
    refine wp_invV (pc := 22) (N := M_X4_isRight) (As := [vr _, vr _]) (rest := []) (r := (cn_4, ct_4, 3)) d_X11_check_22 ml_X11_418 mk_X4_isRight mv_X4_isRight h0 ho8 rfl rfl (Nat.le_of_ble_eq_true rfl) ?_
    refine wpM.mono h (fun rr G5 hr => ?_)
    obtain ⟨r4, rfl, h⟩ := hr
    show wp E d M_X11_check 25 [some (vr _), some (vi _), some (vr _), none] [vi _] G5 Q
    refine wp_istore_n (pc := 25) (lv' := [some (vr _), some (vi _), some (vr _), some (vi _)]) d_X11_check_25 (by decide) rfl ?_
    refine wp_aload_n (pc := 26) d_X11_check_26 rfl ?_
    refine wp_aload_n (pc := 27) d_X11_check_27 rfl ?_
    obtain ⟨ho6, h⟩ := h
    refine wp_getR (pc := 28) d_X11_check_28 fl_X11_21 (fun _ _ _ => rfl) ho6 ?_
    obtain ⟨ho7, h⟩ := h
    refine wp_getI (pc := 31) d_X11_check_31 fl_X11_126 (fun _ _ _ => rfl) ho7 ?_
    refine wp_putI (pc := 34) d_X11_check_34 fl_X11_72 (fun _ _ _ => rfl) (Or.inl rfl) ho6 (okI_int _) ?_
    refine wp_iload_n (pc := 37) d_X11_check_37 rfl ?_
    refine wp_if_eq (pc := 38) (tgt := 45) d_X11_check_38 (by decide) (fun hc => ?_) (fun hc => ?_)
    · have h := h.1 hc
      refine wp_iconst (pc := 45) (v := (-1)) d_X11_check_45 rfl ?_
      refine wp_aload_n (pc := 46) d_X11_check_46 rfl ?_
      refine wp_getR (pc := 47) d_X11_check_47 fl_X11_21 (fun _ _ _ => rfl) ho6 ?_
      show wp E d M_X11_check 50 [some (vr x0), some (vi x1), some (vr r1), some (vi r4)] [vr (gR G5 x0 1), vi (-1)] (sI G5 x0 9 (gI G5 (gR G5 x0 1) 10)) Q
      refine wp_getI (pc := 50) d_X11_check_50 fl_X11_129 (fun _ _ _ => rfl) ho7 ?_
      refine wp_isub (pc := 53) d_X11_check_53 ?_
      exact wp_iret (pc := 54) d_X11_check_54 rfl h
    · have h := h.2 hc
      refine wp_iconst (pc := 41) (v := 0) d_X11_check_41 rfl ?_
      refine wp_goto (pc := 42) (tgt := 54) d_X11_check_42 (by decide) ?_
      exact wp_iret (pc := 54) d_X11_check_54 rfl h
  · have h := h.2 hc
    refine wp_ldc (pc := 10) (v := (-100000)) d_X11_check_10 ci_X11_86 ?_
    exact wp_iret (pc := 12) d_X11_check_12 rfl h
theorem d_X11_searched_0 : decode prog_1_method_54_code 0 = .ok (.aload_n 0, 1) := by decide +kernel
theorem d_X11_searched_1 : decode prog_1_method_54_code 1 = .ok (.getfield 50, 3) := by decide +kernel
theorem d_X11_searched_4 : decode prog_1_method_54_code 4 = .ok (.getfield 406, 3) := by decide +kernel
theorem d_X11_searched_7 : decode prog_1_method_54_code 7 = .ok (.ifCond .ne 5, 3) := by decide +kernel
theorem d_X11_searched_10 : decode prog_1_method_54_code 10 = .ok (.iconst (-1), 1) := by decide +kernel
theorem d_X11_searched_11 : decode prog_1_method_54_code 11 = .ok (.ireturn, 1) := by decide +kernel
theorem d_X11_searched_12 : decode prog_1_method_54_code 12 = .ok (.iload_n 1, 1) := by decide +kernel
theorem d_X11_searched_13 : decode prog_1_method_54_code 13 = .ok (.tableswitch 51 0 2 #[27, 35, 43], 27) := by decide +kernel
theorem d_X11_searched_40 : decode prog_1_method_54_code 40 = .ok (.aload_n 0, 1) := by decide +kernel
theorem d_X11_searched_41 : decode prog_1_method_54_code 41 = .ok (.getfield 50, 3) := by decide +kernel
theorem d_X11_searched_44 : decode prog_1_method_54_code 44 = .ok (.getfield 409, 3) := by decide +kernel
theorem d_X11_searched_47 : decode prog_1_method_54_code 47 = .ok (.ireturn, 1) := by decide +kernel
theorem d_X11_searched_48 : decode prog_1_method_54_code 48 = .ok (.aload_n 0, 1) := by decide +kernel
theorem d_X11_searched_49 : decode prog_1_method_54_code 49 = .ok (.getfield 50, 3) := by decide +kernel
theorem d_X11_searched_52 : decode prog_1_method_54_code 52 = .ok (.getfield 412, 3) := by decide +kernel
theorem d_X11_searched_55 : decode prog_1_method_54_code 55 = .ok (.ireturn, 1) := by decide +kernel
theorem d_X11_searched_56 : decode prog_1_method_54_code 56 = .ok (.aload_n 0, 1) := by decide +kernel
theorem d_X11_searched_57 : decode prog_1_method_54_code 57 = .ok (.getfield 50, 3) := by decide +kernel
theorem d_X11_searched_60 : decode prog_1_method_54_code 60 = .ok (.getfield 415, 3) := by decide +kernel
theorem d_X11_searched_63 : decode prog_1_method_54_code 63 = .ok (.ireturn, 1) := by decide +kernel
theorem d_X11_searched_64 : decode prog_1_method_54_code 64 = .ok (.iconst (-1), 1) := by decide +kernel
theorem d_X11_searched_65 : decode prog_1_method_54_code 65 = .ok (.ireturn, 1) := by decide +kernel
theorem v_X11_searched_0 {E : EE} {d : Nat} {Q : Option AV → AH → Prop} {x0 : Nat} {x1 : Int32} {G : AH} (h : isO E G x0 11 ∧ (isO E G (gR G x0 5) 6 ∧ ((¬ (gI G (gR G x0 5) 0) = 0 → (x1 = 0 → Q (some (vi (gI G (gR G x0 5) 1))) G) ∧ ((x1 = 1 → Q (some (vi (gI G (gR G x0 5) 2))) G) ∧ ((x1 = 2 → Q (some (vi (gI G (gR G x0 5) 3))) G) ∧ ((¬ x1 = 0 → ¬ x1 = 1 → ¬ x1 = 2 → Q (some (vi (-1))) G))))) ∧ ((gI G (gR G x0 5) 0) = 0 → Q (some (vi (-1))) G)))) : wp E d M_X11_searched 0 [some (vr x0), some (vi x1)] [] G Q := by
  refine wp_aload_n (pc := 0) d_X11_searched_0 rfl ?_
  obtain ⟨ho1, h⟩ := h
  refine wp_getR (pc := 1) d_X11_searched_1 fl_X11_50 (fun _ _ _ => rfl) ho1 ?_
  obtain ⟨ho2, h⟩ := h
  refine wp_getI (pc := 4) d_X11_searched_4 fl_X11_406 (fun _ _ _ => rfl) ho2 ?_
  refine wp_if_ne (pc := 7) (tgt := 12) d_X11_searched_7 (by decide) (fun hc => ?_) (fun hc => ?_)
  · have h := h.1 hc
    refine wp_iload_n (pc := 12) d_X11_searched_12 rfl ?_
    obtain ⟨hk, h⟩ := h
    by_cases hn3 : x1 = 0
    · have h := hk hn3
      refine wp_tblI (pc := 13) (tgt := 40) d_X11_searched_13 (by rw [hn3]; decide) (by rw [hn3]; decide) (by rw [hn3]; first | done | rfl) (by decide) ?_
      refine wp_aload_n (pc := 40) d_X11_searched_40 rfl ?_
      refine wp_getR (pc := 41) d_X11_searched_41 fl_X11_50 (fun _ _ _ => rfl) ho1 ?_
      refine wp_getI (pc := 44) d_X11_searched_44 fl_X11_409 (fun _ _ _ => rfl) ho2 ?_
      exact wp_iret (pc := 47) d_X11_searched_47 rfl h
    obtain ⟨hk, h⟩ := h
    by_cases hn4 : x1 = 1
    · have h := hk hn4
      refine wp_tblI (pc := 13) (tgt := 48) d_X11_searched_13 (by rw [hn4]; decide) (by rw [hn4]; decide) (by rw [hn4]; first | done | rfl) (by decide) ?_
      refine wp_aload_n (pc := 48) d_X11_searched_48 rfl ?_
      refine wp_getR (pc := 49) d_X11_searched_49 fl_X11_50 (fun _ _ _ => rfl) ho1 ?_
      refine wp_getI (pc := 52) d_X11_searched_52 fl_X11_412 (fun _ _ _ => rfl) ho2 ?_
      exact wp_iret (pc := 55) d_X11_searched_55 rfl h
    obtain ⟨hk, h⟩ := h
    by_cases hn5 : x1 = 2
    · have h := hk hn5
      refine wp_tblI (pc := 13) (tgt := 56) d_X11_searched_13 (by rw [hn5]; decide) (by rw [hn5]; decide) (by rw [hn5]; first | done | rfl) (by decide) ?_
      refine wp_aload_n (pc := 56) d_X11_searched_56 rfl ?_
      refine wp_getR (pc := 57) d_X11_searched_57 fl_X11_50 (fun _ _ _ => rfl) ho1 ?_
      refine wp_getI (pc := 60) d_X11_searched_60 fl_X11_415 (fun _ _ _ => rfl) ho2 ?_
      exact wp_iret (pc := 63) d_X11_searched_63 rfl h
    have h := h hn3 hn4 hn5
    have qhn3 := lv_neT (a := 0) hn3 (by decide)
    have qhn4 := lv_neT (a := 1) hn4 (by decide)
    have qhn5 := lv_neT (a := 2) hn5 (by decide)
    refine wp_tblO (pc := 13) (tgt := 64) d_X11_searched_13 (by omega) (by decide) ?_
    refine wp_iconst (pc := 64) (v := (-1)) d_X11_searched_64 rfl ?_
    exact wp_iret (pc := 65) d_X11_searched_65 rfl h
  · have h := h.2 hc
    refine wp_iconst (pc := 10) (v := (-1)) d_X11_searched_10 rfl ?_
    exact wp_iret (pc := 11) d_X11_searched_11 rfl h
theorem d_X11_search_0 : decode prog_1_method_53_code 0 = .ok (.aload_n 0, 1) := by decide +kernel
theorem d_X11_search_1 : decode prog_1_method_53_code 1 = .ok (.iload_n 1, 1) := by decide +kernel
theorem d_X11_search_2 : decode prog_1_method_53_code 2 = .ok (.invokevirtual 132, 3) := by decide +kernel
theorem d_X11_search_5 : decode prog_1_method_53_code 5 = .ok (.astore 6, 2) := by decide +kernel
theorem d_X11_search_7 : decode prog_1_method_53_code 7 = .ok (.aload 6, 2) := by decide +kernel
theorem d_X11_search_9 : decode prog_1_method_53_code 9 = .ok (.ifnull 24, 3) := by decide +kernel
theorem d_X11_search_12 : decode prog_1_method_53_code 12 = .ok (.iload 5, 2) := by decide +kernel
theorem d_X11_search_14 : decode prog_1_method_53_code 14 = .ok (.ifCond .lt 19, 3) := by decide +kernel
theorem d_X11_search_17 : decode prog_1_method_53_code 17 = .ok (.iload 5, 2) := by decide +kernel
theorem d_X11_search_19 : decode prog_1_method_53_code 19 = .ok (.sipush 2000, 3) := by decide +kernel
theorem d_X11_search_22 : decode prog_1_method_53_code 22 = .ok (.if_icmp .gt 11, 3) := by decide +kernel
theorem d_X11_search_25 : decode prog_1_method_53_code 25 = .ok (.iload_n 2, 1) := by decide +kernel
theorem d_X11_search_26 : decode prog_1_method_53_code 26 = .ok (.iload_n 3, 1) := by decide +kernel
theorem d_X11_search_27 : decode prog_1_method_53_code 27 = .ok (.invokestatic 398, 3) := by decide +kernel
theorem d_X11_search_30 : decode prog_1_method_53_code 30 = .ok (.ifCond .ne 5, 3) := by decide +kernel
theorem d_X11_search_33 : decode prog_1_method_53_code 33 = .ok (.iconst (-1), 1) := by decide +kernel
theorem d_X11_search_34 : decode prog_1_method_53_code 34 = .ok (.ireturn, 1) := by decide +kernel
theorem d_X11_search_35 : decode prog_1_method_53_code 35 = .ok (.aload_n 0, 1) := by decide +kernel
theorem d_X11_search_36 : decode prog_1_method_53_code 36 = .ok (.getfield 50, 3) := by decide +kernel
theorem d_X11_search_39 : decode prog_1_method_53_code 39 = .ok (.aload 6, 2) := by decide +kernel
theorem d_X11_search_41 : decode prog_1_method_53_code 41 = .ok (.iload_n 2, 1) := by decide +kernel
theorem d_X11_search_42 : decode prog_1_method_53_code 42 = .ok (.iload_n 3, 1) := by decide +kernel
theorem d_X11_search_43 : decode prog_1_method_53_code 43 = .ok (.iload 4, 2) := by decide +kernel
theorem d_X11_search_45 : decode prog_1_method_53_code 45 = .ok (.iload 5, 2) := by decide +kernel
theorem d_X11_search_47 : decode prog_1_method_53_code 47 = .ok (.invokevirtual 402, 3) := by decide +kernel
theorem d_X11_search_50 : decode prog_1_method_53_code 50 = .ok (.ireturn, 1) := by decide +kernel
theorem v_X11_search_0 {E : EE} {d : Nat} {Q : Option AV → AH → Prop} {x0 : Nat} {x1 : Int32} {x2 : Int32} {x3 : Int32} {x4 : Int32} {x5 : Int32} {G : AH} (h0 : 0 < d) (h : isO E G x0 11 ∧ (wpR E (d - 1) M_X11_known [vr x0, vi x1] G (fun r1 G2 => (r1 = 0 → Q (some (vi (-1))) G2) ∧ (¬ r1 = 0 → (x5 < 0 → Q (some (vi (-1))) G2) ∧ (¬ (x5 < 0) → (2000 < x5 → Q (some (vi (-1))) G2) ∧ (¬ (2000 < x5) → wpI E (d - 1) M_X6_mayBe [vi x2, vi x3] G2 (fun r3 G4 => (¬ r3 = 0 → isO E G4 x0 11 ∧ (isO E G4 (gR G4 x0 5) 6 ∧ (wpI E (d - 1) M_X6_seek [vr (gR G4 x0 5), vr r1, vi x2, vi x3, vi x4, vi x5] G4 (fun r6 G7 => Q (some (vi r6)) G7)))) ∧ (r3 = 0 → Q (some (vi (-1))) G4)))))))) : wp E d M_X11_search 0 [some (vr x0), some (vi x1), some (vi x2), some (vi x3), some (vi x4), some (vi x5), none] [] G Q := by
  refine wp_aload_n (pc := 0) d_X11_search_0 rfl ?_
  refine wp_iload_n (pc := 1) d_X11_search_1 rfl ?_
  obtain ⟨ho9, h⟩ := h
  refine wp_invV (pc := 2) (N := M_X11_known) (As := [vi _]) (rest := []) (r := (cn_11, ct_11, 12)) d_X11_search_2 ml_X11_132 mk_X11_known mv_X11_known h0 ho9 rfl rfl (Nat.le_of_ble_eq_true rfl) ?_
  refine wpM.mono h (fun rr G2 hr => ?_)
  obtain ⟨r1, rfl, h⟩ := hr
  show wp E d M_X11_search 5 [some (vr _), some (vi _), some (vi _), some (vi _), some (vi _), some (vi _), none] [vr _] G2 Q
  refine wp_astore (pc := 5) (lv' := [some (vr _), some (vi _), some (vi _), some (vi _), some (vi _), some (vi _), some (vr _)]) d_X11_search_5 (by decide) rfl ?_
  refine wp_aload (pc := 7) d_X11_search_7 rfl ?_
  refine wp_ifnull (pc := 9) (tgt := 33) d_X11_search_9 (by decide) (fun hc => ?_) (fun hc => ?_)
  · have h := h.1 hc
    refine wp_iconst (pc := 33) (v := (-1)) d_X11_search_33 rfl ?_
    exact wp_iret (pc := 34) d_X11_search_34 rfl h
  · have h := h.2 hc
    refine wp_iload (pc := 12) d_X11_search_12 rfl ?_
    refine wp_if_lt (pc := 14) (tgt := 33) d_X11_search_14 (by decide) (fun hc => ?_) (fun hc => ?_)
    · have h := h.1 hc
      refine wp_iconst (pc := 33) (v := (-1)) d_X11_search_33 rfl ?_
      exact wp_iret (pc := 34) d_X11_search_34 rfl h
    · have h := h.2 hc
      refine wp_iload (pc := 17) d_X11_search_17 rfl ?_
      refine wp_sipush (pc := 19) (v := 2000) d_X11_search_19 rfl ?_
      refine wp_icmp_gt (pc := 22) (tgt := 33) d_X11_search_22 (by decide) (fun hc => ?_) (fun hc => ?_)
      · have h := h.1 hc
        refine wp_iconst (pc := 33) (v := (-1)) d_X11_search_33 rfl ?_
        exact wp_iret (pc := 34) d_X11_search_34 rfl h
      · have h := h.2 hc
        refine wp_iload_n (pc := 25) d_X11_search_25 rfl ?_
        refine wp_iload_n (pc := 26) d_X11_search_26 rfl ?_
        refine wp_invS (pc := 27) (N := M_X6_mayBe) (As := [vi _, vi _]) (rest := []) d_X11_search_27 ml_X11_398 mk_X6_mayBe ms_X6_mayBe h0 (Nat.le_of_ble_eq_true rfl) ?_
        refine wpM.mono h (fun rr G4 hr => ?_)
        obtain ⟨r3, rfl, h⟩ := hr
        show wp E d M_X11_search 30 [some (vr _), some (vi _), some (vi _), some (vi _), some (vi _), some (vi _), some (vr _)] [vi _] G4 Q
        refine wp_if_ne (pc := 30) (tgt := 35) d_X11_search_30 (by decide) (fun hc => ?_) (fun hc => ?_)
        · have h := h.1 hc
          refine wp_aload_n (pc := 35) d_X11_search_35 rfl ?_
          obtain ⟨ho5, h⟩ := h
          refine wp_getR (pc := 36) d_X11_search_36 fl_X11_50 (fun _ _ _ => rfl) ho5 ?_
          refine wp_aload (pc := 39) d_X11_search_39 rfl ?_
          refine wp_iload_n (pc := 41) d_X11_search_41 rfl ?_
          refine wp_iload_n (pc := 42) d_X11_search_42 rfl ?_
          refine wp_iload (pc := 43) d_X11_search_43 rfl ?_
          refine wp_iload (pc := 45) d_X11_search_45 rfl ?_
          obtain ⟨ho8, h⟩ := h
          refine wp_invV (pc := 47) (N := M_X6_seek) (As := [vr _, vi _, vi _, vi _, vi _]) (rest := []) (r := (cn_6, ct_6, 14)) d_X11_search_47 ml_X11_402 mk_X6_seek mv_X6_seek h0 ho8 rfl rfl (Nat.le_of_ble_eq_true rfl) ?_
          refine wpM.mono h (fun rr G7 hr => ?_)
          obtain ⟨r6, rfl, h⟩ := hr
          show wp E d M_X11_search 50 [some (vr _), some (vi _), some (vi _), some (vi _), some (vi _), some (vi _), some (vr _)] [vi _] G7 Q
          exact wp_iret (pc := 50) d_X11_search_50 rfl h
        · have h := h.2 hc
          refine wp_iconst (pc := 33) (v := (-1)) d_X11_search_33 rfl ?_
          exact wp_iret (pc := 34) d_X11_search_34 rfl h
theorem d_X11_regret_0 : decode prog_1_method_52_code 0 = .ok (.aload_n 0, 1) := by decide +kernel
theorem d_X11_regret_1 : decode prog_1_method_52_code 1 = .ok (.iload_n 1, 1) := by decide +kernel
theorem d_X11_regret_2 : decode prog_1_method_52_code 2 = .ok (.invokevirtual 132, 3) := by decide +kernel
theorem d_X11_regret_5 : decode prog_1_method_52_code 5 = .ok (.astore_n 3, 1) := by decide +kernel
theorem d_X11_regret_6 : decode prog_1_method_52_code 6 = .ok (.aload_n 3, 1) := by decide +kernel
theorem d_X11_regret_7 : decode prog_1_method_52_code 7 = .ok (.ifnull 17, 3) := by decide +kernel
theorem d_X11_regret_10 : decode prog_1_method_52_code 10 = .ok (.aload_n 3, 1) := by decide +kernel
theorem d_X11_regret_11 : decode prog_1_method_52_code 11 = .ok (.getfield 168, 3) := by decide +kernel
theorem d_X11_regret_14 : decode prog_1_method_52_code 14 = .ok (.ifCond .eq 10, 3) := by decide +kernel
theorem d_X11_regret_17 : decode prog_1_method_52_code 17 = .ok (.iload_n 2, 1) := by decide +kernel
theorem d_X11_regret_18 : decode prog_1_method_52_code 18 = .ok (.invokestatic 279, 3) := by decide +kernel
theorem d_X11_regret_21 : decode prog_1_method_52_code 21 = .ok (.ifCond .ne 7, 3) := by decide +kernel
theorem d_X11_regret_24 : decode prog_1_method_52_code 24 = .ok (.ldc2_w 215, 3) := by decide +kernel
theorem d_X11_regret_27 : decode prog_1_method_52_code 27 = .ok (.lreturn, 1) := by decide +kernel
theorem d_X11_regret_28 : decode prog_1_method_52_code 28 = .ok (.ldc2_w 215, 3) := by decide +kernel
theorem d_X11_regret_31 : decode prog_1_method_52_code 31 = .ok (.lstore 4, 2) := by decide +kernel
theorem d_X11_regret_33 : decode prog_1_method_52_code 33 = .ok (.iconst 0, 1) := by decide +kernel
theorem d_X11_regret_34 : decode prog_1_method_52_code 34 = .ok (.istore 6, 2) := by decide +kernel
theorem v_X11_regret_0 {E : EE} {d : Nat} {Q : Option AV → AH → Prop} {x0 : Nat} {x1 : Int32} {x2 : Int32} {G : AH} (h0 : 0 < d) (h : isO E G x0 11 ∧ (wpR E (d - 1) M_X11_known [vr x0, vi x1] G (fun r1 G2 => (r1 = 0 → Q (some (vj (-9223372036854775808))) G2) ∧ (¬ r1 = 0 → isO E G2 r1 3 ∧ (((gI G2 r1 11) = 0 → Q (some (vj (-9223372036854775808))) G2) ∧ (¬ ((gI G2 r1 11) = 0) → wpI E (d - 1) M_X11_isLevel [vi x2] G2 (fun r4 G5 => (¬ r4 = 0 → wp E d M_X11_regret 36 [some (vr x0), some (vi x1), some (vi x2), some (vr r1), some (vj (-9223372036854775808)), none, some (vi 0), none, none] [] G5 Q) ∧ (r4 = 0 → Q (some (vj (-9223372036854775808))) G5)))))))) : wp E d M_X11_regret 0 [some (vr x0), some (vi x1), some (vi x2), none, none, none, none, none, none] [] G Q := by
  refine wp_aload_n (pc := 0) d_X11_regret_0 rfl ?_
  refine wp_iload_n (pc := 1) d_X11_regret_1 rfl ?_
  obtain ⟨ho6, h⟩ := h
  refine wp_invV (pc := 2) (N := M_X11_known) (As := [vi _]) (rest := []) (r := (cn_11, ct_11, 12)) d_X11_regret_2 ml_X11_132 mk_X11_known mv_X11_known h0 ho6 rfl rfl (Nat.le_of_ble_eq_true rfl) ?_
  refine wpM.mono h (fun rr G2 hr => ?_)
  obtain ⟨r1, rfl, h⟩ := hr
  show wp E d M_X11_regret 5 [some (vr _), some (vi _), some (vi _), none, none, none, none, none, none] [vr _] G2 Q
  refine wp_astore_n (pc := 5) (lv' := [some (vr _), some (vi _), some (vi _), some (vr _), none, none, none, none, none]) d_X11_regret_5 (by decide) rfl ?_
  refine wp_aload_n (pc := 6) d_X11_regret_6 rfl ?_
  refine wp_ifnull (pc := 7) (tgt := 24) d_X11_regret_7 (by decide) (fun hc => ?_) (fun hc => ?_)
  · have h := h.1 hc
    refine wp_ldc2 (pc := 24) (v := (-9223372036854775808)) d_X11_regret_24 cj_X11_215 ?_
    exact wp_lret (pc := 27) d_X11_regret_27 rfl h
  · have h := h.2 hc
    refine wp_aload_n (pc := 10) d_X11_regret_10 rfl ?_
    obtain ⟨ho3, h⟩ := h
    refine wp_getI (pc := 11) d_X11_regret_11 fl_X11_168 (fun _ _ _ => rfl) ho3 ?_
    refine wp_if_eq (pc := 14) (tgt := 24) d_X11_regret_14 (by decide) (fun hc => ?_) (fun hc => ?_)
    · have h := h.1 hc
      refine wp_ldc2 (pc := 24) (v := (-9223372036854775808)) d_X11_regret_24 cj_X11_215 ?_
      exact wp_lret (pc := 27) d_X11_regret_27 rfl h
    · have h := h.2 hc
      refine wp_iload_n (pc := 17) d_X11_regret_17 rfl ?_
      refine wp_invS (pc := 18) (N := M_X11_isLevel) (As := [vi _]) (rest := []) d_X11_regret_18 ml_X11_279 mk_X11_isLevel ms_X11_isLevel h0 (Nat.le_of_ble_eq_true rfl) ?_
      refine wpM.mono h (fun rr G5 hr => ?_)
      obtain ⟨r4, rfl, h⟩ := hr
      show wp E d M_X11_regret 21 [some (vr _), some (vi _), some (vi _), some (vr _), none, none, none, none, none] [vi _] G5 Q
      refine wp_if_ne (pc := 21) (tgt := 28) d_X11_regret_21 (by decide) (fun hc => ?_) (fun hc => ?_)
      · have h := h.1 hc
        refine wp_ldc2 (pc := 28) (v := (-9223372036854775808)) d_X11_regret_28 cj_X11_215 ?_
        refine wp_lstore (pc := 31) (lv' := [some (vr _), some (vi _), some (vi _), some (vr _), some (vj _), none, none, none, none]) d_X11_regret_31 (by decide) rfl ?_
        refine wp_iconst (pc := 33) (v := 0) d_X11_regret_33 rfl ?_
        refine wp_istore (pc := 34) (lv' := [some (vr _), some (vi _), some (vi _), some (vr _), some (vj _), none, some (vi _), none, none]) d_X11_regret_34 (by decide) rfl ?_
        refine wp_sub ?_ h
        exact ⟨rfl, ⟨rfl, ⟨rfl, ⟨rfl, ⟨rfl, ⟨rfl, trivial⟩⟩⟩⟩⟩⟩
      · have h := h.2 hc
        refine wp_ldc2 (pc := 24) (v := (-9223372036854775808)) d_X11_regret_24 cj_X11_215 ?_
        exact wp_lret (pc := 27) d_X11_regret_27 rfl h
theorem d_X11_expected_0 : decode prog_1_method_51_code 0 = .ok (.aload_n 0, 1) := by decide +kernel
theorem d_X11_expected_1 : decode prog_1_method_51_code 1 = .ok (.iload_n 1, 1) := by decide +kernel
theorem d_X11_expected_2 : decode prog_1_method_51_code 2 = .ok (.invokevirtual 132, 3) := by decide +kernel
theorem d_X11_expected_5 : decode prog_1_method_51_code 5 = .ok (.astore_n 3, 1) := by decide +kernel
theorem d_X11_expected_6 : decode prog_1_method_51_code 6 = .ok (.aload_n 3, 1) := by decide +kernel
theorem d_X11_expected_7 : decode prog_1_method_51_code 7 = .ok (.ifnull 17, 3) := by decide +kernel
theorem d_X11_expected_10 : decode prog_1_method_51_code 10 = .ok (.aload_n 3, 1) := by decide +kernel
theorem d_X11_expected_11 : decode prog_1_method_51_code 11 = .ok (.getfield 168, 3) := by decide +kernel
theorem d_X11_expected_14 : decode prog_1_method_51_code 14 = .ok (.ifCond .eq 10, 3) := by decide +kernel
theorem d_X11_expected_17 : decode prog_1_method_51_code 17 = .ok (.iload_n 2, 1) := by decide +kernel
theorem d_X11_expected_18 : decode prog_1_method_51_code 18 = .ok (.invokestatic 279, 3) := by decide +kernel
theorem d_X11_expected_21 : decode prog_1_method_51_code 21 = .ok (.ifCond .ne 7, 3) := by decide +kernel
theorem d_X11_expected_24 : decode prog_1_method_51_code 24 = .ok (.ldc2_w 215, 3) := by decide +kernel
theorem d_X11_expected_27 : decode prog_1_method_51_code 27 = .ok (.lreturn, 1) := by decide +kernel
theorem d_X11_expected_28 : decode prog_1_method_51_code 28 = .ok (.aload_n 3, 1) := by decide +kernel
theorem d_X11_expected_29 : decode prog_1_method_51_code 29 = .ok (.aload_n 3, 1) := by decide +kernel
theorem d_X11_expected_30 : decode prog_1_method_51_code 30 = .ok (.getfield 254, 3) := by decide +kernel
theorem d_X11_expected_33 : decode prog_1_method_51_code 33 = .ok (.invokevirtual 383, 3) := by decide +kernel
theorem d_X11_expected_36 : decode prog_1_method_51_code 36 = .ok (.pop, 1) := by decide +kernel
theorem d_X11_expected_37 : decode prog_1_method_51_code 37 = .ok (.aload_n 0, 1) := by decide +kernel
theorem d_X11_expected_38 : decode prog_1_method_51_code 38 = .ok (.aload_n 3, 1) := by decide +kernel
theorem d_X11_expected_39 : decode prog_1_method_51_code 39 = .ok (.getfield 362, 3) := by decide +kernel
theorem d_X11_expected_42 : decode prog_1_method_51_code 42 = .ok (.iload_n 2, 1) := by decide +kernel
theorem d_X11_expected_43 : decode prog_1_method_51_code 43 = .ok (.laload, 1) := by decide +kernel
theorem d_X11_expected_44 : decode prog_1_method_51_code 44 = .ok (.aload_n 3, 1) := by decide +kernel
theorem d_X11_expected_45 : decode prog_1_method_51_code 45 = .ok (.invokevirtual 386, 3) := by decide +kernel
theorem d_X11_expected_48 : decode prog_1_method_51_code 48 = .ok (.i2l, 1) := by decide +kernel
theorem d_X11_expected_49 : decode prog_1_method_51_code 49 = .ok (.invokevirtual 320, 3) := by decide +kernel
theorem d_X11_expected_52 : decode prog_1_method_51_code 52 = .ok (.aload_n 3, 1) := by decide +kernel
theorem d_X11_expected_53 : decode prog_1_method_51_code 53 = .ok (.getfield 362, 3) := by decide +kernel
theorem d_X11_expected_56 : decode prog_1_method_51_code 56 = .ok (.iload_n 2, 1) := by decide +kernel
theorem d_X11_expected_57 : decode prog_1_method_51_code 57 = .ok (.laload, 1) := by decide +kernel
theorem d_X11_expected_58 : decode prog_1_method_51_code 58 = .ok (.lreturn, 1) := by decide +kernel
theorem v_X11_expected_0 {E : EE} {d : Nat} {Q : Option AV → AH → Prop} {x0 : Nat} {x1 : Int32} {x2 : Int32} {G : AH} (h0 : 0 < d) (h : isO E G x0 11 ∧ (wpR E (d - 1) M_X11_known [vr x0, vi x1] G (fun r1 G2 => (r1 = 0 → Q (some (vj (-9223372036854775808))) G2) ∧ (¬ r1 = 0 → isO E G2 r1 3 ∧ (((gI G2 r1 11) = 0 → Q (some (vj (-9223372036854775808))) G2) ∧ (¬ ((gI G2 r1 11) = 0) → wpI E (d - 1) M_X11_isLevel [vi x2] G2 (fun r4 G5 => (¬ r4 = 0 → isO E G5 r1 3 ∧ (wpI E (d - 1) M_X3_sumOverFutures [vr r1, vi (gI G5 r1 8)] G5 (fun r7 G8 => isO E G8 r1 3 ∧ (isO E G8 (gR G8 r1 15) 15 ∧ (vp_in x2 (gN G8 (gR G8 r1 15)) ∧ (wpI E (d - 1) M_X3_allOdds [vr r1] G8 (fun r12 G13 => isO E G13 x0 11 ∧ (wpV E (d - 1) M_X11_show [vr x0, vj (gJ G8 (gR G8 r1 15) (Int32.toNatClampNeg x2)), vj (Int32.toInt64 r12)] G13 (fun G14 => isO E G14 r1 3 ∧ (isO E G14 (gR G14 r1 15) 15 ∧ (vp_in x2 (gN G14 (gR G14 r1 15)) ∧ (Q (some (vj (gJ G14 (gR G14 r1 15) (Int32.toNatClampNeg x2)))) G14)))))))))))) ∧ (r4 = 0 → Q (some (vj (-9223372036854775808))) G5)))))))) : wp E d M_X11_expected 0 [some (vr x0), some (vi x1), some (vi x2), none] [] G Q := by
  refine wp_aload_n (pc := 0) d_X11_expected_0 rfl ?_
  refine wp_iload_n (pc := 1) d_X11_expected_1 rfl ?_
  obtain ⟨ho19, h⟩ := h
  refine wp_invV (pc := 2) (N := M_X11_known) (As := [vi _]) (rest := []) (r := (cn_11, ct_11, 12)) d_X11_expected_2 ml_X11_132 mk_X11_known mv_X11_known h0 ho19 rfl rfl (Nat.le_of_ble_eq_true rfl) ?_
  refine wpM.mono h (fun rr G2 hr => ?_)
  obtain ⟨r1, rfl, h⟩ := hr
  show wp E d M_X11_expected 5 [some (vr _), some (vi _), some (vi _), none] [vr _] G2 Q
  refine wp_astore_n (pc := 5) (lv' := [some (vr _), some (vi _), some (vi _), some (vr _)]) d_X11_expected_5 (by decide) rfl ?_
  refine wp_aload_n (pc := 6) d_X11_expected_6 rfl ?_
  refine wp_ifnull (pc := 7) (tgt := 24) d_X11_expected_7 (by decide) (fun hc => ?_) (fun hc => ?_)
  · have h := h.1 hc
    refine wp_ldc2 (pc := 24) (v := (-9223372036854775808)) d_X11_expected_24 cj_X11_215 ?_
    exact wp_lret (pc := 27) d_X11_expected_27 rfl h
  · have h := h.2 hc
    refine wp_aload_n (pc := 10) d_X11_expected_10 rfl ?_
    obtain ⟨ho3, h⟩ := h
    refine wp_getI (pc := 11) d_X11_expected_11 fl_X11_168 (fun _ _ _ => rfl) ho3 ?_
    refine wp_if_eq (pc := 14) (tgt := 24) d_X11_expected_14 (by decide) (fun hc => ?_) (fun hc => ?_)
    · have h := h.1 hc
      refine wp_ldc2 (pc := 24) (v := (-9223372036854775808)) d_X11_expected_24 cj_X11_215 ?_
      exact wp_lret (pc := 27) d_X11_expected_27 rfl h
    · have h := h.2 hc
      refine wp_iload_n (pc := 17) d_X11_expected_17 rfl ?_
      refine wp_invS (pc := 18) (N := M_X11_isLevel) (As := [vi _]) (rest := []) d_X11_expected_18 ml_X11_279 mk_X11_isLevel ms_X11_isLevel h0 (Nat.le_of_ble_eq_true rfl) ?_
      refine wpM.mono h (fun rr G5 hr => ?_)
      obtain ⟨r4, rfl, h⟩ := hr
      show wp E d M_X11_expected 21 [some (vr _), some (vi _), some (vi _), some (vr _)] [vi _] G5 Q
      refine wp_if_ne (pc := 21) (tgt := 28) d_X11_expected_21 (by decide) (fun hc => ?_) (fun hc => ?_)
      · have h := h.1 hc
        refine wp_aload_n (pc := 28) d_X11_expected_28 rfl ?_
        refine wp_aload_n (pc := 29) d_X11_expected_29 rfl ?_
        obtain ⟨ho6, h⟩ := h
        refine wp_getI (pc := 30) d_X11_expected_30 fl_X11_254 (fun _ _ _ => rfl) ho6 ?_
        refine wp_invV (pc := 33) (N := M_X3_sumOverFutures) (As := [vi _]) (rest := []) (r := (cn_3, ct_3, 19)) d_X11_expected_33 ml_X11_383 mk_X3_sumOverFutures mv_X3_sumOverFutures h0 ho6 rfl rfl (Nat.le_of_ble_eq_true rfl) ?_
        refine wpM.mono h (fun rr G8 hr => ?_)
        obtain ⟨r7, rfl, h⟩ := hr
        show wp E d M_X11_expected 36 [some (vr _), some (vi _), some (vi _), some (vr _)] [vi _] G8 Q
        refine wp_pop (pc := 36) d_X11_expected_36 (c1_i _) ?_
        refine wp_aload_n (pc := 37) d_X11_expected_37 rfl ?_
        refine wp_aload_n (pc := 38) d_X11_expected_38 rfl ?_
        obtain ⟨ho9, h⟩ := h
        refine wp_getR (pc := 39) d_X11_expected_39 fl_X11_362 (fun _ _ _ => rfl) ho9 ?_
        refine wp_iload_n (pc := 42) d_X11_expected_42 rfl ?_
        obtain ⟨ho10, h⟩ := h
        obtain ⟨hi11, h⟩ := h
        refine wp_lald (pc := 43) d_X11_expected_43 ho10 hi11 ?_
        refine wp_aload_n (pc := 44) d_X11_expected_44 rfl ?_
        refine wp_invV (pc := 45) (N := M_X3_allOdds) (As := []) (rest := [vj _, vr _]) (r := (cn_3, ct_3, 19)) d_X11_expected_45 ml_X11_386 mk_X3_allOdds mv_X3_allOdds h0 ho9 rfl rfl (Nat.le_of_ble_eq_true rfl) ?_
        refine wpM.mono h (fun rr G13 hr => ?_)
        obtain ⟨r12, rfl, h⟩ := hr
        show wp E d M_X11_expected 48 [some (vr _), some (vi _), some (vi _), some (vr _)] [vi _, vj _, vr _] G13 Q
        refine wp_i2l (pc := 48) d_X11_expected_48 ?_
        obtain ⟨ho18, h⟩ := h
        refine wp_invV (pc := 49) (N := M_X11_show) (As := [vj _, vj _]) (rest := []) (r := (cn_11, ct_11, 12)) d_X11_expected_49 ml_X11_320 mk_X11_show mv_X11_show h0 ho18 rfl rfl (Nat.le_of_ble_eq_true rfl) ?_
        refine wpM.mono h (fun rr G14 hr => ?_)
        obtain ⟨rfl, h⟩ := hr
        show wp E d M_X11_expected 52 [some (vr _), some (vi _), some (vi _), some (vr _)] [] G14 Q
        refine wp_aload_n (pc := 52) d_X11_expected_52 rfl ?_
        obtain ⟨ho15, h⟩ := h
        refine wp_getR (pc := 53) d_X11_expected_53 fl_X11_362 (fun _ _ _ => rfl) ho15 ?_
        refine wp_iload_n (pc := 56) d_X11_expected_56 rfl ?_
        obtain ⟨ho16, h⟩ := h
        obtain ⟨hi17, h⟩ := h
        refine wp_lald (pc := 57) d_X11_expected_57 ho16 hi17 ?_
        exact wp_lret (pc := 58) d_X11_expected_58 rfl h
      · have h := h.2 hc
        refine wp_ldc2 (pc := 24) (v := (-9223372036854775808)) d_X11_expected_24 cj_X11_215 ?_
        exact wp_lret (pc := 27) d_X11_expected_27 rfl h
theorem d_X11_robust_0 : decode prog_1_method_50_code 0 = .ok (.aload_n 0, 1) := by decide +kernel
theorem d_X11_robust_1 : decode prog_1_method_50_code 1 = .ok (.iload_n 1, 1) := by decide +kernel
theorem d_X11_robust_2 : decode prog_1_method_50_code 2 = .ok (.invokevirtual 132, 3) := by decide +kernel
theorem d_X11_robust_5 : decode prog_1_method_50_code 5 = .ok (.astore_n 2, 1) := by decide +kernel
theorem d_X11_robust_6 : decode prog_1_method_50_code 6 = .ok (.aload_n 2, 1) := by decide +kernel
theorem d_X11_robust_7 : decode prog_1_method_50_code 7 = .ok (.ifnonnull 5, 3) := by decide +kernel
theorem d_X11_robust_10 : decode prog_1_method_50_code 10 = .ok (.iconst (-1), 1) := by decide +kernel
theorem d_X11_robust_11 : decode prog_1_method_50_code 11 = .ok (.ireturn, 1) := by decide +kernel
theorem d_X11_robust_12 : decode prog_1_method_50_code 12 = .ok (.aload_n 2, 1) := by decide +kernel
theorem d_X11_robust_13 : decode prog_1_method_50_code 13 = .ok (.getfield 168, 3) := by decide +kernel
theorem d_X11_robust_16 : decode prog_1_method_50_code 16 = .ok (.ifCond .ne 7, 3) := by decide +kernel
theorem d_X11_robust_19 : decode prog_1_method_50_code 19 = .ok (.iconst (-1), 1) := by decide +kernel
theorem d_X11_robust_20 : decode prog_1_method_50_code 20 = .ok (.goto 7, 3) := by decide +kernel
theorem d_X11_robust_23 : decode prog_1_method_50_code 23 = .ok (.aload_n 2, 1) := by decide +kernel
theorem d_X11_robust_24 : decode prog_1_method_50_code 24 = .ok (.invokevirtual 380, 3) := by decide +kernel
theorem v_X11_robust_0 {E : EE} {d : Nat} {Q : Option AV → AH → Prop} {x0 : Nat} {x1 : Int32} {G : AH} (h0 : 0 < d) (h : isO E G x0 11 ∧ (wpR E (d - 1) M_X11_known [vr x0, vi x1] G (fun r1 G2 => (¬ r1 = 0 → isO E G2 r1 3 ∧ ((¬ (gI G2 r1 11) = 0 → wpI E (d - 1) M_X3_mostRobust [vr r1] G2 (fun r4 G5 => wp E d M_X11_robust 27 [some (vr x0), some (vi x1), some (vr r1), none] [vi r4] G5 Q)) ∧ ((gI G2 r1 11) = 0 → wp E d M_X11_robust 27 [some (vr x0), some (vi x1), some (vr r1), none] [vi (-1)] G2 Q))) ∧ (r1 = 0 → Q (some (vi (-1))) G2)))) : wp E d M_X11_robust 0 [some (vr x0), some (vi x1), none, none] [] G Q := by
  refine wp_aload_n (pc := 0) d_X11_robust_0 rfl ?_
  refine wp_iload_n (pc := 1) d_X11_robust_1 rfl ?_
  obtain ⟨ho6, h⟩ := h
  refine wp_invV (pc := 2) (N := M_X11_known) (As := [vi _]) (rest := []) (r := (cn_11, ct_11, 12)) d_X11_robust_2 ml_X11_132 mk_X11_known mv_X11_known h0 ho6 rfl rfl (Nat.le_of_ble_eq_true rfl) ?_
  refine wpM.mono h (fun rr G2 hr => ?_)
  obtain ⟨r1, rfl, h⟩ := hr
  show wp E d M_X11_robust 5 [some (vr _), some (vi _), none, none] [vr _] G2 Q
  refine wp_astore_n (pc := 5) (lv' := [some (vr _), some (vi _), some (vr _), none]) d_X11_robust_5 (by decide) rfl ?_
  refine wp_aload_n (pc := 6) d_X11_robust_6 rfl ?_
  refine wp_ifnonnull (pc := 7) (tgt := 12) d_X11_robust_7 (by decide) (fun hc => ?_) (fun hc => ?_)
  · have h := h.1 hc
    refine wp_aload_n (pc := 12) d_X11_robust_12 rfl ?_
    obtain ⟨ho3, h⟩ := h
    refine wp_getI (pc := 13) d_X11_robust_13 fl_X11_168 (fun _ _ _ => rfl) ho3 ?_
    refine wp_if_ne (pc := 16) (tgt := 23) d_X11_robust_16 (by decide) (fun hc => ?_) (fun hc => ?_)
    · have h := h.1 hc
      refine wp_aload_n (pc := 23) d_X11_robust_23 rfl ?_
      refine wp_invV (pc := 24) (N := M_X3_mostRobust) (As := []) (rest := []) (r := (cn_3, ct_3, 19)) d_X11_robust_24 ml_X11_380 mk_X3_mostRobust mv_X3_mostRobust h0 ho3 rfl rfl (Nat.le_of_ble_eq_true rfl) ?_
      refine wpM.mono h (fun rr G5 hr => ?_)
      obtain ⟨r4, rfl, h⟩ := hr
      show wp E d M_X11_robust 27 [some (vr _), some (vi _), some (vr _), none] [vi _] G5 Q
      refine wp_sub ?_ h
      exact ⟨rfl, ⟨rfl, ⟨rfl, trivial⟩⟩⟩
    · have h := h.2 hc
      refine wp_iconst (pc := 19) (v := (-1)) d_X11_robust_19 rfl ?_
      refine wp_goto (pc := 20) (tgt := 27) d_X11_robust_20 (by decide) ?_
      refine wp_sub ?_ h
      exact ⟨rfl, ⟨rfl, ⟨rfl, trivial⟩⟩⟩
  · have h := h.2 hc
    refine wp_iconst (pc := 10) (v := (-1)) d_X11_robust_10 rfl ?_
    exact wp_iret (pc := 11) d_X11_robust_11 rfl h
theorem d_X11_unfold_0 : decode prog_1_method_49_code 0 = .ok (.aload_n 0, 1) := by decide +kernel
theorem d_X11_unfold_1 : decode prog_1_method_49_code 1 = .ok (.iload_n 1, 1) := by decide +kernel
theorem d_X11_unfold_2 : decode prog_1_method_49_code 2 = .ok (.invokevirtual 132, 3) := by decide +kernel
theorem d_X11_unfold_5 : decode prog_1_method_49_code 5 = .ok (.astore_n 2, 1) := by decide +kernel
theorem d_X11_unfold_6 : decode prog_1_method_49_code 6 = .ok (.aload_n 2, 1) := by decide +kernel
theorem d_X11_unfold_7 : decode prog_1_method_49_code 7 = .ok (.ifnonnull 5, 3) := by decide +kernel
theorem d_X11_unfold_10 : decode prog_1_method_49_code 10 = .ok (.iconst (-1), 1) := by decide +kernel
theorem d_X11_unfold_11 : decode prog_1_method_49_code 11 = .ok (.ireturn, 1) := by decide +kernel
theorem d_X11_unfold_12 : decode prog_1_method_49_code 12 = .ok (.aload_n 2, 1) := by decide +kernel
theorem d_X11_unfold_13 : decode prog_1_method_49_code 13 = .ok (.getfield 168, 3) := by decide +kernel
theorem d_X11_unfold_16 : decode prog_1_method_49_code 16 = .ok (.istore_n 3, 1) := by decide +kernel
theorem d_X11_unfold_17 : decode prog_1_method_49_code 17 = .ok (.aload_n 2, 1) := by decide +kernel
theorem d_X11_unfold_18 : decode prog_1_method_49_code 18 = .ok (.iconst 0, 1) := by decide +kernel
theorem d_X11_unfold_19 : decode prog_1_method_49_code 19 = .ok (.putfield 168, 3) := by decide +kernel
theorem d_X11_unfold_22 : decode prog_1_method_49_code 22 = .ok (.iload_n 3, 1) := by decide +kernel
theorem d_X11_unfold_23 : decode prog_1_method_49_code 23 = .ok (.ireturn, 1) := by decide +kernel
theorem v_X11_unfold_0 {E : EE} {d : Nat} {Q : Option AV → AH → Prop} {x0 : Nat} {x1 : Int32} {G : AH} (h0 : 0 < d) (h : isO E G x0 11 ∧ (wpR E (d - 1) M_X11_known [vr x0, vi x1] G (fun r1 G2 => (¬ r1 = 0 → isO E G2 r1 3 ∧ (Q (some (vi (gI G2 r1 11))) (sI G2 r1 11 0))) ∧ (r1 = 0 → Q (some (vi (-1))) G2)))) : wp E d M_X11_unfold 0 [some (vr x0), some (vi x1), none, none] [] G Q := by
  refine wp_aload_n (pc := 0) d_X11_unfold_0 rfl ?_
  refine wp_iload_n (pc := 1) d_X11_unfold_1 rfl ?_
  obtain ⟨ho4, h⟩ := h
  refine wp_invV (pc := 2) (N := M_X11_known) (As := [vi _]) (rest := []) (r := (cn_11, ct_11, 12)) d_X11_unfold_2 ml_X11_132 mk_X11_known mv_X11_known h0 ho4 rfl rfl (Nat.le_of_ble_eq_true rfl) ?_
  refine wpM.mono h (fun rr G2 hr => ?_)
  obtain ⟨r1, rfl, h⟩ := hr
  show wp E d M_X11_unfold 5 [some (vr _), some (vi _), none, none] [vr _] G2 Q
  refine wp_astore_n (pc := 5) (lv' := [some (vr _), some (vi _), some (vr _), none]) d_X11_unfold_5 (by decide) rfl ?_
  refine wp_aload_n (pc := 6) d_X11_unfold_6 rfl ?_
  refine wp_ifnonnull (pc := 7) (tgt := 12) d_X11_unfold_7 (by decide) (fun hc => ?_) (fun hc => ?_)
  · have h := h.1 hc
    refine wp_aload_n (pc := 12) d_X11_unfold_12 rfl ?_
    obtain ⟨ho3, h⟩ := h
    refine wp_getI (pc := 13) d_X11_unfold_13 fl_X11_168 (fun _ _ _ => rfl) ho3 ?_
    refine wp_istore_n (pc := 16) (lv' := [some (vr _), some (vi _), some (vr _), some (vi _)]) d_X11_unfold_16 (by decide) rfl ?_
    refine wp_aload_n (pc := 17) d_X11_unfold_17 rfl ?_
    refine wp_iconst (pc := 18) (v := 0) d_X11_unfold_18 rfl ?_
    refine wp_putI (pc := 19) d_X11_unfold_19 fl_X11_168 (fun _ _ _ => rfl) (Or.inl rfl) ho3 (okI_int _) ?_
    refine wp_iload_n (pc := 22) d_X11_unfold_22 rfl ?_
    exact wp_iret (pc := 23) d_X11_unfold_23 rfl h
  · have h := h.2 hc
    refine wp_iconst (pc := 10) (v := (-1)) d_X11_unfold_10 rfl ?_
    exact wp_iret (pc := 11) d_X11_unfold_11 rfl h
theorem d_X11_told_0 : decode prog_1_method_48_code 0 = .ok (.aload_n 0, 1) := by decide +kernel
theorem d_X11_told_1 : decode prog_1_method_48_code 1 = .ok (.iload_n 1, 1) := by decide +kernel
theorem d_X11_told_2 : decode prog_1_method_48_code 2 = .ok (.invokevirtual 132, 3) := by decide +kernel
theorem d_X11_told_5 : decode prog_1_method_48_code 5 = .ok (.astore 5, 2) := by decide +kernel
theorem d_X11_told_7 : decode prog_1_method_48_code 7 = .ok (.aload 5, 2) := by decide +kernel
theorem d_X11_told_9 : decode prog_1_method_48_code 9 = .ok (.ifnull 25, 3) := by decide +kernel
theorem d_X11_told_12 : decode prog_1_method_48_code 12 = .ok (.iload_n 2, 1) := by decide +kernel
theorem d_X11_told_13 : decode prog_1_method_48_code 13 = .ok (.ifCond .lt 21, 3) := by decide +kernel
theorem d_X11_told_16 : decode prog_1_method_48_code 16 = .ok (.iload_n 2, 1) := by decide +kernel
theorem d_X11_told_17 : decode prog_1_method_48_code 17 = .ok (.aload 5, 2) := by decide +kernel
theorem d_X11_told_19 : decode prog_1_method_48_code 19 = .ok (.getfield 168, 3) := by decide +kernel
theorem d_X11_told_22 : decode prog_1_method_48_code 22 = .ok (.if_icmp .ge 12, 3) := by decide +kernel
theorem d_X11_told_25 : decode prog_1_method_48_code 25 = .ok (.aload 5, 2) := by decide +kernel
theorem d_X11_told_27 : decode prog_1_method_48_code 27 = .ok (.iload_n 3, 1) := by decide +kernel
theorem d_X11_told_28 : decode prog_1_method_48_code 28 = .ok (.invokevirtual 245, 3) := by decide +kernel
theorem d_X11_told_31 : decode prog_1_method_48_code 31 = .ok (.ifCond .ne 5, 3) := by decide +kernel
theorem d_X11_told_34 : decode prog_1_method_48_code 34 = .ok (.iconst 0, 1) := by decide +kernel
theorem d_X11_told_35 : decode prog_1_method_48_code 35 = .ok (.ireturn, 1) := by decide +kernel
theorem d_X11_told_36 : decode prog_1_method_48_code 36 = .ok (.iload 4, 2) := by decide +kernel
theorem d_X11_told_38 : decode prog_1_method_48_code 38 = .ok (.sipush (-9999), 3) := by decide +kernel
theorem d_X11_told_41 : decode prog_1_method_48_code 41 = .ok (.if_icmp .lt 11, 3) := by decide +kernel
theorem d_X11_told_44 : decode prog_1_method_48_code 44 = .ok (.iload 4, 2) := by decide +kernel
theorem d_X11_told_46 : decode prog_1_method_48_code 46 = .ok (.sipush 9999, 3) := by decide +kernel
theorem d_X11_told_49 : decode prog_1_method_48_code 49 = .ok (.if_icmp .le 5, 3) := by decide +kernel
theorem d_X11_told_52 : decode prog_1_method_48_code 52 = .ok (.iconst 0, 1) := by decide +kernel
theorem d_X11_told_53 : decode prog_1_method_48_code 53 = .ok (.ireturn, 1) := by decide +kernel
theorem d_X11_told_54 : decode prog_1_method_48_code 54 = .ok (.aload 5, 2) := by decide +kernel
theorem d_X11_told_56 : decode prog_1_method_48_code 56 = .ok (.getfield 374, 3) := by decide +kernel
theorem d_X11_told_59 : decode prog_1_method_48_code 59 = .ok (.iload_n 2, 1) := by decide +kernel
theorem d_X11_told_60 : decode prog_1_method_48_code 60 = .ok (.dup2, 1) := by decide +kernel
theorem d_X11_told_61 : decode prog_1_method_48_code 61 = .ok (.iaload, 1) := by decide +kernel
theorem d_X11_told_62 : decode prog_1_method_48_code 62 = .ok (.iconst 1, 1) := by decide +kernel
theorem d_X11_told_63 : decode prog_1_method_48_code 63 = .ok (.iload_n 3, 1) := by decide +kernel
theorem d_X11_told_64 : decode prog_1_method_48_code 64 = .ok (.ishl, 1) := by decide +kernel
theorem d_X11_told_65 : decode prog_1_method_48_code 65 = .ok (.ior, 1) := by decide +kernel
theorem d_X11_told_66 : decode prog_1_method_48_code 66 = .ok (.iastore, 1) := by decide +kernel
theorem d_X11_told_67 : decode prog_1_method_48_code 67 = .ok (.aload 5, 2) := by decide +kernel
theorem d_X11_told_69 : decode prog_1_method_48_code 69 = .ok (.getfield 377, 3) := by decide +kernel
theorem d_X11_told_72 : decode prog_1_method_48_code 72 = .ok (.iload_n 2, 1) := by decide +kernel
theorem d_X11_told_73 : decode prog_1_method_48_code 73 = .ok (.bipush 16, 2) := by decide +kernel
theorem d_X11_told_75 : decode prog_1_method_48_code 75 = .ok (.imul, 1) := by decide +kernel
theorem d_X11_told_76 : decode prog_1_method_48_code 76 = .ok (.iload_n 3, 1) := by decide +kernel
theorem d_X11_told_77 : decode prog_1_method_48_code 77 = .ok (.iadd, 1) := by decide +kernel
theorem d_X11_told_78 : decode prog_1_method_48_code 78 = .ok (.iload 4, 2) := by decide +kernel
theorem d_X11_told_80 : decode prog_1_method_48_code 80 = .ok (.iastore, 1) := by decide +kernel
theorem d_X11_told_81 : decode prog_1_method_48_code 81 = .ok (.iconst 1, 1) := by decide +kernel
theorem d_X11_told_82 : decode prog_1_method_48_code 82 = .ok (.ireturn, 1) := by decide +kernel
theorem v_X11_told_0 {E : EE} {d : Nat} {Q : Option AV → AH → Prop} {x0 : Nat} {x1 : Int32} {x2 : Int32} {x3 : Int32} {x4 : Int32} {G : AH} (h0 : 0 < d) (h : isO E G x0 11 ∧ (wpR E (d - 1) M_X11_known [vr x0, vi x1] G (fun r1 G2 => (r1 = 0 → Q (some (vi 0)) G2) ∧ (¬ r1 = 0 → (x2 < 0 → Q (some (vi 0)) G2) ∧ (¬ (x2 < 0) → isO E G2 r1 3 ∧ (((gI G2 r1 11) ≤ x2 → Q (some (vi 0)) G2) ∧ (¬ ((gI G2 r1 11) ≤ x2) → wpI E (d - 1) M_X3_isFact [vr r1, vi x3] G2 (fun r4 G5 => (¬ r4 = 0 → (x4 < (-9999) → Q (some (vi 0)) G5) ∧ (¬ (x4 < (-9999)) → (x4 ≤ 9999 → isO E G5 r1 3 ∧ (isO E G5 (gR G5 r1 12) 14 ∧ (vp_in x2 (gN G5 (gR G5 r1 12)) ∧ (vp_in x2 (gN G5 (gR G5 r1 12)) ∧ (∀ G10 : AH, G10 = sI G5 (gR G5 r1 12) (Int32.toNatClampNeg x2) ((gI G5 (gR G5 r1 12) (Int32.toNatClampNeg x2)) ||| (1 <<< (x3 &&& 31))) → isO E G10 (gR G10 r1 13) 14 ∧ (vp_in ((x2 * 16) + x3) (gN G10 (gR G10 r1 13)) ∧ (∀ G14 : AH, G14 = sI G10 (gR G10 r1 13) (Int32.toNatClampNeg ((x2 * 16) + x3)) x4 → Q (some (vi 1)) G14))))))) ∧ (¬ (x4 ≤ 9999) → Q (some (vi 0)) G5))) ∧ (r4 = 0 → Q (some (vi 0)) G5))))))))) : wp E d M_X11_told 0 [some (vr x0), some (vi x1), some (vi x2), some (vi x3), some (vi x4), none] [] G Q := by
  refine wp_aload_n (pc := 0) d_X11_told_0 rfl ?_
  refine wp_iload_n (pc := 1) d_X11_told_1 rfl ?_
  obtain ⟨ho16, h⟩ := h
  refine wp_invV (pc := 2) (N := M_X11_known) (As := [vi _]) (rest := []) (r := (cn_11, ct_11, 12)) d_X11_told_2 ml_X11_132 mk_X11_known mv_X11_known h0 ho16 rfl rfl (Nat.le_of_ble_eq_true rfl) ?_
  refine wpM.mono h (fun rr G2 hr => ?_)
  obtain ⟨r1, rfl, h⟩ := hr
  show wp E d M_X11_told 5 [some (vr _), some (vi _), some (vi _), some (vi _), some (vi _), none] [vr _] G2 Q
  refine wp_astore (pc := 5) (lv' := [some (vr _), some (vi _), some (vi _), some (vi _), some (vi _), some (vr _)]) d_X11_told_5 (by decide) rfl ?_
  refine wp_aload (pc := 7) d_X11_told_7 rfl ?_
  refine wp_ifnull (pc := 9) (tgt := 34) d_X11_told_9 (by decide) (fun hc => ?_) (fun hc => ?_)
  · have h := h.1 hc
    refine wp_iconst (pc := 34) (v := 0) d_X11_told_34 rfl ?_
    exact wp_zret (pc := 35) d_X11_told_35 rfl rfl h
  · have h := h.2 hc
    refine wp_iload_n (pc := 12) d_X11_told_12 rfl ?_
    refine wp_if_lt (pc := 13) (tgt := 34) d_X11_told_13 (by decide) (fun hc => ?_) (fun hc => ?_)
    · have h := h.1 hc
      refine wp_iconst (pc := 34) (v := 0) d_X11_told_34 rfl ?_
      exact wp_zret (pc := 35) d_X11_told_35 rfl rfl h
    · have h := h.2 hc
      refine wp_iload_n (pc := 16) d_X11_told_16 rfl ?_
      refine wp_aload (pc := 17) d_X11_told_17 rfl ?_
      obtain ⟨ho3, h⟩ := h
      refine wp_getI (pc := 19) d_X11_told_19 fl_X11_168 (fun _ _ _ => rfl) ho3 ?_
      refine wp_icmp_ge (pc := 22) (tgt := 34) d_X11_told_22 (by decide) (fun hc => ?_) (fun hc => ?_)
      · have h := h.1 hc
        refine wp_iconst (pc := 34) (v := 0) d_X11_told_34 rfl ?_
        exact wp_zret (pc := 35) d_X11_told_35 rfl rfl h
      · have h := h.2 hc
        refine wp_aload (pc := 25) d_X11_told_25 rfl ?_
        refine wp_iload_n (pc := 27) d_X11_told_27 rfl ?_
        refine wp_invV (pc := 28) (N := M_X3_isFact) (As := [vi _]) (rest := []) (r := (cn_3, ct_3, 19)) d_X11_told_28 ml_X11_245 mk_X3_isFact mv_X3_isFact h0 ho3 rfl rfl (Nat.le_of_ble_eq_true rfl) ?_
        refine wpM.mono h (fun rr G5 hr => ?_)
        obtain ⟨r4, rfl, h⟩ := hr
        show wp E d M_X11_told 31 [some (vr _), some (vi _), some (vi _), some (vi _), some (vi _), some (vr _)] [vi _] G5 Q
        refine wp_if_ne (pc := 31) (tgt := 36) d_X11_told_31 (by decide) (fun hc => ?_) (fun hc => ?_)
        · have h := h.1 hc
          refine wp_iload (pc := 36) d_X11_told_36 rfl ?_
          refine wp_sipush (pc := 38) (v := (-9999)) d_X11_told_38 rfl ?_
          refine wp_icmp_lt (pc := 41) (tgt := 52) d_X11_told_41 (by decide) (fun hc => ?_) (fun hc => ?_)
          · have h := h.1 hc
            refine wp_iconst (pc := 52) (v := 0) d_X11_told_52 rfl ?_
            exact wp_zret (pc := 53) d_X11_told_53 rfl rfl h
          · have h := h.2 hc
            refine wp_iload (pc := 44) d_X11_told_44 rfl ?_
            refine wp_sipush (pc := 46) (v := 9999) d_X11_told_46 rfl ?_
            refine wp_icmp_le (pc := 49) (tgt := 54) d_X11_told_49 (by decide) (fun hc => ?_) (fun hc => ?_)
            · have h := h.1 hc
              refine wp_aload (pc := 54) d_X11_told_54 rfl ?_
              obtain ⟨ho6, h⟩ := h
              refine wp_getR (pc := 56) d_X11_told_56 fl_X11_374 (fun _ _ _ => rfl) ho6 ?_
              refine wp_iload_n (pc := 59) d_X11_told_59 rfl ?_
              refine wp_dup2 (pc := 60) d_X11_told_60 (c1_i _) (c1_r _) ?_
              obtain ⟨ho7, h⟩ := h
              obtain ⟨hi8, h⟩ := h
              refine wp_iald (pc := 61) d_X11_told_61 ho7 hi8 ?_
              refine wp_iconst (pc := 62) (v := 1) d_X11_told_62 rfl ?_
              refine wp_iload_n (pc := 63) d_X11_told_63 rfl ?_
              refine wp_ishl (pc := 64) d_X11_told_64 ?_
              refine wp_ior (pc := 65) d_X11_told_65 ?_
              obtain ⟨hi9, h⟩ := h
              refine wp_iast (pc := 66) d_X11_told_66 ho7 hi9 ?_
              refine wp_nm (fun G10 eG10 => ?_)
              have h := h G10 eG10
              have ho11 := isO_sI eG10 ho6
              refine wp_aload (pc := 67) d_X11_told_67 rfl ?_
              refine wp_getR (pc := 69) d_X11_told_69 fl_X11_377 (fun _ _ _ => rfl) ho11 ?_
              refine wp_iload_n (pc := 72) d_X11_told_72 rfl ?_
              refine wp_bipush (pc := 73) (v := 16) d_X11_told_73 rfl ?_
              refine wp_imul (pc := 75) d_X11_told_75 ?_
              refine wp_iload_n (pc := 76) d_X11_told_76 rfl ?_
              refine wp_iadd (pc := 77) d_X11_told_77 ?_
              refine wp_iload (pc := 78) d_X11_told_78 rfl ?_
              obtain ⟨ho12, h⟩ := h
              obtain ⟨hi13, h⟩ := h
              refine wp_iast (pc := 80) d_X11_told_80 ho12 hi13 ?_
              refine wp_nm (fun G14 eG14 => ?_)
              have h := h G14 eG14
              have ho15 := isO_sI eG14 ho11
              refine wp_iconst (pc := 81) (v := 1) d_X11_told_81 rfl ?_
              exact wp_zret (pc := 82) d_X11_told_82 rfl rfl h
            · have h := h.2 hc
              refine wp_iconst (pc := 52) (v := 0) d_X11_told_52 rfl ?_
              exact wp_zret (pc := 53) d_X11_told_53 rfl rfl h
        · have h := h.2 hc
          refine wp_iconst (pc := 34) (v := 0) d_X11_told_34 rfl ?_
          exact wp_zret (pc := 35) d_X11_told_35 rfl rfl h
theorem d_X11_future_0 : decode prog_1_method_47_code 0 = .ok (.aload_n 0, 1) := by decide +kernel
theorem d_X11_future_1 : decode prog_1_method_47_code 1 = .ok (.iload_n 1, 1) := by decide +kernel
theorem d_X11_future_2 : decode prog_1_method_47_code 2 = .ok (.invokevirtual 132, 3) := by decide +kernel
theorem d_X11_future_5 : decode prog_1_method_47_code 5 = .ok (.astore_n 3, 1) := by decide +kernel
theorem d_X11_future_6 : decode prog_1_method_47_code 6 = .ok (.aload_n 3, 1) := by decide +kernel
theorem d_X11_future_7 : decode prog_1_method_47_code 7 = .ok (.ifnull 14, 3) := by decide +kernel
theorem d_X11_future_10 : decode prog_1_method_47_code 10 = .ok (.iload_n 2, 1) := by decide +kernel
theorem d_X11_future_11 : decode prog_1_method_47_code 11 = .ok (.iconst 1, 1) := by decide +kernel
theorem d_X11_future_12 : decode prog_1_method_47_code 12 = .ok (.if_icmp .lt 9, 3) := by decide +kernel
theorem d_X11_future_15 : decode prog_1_method_47_code 15 = .ok (.iload_n 2, 1) := by decide +kernel
theorem d_X11_future_16 : decode prog_1_method_47_code 16 = .ok (.bipush 100, 2) := by decide +kernel
theorem d_X11_future_18 : decode prog_1_method_47_code 18 = .ok (.if_icmp .le 5, 3) := by decide +kernel
theorem d_X11_future_21 : decode prog_1_method_47_code 21 = .ok (.iconst (-1), 1) := by decide +kernel
theorem d_X11_future_22 : decode prog_1_method_47_code 22 = .ok (.ireturn, 1) := by decide +kernel
theorem d_X11_future_23 : decode prog_1_method_47_code 23 = .ok (.aload_n 3, 1) := by decide +kernel
theorem d_X11_future_24 : decode prog_1_method_47_code 24 = .ok (.getfield 168, 3) := by decide +kernel
theorem d_X11_future_27 : decode prog_1_method_47_code 27 = .ok (.bipush 6, 2) := by decide +kernel
theorem d_X11_future_29 : decode prog_1_method_47_code 29 = .ok (.if_icmp .lt 8, 3) := by decide +kernel
theorem d_X11_future_32 : decode prog_1_method_47_code 32 = .ok (.ldc 86, 2) := by decide +kernel
theorem d_X11_future_34 : decode prog_1_method_47_code 34 = .ok (.goto 8, 3) := by decide +kernel
theorem d_X11_future_37 : decode prog_1_method_47_code 37 = .ok (.aload_n 3, 1) := by decide +kernel
theorem d_X11_future_38 : decode prog_1_method_47_code 38 = .ok (.iload_n 2, 1) := by decide +kernel
theorem d_X11_future_39 : decode prog_1_method_47_code 39 = .ok (.invokevirtual 371, 3) := by decide +kernel
theorem d_X11_future_42 : decode prog_1_method_47_code 42 = .ok (.ireturn, 1) := by decide +kernel
theorem v_X11_future_0 {E : EE} {d : Nat} {Q : Option AV → AH → Prop} {x0 : Nat} {x1 : Int32} {x2 : Int32} {G : AH} (h0 : 0 < d) (h : isO E G x0 11 ∧ (wpR E (d - 1) M_X11_known [vr x0, vi x1] G (fun r1 G2 => (r1 = 0 → Q (some (vi (-1))) G2) ∧ (¬ r1 = 0 → (x2 < 1 → Q (some (vi (-1))) G2) ∧ (¬ (x2 < 1) → (x2 ≤ 100 → isO E G2 r1 3 ∧ (((gI G2 r1 11) < 6 → wpI E (d - 1) M_X3_addFuture [vr r1, vi x2] G2 (fun r4 G5 => Q (some (vi r4)) G5)) ∧ (¬ ((gI G2 r1 11) < 6) → Q (some (vi (-100000))) G2))) ∧ (¬ (x2 ≤ 100) → Q (some (vi (-1))) G2)))))) : wp E d M_X11_future 0 [some (vr x0), some (vi x1), some (vi x2), none] [] G Q := by
  refine wp_aload_n (pc := 0) d_X11_future_0 rfl ?_
  refine wp_iload_n (pc := 1) d_X11_future_1 rfl ?_
  obtain ⟨ho6, h⟩ := h
  refine wp_invV (pc := 2) (N := M_X11_known) (As := [vi _]) (rest := []) (r := (cn_11, ct_11, 12)) d_X11_future_2 ml_X11_132 mk_X11_known mv_X11_known h0 ho6 rfl rfl (Nat.le_of_ble_eq_true rfl) ?_
  refine wpM.mono h (fun rr G2 hr => ?_)
  obtain ⟨r1, rfl, h⟩ := hr
  show wp E d M_X11_future 5 [some (vr _), some (vi _), some (vi _), none] [vr _] G2 Q
  refine wp_astore_n (pc := 5) (lv' := [some (vr _), some (vi _), some (vi _), some (vr _)]) d_X11_future_5 (by decide) rfl ?_
  refine wp_aload_n (pc := 6) d_X11_future_6 rfl ?_
  refine wp_ifnull (pc := 7) (tgt := 21) d_X11_future_7 (by decide) (fun hc => ?_) (fun hc => ?_)
  · have h := h.1 hc
    refine wp_iconst (pc := 21) (v := (-1)) d_X11_future_21 rfl ?_
    exact wp_iret (pc := 22) d_X11_future_22 rfl h
  · have h := h.2 hc
    refine wp_iload_n (pc := 10) d_X11_future_10 rfl ?_
    refine wp_iconst (pc := 11) (v := 1) d_X11_future_11 rfl ?_
    refine wp_icmp_lt (pc := 12) (tgt := 21) d_X11_future_12 (by decide) (fun hc => ?_) (fun hc => ?_)
    · have h := h.1 hc
      refine wp_iconst (pc := 21) (v := (-1)) d_X11_future_21 rfl ?_
      exact wp_iret (pc := 22) d_X11_future_22 rfl h
    · have h := h.2 hc
      refine wp_iload_n (pc := 15) d_X11_future_15 rfl ?_
      refine wp_bipush (pc := 16) (v := 100) d_X11_future_16 rfl ?_
      refine wp_icmp_le (pc := 18) (tgt := 23) d_X11_future_18 (by decide) (fun hc => ?_) (fun hc => ?_)
      · have h := h.1 hc
        refine wp_aload_n (pc := 23) d_X11_future_23 rfl ?_
        obtain ⟨ho3, h⟩ := h
        refine wp_getI (pc := 24) d_X11_future_24 fl_X11_168 (fun _ _ _ => rfl) ho3 ?_
        refine wp_bipush (pc := 27) (v := 6) d_X11_future_27 rfl ?_
        refine wp_icmp_lt (pc := 29) (tgt := 37) d_X11_future_29 (by decide) (fun hc => ?_) (fun hc => ?_)
        · have h := h.1 hc
          refine wp_aload_n (pc := 37) d_X11_future_37 rfl ?_
          refine wp_iload_n (pc := 38) d_X11_future_38 rfl ?_
          refine wp_invV (pc := 39) (N := M_X3_addFuture) (As := [vi _]) (rest := []) (r := (cn_3, ct_3, 19)) d_X11_future_39 ml_X11_371 mk_X3_addFuture mv_X3_addFuture h0 ho3 rfl rfl (Nat.le_of_ble_eq_true rfl) ?_
          refine wpM.mono h (fun rr G5 hr => ?_)
          obtain ⟨r4, rfl, h⟩ := hr
          show wp E d M_X11_future 42 [some (vr _), some (vi _), some (vi _), some (vr _)] [vi _] G5 Q
          exact wp_iret (pc := 42) d_X11_future_42 rfl h
        · have h := h.2 hc
          refine wp_ldc (pc := 32) (v := (-100000)) d_X11_future_32 ci_X11_86 ?_
          refine wp_goto (pc := 34) (tgt := 42) d_X11_future_34 (by decide) ?_
          exact wp_iret (pc := 42) d_X11_future_42 rfl h
      · have h := h.2 hc
        refine wp_iconst (pc := 21) (v := (-1)) d_X11_future_21 rfl ?_
        exact wp_iret (pc := 22) d_X11_future_22 rfl h
theorem d_X11_because_0 : decode prog_1_method_46_code 0 = .ok (.aload_n 0, 1) := by decide +kernel
theorem d_X11_because_1 : decode prog_1_method_46_code 1 = .ok (.iload_n 1, 1) := by decide +kernel
theorem d_X11_because_2 : decode prog_1_method_46_code 2 = .ok (.invokevirtual 289, 3) := by decide +kernel
theorem d_X11_because_5 : decode prog_1_method_46_code 5 = .ok (.astore 4, 2) := by decide +kernel
theorem d_X11_because_7 : decode prog_1_method_46_code 7 = .ok (.aload 4, 2) := by decide +kernel
theorem d_X11_because_9 : decode prog_1_method_46_code 9 = .ok (.ifnonnull 5, 3) := by decide +kernel
theorem d_X11_because_12 : decode prog_1_method_46_code 12 = .ok (.iconst (-1), 1) := by decide +kernel
theorem d_X11_because_13 : decode prog_1_method_46_code 13 = .ok (.ireturn, 1) := by decide +kernel
theorem d_X11_because_14 : decode prog_1_method_46_code 14 = .ok (.aload 4, 2) := by decide +kernel
theorem d_X11_because_16 : decode prog_1_method_46_code 16 = .ok (.iload_n 2, 1) := by decide +kernel
theorem d_X11_because_17 : decode prog_1_method_46_code 17 = .ok (.iload_n 3, 1) := by decide +kernel
theorem d_X11_because_18 : decode prog_1_method_46_code 18 = .ok (.invokevirtual 365, 3) := by decide +kernel
theorem d_X11_because_21 : decode prog_1_method_46_code 21 = .ok (.istore 5, 2) := by decide +kernel
theorem d_X11_because_23 : decode prog_1_method_46_code 23 = .ok (.iload 5, 2) := by decide +kernel
theorem d_X11_because_25 : decode prog_1_method_46_code 25 = .ok (.ifCond .lt 17, 3) := by decide +kernel
theorem d_X11_because_28 : decode prog_1_method_46_code 28 = .ok (.aload 4, 2) := by decide +kernel
theorem d_X11_because_30 : decode prog_1_method_46_code 30 = .ok (.getfield 232, 3) := by decide +kernel
theorem d_X11_because_33 : decode prog_1_method_46_code 33 = .ok (.aload 4, 2) := by decide +kernel
theorem d_X11_because_35 : decode prog_1_method_46_code 35 = .ok (.iconst 1, 1) := by decide +kernel
theorem d_X11_because_36 : decode prog_1_method_46_code 36 = .ok (.invokevirtual 302, 3) := by decide +kernel
theorem d_X11_because_39 : decode prog_1_method_46_code 39 = .ok (.ifCond .ne 5, 3) := by decide +kernel
theorem d_X11_because_42 : decode prog_1_method_46_code 42 = .ok (.iconst (-1), 1) := by decide +kernel
theorem d_X11_because_43 : decode prog_1_method_46_code 43 = .ok (.ireturn, 1) := by decide +kernel
theorem d_X11_because_44 : decode prog_1_method_46_code 44 = .ok (.aload 4, 2) := by decide +kernel
theorem d_X11_because_46 : decode prog_1_method_46_code 46 = .ok (.iload 5, 2) := by decide +kernel
theorem d_X11_because_48 : decode prog_1_method_46_code 48 = .ok (.aload 4, 2) := by decide +kernel
theorem d_X11_because_50 : decode prog_1_method_46_code 50 = .ok (.getfield 232, 3) := by decide +kernel
theorem d_X11_because_53 : decode prog_1_method_46_code 53 = .ok (.getfield 306, 3) := by decide +kernel
theorem d_X11_because_56 : decode prog_1_method_46_code 56 = .ok (.iconst 0, 1) := by decide +kernel
theorem d_X11_because_57 : decode prog_1_method_46_code 57 = .ok (.iaload, 1) := by decide +kernel
theorem d_X11_because_58 : decode prog_1_method_46_code 58 = .ok (.invokevirtual 368, 3) := by decide +kernel
theorem d_X11_because_61 : decode prog_1_method_46_code 61 = .ok (.ireturn, 1) := by decide +kernel
theorem v_X11_because_0 {E : EE} {d : Nat} {Q : Option AV → AH → Prop} {x0 : Nat} {x1 : Int32} {x2 : Int32} {x3 : Int32} {G : AH} (h0 : 0 < d) (h : isO E G x0 11 ∧ (wpR E (d - 1) M_X11_scored [vr x0, vi x1] G (fun r1 G2 => (¬ r1 = 0 → isO E G2 r1 3 ∧ (wpI E (d - 1) M_X3_firstBestWith [vr r1, vi x2, vi x3] G2 (fun r3 G4 => (r3 < 0 → Q (some (vi (-1))) G4) ∧ (¬ (r3 < 0) → isO E G4 r1 3 ∧ (isO E G4 (gR G4 r1 6) 9 ∧ (wpI E (d - 1) M_X9_gatherFor [vr (gR G4 r1 6), vr r1, vi 1] G4 (fun r6 G7 => (¬ r6 = 0 → isO E G7 r1 3 ∧ (isO E G7 (gR G7 r1 6) 9 ∧ (isO E G7 (gR G7 (gR G7 r1 6) 2) 14 ∧ (vp_in 0 (gN G7 (gR G7 (gR G7 r1 6) 2)) ∧ (wpI E (d - 1) M_X3_firstWorseRule [vr r1, vi r3, vi (gI G7 (gR G7 (gR G7 r1 6) 2) (Int32.toNatClampNeg 0))] G7 (fun r12 G13 => Q (some (vi r12)) G13)))))) ∧ (r6 = 0 → Q (some (vi (-1))) G7)))))))) ∧ (r1 = 0 → Q (some (vi (-1))) G2)))) : wp E d M_X11_because 0 [some (vr x0), some (vi x1), some (vi x2), some (vi x3), none, none] [] G Q := by
  refine wp_aload_n (pc := 0) d_X11_because_0 rfl ?_
  refine wp_iload_n (pc := 1) d_X11_because_1 rfl ?_
  obtain ⟨ho16, h⟩ := h
  refine wp_invV (pc := 2) (N := M_X11_scored) (As := [vi _]) (rest := []) (r := (cn_11, ct_11, 12)) d_X11_because_2 ml_X11_289 mk_X11_scored mv_X11_scored h0 ho16 rfl rfl (Nat.le_of_ble_eq_true rfl) ?_
  refine wpM.mono h (fun rr G2 hr => ?_)
  obtain ⟨r1, rfl, h⟩ := hr
  show wp E d M_X11_because 5 [some (vr _), some (vi _), some (vi _), some (vi _), none, none] [vr _] G2 Q
  refine wp_astore (pc := 5) (lv' := [some (vr _), some (vi _), some (vi _), some (vi _), some (vr _), none]) d_X11_because_5 (by decide) rfl ?_
  refine wp_aload (pc := 7) d_X11_because_7 rfl ?_
  refine wp_ifnonnull (pc := 9) (tgt := 14) d_X11_because_9 (by decide) (fun hc => ?_) (fun hc => ?_)
  · have h := h.1 hc
    refine wp_aload (pc := 14) d_X11_because_14 rfl ?_
    refine wp_iload_n (pc := 16) d_X11_because_16 rfl ?_
    refine wp_iload_n (pc := 17) d_X11_because_17 rfl ?_
    obtain ⟨ho15, h⟩ := h
    refine wp_invV (pc := 18) (N := M_X3_firstBestWith) (As := [vi _, vi _]) (rest := []) (r := (cn_3, ct_3, 19)) d_X11_because_18 ml_X11_365 mk_X3_firstBestWith mv_X3_firstBestWith h0 ho15 rfl rfl (Nat.le_of_ble_eq_true rfl) ?_
    refine wpM.mono h (fun rr G4 hr => ?_)
    obtain ⟨r3, rfl, h⟩ := hr
    show wp E d M_X11_because 21 [some (vr _), some (vi _), some (vi _), some (vi _), some (vr _), none] [vi _] G4 Q
    refine wp_istore (pc := 21) (lv' := [some (vr _), some (vi _), some (vi _), some (vi _), some (vr _), some (vi _)]) d_X11_because_21 (by decide) rfl ?_
    refine wp_iload (pc := 23) d_X11_because_23 rfl ?_
    refine wp_if_lt (pc := 25) (tgt := 42) d_X11_because_25 (by decide) (fun hc => ?_) (fun hc => ?_)
    · have h := h.1 hc
      refine wp_iconst (pc := 42) (v := (-1)) d_X11_because_42 rfl ?_
      exact wp_iret (pc := 43) d_X11_because_43 rfl h
    · have h := h.2 hc
      refine wp_aload (pc := 28) d_X11_because_28 rfl ?_
      obtain ⟨ho5, h⟩ := h
      refine wp_getR (pc := 30) d_X11_because_30 fl_X11_232 (fun _ _ _ => rfl) ho5 ?_
      refine wp_aload (pc := 33) d_X11_because_33 rfl ?_
      refine wp_iconst (pc := 35) (v := 1) d_X11_because_35 rfl ?_
      obtain ⟨ho14, h⟩ := h
      refine wp_invV (pc := 36) (N := M_X9_gatherFor) (As := [vr _, vi _]) (rest := []) (r := (cn_9, ct_9, 8)) d_X11_because_36 ml_X11_302 mk_X9_gatherFor mv_X9_gatherFor h0 ho14 rfl rfl (Nat.le_of_ble_eq_true rfl) ?_
      refine wpM.mono h (fun rr G7 hr => ?_)
      obtain ⟨r6, rfl, h⟩ := hr
      show wp E d M_X11_because 39 [some (vr _), some (vi _), some (vi _), some (vi _), some (vr _), some (vi _)] [vi _] G7 Q
      refine wp_if_ne (pc := 39) (tgt := 44) d_X11_because_39 (by decide) (fun hc => ?_) (fun hc => ?_)
      · have h := h.1 hc
        refine wp_aload (pc := 44) d_X11_because_44 rfl ?_
        refine wp_iload (pc := 46) d_X11_because_46 rfl ?_
        refine wp_aload (pc := 48) d_X11_because_48 rfl ?_
        obtain ⟨ho8, h⟩ := h
        refine wp_getR (pc := 50) d_X11_because_50 fl_X11_232 (fun _ _ _ => rfl) ho8 ?_
        obtain ⟨ho9, h⟩ := h
        refine wp_getR (pc := 53) d_X11_because_53 fl_X11_306 (fun _ _ _ => rfl) ho9 ?_
        refine wp_iconst (pc := 56) (v := 0) d_X11_because_56 rfl ?_
        obtain ⟨ho10, h⟩ := h
        obtain ⟨hi11, h⟩ := h
        refine wp_iald (pc := 57) d_X11_because_57 ho10 hi11 ?_
        refine wp_invV (pc := 58) (N := M_X3_firstWorseRule) (As := [vi _, vi _]) (rest := []) (r := (cn_3, ct_3, 19)) d_X11_because_58 ml_X11_368 mk_X3_firstWorseRule mv_X3_firstWorseRule h0 ho8 rfl rfl (Nat.le_of_ble_eq_true rfl) ?_
        refine wpM.mono h (fun rr G13 hr => ?_)
        obtain ⟨r12, rfl, h⟩ := hr
        show wp E d M_X11_because 61 [some (vr _), some (vi _), some (vi _), some (vi _), some (vr _), some (vi _)] [vi _] G13 Q
        exact wp_iret (pc := 61) d_X11_because_61 rfl h
      · have h := h.2 hc
        refine wp_iconst (pc := 42) (v := (-1)) d_X11_because_42 rfl ?_
        exact wp_iret (pc := 43) d_X11_because_43 rfl h
  · have h := h.2 hc
    refine wp_iconst (pc := 12) (v := (-1)) d_X11_because_12 rfl ?_
    exact wp_iret (pc := 13) d_X11_because_13 rfl h
theorem d_X11_whyNot_0 : decode prog_1_method_45_code 0 = .ok (.aload_n 0, 1) := by decide +kernel
theorem d_X11_whyNot_1 : decode prog_1_method_45_code 1 = .ok (.iload_n 1, 1) := by decide +kernel
theorem d_X11_whyNot_2 : decode prog_1_method_45_code 2 = .ok (.invokevirtual 289, 3) := by decide +kernel
theorem d_X11_whyNot_5 : decode prog_1_method_45_code 5 = .ok (.astore 5, 2) := by decide +kernel
theorem d_X11_whyNot_7 : decode prog_1_method_45_code 7 = .ok (.aload 5, 2) := by decide +kernel
theorem d_X11_whyNot_9 : decode prog_1_method_45_code 9 = .ok (.ifnull 11, 3) := by decide +kernel
theorem d_X11_whyNot_12 : decode prog_1_method_45_code 12 = .ok (.iload 4, 2) := by decide +kernel
theorem d_X11_whyNot_14 : decode prog_1_method_45_code 14 = .ok (.invokestatic 279, 3) := by decide +kernel
theorem d_X11_whyNot_17 : decode prog_1_method_45_code 17 = .ok (.ifCond .ne 7, 3) := by decide +kernel
theorem d_X11_whyNot_20 : decode prog_1_method_45_code 20 = .ok (.ldc2_w 215, 3) := by decide +kernel
theorem d_X11_whyNot_23 : decode prog_1_method_45_code 23 = .ok (.lreturn, 1) := by decide +kernel
theorem d_X11_whyNot_24 : decode prog_1_method_45_code 24 = .ok (.aload 5, 2) := by decide +kernel
theorem d_X11_whyNot_26 : decode prog_1_method_45_code 26 = .ok (.iload_n 2, 1) := by decide +kernel
theorem d_X11_whyNot_27 : decode prog_1_method_45_code 27 = .ok (.iload_n 3, 1) := by decide +kernel
theorem d_X11_whyNot_28 : decode prog_1_method_45_code 28 = .ok (.invokevirtual 365, 3) := by decide +kernel
theorem d_X11_whyNot_31 : decode prog_1_method_45_code 31 = .ok (.istore 6, 2) := by decide +kernel
theorem d_X11_whyNot_33 : decode prog_1_method_45_code 33 = .ok (.iload 6, 2) := by decide +kernel
theorem d_X11_whyNot_35 : decode prog_1_method_45_code 35 = .ok (.ifCond .ge 9, 3) := by decide +kernel
theorem d_X11_whyNot_38 : decode prog_1_method_45_code 38 = .ok (.ldc2_w 215, 3) := by decide +kernel
theorem d_X11_whyNot_41 : decode prog_1_method_45_code 41 = .ok (.goto 15, 3) := by decide +kernel
theorem d_X11_whyNot_44 : decode prog_1_method_45_code 44 = .ok (.aload 5, 2) := by decide +kernel
theorem d_X11_whyNot_46 : decode prog_1_method_45_code 46 = .ok (.getfield 232, 3) := by decide +kernel
theorem d_X11_whyNot_49 : decode prog_1_method_45_code 49 = .ok (.iload 6, 2) := by decide +kernel
theorem d_X11_whyNot_51 : decode prog_1_method_45_code 51 = .ok (.iload 4, 2) := by decide +kernel
theorem d_X11_whyNot_53 : decode prog_1_method_45_code 53 = .ok (.invokevirtual 312, 3) := by decide +kernel
theorem d_X11_whyNot_56 : decode prog_1_method_45_code 56 = .ok (.lreturn, 1) := by decide +kernel
theorem v_X11_whyNot_0 {E : EE} {d : Nat} {Q : Option AV → AH → Prop} {x0 : Nat} {x1 : Int32} {x2 : Int32} {x3 : Int32} {x4 : Int32} {G : AH} (h0 : 0 < d) (h : isO E G x0 11 ∧ (wpR E (d - 1) M_X11_scored [vr x0, vi x1] G (fun r1 G2 => (r1 = 0 → Q (some (vj (-9223372036854775808))) G2) ∧ (¬ r1 = 0 → wpI E (d - 1) M_X11_isLevel [vi x4] G2 (fun r3 G4 => (¬ r3 = 0 → isO E G4 r1 3 ∧ (wpI E (d - 1) M_X3_firstBestWith [vr r1, vi x2, vi x3] G4 (fun r5 G6 => (0 ≤ r5 → isO E G6 r1 3 ∧ (isO E G6 (gR G6 r1 6) 9 ∧ (wpJ E (d - 1) M_X9_scoreOf [vr (gR G6 r1 6), vi r5, vi x4] G6 (fun r8 G9 => Q (some (vj r8)) G9)))) ∧ (¬ (0 ≤ r5) → Q (some (vj (-9223372036854775808))) G6)))) ∧ (r3 = 0 → Q (some (vj (-9223372036854775808))) G4)))))) : wp E d M_X11_whyNot 0 [some (vr x0), some (vi x1), some (vi x2), some (vi x3), some (vi x4), none, none] [] G Q := by
  refine wp_aload_n (pc := 0) d_X11_whyNot_0 rfl ?_
  refine wp_iload_n (pc := 1) d_X11_whyNot_1 rfl ?_
  obtain ⟨ho12, h⟩ := h
  refine wp_invV (pc := 2) (N := M_X11_scored) (As := [vi _]) (rest := []) (r := (cn_11, ct_11, 12)) d_X11_whyNot_2 ml_X11_289 mk_X11_scored mv_X11_scored h0 ho12 rfl rfl (Nat.le_of_ble_eq_true rfl) ?_
  refine wpM.mono h (fun rr G2 hr => ?_)
  obtain ⟨r1, rfl, h⟩ := hr
  show wp E d M_X11_whyNot 5 [some (vr _), some (vi _), some (vi _), some (vi _), some (vi _), none, none] [vr _] G2 Q
  refine wp_astore (pc := 5) (lv' := [some (vr _), some (vi _), some (vi _), some (vi _), some (vi _), some (vr _), none]) d_X11_whyNot_5 (by decide) rfl ?_
  refine wp_aload (pc := 7) d_X11_whyNot_7 rfl ?_
  refine wp_ifnull (pc := 9) (tgt := 20) d_X11_whyNot_9 (by decide) (fun hc => ?_) (fun hc => ?_)
  · have h := h.1 hc
    refine wp_ldc2 (pc := 20) (v := (-9223372036854775808)) d_X11_whyNot_20 cj_X11_215 ?_
    exact wp_lret (pc := 23) d_X11_whyNot_23 rfl h
  · have h := h.2 hc
    refine wp_iload (pc := 12) d_X11_whyNot_12 rfl ?_
    refine wp_invS (pc := 14) (N := M_X11_isLevel) (As := [vi _]) (rest := []) d_X11_whyNot_14 ml_X11_279 mk_X11_isLevel ms_X11_isLevel h0 (Nat.le_of_ble_eq_true rfl) ?_
    refine wpM.mono h (fun rr G4 hr => ?_)
    obtain ⟨r3, rfl, h⟩ := hr
    show wp E d M_X11_whyNot 17 [some (vr _), some (vi _), some (vi _), some (vi _), some (vi _), some (vr _), none] [vi _] G4 Q
    refine wp_if_ne (pc := 17) (tgt := 24) d_X11_whyNot_17 (by decide) (fun hc => ?_) (fun hc => ?_)
    · have h := h.1 hc
      refine wp_aload (pc := 24) d_X11_whyNot_24 rfl ?_
      refine wp_iload_n (pc := 26) d_X11_whyNot_26 rfl ?_
      refine wp_iload_n (pc := 27) d_X11_whyNot_27 rfl ?_
      obtain ⟨ho11, h⟩ := h
      refine wp_invV (pc := 28) (N := M_X3_firstBestWith) (As := [vi _, vi _]) (rest := []) (r := (cn_3, ct_3, 19)) d_X11_whyNot_28 ml_X11_365 mk_X3_firstBestWith mv_X3_firstBestWith h0 ho11 rfl rfl (Nat.le_of_ble_eq_true rfl) ?_
      refine wpM.mono h (fun rr G6 hr => ?_)
      obtain ⟨r5, rfl, h⟩ := hr
      show wp E d M_X11_whyNot 31 [some (vr _), some (vi _), some (vi _), some (vi _), some (vi _), some (vr _), none] [vi _] G6 Q
      refine wp_istore (pc := 31) (lv' := [some (vr _), some (vi _), some (vi _), some (vi _), some (vi _), some (vr _), some (vi _)]) d_X11_whyNot_31 (by decide) rfl ?_
      refine wp_iload (pc := 33) d_X11_whyNot_33 rfl ?_
      refine wp_if_ge (pc := 35) (tgt := 44) d_X11_whyNot_35 (by decide) (fun hc => ?_) (fun hc => ?_)
      · have h := h.1 hc
        refine wp_aload (pc := 44) d_X11_whyNot_44 rfl ?_
        obtain ⟨ho7, h⟩ := h
        refine wp_getR (pc := 46) d_X11_whyNot_46 fl_X11_232 (fun _ _ _ => rfl) ho7 ?_
        refine wp_iload (pc := 49) d_X11_whyNot_49 rfl ?_
        refine wp_iload (pc := 51) d_X11_whyNot_51 rfl ?_
        obtain ⟨ho10, h⟩ := h
        refine wp_invV (pc := 53) (N := M_X9_scoreOf) (As := [vi _, vi _]) (rest := []) (r := (cn_9, ct_9, 8)) d_X11_whyNot_53 ml_X11_312 mk_X9_scoreOf mv_X9_scoreOf h0 ho10 rfl rfl (Nat.le_of_ble_eq_true rfl) ?_
        refine wpM.mono h (fun rr G9 hr => ?_)
        obtain ⟨r8, rfl, h⟩ := hr
        show wp E d M_X11_whyNot 56 [some (vr _), some (vi _), some (vi _), some (vi _), some (vi _), some (vr _), some (vi _)] [vj _] G9 Q
        exact wp_lret (pc := 56) d_X11_whyNot_56 rfl h
      · have h := h.2 hc
        refine wp_ldc2 (pc := 38) (v := (-9223372036854775808)) d_X11_whyNot_38 cj_X11_215 ?_
        refine wp_goto (pc := 41) (tgt := 56) d_X11_whyNot_41 (by decide) ?_
        exact wp_lret (pc := 56) d_X11_whyNot_56 rfl h
    · have h := h.2 hc
      refine wp_ldc2 (pc := 20) (v := (-9223372036854775808)) d_X11_whyNot_20 cj_X11_215 ?_
      exact wp_lret (pc := 23) d_X11_whyNot_23 rfl h
theorem d_X11_without_0 : decode prog_1_method_44_code 0 = .ok (.aload_n 0, 1) := by decide +kernel
theorem d_X11_without_1 : decode prog_1_method_44_code 1 = .ok (.iload_n 1, 1) := by decide +kernel
theorem d_X11_without_2 : decode prog_1_method_44_code 2 = .ok (.invokevirtual 289, 3) := by decide +kernel
theorem d_X11_without_5 : decode prog_1_method_44_code 5 = .ok (.astore 4, 2) := by decide +kernel
theorem d_X11_without_7 : decode prog_1_method_44_code 7 = .ok (.aload 4, 2) := by decide +kernel
theorem d_X11_without_9 : decode prog_1_method_44_code 9 = .ok (.ifnull 19, 3) := by decide +kernel
theorem d_X11_without_12 : decode prog_1_method_44_code 12 = .ok (.aload 4, 2) := by decide +kernel
theorem d_X11_without_14 : decode prog_1_method_44_code 14 = .ok (.iload_n 2, 1) := by decide +kernel
theorem d_X11_without_15 : decode prog_1_method_44_code 15 = .ok (.invokevirtual 220, 3) := by decide +kernel
theorem d_X11_without_18 : decode prog_1_method_44_code 18 = .ok (.ifCond .eq 10, 3) := by decide +kernel
theorem d_X11_without_21 : decode prog_1_method_44_code 21 = .ok (.iload_n 3, 1) := by decide +kernel
theorem d_X11_without_22 : decode prog_1_method_44_code 22 = .ok (.invokestatic 279, 3) := by decide +kernel
theorem d_X11_without_25 : decode prog_1_method_44_code 25 = .ok (.ifCond .ne 7, 3) := by decide +kernel
theorem d_X11_without_28 : decode prog_1_method_44_code 28 = .ok (.ldc2_w 215, 3) := by decide +kernel
theorem d_X11_without_31 : decode prog_1_method_44_code 31 = .ok (.lreturn, 1) := by decide +kernel
theorem d_X11_without_32 : decode prog_1_method_44_code 32 = .ok (.aload 4, 2) := by decide +kernel
theorem d_X11_without_34 : decode prog_1_method_44_code 34 = .ok (.iload_n 2, 1) := by decide +kernel
theorem d_X11_without_35 : decode prog_1_method_44_code 35 = .ok (.invokevirtual 359, 3) := by decide +kernel
theorem d_X11_without_38 : decode prog_1_method_44_code 38 = .ok (.ifCond .eq 13, 3) := by decide +kernel
theorem d_X11_without_41 : decode prog_1_method_44_code 41 = .ok (.aload 4, 2) := by decide +kernel
theorem d_X11_without_43 : decode prog_1_method_44_code 43 = .ok (.getfield 362, 3) := by decide +kernel
theorem d_X11_without_46 : decode prog_1_method_44_code 46 = .ok (.iload_n 3, 1) := by decide +kernel
theorem d_X11_without_47 : decode prog_1_method_44_code 47 = .ok (.laload, 1) := by decide +kernel
theorem d_X11_without_48 : decode prog_1_method_44_code 48 = .ok (.goto 6, 3) := by decide +kernel
theorem d_X11_without_51 : decode prog_1_method_44_code 51 = .ok (.ldc2_w 215, 3) := by decide +kernel
theorem d_X11_without_54 : decode prog_1_method_44_code 54 = .ok (.lreturn, 1) := by decide +kernel
theorem v_X11_without_0 {E : EE} {d : Nat} {Q : Option AV → AH → Prop} {x0 : Nat} {x1 : Int32} {x2 : Int32} {x3 : Int32} {G : AH} (h0 : 0 < d) (h : isO E G x0 11 ∧ (wpR E (d - 1) M_X11_scored [vr x0, vi x1] G (fun r1 G2 => (r1 = 0 → Q (some (vj (-9223372036854775808))) G2) ∧ (¬ r1 = 0 → isO E G2 r1 3 ∧ (wpI E (d - 1) M_X3_isRule [vr r1, vi x2] G2 (fun r3 G4 => (r3 = 0 → Q (some (vj (-9223372036854775808))) G4) ∧ (¬ (r3 = 0) → wpI E (d - 1) M_X11_isLevel [vi x3] G4 (fun r5 G6 => (¬ r5 = 0 → isO E G6 r1 3 ∧ (wpI E (d - 1) M_X3_bestLacking [vr r1, vi x2] G6 (fun r7 G8 => (r7 = 0 → Q (some (vj (-9223372036854775808))) G8) ∧ (¬ (r7 = 0) → isO E G8 r1 3 ∧ (isO E G8 (gR G8 r1 15) 15 ∧ (vp_in x3 (gN G8 (gR G8 r1 15)) ∧ (Q (some (vj (gJ G8 (gR G8 r1 15) (Int32.toNatClampNeg x3)))) G8))))))) ∧ (r5 = 0 → Q (some (vj (-9223372036854775808))) G6))))))))) : wp E d M_X11_without 0 [some (vr x0), some (vi x1), some (vi x2), some (vi x3), none] [] G Q := by
  refine wp_aload_n (pc := 0) d_X11_without_0 rfl ?_
  refine wp_iload_n (pc := 1) d_X11_without_1 rfl ?_
  obtain ⟨ho14, h⟩ := h
  refine wp_invV (pc := 2) (N := M_X11_scored) (As := [vi _]) (rest := []) (r := (cn_11, ct_11, 12)) d_X11_without_2 ml_X11_289 mk_X11_scored mv_X11_scored h0 ho14 rfl rfl (Nat.le_of_ble_eq_true rfl) ?_
  refine wpM.mono h (fun rr G2 hr => ?_)
  obtain ⟨r1, rfl, h⟩ := hr
  show wp E d M_X11_without 5 [some (vr _), some (vi _), some (vi _), some (vi _), none] [vr _] G2 Q
  refine wp_astore (pc := 5) (lv' := [some (vr _), some (vi _), some (vi _), some (vi _), some (vr _)]) d_X11_without_5 (by decide) rfl ?_
  refine wp_aload (pc := 7) d_X11_without_7 rfl ?_
  refine wp_ifnull (pc := 9) (tgt := 28) d_X11_without_9 (by decide) (fun hc => ?_) (fun hc => ?_)
  · have h := h.1 hc
    refine wp_ldc2 (pc := 28) (v := (-9223372036854775808)) d_X11_without_28 cj_X11_215 ?_
    exact wp_lret (pc := 31) d_X11_without_31 rfl h
  · have h := h.2 hc
    refine wp_aload (pc := 12) d_X11_without_12 rfl ?_
    refine wp_iload_n (pc := 14) d_X11_without_14 rfl ?_
    obtain ⟨ho13, h⟩ := h
    refine wp_invV (pc := 15) (N := M_X3_isRule) (As := [vi _]) (rest := []) (r := (cn_3, ct_3, 19)) d_X11_without_15 ml_X11_220 mk_X3_isRule mv_X3_isRule h0 ho13 rfl rfl (Nat.le_of_ble_eq_true rfl) ?_
    refine wpM.mono h (fun rr G4 hr => ?_)
    obtain ⟨r3, rfl, h⟩ := hr
    show wp E d M_X11_without 18 [some (vr _), some (vi _), some (vi _), some (vi _), some (vr _)] [vi _] G4 Q
    refine wp_if_eq (pc := 18) (tgt := 28) d_X11_without_18 (by decide) (fun hc => ?_) (fun hc => ?_)
    · have h := h.1 hc
      refine wp_ldc2 (pc := 28) (v := (-9223372036854775808)) d_X11_without_28 cj_X11_215 ?_
      exact wp_lret (pc := 31) d_X11_without_31 rfl h
    · have h := h.2 hc
      refine wp_iload_n (pc := 21) d_X11_without_21 rfl ?_
      refine wp_invS (pc := 22) (N := M_X11_isLevel) (As := [vi _]) (rest := []) d_X11_without_22 ml_X11_279 mk_X11_isLevel ms_X11_isLevel h0 (Nat.le_of_ble_eq_true rfl) ?_
      refine wpM.mono h (fun rr G6 hr => ?_)
      obtain ⟨r5, rfl, h⟩ := hr
      show wp E d M_X11_without 25 [some (vr _), some (vi _), some (vi _), some (vi _), some (vr _)] [vi _] G6 Q
      refine wp_if_ne (pc := 25) (tgt := 32) d_X11_without_25 (by decide) (fun hc => ?_) (fun hc => ?_)
      · have h := h.1 hc
        refine wp_aload (pc := 32) d_X11_without_32 rfl ?_
        refine wp_iload_n (pc := 34) d_X11_without_34 rfl ?_
        obtain ⟨ho12, h⟩ := h
        refine wp_invV (pc := 35) (N := M_X3_bestLacking) (As := [vi _]) (rest := []) (r := (cn_3, ct_3, 19)) d_X11_without_35 ml_X11_359 mk_X3_bestLacking mv_X3_bestLacking h0 ho12 rfl rfl (Nat.le_of_ble_eq_true rfl) ?_
        refine wpM.mono h (fun rr G8 hr => ?_)
        obtain ⟨r7, rfl, h⟩ := hr
        show wp E d M_X11_without 38 [some (vr _), some (vi _), some (vi _), some (vi _), some (vr _)] [vi _] G8 Q
        refine wp_if_eq (pc := 38) (tgt := 51) d_X11_without_38 (by decide) (fun hc => ?_) (fun hc => ?_)
        · have h := h.1 hc
          refine wp_ldc2 (pc := 51) (v := (-9223372036854775808)) d_X11_without_51 cj_X11_215 ?_
          exact wp_lret (pc := 54) d_X11_without_54 rfl h
        · have h := h.2 hc
          refine wp_aload (pc := 41) d_X11_without_41 rfl ?_
          obtain ⟨ho9, h⟩ := h
          refine wp_getR (pc := 43) d_X11_without_43 fl_X11_362 (fun _ _ _ => rfl) ho9 ?_
          refine wp_iload_n (pc := 46) d_X11_without_46 rfl ?_
          obtain ⟨ho10, h⟩ := h
          obtain ⟨hi11, h⟩ := h
          refine wp_lald (pc := 47) d_X11_without_47 ho10 hi11 ?_
          refine wp_goto (pc := 48) (tgt := 54) d_X11_without_48 (by decide) ?_
          exact wp_lret (pc := 54) d_X11_without_54 rfl h
      · have h := h.2 hc
        refine wp_ldc2 (pc := 28) (v := (-9223372036854775808)) d_X11_without_28 cj_X11_215 ?_
        exact wp_lret (pc := 31) d_X11_without_31 rfl h
theorem d_X11_relax_0 : decode prog_1_method_43_code 0 = .ok (.aload_n 0, 1) := by decide +kernel
theorem d_X11_relax_1 : decode prog_1_method_43_code 1 = .ok (.iload_n 1, 1) := by decide +kernel
theorem d_X11_relax_2 : decode prog_1_method_43_code 2 = .ok (.invokevirtual 289, 3) := by decide +kernel
theorem d_X11_relax_5 : decode prog_1_method_43_code 5 = .ok (.astore_n 2, 1) := by decide +kernel
theorem d_X11_relax_6 : decode prog_1_method_43_code 6 = .ok (.aload_n 2, 1) := by decide +kernel
theorem d_X11_relax_7 : decode prog_1_method_43_code 7 = .ok (.ifnonnull 7, 3) := by decide +kernel
theorem d_X11_relax_10 : decode prog_1_method_43_code 10 = .ok (.iconst (-1), 1) := by decide +kernel
theorem d_X11_relax_11 : decode prog_1_method_43_code 11 = .ok (.goto 11, 3) := by decide +kernel
theorem d_X11_relax_14 : decode prog_1_method_43_code 14 = .ok (.aload_n 0, 1) := by decide +kernel
theorem d_X11_relax_15 : decode prog_1_method_43_code 15 = .ok (.getfield 43, 3) := by decide +kernel
theorem d_X11_relax_18 : decode prog_1_method_43_code 18 = .ok (.aload_n 2, 1) := by decide +kernel
theorem d_X11_relax_19 : decode prog_1_method_43_code 19 = .ok (.invokevirtual 356, 3) := by decide +kernel
theorem d_X11_relax_22 : decode prog_1_method_43_code 22 = .ok (.ireturn, 1) := by decide +kernel
theorem v_X11_relax_0 {E : EE} {d : Nat} {Q : Option AV → AH → Prop} {x0 : Nat} {x1 : Int32} {G : AH} (h0 : 0 < d) (h : isO E G x0 11 ∧ (wpR E (d - 1) M_X11_scored [vr x0, vi x1] G (fun r1 G2 => (¬ r1 = 0 → isO E G2 x0 11 ∧ (isO E G2 (gR G2 x0 4) 1 ∧ (wpI E (d - 1) M_X1_cheapest [vr (gR G2 x0 4), vr r1] G2 (fun r4 G5 => Q (some (vi r4)) G5)))) ∧ (r1 = 0 → Q (some (vi (-1))) G2)))) : wp E d M_X11_relax 0 [some (vr x0), some (vi x1), none] [] G Q := by
  refine wp_aload_n (pc := 0) d_X11_relax_0 rfl ?_
  refine wp_iload_n (pc := 1) d_X11_relax_1 rfl ?_
  obtain ⟨ho7, h⟩ := h
  refine wp_invV (pc := 2) (N := M_X11_scored) (As := [vi _]) (rest := []) (r := (cn_11, ct_11, 12)) d_X11_relax_2 ml_X11_289 mk_X11_scored mv_X11_scored h0 ho7 rfl rfl (Nat.le_of_ble_eq_true rfl) ?_
  refine wpM.mono h (fun rr G2 hr => ?_)
  obtain ⟨r1, rfl, h⟩ := hr
  show wp E d M_X11_relax 5 [some (vr _), some (vi _), none] [vr _] G2 Q
  refine wp_astore_n (pc := 5) (lv' := [some (vr _), some (vi _), some (vr _)]) d_X11_relax_5 (by decide) rfl ?_
  refine wp_aload_n (pc := 6) d_X11_relax_6 rfl ?_
  refine wp_ifnonnull (pc := 7) (tgt := 14) d_X11_relax_7 (by decide) (fun hc => ?_) (fun hc => ?_)
  · have h := h.1 hc
    refine wp_aload_n (pc := 14) d_X11_relax_14 rfl ?_
    obtain ⟨ho3, h⟩ := h
    refine wp_getR (pc := 15) d_X11_relax_15 fl_X11_43 (fun _ _ _ => rfl) ho3 ?_
    refine wp_aload_n (pc := 18) d_X11_relax_18 rfl ?_
    obtain ⟨ho6, h⟩ := h
    refine wp_invV (pc := 19) (N := M_X1_cheapest) (As := [vr _]) (rest := []) (r := (cn_1, ct_1, 6)) d_X11_relax_19 ml_X11_356 mk_X1_cheapest mv_X1_cheapest h0 ho6 rfl rfl (Nat.le_of_ble_eq_true rfl) ?_
    refine wpM.mono h (fun rr G5 hr => ?_)
    obtain ⟨r4, rfl, h⟩ := hr
    show wp E d M_X11_relax 22 [some (vr _), some (vi _), some (vr _)] [vi _] G5 Q
    exact wp_iret (pc := 22) d_X11_relax_22 rfl h
  · have h := h.2 hc
    refine wp_iconst (pc := 10) (v := (-1)) d_X11_relax_10 rfl ?_
    refine wp_goto (pc := 11) (tgt := 22) d_X11_relax_11 (by decide) ?_
    exact wp_iret (pc := 22) d_X11_relax_22 rfl h
theorem d_X11_fewest_0 : decode prog_1_method_42_code 0 = .ok (.aload_n 0, 1) := by decide +kernel
theorem d_X11_fewest_1 : decode prog_1_method_42_code 1 = .ok (.iload_n 1, 1) := by decide +kernel
theorem d_X11_fewest_2 : decode prog_1_method_42_code 2 = .ok (.invokevirtual 289, 3) := by decide +kernel
theorem d_X11_fewest_5 : decode prog_1_method_42_code 5 = .ok (.astore_n 2, 1) := by decide +kernel
theorem d_X11_fewest_6 : decode prog_1_method_42_code 6 = .ok (.aload_n 2, 1) := by decide +kernel
theorem d_X11_fewest_7 : decode prog_1_method_42_code 7 = .ok (.ifnonnull 7, 3) := by decide +kernel
theorem d_X11_fewest_10 : decode prog_1_method_42_code 10 = .ok (.iconst (-1), 1) := by decide +kernel
theorem d_X11_fewest_11 : decode prog_1_method_42_code 11 = .ok (.goto 11, 3) := by decide +kernel
theorem d_X11_fewest_14 : decode prog_1_method_42_code 14 = .ok (.aload_n 0, 1) := by decide +kernel
theorem d_X11_fewest_15 : decode prog_1_method_42_code 15 = .ok (.getfield 43, 3) := by decide +kernel
theorem d_X11_fewest_18 : decode prog_1_method_42_code 18 = .ok (.aload_n 2, 1) := by decide +kernel
theorem d_X11_fewest_19 : decode prog_1_method_42_code 19 = .ok (.invokevirtual 353, 3) := by decide +kernel
theorem d_X11_fewest_22 : decode prog_1_method_42_code 22 = .ok (.ireturn, 1) := by decide +kernel
theorem v_X11_fewest_0 {E : EE} {d : Nat} {Q : Option AV → AH → Prop} {x0 : Nat} {x1 : Int32} {G : AH} (h0 : 0 < d) (h : isO E G x0 11 ∧ (wpR E (d - 1) M_X11_scored [vr x0, vi x1] G (fun r1 G2 => (¬ r1 = 0 → isO E G2 x0 11 ∧ (isO E G2 (gR G2 x0 4) 1 ∧ (wpI E (d - 1) M_X1_smallest [vr (gR G2 x0 4), vr r1] G2 (fun r4 G5 => Q (some (vi r4)) G5)))) ∧ (r1 = 0 → Q (some (vi (-1))) G2)))) : wp E d M_X11_fewest 0 [some (vr x0), some (vi x1), none] [] G Q := by
  refine wp_aload_n (pc := 0) d_X11_fewest_0 rfl ?_
  refine wp_iload_n (pc := 1) d_X11_fewest_1 rfl ?_
  obtain ⟨ho7, h⟩ := h
  refine wp_invV (pc := 2) (N := M_X11_scored) (As := [vi _]) (rest := []) (r := (cn_11, ct_11, 12)) d_X11_fewest_2 ml_X11_289 mk_X11_scored mv_X11_scored h0 ho7 rfl rfl (Nat.le_of_ble_eq_true rfl) ?_
  refine wpM.mono h (fun rr G2 hr => ?_)
  obtain ⟨r1, rfl, h⟩ := hr
  show wp E d M_X11_fewest 5 [some (vr _), some (vi _), none] [vr _] G2 Q
  refine wp_astore_n (pc := 5) (lv' := [some (vr _), some (vi _), some (vr _)]) d_X11_fewest_5 (by decide) rfl ?_
  refine wp_aload_n (pc := 6) d_X11_fewest_6 rfl ?_
  refine wp_ifnonnull (pc := 7) (tgt := 14) d_X11_fewest_7 (by decide) (fun hc => ?_) (fun hc => ?_)
  · have h := h.1 hc
    refine wp_aload_n (pc := 14) d_X11_fewest_14 rfl ?_
    obtain ⟨ho3, h⟩ := h
    refine wp_getR (pc := 15) d_X11_fewest_15 fl_X11_43 (fun _ _ _ => rfl) ho3 ?_
    refine wp_aload_n (pc := 18) d_X11_fewest_18 rfl ?_
    obtain ⟨ho6, h⟩ := h
    refine wp_invV (pc := 19) (N := M_X1_smallest) (As := [vr _]) (rest := []) (r := (cn_1, ct_1, 6)) d_X11_fewest_19 ml_X11_353 mk_X1_smallest mv_X1_smallest h0 ho6 rfl rfl (Nat.le_of_ble_eq_true rfl) ?_
    refine wpM.mono h (fun rr G5 hr => ?_)
    obtain ⟨r4, rfl, h⟩ := hr
    show wp E d M_X11_fewest 22 [some (vr _), some (vi _), some (vr _)] [vi _] G5 Q
    exact wp_iret (pc := 22) d_X11_fewest_22 rfl h
  · have h := h.2 hc
    refine wp_iconst (pc := 10) (v := (-1)) d_X11_fewest_10 rfl ?_
    refine wp_goto (pc := 11) (tgt := 22) d_X11_fewest_11 (by decide) ?_
    exact wp_iret (pc := 22) d_X11_fewest_22 rfl h
theorem d_X11_clash_0 : decode prog_1_method_41_code 0 = .ok (.aload_n 0, 1) := by decide +kernel
theorem d_X11_clash_1 : decode prog_1_method_41_code 1 = .ok (.iload_n 1, 1) := by decide +kernel
theorem d_X11_clash_2 : decode prog_1_method_41_code 2 = .ok (.invokevirtual 289, 3) := by decide +kernel
theorem d_X11_clash_5 : decode prog_1_method_41_code 5 = .ok (.astore_n 2, 1) := by decide +kernel
theorem d_X11_clash_6 : decode prog_1_method_41_code 6 = .ok (.aload_n 2, 1) := by decide +kernel
theorem d_X11_clash_7 : decode prog_1_method_41_code 7 = .ok (.ifnonnull 7, 3) := by decide +kernel
theorem d_X11_clash_10 : decode prog_1_method_41_code 10 = .ok (.iconst (-1), 1) := by decide +kernel
theorem d_X11_clash_11 : decode prog_1_method_41_code 11 = .ok (.goto 11, 3) := by decide +kernel
theorem d_X11_clash_14 : decode prog_1_method_41_code 14 = .ok (.aload_n 0, 1) := by decide +kernel
theorem d_X11_clash_15 : decode prog_1_method_41_code 15 = .ok (.getfield 43, 3) := by decide +kernel
theorem d_X11_clash_18 : decode prog_1_method_41_code 18 = .ok (.aload_n 2, 1) := by decide +kernel
theorem d_X11_clash_19 : decode prog_1_method_41_code 19 = .ok (.invokevirtual 350, 3) := by decide +kernel
theorem d_X11_clash_22 : decode prog_1_method_41_code 22 = .ok (.ireturn, 1) := by decide +kernel
theorem v_X11_clash_0 {E : EE} {d : Nat} {Q : Option AV → AH → Prop} {x0 : Nat} {x1 : Int32} {G : AH} (h0 : 0 < d) (h : isO E G x0 11 ∧ (wpR E (d - 1) M_X11_scored [vr x0, vi x1] G (fun r1 G2 => (¬ r1 = 0 → isO E G2 x0 11 ∧ (isO E G2 (gR G2 x0 4) 1 ∧ (wpI E (d - 1) M_X1_narrowed [vr (gR G2 x0 4), vr r1] G2 (fun r4 G5 => Q (some (vi r4)) G5)))) ∧ (r1 = 0 → Q (some (vi (-1))) G2)))) : wp E d M_X11_clash 0 [some (vr x0), some (vi x1), none] [] G Q := by
  refine wp_aload_n (pc := 0) d_X11_clash_0 rfl ?_
  refine wp_iload_n (pc := 1) d_X11_clash_1 rfl ?_
  obtain ⟨ho7, h⟩ := h
  refine wp_invV (pc := 2) (N := M_X11_scored) (As := [vi _]) (rest := []) (r := (cn_11, ct_11, 12)) d_X11_clash_2 ml_X11_289 mk_X11_scored mv_X11_scored h0 ho7 rfl rfl (Nat.le_of_ble_eq_true rfl) ?_
  refine wpM.mono h (fun rr G2 hr => ?_)
  obtain ⟨r1, rfl, h⟩ := hr
  show wp E d M_X11_clash 5 [some (vr _), some (vi _), none] [vr _] G2 Q
  refine wp_astore_n (pc := 5) (lv' := [some (vr _), some (vi _), some (vr _)]) d_X11_clash_5 (by decide) rfl ?_
  refine wp_aload_n (pc := 6) d_X11_clash_6 rfl ?_
  refine wp_ifnonnull (pc := 7) (tgt := 14) d_X11_clash_7 (by decide) (fun hc => ?_) (fun hc => ?_)
  · have h := h.1 hc
    refine wp_aload_n (pc := 14) d_X11_clash_14 rfl ?_
    obtain ⟨ho3, h⟩ := h
    refine wp_getR (pc := 15) d_X11_clash_15 fl_X11_43 (fun _ _ _ => rfl) ho3 ?_
    refine wp_aload_n (pc := 18) d_X11_clash_18 rfl ?_
    obtain ⟨ho6, h⟩ := h
    refine wp_invV (pc := 19) (N := M_X1_narrowed) (As := [vr _]) (rest := []) (r := (cn_1, ct_1, 6)) d_X11_clash_19 ml_X11_350 mk_X1_narrowed mv_X1_narrowed h0 ho6 rfl rfl (Nat.le_of_ble_eq_true rfl) ?_
    refine wpM.mono h (fun rr G5 hr => ?_)
    obtain ⟨r4, rfl, h⟩ := hr
    show wp E d M_X11_clash 22 [some (vr _), some (vi _), some (vr _)] [vi _] G5 Q
    exact wp_iret (pc := 22) d_X11_clash_22 rfl h
  · have h := h.2 hc
    refine wp_iconst (pc := 10) (v := (-1)) d_X11_clash_10 rfl ?_
    refine wp_goto (pc := 11) (tgt := 22) d_X11_clash_11 (by decide) ?_
    exact wp_iret (pc := 22) d_X11_clash_22 rfl h
theorem d_X11_near_0 : decode prog_1_method_40_code 0 = .ok (.aload_n 0, 1) := by decide +kernel
theorem d_X11_near_1 : decode prog_1_method_40_code 1 = .ok (.iload_n 1, 1) := by decide +kernel
theorem d_X11_near_2 : decode prog_1_method_40_code 2 = .ok (.invokevirtual 289, 3) := by decide +kernel
theorem d_X11_near_5 : decode prog_1_method_40_code 5 = .ok (.astore_n 3, 1) := by decide +kernel
theorem d_X11_near_6 : decode prog_1_method_40_code 6 = .ok (.aload_n 3, 1) := by decide +kernel
theorem d_X11_near_7 : decode prog_1_method_40_code 7 = .ok (.ifnull 15, 3) := by decide +kernel
theorem d_X11_near_10 : decode prog_1_method_40_code 10 = .ok (.aload_n 3, 1) := by decide +kernel
theorem d_X11_near_11 : decode prog_1_method_40_code 11 = .ok (.getfield 232, 3) := by decide +kernel
theorem d_X11_near_14 : decode prog_1_method_40_code 14 = .ok (.aload_n 3, 1) := by decide +kernel
theorem d_X11_near_15 : decode prog_1_method_40_code 15 = .ok (.iload_n 2, 1) := by decide +kernel
theorem d_X11_near_16 : decode prog_1_method_40_code 16 = .ok (.invokevirtual 302, 3) := by decide +kernel
theorem d_X11_near_19 : decode prog_1_method_40_code 19 = .ok (.ifCond .ne 5, 3) := by decide +kernel
theorem d_X11_near_22 : decode prog_1_method_40_code 22 = .ok (.iconst (-1), 1) := by decide +kernel
theorem d_X11_near_23 : decode prog_1_method_40_code 23 = .ok (.ireturn, 1) := by decide +kernel
theorem d_X11_near_24 : decode prog_1_method_40_code 24 = .ok (.aload_n 3, 1) := by decide +kernel
theorem d_X11_near_25 : decode prog_1_method_40_code 25 = .ok (.getfield 232, 3) := by decide +kernel
theorem d_X11_near_28 : decode prog_1_method_40_code 28 = .ok (.getfield 306, 3) := by decide +kernel
theorem d_X11_near_31 : decode prog_1_method_40_code 31 = .ok (.iconst 0, 1) := by decide +kernel
theorem d_X11_near_32 : decode prog_1_method_40_code 32 = .ok (.iaload, 1) := by decide +kernel
theorem d_X11_near_33 : decode prog_1_method_40_code 33 = .ok (.istore 4, 2) := by decide +kernel
theorem d_X11_near_35 : decode prog_1_method_40_code 35 = .ok (.aload_n 3, 1) := by decide +kernel
theorem d_X11_near_36 : decode prog_1_method_40_code 36 = .ok (.iload 4, 2) := by decide +kernel
theorem d_X11_near_38 : decode prog_1_method_40_code 38 = .ok (.invokevirtual 344, 3) := by decide +kernel
theorem d_X11_near_41 : decode prog_1_method_40_code 41 = .ok (.istore 5, 2) := by decide +kernel
theorem d_X11_near_43 : decode prog_1_method_40_code 43 = .ok (.iconst 1, 1) := by decide +kernel
theorem d_X11_near_44 : decode prog_1_method_40_code 44 = .ok (.istore 6, 2) := by decide +kernel
theorem v_X11_near_0 {E : EE} {d : Nat} {Q : Option AV → AH → Prop} {x0 : Nat} {x1 : Int32} {x2 : Int32} {G : AH} (h0 : 0 < d) (h : isO E G x0 11 ∧ (wpR E (d - 1) M_X11_scored [vr x0, vi x1] G (fun r1 G2 => (r1 = 0 → Q (some (vi (-1))) G2) ∧ (¬ r1 = 0 → isO E G2 r1 3 ∧ (isO E G2 (gR G2 r1 6) 9 ∧ (wpI E (d - 1) M_X9_gatherFor [vr (gR G2 r1 6), vr r1, vi x2] G2 (fun r4 G5 => (¬ r4 = 0 → isO E G5 r1 3 ∧ (isO E G5 (gR G5 r1 6) 9 ∧ (isO E G5 (gR G5 (gR G5 r1 6) 2) 14 ∧ (vp_in 0 (gN G5 (gR G5 (gR G5 r1 6) 2)) ∧ (wpI E (d - 1) M_X3_costTo [vr r1, vi (gI G5 (gR G5 (gR G5 r1 6) 2) (Int32.toNatClampNeg 0))] G5 (fun r10 G11 => wp E d M_X11_near 46 [some (vr x0), some (vi x1), some (vi x2), some (vr r1), some (vi (gI G5 (gR G5 (gR G5 r1 6) 2) (Int32.toNatClampNeg 0))), some (vi r10), some (vi 1), none] [] G11 Q)))))) ∧ (r4 = 0 → Q (some (vi (-1))) G5)))))))) : wp E d M_X11_near 0 [some (vr x0), some (vi x1), some (vi x2), none, none, none, none, none] [] G Q := by
  refine wp_aload_n (pc := 0) d_X11_near_0 rfl ?_
  refine wp_iload_n (pc := 1) d_X11_near_1 rfl ?_
  obtain ⟨ho13, h⟩ := h
  refine wp_invV (pc := 2) (N := M_X11_scored) (As := [vi _]) (rest := []) (r := (cn_11, ct_11, 12)) d_X11_near_2 ml_X11_289 mk_X11_scored mv_X11_scored h0 ho13 rfl rfl (Nat.le_of_ble_eq_true rfl) ?_
  refine wpM.mono h (fun rr G2 hr => ?_)
  obtain ⟨r1, rfl, h⟩ := hr
  show wp E d M_X11_near 5 [some (vr _), some (vi _), some (vi _), none, none, none, none, none] [vr _] G2 Q
  refine wp_astore_n (pc := 5) (lv' := [some (vr _), some (vi _), some (vi _), some (vr _), none, none, none, none]) d_X11_near_5 (by decide) rfl ?_
  refine wp_aload_n (pc := 6) d_X11_near_6 rfl ?_
  refine wp_ifnull (pc := 7) (tgt := 22) d_X11_near_7 (by decide) (fun hc => ?_) (fun hc => ?_)
  · have h := h.1 hc
    refine wp_iconst (pc := 22) (v := (-1)) d_X11_near_22 rfl ?_
    exact wp_iret (pc := 23) d_X11_near_23 rfl h
  · have h := h.2 hc
    refine wp_aload_n (pc := 10) d_X11_near_10 rfl ?_
    obtain ⟨ho3, h⟩ := h
    refine wp_getR (pc := 11) d_X11_near_11 fl_X11_232 (fun _ _ _ => rfl) ho3 ?_
    refine wp_aload_n (pc := 14) d_X11_near_14 rfl ?_
    refine wp_iload_n (pc := 15) d_X11_near_15 rfl ?_
    obtain ⟨ho12, h⟩ := h
    refine wp_invV (pc := 16) (N := M_X9_gatherFor) (As := [vr _, vi _]) (rest := []) (r := (cn_9, ct_9, 8)) d_X11_near_16 ml_X11_302 mk_X9_gatherFor mv_X9_gatherFor h0 ho12 rfl rfl (Nat.le_of_ble_eq_true rfl) ?_
    refine wpM.mono h (fun rr G5 hr => ?_)
    obtain ⟨r4, rfl, h⟩ := hr
    show wp E d M_X11_near 19 [some (vr _), some (vi _), some (vi _), some (vr _), none, none, none, none] [vi _] G5 Q
    refine wp_if_ne (pc := 19) (tgt := 24) d_X11_near_19 (by decide) (fun hc => ?_) (fun hc => ?_)
    · have h := h.1 hc
      refine wp_aload_n (pc := 24) d_X11_near_24 rfl ?_
      obtain ⟨ho6, h⟩ := h
      refine wp_getR (pc := 25) d_X11_near_25 fl_X11_232 (fun _ _ _ => rfl) ho6 ?_
      obtain ⟨ho7, h⟩ := h
      refine wp_getR (pc := 28) d_X11_near_28 fl_X11_306 (fun _ _ _ => rfl) ho7 ?_
      refine wp_iconst (pc := 31) (v := 0) d_X11_near_31 rfl ?_
      obtain ⟨ho8, h⟩ := h
      obtain ⟨hi9, h⟩ := h
      refine wp_iald (pc := 32) d_X11_near_32 ho8 hi9 ?_
      refine wp_istore (pc := 33) (lv' := [some (vr _), some (vi _), some (vi _), some (vr _), some (vi _), none, none, none]) d_X11_near_33 (by decide) rfl ?_
      refine wp_aload_n (pc := 35) d_X11_near_35 rfl ?_
      refine wp_iload (pc := 36) d_X11_near_36 rfl ?_
      refine wp_invV (pc := 38) (N := M_X3_costTo) (As := [vi _]) (rest := []) (r := (cn_3, ct_3, 19)) d_X11_near_38 ml_X11_344 mk_X3_costTo mv_X3_costTo h0 ho6 rfl rfl (Nat.le_of_ble_eq_true rfl) ?_
      refine wpM.mono h (fun rr G11 hr => ?_)
      obtain ⟨r10, rfl, h⟩ := hr
      show wp E d M_X11_near 41 [some (vr _), some (vi _), some (vi _), some (vr _), some (vi _), none, none, none] [vi _] G11 Q
      refine wp_istore (pc := 41) (lv' := [some (vr _), some (vi _), some (vi _), some (vr _), some (vi _), some (vi _), none, none]) d_X11_near_41 (by decide) rfl ?_
      refine wp_iconst (pc := 43) (v := 1) d_X11_near_43 rfl ?_
      refine wp_istore (pc := 44) (lv' := [some (vr _), some (vi _), some (vi _), some (vr _), some (vi _), some (vi _), some (vi _), none]) d_X11_near_44 (by decide) rfl ?_
      refine wp_sub ?_ h
      exact ⟨rfl, ⟨rfl, ⟨rfl, ⟨rfl, ⟨rfl, ⟨rfl, ⟨rfl, trivial⟩⟩⟩⟩⟩⟩⟩
    · have h := h.2 hc
      refine wp_iconst (pc := 22) (v := (-1)) d_X11_near_22 rfl ?_
      exact wp_iret (pc := 23) d_X11_near_23 rfl h
theorem d_X11_frontPlan_0 : decode prog_1_method_39_code 0 = .ok (.aload_n 0, 1) := by decide +kernel
theorem d_X11_frontPlan_1 : decode prog_1_method_39_code 1 = .ok (.iload_n 1, 1) := by decide +kernel
theorem d_X11_frontPlan_2 : decode prog_1_method_39_code 2 = .ok (.invokevirtual 289, 3) := by decide +kernel
theorem d_X11_frontPlan_5 : decode prog_1_method_39_code 5 = .ok (.astore_n 3, 1) := by decide +kernel
theorem d_X11_frontPlan_6 : decode prog_1_method_39_code 6 = .ok (.aload_n 3, 1) := by decide +kernel
theorem d_X11_frontPlan_7 : decode prog_1_method_39_code 7 = .ok (.ifnull 38, 3) := by decide +kernel
theorem d_X11_frontPlan_10 : decode prog_1_method_39_code 10 = .ok (.iload_n 2, 1) := by decide +kernel
theorem d_X11_frontPlan_11 : decode prog_1_method_39_code 11 = .ok (.ifCond .lt 34, 3) := by decide +kernel
theorem d_X11_frontPlan_14 : decode prog_1_method_39_code 14 = .ok (.iload_n 2, 1) := by decide +kernel
theorem d_X11_frontPlan_15 : decode prog_1_method_39_code 15 = .ok (.aload_n 3, 1) := by decide +kernel
theorem d_X11_frontPlan_16 : decode prog_1_method_39_code 16 = .ok (.getfield 232, 3) := by decide +kernel
theorem d_X11_frontPlan_19 : decode prog_1_method_39_code 19 = .ok (.aload_n 3, 1) := by decide +kernel
theorem d_X11_frontPlan_20 : decode prog_1_method_39_code 20 = .ok (.iload_n 2, 1) := by decide +kernel
theorem d_X11_frontPlan_21 : decode prog_1_method_39_code 21 = .ok (.invokevirtual 335, 3) := by decide +kernel
theorem d_X11_frontPlan_24 : decode prog_1_method_39_code 24 = .ok (.if_icmp .ge 21, 3) := by decide +kernel
theorem d_X11_frontPlan_27 : decode prog_1_method_39_code 27 = .ok (.aload_n 3, 1) := by decide +kernel
theorem d_X11_frontPlan_28 : decode prog_1_method_39_code 28 = .ok (.aload_n 3, 1) := by decide +kernel
theorem d_X11_frontPlan_29 : decode prog_1_method_39_code 29 = .ok (.getfield 232, 3) := by decide +kernel
theorem d_X11_frontPlan_32 : decode prog_1_method_39_code 32 = .ok (.getfield 341, 3) := by decide +kernel
theorem d_X11_frontPlan_35 : decode prog_1_method_39_code 35 = .ok (.invokevirtual 309, 3) := by decide +kernel
theorem d_X11_frontPlan_38 : decode prog_1_method_39_code 38 = .ok (.ifCond .eq 7, 3) := by decide +kernel
theorem d_X11_frontPlan_41 : decode prog_1_method_39_code 41 = .ok (.iconst 1, 1) := by decide +kernel
theorem d_X11_frontPlan_42 : decode prog_1_method_39_code 42 = .ok (.goto 4, 3) := by decide +kernel
theorem d_X11_frontPlan_45 : decode prog_1_method_39_code 45 = .ok (.iconst 0, 1) := by decide +kernel
theorem d_X11_frontPlan_46 : decode prog_1_method_39_code 46 = .ok (.ireturn, 1) := by decide +kernel
theorem v_X11_frontPlan_0 {E : EE} {d : Nat} {Q : Option AV → AH → Prop} {x0 : Nat} {x1 : Int32} {x2 : Int32} {G : AH} (h0 : 0 < d) (h : isO E G x0 11 ∧ (wpR E (d - 1) M_X11_scored [vr x0, vi x1] G (fun r1 G2 => (r1 = 0 → Q (some (vi 0)) G2) ∧ (¬ r1 = 0 → (x2 < 0 → Q (some (vi 0)) G2) ∧ (¬ (x2 < 0) → isO E G2 r1 3 ∧ (isO E G2 (gR G2 r1 6) 9 ∧ (wpI E (d - 1) M_X9_walkFront [vr (gR G2 r1 6), vr r1, vi x2] G2 (fun r4 G5 => (r4 ≤ x2 → Q (some (vi 0)) G5) ∧ (¬ (r4 ≤ x2) → isO E G5 r1 3 ∧ (isO E G5 (gR G5 r1 6) 9 ∧ (wpI E (d - 1) M_X3_moveTo [vr r1, vi (gI G5 (gR G5 r1 6) 4)] G5 (fun r8 G9 => (r8 = 0 → Q (some (vi 0)) G9) ∧ (¬ (r8 = 0) → Q (some (vi 1)) G9))))))))))))) : wp E d M_X11_frontPlan 0 [some (vr x0), some (vi x1), some (vi x2), none] [] G Q := by
  refine wp_aload_n (pc := 0) d_X11_frontPlan_0 rfl ?_
  refine wp_iload_n (pc := 1) d_X11_frontPlan_1 rfl ?_
  obtain ⟨ho11, h⟩ := h
  refine wp_invV (pc := 2) (N := M_X11_scored) (As := [vi _]) (rest := []) (r := (cn_11, ct_11, 12)) d_X11_frontPlan_2 ml_X11_289 mk_X11_scored mv_X11_scored h0 ho11 rfl rfl (Nat.le_of_ble_eq_true rfl) ?_
  refine wpM.mono h (fun rr G2 hr => ?_)
  obtain ⟨r1, rfl, h⟩ := hr
  show wp E d M_X11_frontPlan 5 [some (vr _), some (vi _), some (vi _), none] [vr _] G2 Q
  refine wp_astore_n (pc := 5) (lv' := [some (vr _), some (vi _), some (vi _), some (vr _)]) d_X11_frontPlan_5 (by decide) rfl ?_
  refine wp_aload_n (pc := 6) d_X11_frontPlan_6 rfl ?_
  refine wp_ifnull (pc := 7) (tgt := 45) d_X11_frontPlan_7 (by decide) (fun hc => ?_) (fun hc => ?_)
  · have h := h.1 hc
    refine wp_iconst (pc := 45) (v := 0) d_X11_frontPlan_45 rfl ?_
    exact wp_zret (pc := 46) d_X11_frontPlan_46 rfl rfl h
  · have h := h.2 hc
    refine wp_iload_n (pc := 10) d_X11_frontPlan_10 rfl ?_
    refine wp_if_lt (pc := 11) (tgt := 45) d_X11_frontPlan_11 (by decide) (fun hc => ?_) (fun hc => ?_)
    · have h := h.1 hc
      refine wp_iconst (pc := 45) (v := 0) d_X11_frontPlan_45 rfl ?_
      exact wp_zret (pc := 46) d_X11_frontPlan_46 rfl rfl h
    · have h := h.2 hc
      refine wp_iload_n (pc := 14) d_X11_frontPlan_14 rfl ?_
      refine wp_aload_n (pc := 15) d_X11_frontPlan_15 rfl ?_
      obtain ⟨ho3, h⟩ := h
      refine wp_getR (pc := 16) d_X11_frontPlan_16 fl_X11_232 (fun _ _ _ => rfl) ho3 ?_
      refine wp_aload_n (pc := 19) d_X11_frontPlan_19 rfl ?_
      refine wp_iload_n (pc := 20) d_X11_frontPlan_20 rfl ?_
      obtain ⟨ho10, h⟩ := h
      refine wp_invV (pc := 21) (N := M_X9_walkFront) (As := [vr _, vi _]) (rest := [vi _]) (r := (cn_9, ct_9, 8)) d_X11_frontPlan_21 ml_X11_335 mk_X9_walkFront mv_X9_walkFront h0 ho10 rfl rfl (Nat.le_of_ble_eq_true rfl) ?_
      refine wpM.mono h (fun rr G5 hr => ?_)
      obtain ⟨r4, rfl, h⟩ := hr
      show wp E d M_X11_frontPlan 24 [some (vr _), some (vi _), some (vi _), some (vr _)] [vi _, vi _] G5 Q
      refine wp_icmp_ge (pc := 24) (tgt := 45) d_X11_frontPlan_24 (by decide) (fun hc => ?_) (fun hc => ?_)
      · have h := h.1 hc
        refine wp_iconst (pc := 45) (v := 0) d_X11_frontPlan_45 rfl ?_
        exact wp_zret (pc := 46) d_X11_frontPlan_46 rfl rfl h
      · have h := h.2 hc
        refine wp_aload_n (pc := 27) d_X11_frontPlan_27 rfl ?_
        refine wp_aload_n (pc := 28) d_X11_frontPlan_28 rfl ?_
        obtain ⟨ho6, h⟩ := h
        refine wp_getR (pc := 29) d_X11_frontPlan_29 fl_X11_232 (fun _ _ _ => rfl) ho6 ?_
        obtain ⟨ho7, h⟩ := h
        refine wp_getI (pc := 32) d_X11_frontPlan_32 fl_X11_341 (fun _ _ _ => rfl) ho7 ?_
        refine wp_invV (pc := 35) (N := M_X3_moveTo) (As := [vi _]) (rest := []) (r := (cn_3, ct_3, 19)) d_X11_frontPlan_35 ml_X11_309 mk_X3_moveTo mv_X3_moveTo h0 ho6 rfl rfl (Nat.le_of_ble_eq_true rfl) ?_
        refine wpM.mono h (fun rr G9 hr => ?_)
        obtain ⟨r8, rfl, h⟩ := hr
        show wp E d M_X11_frontPlan 38 [some (vr _), some (vi _), some (vi _), some (vr _)] [vi _] G9 Q
        refine wp_if_eq (pc := 38) (tgt := 45) d_X11_frontPlan_38 (by decide) (fun hc => ?_) (fun hc => ?_)
        · have h := h.1 hc
          refine wp_iconst (pc := 45) (v := 0) d_X11_frontPlan_45 rfl ?_
          exact wp_zret (pc := 46) d_X11_frontPlan_46 rfl rfl h
        · have h := h.2 hc
          refine wp_iconst (pc := 41) (v := 1) d_X11_frontPlan_41 rfl ?_
          refine wp_goto (pc := 42) (tgt := 46) d_X11_frontPlan_42 (by decide) ?_
          exact wp_zret (pc := 46) d_X11_frontPlan_46 rfl rfl h
theorem d_X11_frontAt_0 : decode prog_1_method_38_code 0 = .ok (.aload_n 0, 1) := by decide +kernel
theorem d_X11_frontAt_1 : decode prog_1_method_38_code 1 = .ok (.iload_n 1, 1) := by decide +kernel
theorem d_X11_frontAt_2 : decode prog_1_method_38_code 2 = .ok (.invokevirtual 289, 3) := by decide +kernel
theorem d_X11_frontAt_5 : decode prog_1_method_38_code 5 = .ok (.astore 4, 2) := by decide +kernel
theorem d_X11_frontAt_7 : decode prog_1_method_38_code 7 = .ok (.aload 4, 2) := by decide +kernel
theorem d_X11_frontAt_9 : decode prog_1_method_38_code 9 = .ok (.ifnull 29, 3) := by decide +kernel
theorem d_X11_frontAt_12 : decode prog_1_method_38_code 12 = .ok (.iload_n 2, 1) := by decide +kernel
theorem d_X11_frontAt_13 : decode prog_1_method_38_code 13 = .ok (.ifCond .lt 25, 3) := by decide +kernel
theorem d_X11_frontAt_16 : decode prog_1_method_38_code 16 = .ok (.iload_n 3, 1) := by decide +kernel
theorem d_X11_frontAt_17 : decode prog_1_method_38_code 17 = .ok (.invokestatic 279, 3) := by decide +kernel
theorem d_X11_frontAt_20 : decode prog_1_method_38_code 20 = .ok (.ifCond .eq 18, 3) := by decide +kernel
theorem d_X11_frontAt_23 : decode prog_1_method_38_code 23 = .ok (.iload_n 2, 1) := by decide +kernel
theorem d_X11_frontAt_24 : decode prog_1_method_38_code 24 = .ok (.aload 4, 2) := by decide +kernel
theorem d_X11_frontAt_26 : decode prog_1_method_38_code 26 = .ok (.getfield 232, 3) := by decide +kernel
theorem d_X11_frontAt_29 : decode prog_1_method_38_code 29 = .ok (.aload 4, 2) := by decide +kernel
theorem d_X11_frontAt_31 : decode prog_1_method_38_code 31 = .ok (.iload_n 2, 1) := by decide +kernel
theorem d_X11_frontAt_32 : decode prog_1_method_38_code 32 = .ok (.invokevirtual 335, 3) := by decide +kernel
theorem d_X11_frontAt_35 : decode prog_1_method_38_code 35 = .ok (.if_icmp .lt 7, 3) := by decide +kernel
theorem d_X11_frontAt_38 : decode prog_1_method_38_code 38 = .ok (.ldc2_w 215, 3) := by decide +kernel
theorem d_X11_frontAt_41 : decode prog_1_method_38_code 41 = .ok (.lreturn, 1) := by decide +kernel
theorem d_X11_frontAt_42 : decode prog_1_method_38_code 42 = .ok (.iload_n 3, 1) := by decide +kernel
theorem d_X11_frontAt_43 : decode prog_1_method_38_code 43 = .ok (.ifCond .ne 15, 3) := by decide +kernel
theorem d_X11_frontAt_46 : decode prog_1_method_38_code 46 = .ok (.aload 4, 2) := by decide +kernel
theorem d_X11_frontAt_48 : decode prog_1_method_38_code 48 = .ok (.getfield 232, 3) := by decide +kernel
theorem d_X11_frontAt_51 : decode prog_1_method_38_code 51 = .ok (.getfield 338, 3) := by decide +kernel
theorem d_X11_frontAt_54 : decode prog_1_method_38_code 54 = .ok (.i2l, 1) := by decide +kernel
theorem d_X11_frontAt_55 : decode prog_1_method_38_code 55 = .ok (.goto 20, 3) := by decide +kernel
theorem d_X11_frontAt_58 : decode prog_1_method_38_code 58 = .ok (.aload 4, 2) := by decide +kernel
theorem d_X11_frontAt_60 : decode prog_1_method_38_code 60 = .ok (.getfield 232, 3) := by decide +kernel
theorem d_X11_frontAt_63 : decode prog_1_method_38_code 63 = .ok (.aload 4, 2) := by decide +kernel
theorem d_X11_frontAt_65 : decode prog_1_method_38_code 65 = .ok (.getfield 232, 3) := by decide +kernel
theorem d_X11_frontAt_68 : decode prog_1_method_38_code 68 = .ok (.getfield 341, 3) := by decide +kernel
theorem d_X11_frontAt_71 : decode prog_1_method_38_code 71 = .ok (.iload_n 3, 1) := by decide +kernel
theorem d_X11_frontAt_72 : decode prog_1_method_38_code 72 = .ok (.invokevirtual 312, 3) := by decide +kernel
theorem d_X11_frontAt_75 : decode prog_1_method_38_code 75 = .ok (.lreturn, 1) := by decide +kernel
theorem v_X11_frontAt_0 {E : EE} {d : Nat} {Q : Option AV → AH → Prop} {x0 : Nat} {x1 : Int32} {x2 : Int32} {x3 : Int32} {G : AH} (h0 : 0 < d) (h : isO E G x0 11 ∧ (wpR E (d - 1) M_X11_scored [vr x0, vi x1] G (fun r1 G2 => (r1 = 0 → Q (some (vj (-9223372036854775808))) G2) ∧ (¬ r1 = 0 → (x2 < 0 → Q (some (vj (-9223372036854775808))) G2) ∧ (¬ (x2 < 0) → wpI E (d - 1) M_X11_isLevel [vi x3] G2 (fun r3 G4 => (r3 = 0 → Q (some (vj (-9223372036854775808))) G4) ∧ (¬ (r3 = 0) → isO E G4 r1 3 ∧ (isO E G4 (gR G4 r1 6) 9 ∧ (wpI E (d - 1) M_X9_walkFront [vr (gR G4 r1 6), vr r1, vi x2] G4 (fun r6 G7 => (x2 < r6 → (¬ x3 = 0 → isO E G7 r1 3 ∧ (isO E G7 (gR G7 r1 6) 9 ∧ (wpJ E (d - 1) M_X9_scoreOf [vr (gR G7 r1 6), vi (gI G7 (gR G7 r1 6) 4), vi x3] G7 (fun r10 G11 => Q (some (vj r10)) G11)))) ∧ (x3 = 0 → isO E G7 r1 3 ∧ (isO E G7 (gR G7 r1 6) 9 ∧ (Q (some (vj (Int32.toInt64 (gI G7 (gR G7 r1 6) 5)))) G7)))) ∧ (¬ (x2 < r6) → Q (some (vj (-9223372036854775808))) G7))))))))))) : wp E d M_X11_frontAt 0 [some (vr x0), some (vi x1), some (vi x2), some (vi x3), none] [] G Q := by
  refine wp_aload_n (pc := 0) d_X11_frontAt_0 rfl ?_
  refine wp_iload_n (pc := 1) d_X11_frontAt_1 rfl ?_
  obtain ⟨ho15, h⟩ := h
  refine wp_invV (pc := 2) (N := M_X11_scored) (As := [vi _]) (rest := []) (r := (cn_11, ct_11, 12)) d_X11_frontAt_2 ml_X11_289 mk_X11_scored mv_X11_scored h0 ho15 rfl rfl (Nat.le_of_ble_eq_true rfl) ?_
  refine wpM.mono h (fun rr G2 hr => ?_)
  obtain ⟨r1, rfl, h⟩ := hr
  show wp E d M_X11_frontAt 5 [some (vr _), some (vi _), some (vi _), some (vi _), none] [vr _] G2 Q
  refine wp_astore (pc := 5) (lv' := [some (vr _), some (vi _), some (vi _), some (vi _), some (vr _)]) d_X11_frontAt_5 (by decide) rfl ?_
  refine wp_aload (pc := 7) d_X11_frontAt_7 rfl ?_
  refine wp_ifnull (pc := 9) (tgt := 38) d_X11_frontAt_9 (by decide) (fun hc => ?_) (fun hc => ?_)
  · have h := h.1 hc
    refine wp_ldc2 (pc := 38) (v := (-9223372036854775808)) d_X11_frontAt_38 cj_X11_215 ?_
    exact wp_lret (pc := 41) d_X11_frontAt_41 rfl h
  · have h := h.2 hc
    refine wp_iload_n (pc := 12) d_X11_frontAt_12 rfl ?_
    refine wp_if_lt (pc := 13) (tgt := 38) d_X11_frontAt_13 (by decide) (fun hc => ?_) (fun hc => ?_)
    · have h := h.1 hc
      refine wp_ldc2 (pc := 38) (v := (-9223372036854775808)) d_X11_frontAt_38 cj_X11_215 ?_
      exact wp_lret (pc := 41) d_X11_frontAt_41 rfl h
    · have h := h.2 hc
      refine wp_iload_n (pc := 16) d_X11_frontAt_16 rfl ?_
      refine wp_invS (pc := 17) (N := M_X11_isLevel) (As := [vi _]) (rest := []) d_X11_frontAt_17 ml_X11_279 mk_X11_isLevel ms_X11_isLevel h0 (Nat.le_of_ble_eq_true rfl) ?_
      refine wpM.mono h (fun rr G4 hr => ?_)
      obtain ⟨r3, rfl, h⟩ := hr
      show wp E d M_X11_frontAt 20 [some (vr _), some (vi _), some (vi _), some (vi _), some (vr _)] [vi _] G4 Q
      refine wp_if_eq (pc := 20) (tgt := 38) d_X11_frontAt_20 (by decide) (fun hc => ?_) (fun hc => ?_)
      · have h := h.1 hc
        refine wp_ldc2 (pc := 38) (v := (-9223372036854775808)) d_X11_frontAt_38 cj_X11_215 ?_
        exact wp_lret (pc := 41) d_X11_frontAt_41 rfl h
      · have h := h.2 hc
        refine wp_iload_n (pc := 23) d_X11_frontAt_23 rfl ?_
        refine wp_aload (pc := 24) d_X11_frontAt_24 rfl ?_
        obtain ⟨ho5, h⟩ := h
        refine wp_getR (pc := 26) d_X11_frontAt_26 fl_X11_232 (fun _ _ _ => rfl) ho5 ?_
        refine wp_aload (pc := 29) d_X11_frontAt_29 rfl ?_
        refine wp_iload_n (pc := 31) d_X11_frontAt_31 rfl ?_
        obtain ⟨ho14, h⟩ := h
        refine wp_invV (pc := 32) (N := M_X9_walkFront) (As := [vr _, vi _]) (rest := [vi _]) (r := (cn_9, ct_9, 8)) d_X11_frontAt_32 ml_X11_335 mk_X9_walkFront mv_X9_walkFront h0 ho14 rfl rfl (Nat.le_of_ble_eq_true rfl) ?_
        refine wpM.mono h (fun rr G7 hr => ?_)
        obtain ⟨r6, rfl, h⟩ := hr
        show wp E d M_X11_frontAt 35 [some (vr _), some (vi _), some (vi _), some (vi _), some (vr _)] [vi _, vi _] G7 Q
        refine wp_icmp_lt (pc := 35) (tgt := 42) d_X11_frontAt_35 (by decide) (fun hc => ?_) (fun hc => ?_)
        · have h := h.1 hc
          refine wp_iload_n (pc := 42) d_X11_frontAt_42 rfl ?_
          refine wp_if_ne (pc := 43) (tgt := 58) d_X11_frontAt_43 (by decide) (fun hc => ?_) (fun hc => ?_)
          · have h := h.1 hc
            refine wp_aload (pc := 58) d_X11_frontAt_58 rfl ?_
            obtain ⟨ho8, h⟩ := h
            refine wp_getR (pc := 60) d_X11_frontAt_60 fl_X11_232 (fun _ _ _ => rfl) ho8 ?_
            refine wp_aload (pc := 63) d_X11_frontAt_63 rfl ?_
            refine wp_getR (pc := 65) d_X11_frontAt_65 fl_X11_232 (fun _ _ _ => rfl) ho8 ?_
            obtain ⟨ho9, h⟩ := h
            refine wp_getI (pc := 68) d_X11_frontAt_68 fl_X11_341 (fun _ _ _ => rfl) ho9 ?_
            refine wp_iload_n (pc := 71) d_X11_frontAt_71 rfl ?_
            refine wp_invV (pc := 72) (N := M_X9_scoreOf) (As := [vi _, vi _]) (rest := []) (r := (cn_9, ct_9, 8)) d_X11_frontAt_72 ml_X11_312 mk_X9_scoreOf mv_X9_scoreOf h0 ho9 rfl rfl (Nat.le_of_ble_eq_true rfl) ?_
            refine wpM.mono h (fun rr G11 hr => ?_)
            obtain ⟨r10, rfl, h⟩ := hr
            show wp E d M_X11_frontAt 75 [some (vr _), some (vi _), some (vi _), some (vi _), some (vr _)] [vj _] G11 Q
            exact wp_lret (pc := 75) d_X11_frontAt_75 rfl h
          · have h := h.2 hc
            refine wp_aload (pc := 46) d_X11_frontAt_46 rfl ?_
            obtain ⟨ho12, h⟩ := h
            refine wp_getR (pc := 48) d_X11_frontAt_48 fl_X11_232 (fun _ _ _ => rfl) ho12 ?_
            obtain ⟨ho13, h⟩ := h
            refine wp_getI (pc := 51) d_X11_frontAt_51 fl_X11_338 (fun _ _ _ => rfl) ho13 ?_
            refine wp_i2l (pc := 54) d_X11_frontAt_54 ?_
            refine wp_goto (pc := 55) (tgt := 75) d_X11_frontAt_55 (by decide) ?_
            exact wp_lret (pc := 75) d_X11_frontAt_75 rfl h
        · have h := h.2 hc
          refine wp_ldc2 (pc := 38) (v := (-9223372036854775808)) d_X11_frontAt_38 cj_X11_215 ?_
          exact wp_lret (pc := 41) d_X11_frontAt_41 rfl h
theorem d_X11_front_0 : decode prog_1_method_37_code 0 = .ok (.aload_n 0, 1) := by decide +kernel
theorem d_X11_front_1 : decode prog_1_method_37_code 1 = .ok (.iload_n 1, 1) := by decide +kernel
theorem d_X11_front_2 : decode prog_1_method_37_code 2 = .ok (.invokevirtual 289, 3) := by decide +kernel
theorem d_X11_front_5 : decode prog_1_method_37_code 5 = .ok (.astore_n 2, 1) := by decide +kernel
theorem d_X11_front_6 : decode prog_1_method_37_code 6 = .ok (.aload_n 2, 1) := by decide +kernel
theorem d_X11_front_7 : decode prog_1_method_37_code 7 = .ok (.ifnonnull 7, 3) := by decide +kernel
theorem d_X11_front_10 : decode prog_1_method_37_code 10 = .ok (.iconst (-1), 1) := by decide +kernel
theorem d_X11_front_11 : decode prog_1_method_37_code 11 = .ok (.goto 12, 3) := by decide +kernel
theorem d_X11_front_14 : decode prog_1_method_37_code 14 = .ok (.aload_n 2, 1) := by decide +kernel
theorem d_X11_front_15 : decode prog_1_method_37_code 15 = .ok (.getfield 232, 3) := by decide +kernel
theorem d_X11_front_18 : decode prog_1_method_37_code 18 = .ok (.aload_n 2, 1) := by decide +kernel
theorem d_X11_front_19 : decode prog_1_method_37_code 19 = .ok (.iconst (-1), 1) := by decide +kernel
theorem d_X11_front_20 : decode prog_1_method_37_code 20 = .ok (.invokevirtual 335, 3) := by decide +kernel
theorem d_X11_front_23 : decode prog_1_method_37_code 23 = .ok (.ireturn, 1) := by decide +kernel
theorem v_X11_front_0 {E : EE} {d : Nat} {Q : Option AV → AH → Prop} {x0 : Nat} {x1 : Int32} {G : AH} (h0 : 0 < d) (h : isO E G x0 11 ∧ (wpR E (d - 1) M_X11_scored [vr x0, vi x1] G (fun r1 G2 => (¬ r1 = 0 → isO E G2 r1 3 ∧ (isO E G2 (gR G2 r1 6) 9 ∧ (wpI E (d - 1) M_X9_walkFront [vr (gR G2 r1 6), vr r1, vi (-1)] G2 (fun r4 G5 => Q (some (vi r4)) G5)))) ∧ (r1 = 0 → Q (some (vi (-1))) G2)))) : wp E d M_X11_front 0 [some (vr x0), some (vi x1), none] [] G Q := by
  refine wp_aload_n (pc := 0) d_X11_front_0 rfl ?_
  refine wp_iload_n (pc := 1) d_X11_front_1 rfl ?_
  obtain ⟨ho7, h⟩ := h
  refine wp_invV (pc := 2) (N := M_X11_scored) (As := [vi _]) (rest := []) (r := (cn_11, ct_11, 12)) d_X11_front_2 ml_X11_289 mk_X11_scored mv_X11_scored h0 ho7 rfl rfl (Nat.le_of_ble_eq_true rfl) ?_
  refine wpM.mono h (fun rr G2 hr => ?_)
  obtain ⟨r1, rfl, h⟩ := hr
  show wp E d M_X11_front 5 [some (vr _), some (vi _), none] [vr _] G2 Q
  refine wp_astore_n (pc := 5) (lv' := [some (vr _), some (vi _), some (vr _)]) d_X11_front_5 (by decide) rfl ?_
  refine wp_aload_n (pc := 6) d_X11_front_6 rfl ?_
  refine wp_ifnonnull (pc := 7) (tgt := 14) d_X11_front_7 (by decide) (fun hc => ?_) (fun hc => ?_)
  · have h := h.1 hc
    refine wp_aload_n (pc := 14) d_X11_front_14 rfl ?_
    obtain ⟨ho3, h⟩ := h
    refine wp_getR (pc := 15) d_X11_front_15 fl_X11_232 (fun _ _ _ => rfl) ho3 ?_
    refine wp_aload_n (pc := 18) d_X11_front_18 rfl ?_
    refine wp_iconst (pc := 19) (v := (-1)) d_X11_front_19 rfl ?_
    obtain ⟨ho6, h⟩ := h
    refine wp_invV (pc := 20) (N := M_X9_walkFront) (As := [vr _, vi _]) (rest := []) (r := (cn_9, ct_9, 8)) d_X11_front_20 ml_X11_335 mk_X9_walkFront mv_X9_walkFront h0 ho6 rfl rfl (Nat.le_of_ble_eq_true rfl) ?_
    refine wpM.mono h (fun rr G5 hr => ?_)
    obtain ⟨r4, rfl, h⟩ := hr
    show wp E d M_X11_front 23 [some (vr _), some (vi _), some (vr _)] [vi _] G5 Q
    exact wp_iret (pc := 23) d_X11_front_23 rfl h
  · have h := h.2 hc
    refine wp_iconst (pc := 10) (v := (-1)) d_X11_front_10 rfl ?_
    refine wp_goto (pc := 11) (tgt := 23) d_X11_front_11 (by decide) ?_
    exact wp_iret (pc := 23) d_X11_front_23 rfl h
theorem d_X11_mend_0 : decode prog_1_method_36_code 0 = .ok (.aload_n 0, 1) := by decide +kernel
theorem d_X11_mend_1 : decode prog_1_method_36_code 1 = .ok (.iload_n 1, 1) := by decide +kernel
theorem d_X11_mend_2 : decode prog_1_method_36_code 2 = .ok (.invokevirtual 289, 3) := by decide +kernel
theorem d_X11_mend_5 : decode prog_1_method_36_code 5 = .ok (.astore_n 3, 1) := by decide +kernel
theorem d_X11_mend_6 : decode prog_1_method_36_code 6 = .ok (.aload_n 3, 1) := by decide +kernel
theorem d_X11_mend_7 : decode prog_1_method_36_code 7 = .ok (.ifnonnull 5, 3) := by decide +kernel
theorem d_X11_mend_10 : decode prog_1_method_36_code 10 = .ok (.iconst (-1), 1) := by decide +kernel
theorem d_X11_mend_11 : decode prog_1_method_36_code 11 = .ok (.ireturn, 1) := by decide +kernel
theorem d_X11_mend_12 : decode prog_1_method_36_code 12 = .ok (.aload_n 3, 1) := by decide +kernel
theorem d_X11_mend_13 : decode prog_1_method_36_code 13 = .ok (.getfield 232, 3) := by decide +kernel
theorem d_X11_mend_16 : decode prog_1_method_36_code 16 = .ok (.aload_n 3, 1) := by decide +kernel
theorem d_X11_mend_17 : decode prog_1_method_36_code 17 = .ok (.iload_n 2, 1) := by decide +kernel
theorem d_X11_mend_18 : decode prog_1_method_36_code 18 = .ok (.iconst (-1), 1) := by decide +kernel
theorem d_X11_mend_19 : decode prog_1_method_36_code 19 = .ok (.ixor, 1) := by decide +kernel
theorem d_X11_mend_20 : decode prog_1_method_36_code 20 = .ok (.invokevirtual 328, 3) := by decide +kernel
theorem d_X11_mend_23 : decode prog_1_method_36_code 23 = .ok (.pop, 1) := by decide +kernel
theorem d_X11_mend_24 : decode prog_1_method_36_code 24 = .ok (.aload_n 3, 1) := by decide +kernel
theorem d_X11_mend_25 : decode prog_1_method_36_code 25 = .ok (.getfield 232, 3) := by decide +kernel
theorem d_X11_mend_28 : decode prog_1_method_36_code 28 = .ok (.invokevirtual 332, 3) := by decide +kernel
theorem d_X11_mend_31 : decode prog_1_method_36_code 31 = .ok (.ifCond .le 23, 3) := by decide +kernel
theorem d_X11_mend_34 : decode prog_1_method_36_code 34 = .ok (.aload_n 3, 1) := by decide +kernel
theorem d_X11_mend_35 : decode prog_1_method_36_code 35 = .ok (.aload_n 3, 1) := by decide +kernel
theorem d_X11_mend_36 : decode prog_1_method_36_code 36 = .ok (.getfield 232, 3) := by decide +kernel
theorem d_X11_mend_39 : decode prog_1_method_36_code 39 = .ok (.getfield 306, 3) := by decide +kernel
theorem d_X11_mend_42 : decode prog_1_method_36_code 42 = .ok (.iconst 0, 1) := by decide +kernel
theorem d_X11_mend_43 : decode prog_1_method_36_code 43 = .ok (.iaload, 1) := by decide +kernel
theorem d_X11_mend_44 : decode prog_1_method_36_code 44 = .ok (.invokevirtual 309, 3) := by decide +kernel
theorem d_X11_mend_47 : decode prog_1_method_36_code 47 = .ok (.ifCond .eq 7, 3) := by decide +kernel
theorem d_X11_mend_50 : decode prog_1_method_36_code 50 = .ok (.iconst 1, 1) := by decide +kernel
theorem d_X11_mend_51 : decode prog_1_method_36_code 51 = .ok (.goto 4, 3) := by decide +kernel
theorem d_X11_mend_54 : decode prog_1_method_36_code 54 = .ok (.iconst 0, 1) := by decide +kernel
theorem d_X11_mend_55 : decode prog_1_method_36_code 55 = .ok (.ireturn, 1) := by decide +kernel
theorem v_X11_mend_0 {E : EE} {d : Nat} {Q : Option AV → AH → Prop} {x0 : Nat} {x1 : Int32} {x2 : Int32} {G : AH} (h0 : 0 < d) (h : isO E G x0 11 ∧ (wpR E (d - 1) M_X11_scored [vr x0, vi x1] G (fun r1 G2 => (¬ r1 = 0 → isO E G2 r1 3 ∧ (isO E G2 (gR G2 r1 6) 9 ∧ (wpI E (d - 1) M_X9_gather [vr (gR G2 r1 6), vr r1, vi (x2 ^^^ (-1))] G2 (fun r4 G5 => isO E G5 r1 3 ∧ (isO E G5 (gR G5 r1 6) 9 ∧ (wpI E (d - 1) M_X9_keepBest [vr (gR G5 r1 6)] G5 (fun r7 G8 => (r7 ≤ 0 → Q (some (vi 0)) G8) ∧ (¬ (r7 ≤ 0) → isO E G8 r1 3 ∧ (isO E G8 (gR G8 r1 6) 9 ∧ (isO E G8 (gR G8 (gR G8 r1 6) 2) 14 ∧ (vp_in 0 (gN G8 (gR G8 (gR G8 r1 6) 2)) ∧ (wpI E (d - 1) M_X3_moveTo [vr r1, vi (gI G8 (gR G8 (gR G8 r1 6) 2) (Int32.toNatClampNeg 0))] G8 (fun r13 G14 => (r13 = 0 → Q (some (vi 0)) G14) ∧ (¬ (r13 = 0) → Q (some (vi 1)) G14)))))))))))))) ∧ (r1 = 0 → Q (some (vi (-1))) G2)))) : wp E d M_X11_mend 0 [some (vr x0), some (vi x1), some (vi x2), none] [] G Q := by
  refine wp_aload_n (pc := 0) d_X11_mend_0 rfl ?_
  refine wp_iload_n (pc := 1) d_X11_mend_1 rfl ?_
  obtain ⟨ho17, h⟩ := h
  refine wp_invV (pc := 2) (N := M_X11_scored) (As := [vi _]) (rest := []) (r := (cn_11, ct_11, 12)) d_X11_mend_2 ml_X11_289 mk_X11_scored mv_X11_scored h0 ho17 rfl rfl (Nat.le_of_ble_eq_true rfl) ?_
  refine wpM.mono h (fun rr G2 hr => ?_)
  obtain ⟨r1, rfl, h⟩ := hr
  show wp E d M_X11_mend 5 [some (vr _), some (vi _), some (vi _), none] [vr _] G2 Q
  refine wp_astore_n (pc := 5) (lv' := [some (vr _), some (vi _), some (vi _), some (vr _)]) d_X11_mend_5 (by decide) rfl ?_
  refine wp_aload_n (pc := 6) d_X11_mend_6 rfl ?_
  refine wp_ifnonnull (pc := 7) (tgt := 12) d_X11_mend_7 (by decide) (fun hc => ?_) (fun hc => ?_)
  · have h := h.1 hc
    refine wp_aload_n (pc := 12) d_X11_mend_12 rfl ?_
    obtain ⟨ho3, h⟩ := h
    refine wp_getR (pc := 13) d_X11_mend_13 fl_X11_232 (fun _ _ _ => rfl) ho3 ?_
    refine wp_aload_n (pc := 16) d_X11_mend_16 rfl ?_
    refine wp_iload_n (pc := 17) d_X11_mend_17 rfl ?_
    refine wp_iconst (pc := 18) (v := (-1)) d_X11_mend_18 rfl ?_
    refine wp_ixor (pc := 19) d_X11_mend_19 ?_
    obtain ⟨ho16, h⟩ := h
    refine wp_invV (pc := 20) (N := M_X9_gather) (As := [vr _, vi _]) (rest := []) (r := (cn_9, ct_9, 8)) d_X11_mend_20 ml_X11_328 mk_X9_gather mv_X9_gather h0 ho16 rfl rfl (Nat.le_of_ble_eq_true rfl) ?_
    refine wpM.mono h (fun rr G5 hr => ?_)
    obtain ⟨r4, rfl, h⟩ := hr
    show wp E d M_X11_mend 23 [some (vr _), some (vi _), some (vi _), some (vr _)] [vi _] G5 Q
    refine wp_pop (pc := 23) d_X11_mend_23 (c1_i _) ?_
    refine wp_aload_n (pc := 24) d_X11_mend_24 rfl ?_
    obtain ⟨ho6, h⟩ := h
    refine wp_getR (pc := 25) d_X11_mend_25 fl_X11_232 (fun _ _ _ => rfl) ho6 ?_
    obtain ⟨ho15, h⟩ := h
    refine wp_invV (pc := 28) (N := M_X9_keepBest) (As := []) (rest := []) (r := (cn_9, ct_9, 8)) d_X11_mend_28 ml_X11_332 mk_X9_keepBest mv_X9_keepBest h0 ho15 rfl rfl (Nat.le_of_ble_eq_true rfl) ?_
    refine wpM.mono h (fun rr G8 hr => ?_)
    obtain ⟨r7, rfl, h⟩ := hr
    show wp E d M_X11_mend 31 [some (vr _), some (vi _), some (vi _), some (vr _)] [vi _] G8 Q
    refine wp_if_le (pc := 31) (tgt := 54) d_X11_mend_31 (by decide) (fun hc => ?_) (fun hc => ?_)
    · have h := h.1 hc
      refine wp_iconst (pc := 54) (v := 0) d_X11_mend_54 rfl ?_
      exact wp_iret (pc := 55) d_X11_mend_55 rfl h
    · have h := h.2 hc
      refine wp_aload_n (pc := 34) d_X11_mend_34 rfl ?_
      refine wp_aload_n (pc := 35) d_X11_mend_35 rfl ?_
      obtain ⟨ho9, h⟩ := h
      refine wp_getR (pc := 36) d_X11_mend_36 fl_X11_232 (fun _ _ _ => rfl) ho9 ?_
      obtain ⟨ho10, h⟩ := h
      refine wp_getR (pc := 39) d_X11_mend_39 fl_X11_306 (fun _ _ _ => rfl) ho10 ?_
      refine wp_iconst (pc := 42) (v := 0) d_X11_mend_42 rfl ?_
      obtain ⟨ho11, h⟩ := h
      obtain ⟨hi12, h⟩ := h
      refine wp_iald (pc := 43) d_X11_mend_43 ho11 hi12 ?_
      refine wp_invV (pc := 44) (N := M_X3_moveTo) (As := [vi _]) (rest := []) (r := (cn_3, ct_3, 19)) d_X11_mend_44 ml_X11_309 mk_X3_moveTo mv_X3_moveTo h0 ho9 rfl rfl (Nat.le_of_ble_eq_true rfl) ?_
      refine wpM.mono h (fun rr G14 hr => ?_)
      obtain ⟨r13, rfl, h⟩ := hr
      show wp E d M_X11_mend 47 [some (vr _), some (vi _), some (vi _), some (vr _)] [vi _] G14 Q
      refine wp_if_eq (pc := 47) (tgt := 54) d_X11_mend_47 (by decide) (fun hc => ?_) (fun hc => ?_)
      · have h := h.1 hc
        refine wp_iconst (pc := 54) (v := 0) d_X11_mend_54 rfl ?_
        exact wp_iret (pc := 55) d_X11_mend_55 rfl h
      · have h := h.2 hc
        refine wp_iconst (pc := 50) (v := 1) d_X11_mend_50 rfl ?_
        refine wp_goto (pc := 51) (tgt := 55) d_X11_mend_51 (by decide) ?_
        exact wp_iret (pc := 55) d_X11_mend_55 rfl h
  · have h := h.2 hc
    refine wp_iconst (pc := 10) (v := (-1)) d_X11_mend_10 rfl ?_
    exact wp_iret (pc := 11) d_X11_mend_11 rfl h
theorem d_X11_choices_0 : decode prog_1_method_35_code 0 = .ok (.aload_n 0, 1) := by decide +kernel
theorem d_X11_choices_1 : decode prog_1_method_35_code 1 = .ok (.iload_n 1, 1) := by decide +kernel
theorem d_X11_choices_2 : decode prog_1_method_35_code 2 = .ok (.invokevirtual 289, 3) := by decide +kernel
theorem d_X11_choices_5 : decode prog_1_method_35_code 5 = .ok (.astore_n 3, 1) := by decide +kernel
theorem d_X11_choices_6 : decode prog_1_method_35_code 6 = .ok (.aload_n 3, 1) := by decide +kernel
theorem d_X11_choices_7 : decode prog_1_method_35_code 7 = .ok (.ifnull 14, 3) := by decide +kernel
theorem d_X11_choices_10 : decode prog_1_method_35_code 10 = .ok (.aload_n 3, 1) := by decide +kernel
theorem d_X11_choices_11 : decode prog_1_method_35_code 11 = .ok (.getfield 139, 3) := by decide +kernel
theorem d_X11_choices_14 : decode prog_1_method_35_code 14 = .ok (.iload_n 2, 1) := by decide +kernel
theorem d_X11_choices_15 : decode prog_1_method_35_code 15 = .ok (.invokevirtual 209, 3) := by decide +kernel
theorem d_X11_choices_18 : decode prog_1_method_35_code 18 = .ok (.ifCond .ne 5, 3) := by decide +kernel
theorem d_X11_choices_21 : decode prog_1_method_35_code 21 = .ok (.iconst (-1), 1) := by decide +kernel
theorem d_X11_choices_22 : decode prog_1_method_35_code 22 = .ok (.ireturn, 1) := by decide +kernel
theorem d_X11_choices_23 : decode prog_1_method_35_code 23 = .ok (.aload_n 3, 1) := by decide +kernel
theorem d_X11_choices_24 : decode prog_1_method_35_code 24 = .ok (.getfield 232, 3) := by decide +kernel
theorem d_X11_choices_27 : decode prog_1_method_35_code 27 = .ok (.aload_n 3, 1) := by decide +kernel
theorem d_X11_choices_28 : decode prog_1_method_35_code 28 = .ok (.iconst 1, 1) := by decide +kernel
theorem d_X11_choices_29 : decode prog_1_method_35_code 29 = .ok (.invokevirtual 302, 3) := by decide +kernel
theorem d_X11_choices_32 : decode prog_1_method_35_code 32 = .ok (.pop, 1) := by decide +kernel
theorem d_X11_choices_33 : decode prog_1_method_35_code 33 = .ok (.aload_n 3, 1) := by decide +kernel
theorem d_X11_choices_34 : decode prog_1_method_35_code 34 = .ok (.getfield 232, 3) := by decide +kernel
theorem d_X11_choices_37 : decode prog_1_method_35_code 37 = .ok (.aload_n 3, 1) := by decide +kernel
theorem d_X11_choices_38 : decode prog_1_method_35_code 38 = .ok (.getfield 139, 3) := by decide +kernel
theorem d_X11_choices_41 : decode prog_1_method_35_code 41 = .ok (.iload_n 2, 1) := by decide +kernel
theorem d_X11_choices_42 : decode prog_1_method_35_code 42 = .ok (.invokevirtual 324, 3) := by decide +kernel
theorem d_X11_choices_45 : decode prog_1_method_35_code 45 = .ok (.ireturn, 1) := by decide +kernel
theorem v_X11_choices_0 {E : EE} {d : Nat} {Q : Option AV → AH → Prop} {x0 : Nat} {x1 : Int32} {x2 : Int32} {G : AH} (h0 : 0 < d) (h : isO E G x0 11 ∧ (wpR E (d - 1) M_X11_scored [vr x0, vi x1] G (fun r1 G2 => (r1 = 0 → Q (some (vi (-1))) G2) ∧ (¬ r1 = 0 → isO E G2 r1 3 ∧ (isO E G2 (gR G2 r1 4) 7 ∧ (wpI E (d - 1) M_X7_isVar [vr (gR G2 r1 4), vi x2] G2 (fun r4 G5 => (¬ r4 = 0 → isO E G5 r1 3 ∧ (isO E G5 (gR G5 r1 6) 9 ∧ (wpI E (d - 1) M_X9_gatherFor [vr (gR G5 r1 6), vr r1, vi 1] G5 (fun r7 G8 => isO E G8 r1 3 ∧ (isO E G8 (gR G8 r1 6) 9 ∧ (wpI E (d - 1) M_X9_differentValues [vr (gR G8 r1 6), vr (gR G8 r1 4), vi x2] G8 (fun r10 G11 => Q (some (vi r10)) G11))))))) ∧ (r4 = 0 → Q (some (vi (-1))) G5)))))))) : wp E d M_X11_choices 0 [some (vr x0), some (vi x1), some (vi x2), none] [] G Q := by
  refine wp_aload_n (pc := 0) d_X11_choices_0 rfl ?_
  refine wp_iload_n (pc := 1) d_X11_choices_1 rfl ?_
  obtain ⟨ho15, h⟩ := h
  refine wp_invV (pc := 2) (N := M_X11_scored) (As := [vi _]) (rest := []) (r := (cn_11, ct_11, 12)) d_X11_choices_2 ml_X11_289 mk_X11_scored mv_X11_scored h0 ho15 rfl rfl (Nat.le_of_ble_eq_true rfl) ?_
  refine wpM.mono h (fun rr G2 hr => ?_)
  obtain ⟨r1, rfl, h⟩ := hr
  show wp E d M_X11_choices 5 [some (vr _), some (vi _), some (vi _), none] [vr _] G2 Q
  refine wp_astore_n (pc := 5) (lv' := [some (vr _), some (vi _), some (vi _), some (vr _)]) d_X11_choices_5 (by decide) rfl ?_
  refine wp_aload_n (pc := 6) d_X11_choices_6 rfl ?_
  refine wp_ifnull (pc := 7) (tgt := 21) d_X11_choices_7 (by decide) (fun hc => ?_) (fun hc => ?_)
  · have h := h.1 hc
    refine wp_iconst (pc := 21) (v := (-1)) d_X11_choices_21 rfl ?_
    exact wp_iret (pc := 22) d_X11_choices_22 rfl h
  · have h := h.2 hc
    refine wp_aload_n (pc := 10) d_X11_choices_10 rfl ?_
    obtain ⟨ho3, h⟩ := h
    refine wp_getR (pc := 11) d_X11_choices_11 fl_X11_139 (fun _ _ _ => rfl) ho3 ?_
    refine wp_iload_n (pc := 14) d_X11_choices_14 rfl ?_
    obtain ⟨ho14, h⟩ := h
    refine wp_invV (pc := 15) (N := M_X7_isVar) (As := [vi _]) (rest := []) (r := (cn_7, ct_7, 5)) d_X11_choices_15 ml_X11_209 mk_X7_isVar mv_X7_isVar h0 ho14 rfl rfl (Nat.le_of_ble_eq_true rfl) ?_
    refine wpM.mono h (fun rr G5 hr => ?_)
    obtain ⟨r4, rfl, h⟩ := hr
    show wp E d M_X11_choices 18 [some (vr _), some (vi _), some (vi _), some (vr _)] [vi _] G5 Q
    refine wp_if_ne (pc := 18) (tgt := 23) d_X11_choices_18 (by decide) (fun hc => ?_) (fun hc => ?_)
    · have h := h.1 hc
      refine wp_aload_n (pc := 23) d_X11_choices_23 rfl ?_
      obtain ⟨ho6, h⟩ := h
      refine wp_getR (pc := 24) d_X11_choices_24 fl_X11_232 (fun _ _ _ => rfl) ho6 ?_
      refine wp_aload_n (pc := 27) d_X11_choices_27 rfl ?_
      refine wp_iconst (pc := 28) (v := 1) d_X11_choices_28 rfl ?_
      obtain ⟨ho13, h⟩ := h
      refine wp_invV (pc := 29) (N := M_X9_gatherFor) (As := [vr _, vi _]) (rest := []) (r := (cn_9, ct_9, 8)) d_X11_choices_29 ml_X11_302 mk_X9_gatherFor mv_X9_gatherFor h0 ho13 rfl rfl (Nat.le_of_ble_eq_true rfl) ?_
      refine wpM.mono h (fun rr G8 hr => ?_)
      obtain ⟨r7, rfl, h⟩ := hr
      show wp E d M_X11_choices 32 [some (vr _), some (vi _), some (vi _), some (vr _)] [vi _] G8 Q
      refine wp_pop (pc := 32) d_X11_choices_32 (c1_i _) ?_
      refine wp_aload_n (pc := 33) d_X11_choices_33 rfl ?_
      obtain ⟨ho9, h⟩ := h
      refine wp_getR (pc := 34) d_X11_choices_34 fl_X11_232 (fun _ _ _ => rfl) ho9 ?_
      refine wp_aload_n (pc := 37) d_X11_choices_37 rfl ?_
      refine wp_getR (pc := 38) d_X11_choices_38 fl_X11_139 (fun _ _ _ => rfl) ho9 ?_
      refine wp_iload_n (pc := 41) d_X11_choices_41 rfl ?_
      obtain ⟨ho12, h⟩ := h
      refine wp_invV (pc := 42) (N := M_X9_differentValues) (As := [vr _, vi _]) (rest := []) (r := (cn_9, ct_9, 8)) d_X11_choices_42 ml_X11_324 mk_X9_differentValues mv_X9_differentValues h0 ho12 rfl rfl (Nat.le_of_ble_eq_true rfl) ?_
      refine wpM.mono h (fun rr G11 hr => ?_)
      obtain ⟨r10, rfl, h⟩ := hr
      show wp E d M_X11_choices 45 [some (vr _), some (vi _), some (vi _), some (vr _)] [vi _] G11 Q
      exact wp_iret (pc := 45) d_X11_choices_45 rfl h
    · have h := h.2 hc
      refine wp_iconst (pc := 21) (v := (-1)) d_X11_choices_21 rfl ?_
      exact wp_iret (pc := 22) d_X11_choices_22 rfl h
theorem d_X11_has_0 : decode prog_1_method_34_code 0 = .ok (.aload_n 0, 1) := by decide +kernel
theorem d_X11_has_1 : decode prog_1_method_34_code 1 = .ok (.iload_n 1, 1) := by decide +kernel
theorem d_X11_has_2 : decode prog_1_method_34_code 2 = .ok (.invokevirtual 289, 3) := by decide +kernel
theorem d_X11_has_5 : decode prog_1_method_34_code 5 = .ok (.astore 5, 2) := by decide +kernel
theorem d_X11_has_7 : decode prog_1_method_34_code 7 = .ok (.aload 5, 2) := by decide +kernel
theorem d_X11_has_9 : decode prog_1_method_34_code 9 = .ok (.ifnull 15, 3) := by decide +kernel
theorem d_X11_has_12 : decode prog_1_method_34_code 12 = .ok (.aload 5, 2) := by decide +kernel
theorem d_X11_has_14 : decode prog_1_method_34_code 14 = .ok (.getfield 139, 3) := by decide +kernel
theorem d_X11_has_17 : decode prog_1_method_34_code 17 = .ok (.iload_n 2, 1) := by decide +kernel
theorem d_X11_has_18 : decode prog_1_method_34_code 18 = .ok (.invokevirtual 209, 3) := by decide +kernel
theorem d_X11_has_21 : decode prog_1_method_34_code 21 = .ok (.ifCond .ne 5, 3) := by decide +kernel
theorem d_X11_has_24 : decode prog_1_method_34_code 24 = .ok (.iconst (-1), 1) := by decide +kernel
theorem d_X11_has_25 : decode prog_1_method_34_code 25 = .ok (.ireturn, 1) := by decide +kernel
theorem d_X11_has_26 : decode prog_1_method_34_code 26 = .ok (.aload 5, 2) := by decide +kernel
theorem d_X11_has_28 : decode prog_1_method_34_code 28 = .ok (.getfield 232, 3) := by decide +kernel
theorem d_X11_has_31 : decode prog_1_method_34_code 31 = .ok (.aload 5, 2) := by decide +kernel
theorem d_X11_has_33 : decode prog_1_method_34_code 33 = .ok (.iload 4, 2) := by decide +kernel
theorem d_X11_has_35 : decode prog_1_method_34_code 35 = .ok (.invokevirtual 302, 3) := by decide +kernel
theorem d_X11_has_38 : decode prog_1_method_34_code 38 = .ok (.istore 6, 2) := by decide +kernel
theorem d_X11_has_40 : decode prog_1_method_34_code 40 = .ok (.aload 5, 2) := by decide +kernel
theorem d_X11_has_42 : decode prog_1_method_34_code 42 = .ok (.getfield 232, 3) := by decide +kernel
theorem d_X11_has_45 : decode prog_1_method_34_code 45 = .ok (.aload 5, 2) := by decide +kernel
theorem d_X11_has_47 : decode prog_1_method_34_code 47 = .ok (.getfield 139, 3) := by decide +kernel
theorem d_X11_has_50 : decode prog_1_method_34_code 50 = .ok (.iload_n 2, 1) := by decide +kernel
theorem d_X11_has_51 : decode prog_1_method_34_code 51 = .ok (.aload 5, 2) := by decide +kernel
theorem d_X11_has_53 : decode prog_1_method_34_code 53 = .ok (.getfield 139, 3) := by decide +kernel
theorem d_X11_has_56 : decode prog_1_method_34_code 56 = .ok (.iload_n 2, 1) := by decide +kernel
theorem d_X11_has_57 : decode prog_1_method_34_code 57 = .ok (.iload_n 3, 1) := by decide +kernel
theorem d_X11_has_58 : decode prog_1_method_34_code 58 = .ok (.invokevirtual 261, 3) := by decide +kernel
theorem d_X11_has_61 : decode prog_1_method_34_code 61 = .ok (.invokevirtual 316, 3) := by decide +kernel
theorem d_X11_has_64 : decode prog_1_method_34_code 64 = .ok (.istore 7, 2) := by decide +kernel
theorem d_X11_has_66 : decode prog_1_method_34_code 66 = .ok (.aload_n 0, 1) := by decide +kernel
theorem d_X11_has_67 : decode prog_1_method_34_code 67 = .ok (.iload 7, 2) := by decide +kernel
theorem d_X11_has_69 : decode prog_1_method_34_code 69 = .ok (.i2l, 1) := by decide +kernel
theorem d_X11_has_70 : decode prog_1_method_34_code 70 = .ok (.iload 6, 2) := by decide +kernel
theorem d_X11_has_72 : decode prog_1_method_34_code 72 = .ok (.i2l, 1) := by decide +kernel
theorem d_X11_has_73 : decode prog_1_method_34_code 73 = .ok (.invokevirtual 320, 3) := by decide +kernel
theorem d_X11_has_76 : decode prog_1_method_34_code 76 = .ok (.iload 7, 2) := by decide +kernel
theorem d_X11_has_78 : decode prog_1_method_34_code 78 = .ok (.ireturn, 1) := by decide +kernel
theorem v_X11_has_0 {E : EE} {d : Nat} {Q : Option AV → AH → Prop} {x0 : Nat} {x1 : Int32} {x2 : Int32} {x3 : Int32} {x4 : Int32} {G : AH} (h0 : 0 < d) (h : isO E G x0 11 ∧ (wpR E (d - 1) M_X11_scored [vr x0, vi x1] G (fun r1 G2 => (r1 = 0 → Q (some (vi (-1))) G2) ∧ (¬ r1 = 0 → isO E G2 r1 3 ∧ (isO E G2 (gR G2 r1 4) 7 ∧ (wpI E (d - 1) M_X7_isVar [vr (gR G2 r1 4), vi x2] G2 (fun r4 G5 => (¬ r4 = 0 → isO E G5 r1 3 ∧ (isO E G5 (gR G5 r1 6) 9 ∧ (wpI E (d - 1) M_X9_gatherFor [vr (gR G5 r1 6), vr r1, vi x4] G5 (fun r7 G8 => isO E G8 r1 3 ∧ (isO E G8 (gR G8 r1 4) 7 ∧ (wpI E (d - 1) M_X7_placeOfValue [vr (gR G8 r1 4), vi x2, vi x3] G8 (fun r10 G11 => isO E G11 (gR G8 r1 6) 9 ∧ (wpI E (d - 1) M_X9_keepValue [vr (gR G8 r1 6), vr (gR G8 r1 4), vi x2, vi r10] G11 (fun r12 G13 => isO E G13 x0 11 ∧ (wpV E (d - 1) M_X11_show [vr x0, vj (Int32.toInt64 r12), vj (Int32.toInt64 r7)] G13 (fun G14 => Q (some (vi r12)) G14))))))))))) ∧ (r4 = 0 → Q (some (vi (-1))) G5)))))))) : wp E d M_X11_has 0 [some (vr x0), some (vi x1), some (vi x2), some (vi x3), some (vi x4), none, none, none] [] G Q := by
  refine wp_aload_n (pc := 0) d_X11_has_0 rfl ?_
  refine wp_iload_n (pc := 1) d_X11_has_1 rfl ?_
  obtain ⟨ho20, h⟩ := h
  refine wp_invV (pc := 2) (N := M_X11_scored) (As := [vi _]) (rest := []) (r := (cn_11, ct_11, 12)) d_X11_has_2 ml_X11_289 mk_X11_scored mv_X11_scored h0 ho20 rfl rfl (Nat.le_of_ble_eq_true rfl) ?_
  refine wpM.mono h (fun rr G2 hr => ?_)
  obtain ⟨r1, rfl, h⟩ := hr
  show wp E d M_X11_has 5 [some (vr _), some (vi _), some (vi _), some (vi _), some (vi _), none, none, none] [vr _] G2 Q
  refine wp_astore (pc := 5) (lv' := [some (vr _), some (vi _), some (vi _), some (vi _), some (vi _), some (vr _), none, none]) d_X11_has_5 (by decide) rfl ?_
  refine wp_aload (pc := 7) d_X11_has_7 rfl ?_
  refine wp_ifnull (pc := 9) (tgt := 24) d_X11_has_9 (by decide) (fun hc => ?_) (fun hc => ?_)
  · have h := h.1 hc
    refine wp_iconst (pc := 24) (v := (-1)) d_X11_has_24 rfl ?_
    exact wp_iret (pc := 25) d_X11_has_25 rfl h
  · have h := h.2 hc
    refine wp_aload (pc := 12) d_X11_has_12 rfl ?_
    obtain ⟨ho3, h⟩ := h
    refine wp_getR (pc := 14) d_X11_has_14 fl_X11_139 (fun _ _ _ => rfl) ho3 ?_
    refine wp_iload_n (pc := 17) d_X11_has_17 rfl ?_
    obtain ⟨ho19, h⟩ := h
    refine wp_invV (pc := 18) (N := M_X7_isVar) (As := [vi _]) (rest := []) (r := (cn_7, ct_7, 5)) d_X11_has_18 ml_X11_209 mk_X7_isVar mv_X7_isVar h0 ho19 rfl rfl (Nat.le_of_ble_eq_true rfl) ?_
    refine wpM.mono h (fun rr G5 hr => ?_)
    obtain ⟨r4, rfl, h⟩ := hr
    show wp E d M_X11_has 21 [some (vr _), some (vi _), some (vi _), some (vi _), some (vi _), some (vr _), none, none] [vi _] G5 Q
    refine wp_if_ne (pc := 21) (tgt := 26) d_X11_has_21 (by decide) (fun hc => ?_) (fun hc => ?_)
    · have h := h.1 hc
      refine wp_aload (pc := 26) d_X11_has_26 rfl ?_
      obtain ⟨ho6, h⟩ := h
      refine wp_getR (pc := 28) d_X11_has_28 fl_X11_232 (fun _ _ _ => rfl) ho6 ?_
      refine wp_aload (pc := 31) d_X11_has_31 rfl ?_
      refine wp_iload (pc := 33) d_X11_has_33 rfl ?_
      obtain ⟨ho18, h⟩ := h
      refine wp_invV (pc := 35) (N := M_X9_gatherFor) (As := [vr _, vi _]) (rest := []) (r := (cn_9, ct_9, 8)) d_X11_has_35 ml_X11_302 mk_X9_gatherFor mv_X9_gatherFor h0 ho18 rfl rfl (Nat.le_of_ble_eq_true rfl) ?_
      refine wpM.mono h (fun rr G8 hr => ?_)
      obtain ⟨r7, rfl, h⟩ := hr
      show wp E d M_X11_has 38 [some (vr _), some (vi _), some (vi _), some (vi _), some (vi _), some (vr _), none, none] [vi _] G8 Q
      refine wp_istore (pc := 38) (lv' := [some (vr _), some (vi _), some (vi _), some (vi _), some (vi _), some (vr _), some (vi _), none]) d_X11_has_38 (by decide) rfl ?_
      refine wp_aload (pc := 40) d_X11_has_40 rfl ?_
      obtain ⟨ho9, h⟩ := h
      refine wp_getR (pc := 42) d_X11_has_42 fl_X11_232 (fun _ _ _ => rfl) ho9 ?_
      refine wp_aload (pc := 45) d_X11_has_45 rfl ?_
      refine wp_getR (pc := 47) d_X11_has_47 fl_X11_139 (fun _ _ _ => rfl) ho9 ?_
      refine wp_iload_n (pc := 50) d_X11_has_50 rfl ?_
      refine wp_aload (pc := 51) d_X11_has_51 rfl ?_
      refine wp_getR (pc := 53) d_X11_has_53 fl_X11_139 (fun _ _ _ => rfl) ho9 ?_
      refine wp_iload_n (pc := 56) d_X11_has_56 rfl ?_
      refine wp_iload_n (pc := 57) d_X11_has_57 rfl ?_
      obtain ⟨ho17, h⟩ := h
      refine wp_invV (pc := 58) (N := M_X7_placeOfValue) (As := [vi _, vi _]) (rest := [vi _, vr _, vr _]) (r := (cn_7, ct_7, 5)) d_X11_has_58 ml_X11_261 mk_X7_placeOfValue mv_X7_placeOfValue h0 ho17 rfl rfl (Nat.le_of_ble_eq_true rfl) ?_
      refine wpM.mono h (fun rr G11 hr => ?_)
      obtain ⟨r10, rfl, h⟩ := hr
      show wp E d M_X11_has 61 [some (vr _), some (vi _), some (vi _), some (vi _), some (vi _), some (vr _), some (vi _), none] [vi _, vi _, vr _, vr _] G11 Q
      obtain ⟨ho16, h⟩ := h
      refine wp_invV (pc := 61) (N := M_X9_keepValue) (As := [vr _, vi _, vi _]) (rest := []) (r := (cn_9, ct_9, 8)) d_X11_has_61 ml_X11_316 mk_X9_keepValue mv_X9_keepValue h0 ho16 rfl rfl (Nat.le_of_ble_eq_true rfl) ?_
      refine wpM.mono h (fun rr G13 hr => ?_)
      obtain ⟨r12, rfl, h⟩ := hr
      show wp E d M_X11_has 64 [some (vr _), some (vi _), some (vi _), some (vi _), some (vi _), some (vr _), some (vi _), none] [vi _] G13 Q
      refine wp_istore (pc := 64) (lv' := [some (vr _), some (vi _), some (vi _), some (vi _), some (vi _), some (vr _), some (vi _), some (vi _)]) d_X11_has_64 (by decide) rfl ?_
      refine wp_aload_n (pc := 66) d_X11_has_66 rfl ?_
      refine wp_iload (pc := 67) d_X11_has_67 rfl ?_
      refine wp_i2l (pc := 69) d_X11_has_69 ?_
      refine wp_iload (pc := 70) d_X11_has_70 rfl ?_
      refine wp_i2l (pc := 72) d_X11_has_72 ?_
      obtain ⟨ho15, h⟩ := h
      refine wp_invV (pc := 73) (N := M_X11_show) (As := [vj _, vj _]) (rest := []) (r := (cn_11, ct_11, 12)) d_X11_has_73 ml_X11_320 mk_X11_show mv_X11_show h0 ho15 rfl rfl (Nat.le_of_ble_eq_true rfl) ?_
      refine wpM.mono h (fun rr G14 hr => ?_)
      obtain ⟨rfl, h⟩ := hr
      show wp E d M_X11_has 76 [some (vr _), some (vi _), some (vi _), some (vi _), some (vi _), some (vr _), some (vi _), some (vi _)] [] G14 Q
      refine wp_iload (pc := 76) d_X11_has_76 rfl ?_
      exact wp_iret (pc := 78) d_X11_has_78 rfl h
    · have h := h.2 hc
      refine wp_iconst (pc := 24) (v := (-1)) d_X11_has_24 rfl ?_
      exact wp_iret (pc := 25) d_X11_has_25 rfl h
theorem d_X11_feasibleAt_0 : decode prog_1_method_33_code 0 = .ok (.aload_n 0, 1) := by decide +kernel
theorem d_X11_feasibleAt_1 : decode prog_1_method_33_code 1 = .ok (.iload_n 1, 1) := by decide +kernel
theorem d_X11_feasibleAt_2 : decode prog_1_method_33_code 2 = .ok (.invokevirtual 289, 3) := by decide +kernel
theorem d_X11_feasibleAt_5 : decode prog_1_method_33_code 5 = .ok (.astore_n 3, 1) := by decide +kernel
theorem d_X11_feasibleAt_6 : decode prog_1_method_33_code 6 = .ok (.aload_n 3, 1) := by decide +kernel
theorem d_X11_feasibleAt_7 : decode prog_1_method_33_code 7 = .ok (.ifnull 40, 3) := by decide +kernel
theorem d_X11_feasibleAt_10 : decode prog_1_method_33_code 10 = .ok (.iload_n 2, 1) := by decide +kernel
theorem d_X11_feasibleAt_11 : decode prog_1_method_33_code 11 = .ok (.ifCond .lt 36, 3) := by decide +kernel
theorem d_X11_feasibleAt_14 : decode prog_1_method_33_code 14 = .ok (.iload_n 2, 1) := by decide +kernel
theorem d_X11_feasibleAt_15 : decode prog_1_method_33_code 15 = .ok (.aload_n 3, 1) := by decide +kernel
theorem d_X11_feasibleAt_16 : decode prog_1_method_33_code 16 = .ok (.getfield 232, 3) := by decide +kernel
theorem d_X11_feasibleAt_19 : decode prog_1_method_33_code 19 = .ok (.aload_n 3, 1) := by decide +kernel
theorem d_X11_feasibleAt_20 : decode prog_1_method_33_code 20 = .ok (.iconst 0, 1) := by decide +kernel
theorem d_X11_feasibleAt_21 : decode prog_1_method_33_code 21 = .ok (.invokevirtual 302, 3) := by decide +kernel
theorem d_X11_feasibleAt_24 : decode prog_1_method_33_code 24 = .ok (.if_icmp .ge 23, 3) := by decide +kernel
theorem d_X11_feasibleAt_27 : decode prog_1_method_33_code 27 = .ok (.aload_n 3, 1) := by decide +kernel
theorem d_X11_feasibleAt_28 : decode prog_1_method_33_code 28 = .ok (.aload_n 3, 1) := by decide +kernel
theorem d_X11_feasibleAt_29 : decode prog_1_method_33_code 29 = .ok (.getfield 232, 3) := by decide +kernel
theorem d_X11_feasibleAt_32 : decode prog_1_method_33_code 32 = .ok (.getfield 306, 3) := by decide +kernel
theorem d_X11_feasibleAt_35 : decode prog_1_method_33_code 35 = .ok (.iload_n 2, 1) := by decide +kernel
theorem d_X11_feasibleAt_36 : decode prog_1_method_33_code 36 = .ok (.iaload, 1) := by decide +kernel
theorem d_X11_feasibleAt_37 : decode prog_1_method_33_code 37 = .ok (.invokevirtual 309, 3) := by decide +kernel
theorem d_X11_feasibleAt_40 : decode prog_1_method_33_code 40 = .ok (.ifCond .eq 7, 3) := by decide +kernel
theorem d_X11_feasibleAt_43 : decode prog_1_method_33_code 43 = .ok (.iconst 1, 1) := by decide +kernel
theorem d_X11_feasibleAt_44 : decode prog_1_method_33_code 44 = .ok (.goto 4, 3) := by decide +kernel
theorem d_X11_feasibleAt_47 : decode prog_1_method_33_code 47 = .ok (.iconst 0, 1) := by decide +kernel
theorem d_X11_feasibleAt_48 : decode prog_1_method_33_code 48 = .ok (.ireturn, 1) := by decide +kernel
theorem v_X11_feasibleAt_0 {E : EE} {d : Nat} {Q : Option AV → AH → Prop} {x0 : Nat} {x1 : Int32} {x2 : Int32} {G : AH} (h0 : 0 < d) (h : isO E G x0 11 ∧ (wpR E (d - 1) M_X11_scored [vr x0, vi x1] G (fun r1 G2 => (r1 = 0 → Q (some (vi 0)) G2) ∧ (¬ r1 = 0 → (x2 < 0 → Q (some (vi 0)) G2) ∧ (¬ (x2 < 0) → isO E G2 r1 3 ∧ (isO E G2 (gR G2 r1 6) 9 ∧ (wpI E (d - 1) M_X9_gatherFor [vr (gR G2 r1 6), vr r1, vi 0] G2 (fun r4 G5 => (r4 ≤ x2 → Q (some (vi 0)) G5) ∧ (¬ (r4 ≤ x2) → isO E G5 r1 3 ∧ (isO E G5 (gR G5 r1 6) 9 ∧ (isO E G5 (gR G5 (gR G5 r1 6) 2) 14 ∧ (vp_in x2 (gN G5 (gR G5 (gR G5 r1 6) 2)) ∧ (wpI E (d - 1) M_X3_moveTo [vr r1, vi (gI G5 (gR G5 (gR G5 r1 6) 2) (Int32.toNatClampNeg x2))] G5 (fun r10 G11 => (r10 = 0 → Q (some (vi 0)) G11) ∧ (¬ (r10 = 0) → Q (some (vi 1)) G11))))))))))))))) : wp E d M_X11_feasibleAt 0 [some (vr x0), some (vi x1), some (vi x2), none] [] G Q := by
  refine wp_aload_n (pc := 0) d_X11_feasibleAt_0 rfl ?_
  refine wp_iload_n (pc := 1) d_X11_feasibleAt_1 rfl ?_
  obtain ⟨ho13, h⟩ := h
  refine wp_invV (pc := 2) (N := M_X11_scored) (As := [vi _]) (rest := []) (r := (cn_11, ct_11, 12)) d_X11_feasibleAt_2 ml_X11_289 mk_X11_scored mv_X11_scored h0 ho13 rfl rfl (Nat.le_of_ble_eq_true rfl) ?_
  refine wpM.mono h (fun rr G2 hr => ?_)
  obtain ⟨r1, rfl, h⟩ := hr
  show wp E d M_X11_feasibleAt 5 [some (vr _), some (vi _), some (vi _), none] [vr _] G2 Q
  refine wp_astore_n (pc := 5) (lv' := [some (vr _), some (vi _), some (vi _), some (vr _)]) d_X11_feasibleAt_5 (by decide) rfl ?_
  refine wp_aload_n (pc := 6) d_X11_feasibleAt_6 rfl ?_
  refine wp_ifnull (pc := 7) (tgt := 47) d_X11_feasibleAt_7 (by decide) (fun hc => ?_) (fun hc => ?_)
  · have h := h.1 hc
    refine wp_iconst (pc := 47) (v := 0) d_X11_feasibleAt_47 rfl ?_
    exact wp_zret (pc := 48) d_X11_feasibleAt_48 rfl rfl h
  · have h := h.2 hc
    refine wp_iload_n (pc := 10) d_X11_feasibleAt_10 rfl ?_
    refine wp_if_lt (pc := 11) (tgt := 47) d_X11_feasibleAt_11 (by decide) (fun hc => ?_) (fun hc => ?_)
    · have h := h.1 hc
      refine wp_iconst (pc := 47) (v := 0) d_X11_feasibleAt_47 rfl ?_
      exact wp_zret (pc := 48) d_X11_feasibleAt_48 rfl rfl h
    · have h := h.2 hc
      refine wp_iload_n (pc := 14) d_X11_feasibleAt_14 rfl ?_
      refine wp_aload_n (pc := 15) d_X11_feasibleAt_15 rfl ?_
      obtain ⟨ho3, h⟩ := h
      refine wp_getR (pc := 16) d_X11_feasibleAt_16 fl_X11_232 (fun _ _ _ => rfl) ho3 ?_
      refine wp_aload_n (pc := 19) d_X11_feasibleAt_19 rfl ?_
      refine wp_iconst (pc := 20) (v := 0) d_X11_feasibleAt_20 rfl ?_
      obtain ⟨ho12, h⟩ := h
      refine wp_invV (pc := 21) (N := M_X9_gatherFor) (As := [vr _, vi _]) (rest := [vi _]) (r := (cn_9, ct_9, 8)) d_X11_feasibleAt_21 ml_X11_302 mk_X9_gatherFor mv_X9_gatherFor h0 ho12 rfl rfl (Nat.le_of_ble_eq_true rfl) ?_
      refine wpM.mono h (fun rr G5 hr => ?_)
      obtain ⟨r4, rfl, h⟩ := hr
      show wp E d M_X11_feasibleAt 24 [some (vr _), some (vi _), some (vi _), some (vr _)] [vi _, vi _] G5 Q
      refine wp_icmp_ge (pc := 24) (tgt := 47) d_X11_feasibleAt_24 (by decide) (fun hc => ?_) (fun hc => ?_)
      · have h := h.1 hc
        refine wp_iconst (pc := 47) (v := 0) d_X11_feasibleAt_47 rfl ?_
        exact wp_zret (pc := 48) d_X11_feasibleAt_48 rfl rfl h
      · have h := h.2 hc
        refine wp_aload_n (pc := 27) d_X11_feasibleAt_27 rfl ?_
        refine wp_aload_n (pc := 28) d_X11_feasibleAt_28 rfl ?_
        obtain ⟨ho6, h⟩ := h
        refine wp_getR (pc := 29) d_X11_feasibleAt_29 fl_X11_232 (fun _ _ _ => rfl) ho6 ?_
        obtain ⟨ho7, h⟩ := h
        refine wp_getR (pc := 32) d_X11_feasibleAt_32 fl_X11_306 (fun _ _ _ => rfl) ho7 ?_
        refine wp_iload_n (pc := 35) d_X11_feasibleAt_35 rfl ?_
        obtain ⟨ho8, h⟩ := h
        obtain ⟨hi9, h⟩ := h
        refine wp_iald (pc := 36) d_X11_feasibleAt_36 ho8 hi9 ?_
        refine wp_invV (pc := 37) (N := M_X3_moveTo) (As := [vi _]) (rest := []) (r := (cn_3, ct_3, 19)) d_X11_feasibleAt_37 ml_X11_309 mk_X3_moveTo mv_X3_moveTo h0 ho6 rfl rfl (Nat.le_of_ble_eq_true rfl) ?_
        refine wpM.mono h (fun rr G11 hr => ?_)
        obtain ⟨r10, rfl, h⟩ := hr
        show wp E d M_X11_feasibleAt 40 [some (vr _), some (vi _), some (vi _), some (vr _)] [vi _] G11 Q
        refine wp_if_eq (pc := 40) (tgt := 47) d_X11_feasibleAt_40 (by decide) (fun hc => ?_) (fun hc => ?_)
        · have h := h.1 hc
          refine wp_iconst (pc := 47) (v := 0) d_X11_feasibleAt_47 rfl ?_
          exact wp_zret (pc := 48) d_X11_feasibleAt_48 rfl rfl h
        · have h := h.2 hc
          refine wp_iconst (pc := 43) (v := 1) d_X11_feasibleAt_43 rfl ?_
          refine wp_goto (pc := 44) (tgt := 48) d_X11_feasibleAt_44 (by decide) ?_
          exact wp_zret (pc := 48) d_X11_feasibleAt_48 rfl rfl h
theorem d_X11_feasibles_0 : decode prog_1_method_32_code 0 = .ok (.aload_n 0, 1) := by decide +kernel
theorem d_X11_feasibles_1 : decode prog_1_method_32_code 1 = .ok (.iload_n 1, 1) := by decide +kernel
theorem d_X11_feasibles_2 : decode prog_1_method_32_code 2 = .ok (.invokevirtual 289, 3) := by decide +kernel
theorem d_X11_feasibles_5 : decode prog_1_method_32_code 5 = .ok (.astore_n 2, 1) := by decide +kernel
theorem d_X11_feasibles_6 : decode prog_1_method_32_code 6 = .ok (.aload_n 2, 1) := by decide +kernel
theorem d_X11_feasibles_7 : decode prog_1_method_32_code 7 = .ok (.ifnonnull 7, 3) := by decide +kernel
theorem d_X11_feasibles_10 : decode prog_1_method_32_code 10 = .ok (.iconst (-1), 1) := by decide +kernel
theorem d_X11_feasibles_11 : decode prog_1_method_32_code 11 = .ok (.goto 12, 3) := by decide +kernel
theorem d_X11_feasibles_14 : decode prog_1_method_32_code 14 = .ok (.aload_n 2, 1) := by decide +kernel
theorem d_X11_feasibles_15 : decode prog_1_method_32_code 15 = .ok (.getfield 232, 3) := by decide +kernel
theorem d_X11_feasibles_18 : decode prog_1_method_32_code 18 = .ok (.aload_n 2, 1) := by decide +kernel
theorem d_X11_feasibles_19 : decode prog_1_method_32_code 19 = .ok (.iconst 0, 1) := by decide +kernel
theorem d_X11_feasibles_20 : decode prog_1_method_32_code 20 = .ok (.invokevirtual 302, 3) := by decide +kernel
theorem d_X11_feasibles_23 : decode prog_1_method_32_code 23 = .ok (.ireturn, 1) := by decide +kernel
theorem v_X11_feasibles_0 {E : EE} {d : Nat} {Q : Option AV → AH → Prop} {x0 : Nat} {x1 : Int32} {G : AH} (h0 : 0 < d) (h : isO E G x0 11 ∧ (wpR E (d - 1) M_X11_scored [vr x0, vi x1] G (fun r1 G2 => (¬ r1 = 0 → isO E G2 r1 3 ∧ (isO E G2 (gR G2 r1 6) 9 ∧ (wpI E (d - 1) M_X9_gatherFor [vr (gR G2 r1 6), vr r1, vi 0] G2 (fun r4 G5 => Q (some (vi r4)) G5)))) ∧ (r1 = 0 → Q (some (vi (-1))) G2)))) : wp E d M_X11_feasibles 0 [some (vr x0), some (vi x1), none] [] G Q := by
  refine wp_aload_n (pc := 0) d_X11_feasibles_0 rfl ?_
  refine wp_iload_n (pc := 1) d_X11_feasibles_1 rfl ?_
  obtain ⟨ho7, h⟩ := h
  refine wp_invV (pc := 2) (N := M_X11_scored) (As := [vi _]) (rest := []) (r := (cn_11, ct_11, 12)) d_X11_feasibles_2 ml_X11_289 mk_X11_scored mv_X11_scored h0 ho7 rfl rfl (Nat.le_of_ble_eq_true rfl) ?_
  refine wpM.mono h (fun rr G2 hr => ?_)
  obtain ⟨r1, rfl, h⟩ := hr
  show wp E d M_X11_feasibles 5 [some (vr _), some (vi _), none] [vr _] G2 Q
  refine wp_astore_n (pc := 5) (lv' := [some (vr _), some (vi _), some (vr _)]) d_X11_feasibles_5 (by decide) rfl ?_
  refine wp_aload_n (pc := 6) d_X11_feasibles_6 rfl ?_
  refine wp_ifnonnull (pc := 7) (tgt := 14) d_X11_feasibles_7 (by decide) (fun hc => ?_) (fun hc => ?_)
  · have h := h.1 hc
    refine wp_aload_n (pc := 14) d_X11_feasibles_14 rfl ?_
    obtain ⟨ho3, h⟩ := h
    refine wp_getR (pc := 15) d_X11_feasibles_15 fl_X11_232 (fun _ _ _ => rfl) ho3 ?_
    refine wp_aload_n (pc := 18) d_X11_feasibles_18 rfl ?_
    refine wp_iconst (pc := 19) (v := 0) d_X11_feasibles_19 rfl ?_
    obtain ⟨ho6, h⟩ := h
    refine wp_invV (pc := 20) (N := M_X9_gatherFor) (As := [vr _, vi _]) (rest := []) (r := (cn_9, ct_9, 8)) d_X11_feasibles_20 ml_X11_302 mk_X9_gatherFor mv_X9_gatherFor h0 ho6 rfl rfl (Nat.le_of_ble_eq_true rfl) ?_
    refine wpM.mono h (fun rr G5 hr => ?_)
    obtain ⟨r4, rfl, h⟩ := hr
    show wp E d M_X11_feasibles 23 [some (vr _), some (vi _), some (vr _)] [vi _] G5 Q
    exact wp_iret (pc := 23) d_X11_feasibles_23 rfl h
  · have h := h.2 hc
    refine wp_iconst (pc := 10) (v := (-1)) d_X11_feasibles_10 rfl ?_
    refine wp_goto (pc := 11) (tgt := 23) d_X11_feasibles_11 (by decide) ?_
    exact wp_iret (pc := 23) d_X11_feasibles_23 rfl h
theorem d_X11_bestAt_0 : decode prog_1_method_31_code 0 = .ok (.aload_n 0, 1) := by decide +kernel
theorem d_X11_bestAt_1 : decode prog_1_method_31_code 1 = .ok (.iload_n 1, 1) := by decide +kernel
theorem d_X11_bestAt_2 : decode prog_1_method_31_code 2 = .ok (.invokevirtual 289, 3) := by decide +kernel
theorem d_X11_bestAt_5 : decode prog_1_method_31_code 5 = .ok (.astore_n 3, 1) := by decide +kernel
theorem d_X11_bestAt_6 : decode prog_1_method_31_code 6 = .ok (.aload_n 3, 1) := by decide +kernel
theorem d_X11_bestAt_7 : decode prog_1_method_31_code 7 = .ok (.ifnull 40, 3) := by decide +kernel
theorem d_X11_bestAt_10 : decode prog_1_method_31_code 10 = .ok (.iload_n 2, 1) := by decide +kernel
theorem d_X11_bestAt_11 : decode prog_1_method_31_code 11 = .ok (.ifCond .lt 36, 3) := by decide +kernel
theorem d_X11_bestAt_14 : decode prog_1_method_31_code 14 = .ok (.iload_n 2, 1) := by decide +kernel
theorem d_X11_bestAt_15 : decode prog_1_method_31_code 15 = .ok (.aload_n 3, 1) := by decide +kernel
theorem d_X11_bestAt_16 : decode prog_1_method_31_code 16 = .ok (.getfield 232, 3) := by decide +kernel
theorem d_X11_bestAt_19 : decode prog_1_method_31_code 19 = .ok (.aload_n 3, 1) := by decide +kernel
theorem d_X11_bestAt_20 : decode prog_1_method_31_code 20 = .ok (.iconst 1, 1) := by decide +kernel
theorem d_X11_bestAt_21 : decode prog_1_method_31_code 21 = .ok (.invokevirtual 302, 3) := by decide +kernel
theorem d_X11_bestAt_24 : decode prog_1_method_31_code 24 = .ok (.if_icmp .ge 23, 3) := by decide +kernel
theorem d_X11_bestAt_27 : decode prog_1_method_31_code 27 = .ok (.aload_n 3, 1) := by decide +kernel
theorem d_X11_bestAt_28 : decode prog_1_method_31_code 28 = .ok (.aload_n 3, 1) := by decide +kernel
theorem d_X11_bestAt_29 : decode prog_1_method_31_code 29 = .ok (.getfield 232, 3) := by decide +kernel
theorem d_X11_bestAt_32 : decode prog_1_method_31_code 32 = .ok (.getfield 306, 3) := by decide +kernel
theorem d_X11_bestAt_35 : decode prog_1_method_31_code 35 = .ok (.iload_n 2, 1) := by decide +kernel
theorem d_X11_bestAt_36 : decode prog_1_method_31_code 36 = .ok (.iaload, 1) := by decide +kernel
theorem d_X11_bestAt_37 : decode prog_1_method_31_code 37 = .ok (.invokevirtual 309, 3) := by decide +kernel
theorem d_X11_bestAt_40 : decode prog_1_method_31_code 40 = .ok (.ifCond .eq 7, 3) := by decide +kernel
theorem d_X11_bestAt_43 : decode prog_1_method_31_code 43 = .ok (.iconst 1, 1) := by decide +kernel
theorem d_X11_bestAt_44 : decode prog_1_method_31_code 44 = .ok (.goto 4, 3) := by decide +kernel
theorem d_X11_bestAt_47 : decode prog_1_method_31_code 47 = .ok (.iconst 0, 1) := by decide +kernel
theorem d_X11_bestAt_48 : decode prog_1_method_31_code 48 = .ok (.ireturn, 1) := by decide +kernel
theorem v_X11_bestAt_0 {E : EE} {d : Nat} {Q : Option AV → AH → Prop} {x0 : Nat} {x1 : Int32} {x2 : Int32} {G : AH} (h0 : 0 < d) (h : isO E G x0 11 ∧ (wpR E (d - 1) M_X11_scored [vr x0, vi x1] G (fun r1 G2 => (r1 = 0 → Q (some (vi 0)) G2) ∧ (¬ r1 = 0 → (x2 < 0 → Q (some (vi 0)) G2) ∧ (¬ (x2 < 0) → isO E G2 r1 3 ∧ (isO E G2 (gR G2 r1 6) 9 ∧ (wpI E (d - 1) M_X9_gatherFor [vr (gR G2 r1 6), vr r1, vi 1] G2 (fun r4 G5 => (r4 ≤ x2 → Q (some (vi 0)) G5) ∧ (¬ (r4 ≤ x2) → isO E G5 r1 3 ∧ (isO E G5 (gR G5 r1 6) 9 ∧ (isO E G5 (gR G5 (gR G5 r1 6) 2) 14 ∧ (vp_in x2 (gN G5 (gR G5 (gR G5 r1 6) 2)) ∧ (wpI E (d - 1) M_X3_moveTo [vr r1, vi (gI G5 (gR G5 (gR G5 r1 6) 2) (Int32.toNatClampNeg x2))] G5 (fun r10 G11 => (r10 = 0 → Q (some (vi 0)) G11) ∧ (¬ (r10 = 0) → Q (some (vi 1)) G11))))))))))))))) : wp E d M_X11_bestAt 0 [some (vr x0), some (vi x1), some (vi x2), none] [] G Q := by
  refine wp_aload_n (pc := 0) d_X11_bestAt_0 rfl ?_
  refine wp_iload_n (pc := 1) d_X11_bestAt_1 rfl ?_
  obtain ⟨ho13, h⟩ := h
  refine wp_invV (pc := 2) (N := M_X11_scored) (As := [vi _]) (rest := []) (r := (cn_11, ct_11, 12)) d_X11_bestAt_2 ml_X11_289 mk_X11_scored mv_X11_scored h0 ho13 rfl rfl (Nat.le_of_ble_eq_true rfl) ?_
  refine wpM.mono h (fun rr G2 hr => ?_)
  obtain ⟨r1, rfl, h⟩ := hr
  show wp E d M_X11_bestAt 5 [some (vr _), some (vi _), some (vi _), none] [vr _] G2 Q
  refine wp_astore_n (pc := 5) (lv' := [some (vr _), some (vi _), some (vi _), some (vr _)]) d_X11_bestAt_5 (by decide) rfl ?_
  refine wp_aload_n (pc := 6) d_X11_bestAt_6 rfl ?_
  refine wp_ifnull (pc := 7) (tgt := 47) d_X11_bestAt_7 (by decide) (fun hc => ?_) (fun hc => ?_)
  · have h := h.1 hc
    refine wp_iconst (pc := 47) (v := 0) d_X11_bestAt_47 rfl ?_
    exact wp_zret (pc := 48) d_X11_bestAt_48 rfl rfl h
  · have h := h.2 hc
    refine wp_iload_n (pc := 10) d_X11_bestAt_10 rfl ?_
    refine wp_if_lt (pc := 11) (tgt := 47) d_X11_bestAt_11 (by decide) (fun hc => ?_) (fun hc => ?_)
    · have h := h.1 hc
      refine wp_iconst (pc := 47) (v := 0) d_X11_bestAt_47 rfl ?_
      exact wp_zret (pc := 48) d_X11_bestAt_48 rfl rfl h
    · have h := h.2 hc
      refine wp_iload_n (pc := 14) d_X11_bestAt_14 rfl ?_
      refine wp_aload_n (pc := 15) d_X11_bestAt_15 rfl ?_
      obtain ⟨ho3, h⟩ := h
      refine wp_getR (pc := 16) d_X11_bestAt_16 fl_X11_232 (fun _ _ _ => rfl) ho3 ?_
      refine wp_aload_n (pc := 19) d_X11_bestAt_19 rfl ?_
      refine wp_iconst (pc := 20) (v := 1) d_X11_bestAt_20 rfl ?_
      obtain ⟨ho12, h⟩ := h
      refine wp_invV (pc := 21) (N := M_X9_gatherFor) (As := [vr _, vi _]) (rest := [vi _]) (r := (cn_9, ct_9, 8)) d_X11_bestAt_21 ml_X11_302 mk_X9_gatherFor mv_X9_gatherFor h0 ho12 rfl rfl (Nat.le_of_ble_eq_true rfl) ?_
      refine wpM.mono h (fun rr G5 hr => ?_)
      obtain ⟨r4, rfl, h⟩ := hr
      show wp E d M_X11_bestAt 24 [some (vr _), some (vi _), some (vi _), some (vr _)] [vi _, vi _] G5 Q
      refine wp_icmp_ge (pc := 24) (tgt := 47) d_X11_bestAt_24 (by decide) (fun hc => ?_) (fun hc => ?_)
      · have h := h.1 hc
        refine wp_iconst (pc := 47) (v := 0) d_X11_bestAt_47 rfl ?_
        exact wp_zret (pc := 48) d_X11_bestAt_48 rfl rfl h
      · have h := h.2 hc
        refine wp_aload_n (pc := 27) d_X11_bestAt_27 rfl ?_
        refine wp_aload_n (pc := 28) d_X11_bestAt_28 rfl ?_
        obtain ⟨ho6, h⟩ := h
        refine wp_getR (pc := 29) d_X11_bestAt_29 fl_X11_232 (fun _ _ _ => rfl) ho6 ?_
        obtain ⟨ho7, h⟩ := h
        refine wp_getR (pc := 32) d_X11_bestAt_32 fl_X11_306 (fun _ _ _ => rfl) ho7 ?_
        refine wp_iload_n (pc := 35) d_X11_bestAt_35 rfl ?_
        obtain ⟨ho8, h⟩ := h
        obtain ⟨hi9, h⟩ := h
        refine wp_iald (pc := 36) d_X11_bestAt_36 ho8 hi9 ?_
        refine wp_invV (pc := 37) (N := M_X3_moveTo) (As := [vi _]) (rest := []) (r := (cn_3, ct_3, 19)) d_X11_bestAt_37 ml_X11_309 mk_X3_moveTo mv_X3_moveTo h0 ho6 rfl rfl (Nat.le_of_ble_eq_true rfl) ?_
        refine wpM.mono h (fun rr G11 hr => ?_)
        obtain ⟨r10, rfl, h⟩ := hr
        show wp E d M_X11_bestAt 40 [some (vr _), some (vi _), some (vi _), some (vr _)] [vi _] G11 Q
        refine wp_if_eq (pc := 40) (tgt := 47) d_X11_bestAt_40 (by decide) (fun hc => ?_) (fun hc => ?_)
        · have h := h.1 hc
          refine wp_iconst (pc := 47) (v := 0) d_X11_bestAt_47 rfl ?_
          exact wp_zret (pc := 48) d_X11_bestAt_48 rfl rfl h
        · have h := h.2 hc
          refine wp_iconst (pc := 43) (v := 1) d_X11_bestAt_43 rfl ?_
          refine wp_goto (pc := 44) (tgt := 48) d_X11_bestAt_44 (by decide) ?_
          exact wp_zret (pc := 48) d_X11_bestAt_48 rfl rfl h
theorem d_X11_bests_0 : decode prog_1_method_30_code 0 = .ok (.aload_n 0, 1) := by decide +kernel
theorem d_X11_bests_1 : decode prog_1_method_30_code 1 = .ok (.iload_n 1, 1) := by decide +kernel
theorem d_X11_bests_2 : decode prog_1_method_30_code 2 = .ok (.invokevirtual 289, 3) := by decide +kernel
theorem d_X11_bests_5 : decode prog_1_method_30_code 5 = .ok (.astore_n 2, 1) := by decide +kernel
theorem d_X11_bests_6 : decode prog_1_method_30_code 6 = .ok (.aload_n 2, 1) := by decide +kernel
theorem d_X11_bests_7 : decode prog_1_method_30_code 7 = .ok (.ifnonnull 7, 3) := by decide +kernel
theorem d_X11_bests_10 : decode prog_1_method_30_code 10 = .ok (.iconst (-1), 1) := by decide +kernel
theorem d_X11_bests_11 : decode prog_1_method_30_code 11 = .ok (.goto 12, 3) := by decide +kernel
theorem d_X11_bests_14 : decode prog_1_method_30_code 14 = .ok (.aload_n 2, 1) := by decide +kernel
theorem d_X11_bests_15 : decode prog_1_method_30_code 15 = .ok (.getfield 232, 3) := by decide +kernel
theorem d_X11_bests_18 : decode prog_1_method_30_code 18 = .ok (.aload_n 2, 1) := by decide +kernel
theorem d_X11_bests_19 : decode prog_1_method_30_code 19 = .ok (.iconst 1, 1) := by decide +kernel
theorem d_X11_bests_20 : decode prog_1_method_30_code 20 = .ok (.invokevirtual 302, 3) := by decide +kernel
theorem d_X11_bests_23 : decode prog_1_method_30_code 23 = .ok (.ireturn, 1) := by decide +kernel
theorem v_X11_bests_0 {E : EE} {d : Nat} {Q : Option AV → AH → Prop} {x0 : Nat} {x1 : Int32} {G : AH} (h0 : 0 < d) (h : isO E G x0 11 ∧ (wpR E (d - 1) M_X11_scored [vr x0, vi x1] G (fun r1 G2 => (¬ r1 = 0 → isO E G2 r1 3 ∧ (isO E G2 (gR G2 r1 6) 9 ∧ (wpI E (d - 1) M_X9_gatherFor [vr (gR G2 r1 6), vr r1, vi 1] G2 (fun r4 G5 => Q (some (vi r4)) G5)))) ∧ (r1 = 0 → Q (some (vi (-1))) G2)))) : wp E d M_X11_bests 0 [some (vr x0), some (vi x1), none] [] G Q := by
  refine wp_aload_n (pc := 0) d_X11_bests_0 rfl ?_
  refine wp_iload_n (pc := 1) d_X11_bests_1 rfl ?_
  obtain ⟨ho7, h⟩ := h
  refine wp_invV (pc := 2) (N := M_X11_scored) (As := [vi _]) (rest := []) (r := (cn_11, ct_11, 12)) d_X11_bests_2 ml_X11_289 mk_X11_scored mv_X11_scored h0 ho7 rfl rfl (Nat.le_of_ble_eq_true rfl) ?_
  refine wpM.mono h (fun rr G2 hr => ?_)
  obtain ⟨r1, rfl, h⟩ := hr
  show wp E d M_X11_bests 5 [some (vr _), some (vi _), none] [vr _] G2 Q
  refine wp_astore_n (pc := 5) (lv' := [some (vr _), some (vi _), some (vr _)]) d_X11_bests_5 (by decide) rfl ?_
  refine wp_aload_n (pc := 6) d_X11_bests_6 rfl ?_
  refine wp_ifnonnull (pc := 7) (tgt := 14) d_X11_bests_7 (by decide) (fun hc => ?_) (fun hc => ?_)
  · have h := h.1 hc
    refine wp_aload_n (pc := 14) d_X11_bests_14 rfl ?_
    obtain ⟨ho3, h⟩ := h
    refine wp_getR (pc := 15) d_X11_bests_15 fl_X11_232 (fun _ _ _ => rfl) ho3 ?_
    refine wp_aload_n (pc := 18) d_X11_bests_18 rfl ?_
    refine wp_iconst (pc := 19) (v := 1) d_X11_bests_19 rfl ?_
    obtain ⟨ho6, h⟩ := h
    refine wp_invV (pc := 20) (N := M_X9_gatherFor) (As := [vr _, vi _]) (rest := []) (r := (cn_9, ct_9, 8)) d_X11_bests_20 ml_X11_302 mk_X9_gatherFor mv_X9_gatherFor h0 ho6 rfl rfl (Nat.le_of_ble_eq_true rfl) ?_
    refine wpM.mono h (fun rr G5 hr => ?_)
    obtain ⟨r4, rfl, h⟩ := hr
    show wp E d M_X11_bests 23 [some (vr _), some (vi _), some (vr _)] [vi _] G5 Q
    exact wp_iret (pc := 23) d_X11_bests_23 rfl h
  · have h := h.2 hc
    refine wp_iconst (pc := 10) (v := (-1)) d_X11_bests_10 rfl ?_
    refine wp_goto (pc := 11) (tgt := 23) d_X11_bests_11 (by decide) ?_
    exact wp_iret (pc := 23) d_X11_bests_23 rfl h
theorem d_X11_best_0 : decode prog_1_method_29_code 0 = .ok (.aload_n 0, 1) := by decide +kernel
theorem d_X11_best_1 : decode prog_1_method_29_code 1 = .ok (.iload_n 1, 1) := by decide +kernel
theorem d_X11_best_2 : decode prog_1_method_29_code 2 = .ok (.invokevirtual 289, 3) := by decide +kernel
theorem d_X11_best_5 : decode prog_1_method_29_code 5 = .ok (.astore_n 3, 1) := by decide +kernel
theorem d_X11_best_6 : decode prog_1_method_29_code 6 = .ok (.aload_n 3, 1) := by decide +kernel
theorem d_X11_best_7 : decode prog_1_method_29_code 7 = .ok (.ifnull 22, 3) := by decide +kernel
theorem d_X11_best_10 : decode prog_1_method_29_code 10 = .ok (.iload_n 2, 1) := by decide +kernel
theorem d_X11_best_11 : decode prog_1_method_29_code 11 = .ok (.invokestatic 279, 3) := by decide +kernel
theorem d_X11_best_14 : decode prog_1_method_29_code 14 = .ok (.ifCond .eq 15, 3) := by decide +kernel
theorem d_X11_best_17 : decode prog_1_method_29_code 17 = .ok (.aload_n 3, 1) := by decide +kernel
theorem d_X11_best_18 : decode prog_1_method_29_code 18 = .ok (.getfield 232, 3) := by decide +kernel
theorem d_X11_best_21 : decode prog_1_method_29_code 21 = .ok (.aload_n 3, 1) := by decide +kernel
theorem d_X11_best_22 : decode prog_1_method_29_code 22 = .ok (.iconst 1, 1) := by decide +kernel
theorem d_X11_best_23 : decode prog_1_method_29_code 23 = .ok (.invokevirtual 302, 3) := by decide +kernel
theorem d_X11_best_26 : decode prog_1_method_29_code 26 = .ok (.ifCond .ne 7, 3) := by decide +kernel
theorem d_X11_best_29 : decode prog_1_method_29_code 29 = .ok (.ldc2_w 215, 3) := by decide +kernel
theorem d_X11_best_32 : decode prog_1_method_29_code 32 = .ok (.lreturn, 1) := by decide +kernel
theorem d_X11_best_33 : decode prog_1_method_29_code 33 = .ok (.aload_n 3, 1) := by decide +kernel
theorem d_X11_best_34 : decode prog_1_method_29_code 34 = .ok (.getfield 232, 3) := by decide +kernel
theorem d_X11_best_37 : decode prog_1_method_29_code 37 = .ok (.aload_n 3, 1) := by decide +kernel
theorem d_X11_best_38 : decode prog_1_method_29_code 38 = .ok (.getfield 232, 3) := by decide +kernel
theorem d_X11_best_41 : decode prog_1_method_29_code 41 = .ok (.getfield 306, 3) := by decide +kernel
theorem d_X11_best_44 : decode prog_1_method_29_code 44 = .ok (.iconst 0, 1) := by decide +kernel
theorem d_X11_best_45 : decode prog_1_method_29_code 45 = .ok (.iaload, 1) := by decide +kernel
theorem d_X11_best_46 : decode prog_1_method_29_code 46 = .ok (.iload_n 2, 1) := by decide +kernel
theorem d_X11_best_47 : decode prog_1_method_29_code 47 = .ok (.invokevirtual 312, 3) := by decide +kernel
theorem d_X11_best_50 : decode prog_1_method_29_code 50 = .ok (.lreturn, 1) := by decide +kernel
theorem v_X11_best_0 {E : EE} {d : Nat} {Q : Option AV → AH → Prop} {x0 : Nat} {x1 : Int32} {x2 : Int32} {G : AH} (h0 : 0 < d) (h : isO E G x0 11 ∧ (wpR E (d - 1) M_X11_scored [vr x0, vi x1] G (fun r1 G2 => (r1 = 0 → Q (some (vj (-9223372036854775808))) G2) ∧ (¬ r1 = 0 → wpI E (d - 1) M_X11_isLevel [vi x2] G2 (fun r3 G4 => (r3 = 0 → Q (some (vj (-9223372036854775808))) G4) ∧ (¬ (r3 = 0) → isO E G4 r1 3 ∧ (isO E G4 (gR G4 r1 6) 9 ∧ (wpI E (d - 1) M_X9_gatherFor [vr (gR G4 r1 6), vr r1, vi 1] G4 (fun r6 G7 => (¬ r6 = 0 → isO E G7 r1 3 ∧ (isO E G7 (gR G7 r1 6) 9 ∧ (isO E G7 (gR G7 (gR G7 r1 6) 2) 14 ∧ (vp_in 0 (gN G7 (gR G7 (gR G7 r1 6) 2)) ∧ (wpJ E (d - 1) M_X9_scoreOf [vr (gR G7 r1 6), vi (gI G7 (gR G7 (gR G7 r1 6) 2) (Int32.toNatClampNeg 0)), vi x2] G7 (fun r12 G13 => Q (some (vj r12)) G13)))))) ∧ (r6 = 0 → Q (some (vj (-9223372036854775808))) G7)))))))))) : wp E d M_X11_best 0 [some (vr x0), some (vi x1), some (vi x2), none] [] G Q := by
  refine wp_aload_n (pc := 0) d_X11_best_0 rfl ?_
  refine wp_iload_n (pc := 1) d_X11_best_1 rfl ?_
  obtain ⟨ho15, h⟩ := h
  refine wp_invV (pc := 2) (N := M_X11_scored) (As := [vi _]) (rest := []) (r := (cn_11, ct_11, 12)) d_X11_best_2 ml_X11_289 mk_X11_scored mv_X11_scored h0 ho15 rfl rfl (Nat.le_of_ble_eq_true rfl) ?_
  refine wpM.mono h (fun rr G2 hr => ?_)
  obtain ⟨r1, rfl, h⟩ := hr
  show wp E d M_X11_best 5 [some (vr _), some (vi _), some (vi _), none] [vr _] G2 Q
  refine wp_astore_n (pc := 5) (lv' := [some (vr _), some (vi _), some (vi _), some (vr _)]) d_X11_best_5 (by decide) rfl ?_
  refine wp_aload_n (pc := 6) d_X11_best_6 rfl ?_
  refine wp_ifnull (pc := 7) (tgt := 29) d_X11_best_7 (by decide) (fun hc => ?_) (fun hc => ?_)
  · have h := h.1 hc
    refine wp_ldc2 (pc := 29) (v := (-9223372036854775808)) d_X11_best_29 cj_X11_215 ?_
    exact wp_lret (pc := 32) d_X11_best_32 rfl h
  · have h := h.2 hc
    refine wp_iload_n (pc := 10) d_X11_best_10 rfl ?_
    refine wp_invS (pc := 11) (N := M_X11_isLevel) (As := [vi _]) (rest := []) d_X11_best_11 ml_X11_279 mk_X11_isLevel ms_X11_isLevel h0 (Nat.le_of_ble_eq_true rfl) ?_
    refine wpM.mono h (fun rr G4 hr => ?_)
    obtain ⟨r3, rfl, h⟩ := hr
    show wp E d M_X11_best 14 [some (vr _), some (vi _), some (vi _), some (vr _)] [vi _] G4 Q
    refine wp_if_eq (pc := 14) (tgt := 29) d_X11_best_14 (by decide) (fun hc => ?_) (fun hc => ?_)
    · have h := h.1 hc
      refine wp_ldc2 (pc := 29) (v := (-9223372036854775808)) d_X11_best_29 cj_X11_215 ?_
      exact wp_lret (pc := 32) d_X11_best_32 rfl h
    · have h := h.2 hc
      refine wp_aload_n (pc := 17) d_X11_best_17 rfl ?_
      obtain ⟨ho5, h⟩ := h
      refine wp_getR (pc := 18) d_X11_best_18 fl_X11_232 (fun _ _ _ => rfl) ho5 ?_
      refine wp_aload_n (pc := 21) d_X11_best_21 rfl ?_
      refine wp_iconst (pc := 22) (v := 1) d_X11_best_22 rfl ?_
      obtain ⟨ho14, h⟩ := h
      refine wp_invV (pc := 23) (N := M_X9_gatherFor) (As := [vr _, vi _]) (rest := []) (r := (cn_9, ct_9, 8)) d_X11_best_23 ml_X11_302 mk_X9_gatherFor mv_X9_gatherFor h0 ho14 rfl rfl (Nat.le_of_ble_eq_true rfl) ?_
      refine wpM.mono h (fun rr G7 hr => ?_)
      obtain ⟨r6, rfl, h⟩ := hr
      show wp E d M_X11_best 26 [some (vr _), some (vi _), some (vi _), some (vr _)] [vi _] G7 Q
      refine wp_if_ne (pc := 26) (tgt := 33) d_X11_best_26 (by decide) (fun hc => ?_) (fun hc => ?_)
      · have h := h.1 hc
        refine wp_aload_n (pc := 33) d_X11_best_33 rfl ?_
        obtain ⟨ho8, h⟩ := h
        refine wp_getR (pc := 34) d_X11_best_34 fl_X11_232 (fun _ _ _ => rfl) ho8 ?_
        refine wp_aload_n (pc := 37) d_X11_best_37 rfl ?_
        refine wp_getR (pc := 38) d_X11_best_38 fl_X11_232 (fun _ _ _ => rfl) ho8 ?_
        obtain ⟨ho9, h⟩ := h
        refine wp_getR (pc := 41) d_X11_best_41 fl_X11_306 (fun _ _ _ => rfl) ho9 ?_
        refine wp_iconst (pc := 44) (v := 0) d_X11_best_44 rfl ?_
        obtain ⟨ho10, h⟩ := h
        obtain ⟨hi11, h⟩ := h
        refine wp_iald (pc := 45) d_X11_best_45 ho10 hi11 ?_
        refine wp_iload_n (pc := 46) d_X11_best_46 rfl ?_
        refine wp_invV (pc := 47) (N := M_X9_scoreOf) (As := [vi _, vi _]) (rest := []) (r := (cn_9, ct_9, 8)) d_X11_best_47 ml_X11_312 mk_X9_scoreOf mv_X9_scoreOf h0 ho9 rfl rfl (Nat.le_of_ble_eq_true rfl) ?_
        refine wpM.mono h (fun rr G13 hr => ?_)
        obtain ⟨r12, rfl, h⟩ := hr
        show wp E d M_X11_best 50 [some (vr _), some (vi _), some (vi _), some (vr _)] [vj _] G13 Q
        exact wp_lret (pc := 50) d_X11_best_50 rfl h
      · have h := h.2 hc
        refine wp_ldc2 (pc := 29) (v := (-9223372036854775808)) d_X11_best_29 cj_X11_215 ?_
        exact wp_lret (pc := 32) d_X11_best_32 rfl h
theorem d_X11_solve_0 : decode prog_1_method_28_code 0 = .ok (.aload_n 0, 1) := by decide +kernel
theorem d_X11_solve_1 : decode prog_1_method_28_code 1 = .ok (.iload_n 1, 1) := by decide +kernel
theorem d_X11_solve_2 : decode prog_1_method_28_code 2 = .ok (.invokevirtual 289, 3) := by decide +kernel
theorem d_X11_solve_5 : decode prog_1_method_28_code 5 = .ok (.astore_n 2, 1) := by decide +kernel
theorem d_X11_solve_6 : decode prog_1_method_28_code 6 = .ok (.aload_n 2, 1) := by decide +kernel
theorem d_X11_solve_7 : decode prog_1_method_28_code 7 = .ok (.ifnonnull 5, 3) := by decide +kernel
theorem d_X11_solve_10 : decode prog_1_method_28_code 10 = .ok (.iconst (-1), 1) := by decide +kernel
theorem d_X11_solve_11 : decode prog_1_method_28_code 11 = .ok (.ireturn, 1) := by decide +kernel
theorem d_X11_solve_12 : decode prog_1_method_28_code 12 = .ok (.aload_n 2, 1) := by decide +kernel
theorem d_X11_solve_13 : decode prog_1_method_28_code 13 = .ok (.getfield 232, 3) := by decide +kernel
theorem d_X11_solve_16 : decode prog_1_method_28_code 16 = .ok (.aload_n 2, 1) := by decide +kernel
theorem d_X11_solve_17 : decode prog_1_method_28_code 17 = .ok (.iconst 1, 1) := by decide +kernel
theorem d_X11_solve_18 : decode prog_1_method_28_code 18 = .ok (.invokevirtual 302, 3) := by decide +kernel
theorem d_X11_solve_21 : decode prog_1_method_28_code 21 = .ok (.ifCond .le 23, 3) := by decide +kernel
theorem d_X11_solve_24 : decode prog_1_method_28_code 24 = .ok (.aload_n 2, 1) := by decide +kernel
theorem d_X11_solve_25 : decode prog_1_method_28_code 25 = .ok (.aload_n 2, 1) := by decide +kernel
theorem d_X11_solve_26 : decode prog_1_method_28_code 26 = .ok (.getfield 232, 3) := by decide +kernel
theorem d_X11_solve_29 : decode prog_1_method_28_code 29 = .ok (.getfield 306, 3) := by decide +kernel
theorem d_X11_solve_32 : decode prog_1_method_28_code 32 = .ok (.iconst 0, 1) := by decide +kernel
theorem d_X11_solve_33 : decode prog_1_method_28_code 33 = .ok (.iaload, 1) := by decide +kernel
theorem d_X11_solve_34 : decode prog_1_method_28_code 34 = .ok (.invokevirtual 309, 3) := by decide +kernel
theorem d_X11_solve_37 : decode prog_1_method_28_code 37 = .ok (.ifCond .eq 7, 3) := by decide +kernel
theorem d_X11_solve_40 : decode prog_1_method_28_code 40 = .ok (.iconst 1, 1) := by decide +kernel
theorem d_X11_solve_41 : decode prog_1_method_28_code 41 = .ok (.goto 4, 3) := by decide +kernel
theorem d_X11_solve_44 : decode prog_1_method_28_code 44 = .ok (.iconst 0, 1) := by decide +kernel
theorem d_X11_solve_45 : decode prog_1_method_28_code 45 = .ok (.ireturn, 1) := by decide +kernel
theorem v_X11_solve_0 {E : EE} {d : Nat} {Q : Option AV → AH → Prop} {x0 : Nat} {x1 : Int32} {G : AH} (h0 : 0 < d) (h : isO E G x0 11 ∧ (wpR E (d - 1) M_X11_scored [vr x0, vi x1] G (fun r1 G2 => (¬ r1 = 0 → isO E G2 r1 3 ∧ (isO E G2 (gR G2 r1 6) 9 ∧ (wpI E (d - 1) M_X9_gatherFor [vr (gR G2 r1 6), vr r1, vi 1] G2 (fun r4 G5 => (r4 ≤ 0 → Q (some (vi 0)) G5) ∧ (¬ (r4 ≤ 0) → isO E G5 r1 3 ∧ (isO E G5 (gR G5 r1 6) 9 ∧ (isO E G5 (gR G5 (gR G5 r1 6) 2) 14 ∧ (vp_in 0 (gN G5 (gR G5 (gR G5 r1 6) 2)) ∧ (wpI E (d - 1) M_X3_moveTo [vr r1, vi (gI G5 (gR G5 (gR G5 r1 6) 2) (Int32.toNatClampNeg 0))] G5 (fun r10 G11 => (r10 = 0 → Q (some (vi 0)) G11) ∧ (¬ (r10 = 0) → Q (some (vi 1)) G11))))))))))) ∧ (r1 = 0 → Q (some (vi (-1))) G2)))) : wp E d M_X11_solve 0 [some (vr x0), some (vi x1), none] [] G Q := by
  refine wp_aload_n (pc := 0) d_X11_solve_0 rfl ?_
  refine wp_iload_n (pc := 1) d_X11_solve_1 rfl ?_
  obtain ⟨ho13, h⟩ := h
  refine wp_invV (pc := 2) (N := M_X11_scored) (As := [vi _]) (rest := []) (r := (cn_11, ct_11, 12)) d_X11_solve_2 ml_X11_289 mk_X11_scored mv_X11_scored h0 ho13 rfl rfl (Nat.le_of_ble_eq_true rfl) ?_
  refine wpM.mono h (fun rr G2 hr => ?_)
  obtain ⟨r1, rfl, h⟩ := hr
  show wp E d M_X11_solve 5 [some (vr _), some (vi _), none] [vr _] G2 Q
  refine wp_astore_n (pc := 5) (lv' := [some (vr _), some (vi _), some (vr _)]) d_X11_solve_5 (by decide) rfl ?_
  refine wp_aload_n (pc := 6) d_X11_solve_6 rfl ?_
  refine wp_ifnonnull (pc := 7) (tgt := 12) d_X11_solve_7 (by decide) (fun hc => ?_) (fun hc => ?_)
  · have h := h.1 hc
    refine wp_aload_n (pc := 12) d_X11_solve_12 rfl ?_
    obtain ⟨ho3, h⟩ := h
    refine wp_getR (pc := 13) d_X11_solve_13 fl_X11_232 (fun _ _ _ => rfl) ho3 ?_
    refine wp_aload_n (pc := 16) d_X11_solve_16 rfl ?_
    refine wp_iconst (pc := 17) (v := 1) d_X11_solve_17 rfl ?_
    obtain ⟨ho12, h⟩ := h
    refine wp_invV (pc := 18) (N := M_X9_gatherFor) (As := [vr _, vi _]) (rest := []) (r := (cn_9, ct_9, 8)) d_X11_solve_18 ml_X11_302 mk_X9_gatherFor mv_X9_gatherFor h0 ho12 rfl rfl (Nat.le_of_ble_eq_true rfl) ?_
    refine wpM.mono h (fun rr G5 hr => ?_)
    obtain ⟨r4, rfl, h⟩ := hr
    show wp E d M_X11_solve 21 [some (vr _), some (vi _), some (vr _)] [vi _] G5 Q
    refine wp_if_le (pc := 21) (tgt := 44) d_X11_solve_21 (by decide) (fun hc => ?_) (fun hc => ?_)
    · have h := h.1 hc
      refine wp_iconst (pc := 44) (v := 0) d_X11_solve_44 rfl ?_
      exact wp_iret (pc := 45) d_X11_solve_45 rfl h
    · have h := h.2 hc
      refine wp_aload_n (pc := 24) d_X11_solve_24 rfl ?_
      refine wp_aload_n (pc := 25) d_X11_solve_25 rfl ?_
      obtain ⟨ho6, h⟩ := h
      refine wp_getR (pc := 26) d_X11_solve_26 fl_X11_232 (fun _ _ _ => rfl) ho6 ?_
      obtain ⟨ho7, h⟩ := h
      refine wp_getR (pc := 29) d_X11_solve_29 fl_X11_306 (fun _ _ _ => rfl) ho7 ?_
      refine wp_iconst (pc := 32) (v := 0) d_X11_solve_32 rfl ?_
      obtain ⟨ho8, h⟩ := h
      obtain ⟨hi9, h⟩ := h
      refine wp_iald (pc := 33) d_X11_solve_33 ho8 hi9 ?_
      refine wp_invV (pc := 34) (N := M_X3_moveTo) (As := [vi _]) (rest := []) (r := (cn_3, ct_3, 19)) d_X11_solve_34 ml_X11_309 mk_X3_moveTo mv_X3_moveTo h0 ho6 rfl rfl (Nat.le_of_ble_eq_true rfl) ?_
      refine wpM.mono h (fun rr G11 hr => ?_)
      obtain ⟨r10, rfl, h⟩ := hr
      show wp E d M_X11_solve 37 [some (vr _), some (vi _), some (vr _)] [vi _] G11 Q
      refine wp_if_eq (pc := 37) (tgt := 44) d_X11_solve_37 (by decide) (fun hc => ?_) (fun hc => ?_)
      · have h := h.1 hc
        refine wp_iconst (pc := 44) (v := 0) d_X11_solve_44 rfl ?_
        exact wp_iret (pc := 45) d_X11_solve_45 rfl h
      · have h := h.2 hc
        refine wp_iconst (pc := 40) (v := 1) d_X11_solve_40 rfl ?_
        refine wp_goto (pc := 41) (tgt := 45) d_X11_solve_41 (by decide) ?_
        exact wp_iret (pc := 45) d_X11_solve_45 rfl h
  · have h := h.2 hc
    refine wp_iconst (pc := 10) (v := (-1)) d_X11_solve_10 rfl ?_
    exact wp_iret (pc := 11) d_X11_solve_11 rfl h
theorem d_X11_hopeless_0 : decode prog_1_method_27_code 0 = .ok (.aload_n 0, 1) := by decide +kernel
theorem d_X11_hopeless_1 : decode prog_1_method_27_code 1 = .ok (.iload_n 1, 1) := by decide +kernel
theorem d_X11_hopeless_2 : decode prog_1_method_27_code 2 = .ok (.invokevirtual 289, 3) := by decide +kernel
theorem d_X11_hopeless_5 : decode prog_1_method_27_code 5 = .ok (.astore_n 2, 1) := by decide +kernel
theorem d_X11_hopeless_6 : decode prog_1_method_27_code 6 = .ok (.aload_n 2, 1) := by decide +kernel
theorem d_X11_hopeless_7 : decode prog_1_method_27_code 7 = .ok (.ifnonnull 7, 3) := by decide +kernel
theorem d_X11_hopeless_10 : decode prog_1_method_27_code 10 = .ok (.iconst (-1), 1) := by decide +kernel
theorem d_X11_hopeless_11 : decode prog_1_method_27_code 11 = .ok (.goto 11, 3) := by decide +kernel
theorem d_X11_hopeless_14 : decode prog_1_method_27_code 14 = .ok (.aload_n 0, 1) := by decide +kernel
theorem d_X11_hopeless_15 : decode prog_1_method_27_code 15 = .ok (.getfield 43, 3) := by decide +kernel
theorem d_X11_hopeless_18 : decode prog_1_method_27_code 18 = .ok (.aload_n 2, 1) := by decide +kernel
theorem d_X11_hopeless_19 : decode prog_1_method_27_code 19 = .ok (.invokevirtual 299, 3) := by decide +kernel
theorem d_X11_hopeless_22 : decode prog_1_method_27_code 22 = .ok (.ireturn, 1) := by decide +kernel
theorem v_X11_hopeless_0 {E : EE} {d : Nat} {Q : Option AV → AH → Prop} {x0 : Nat} {x1 : Int32} {G : AH} (h0 : 0 < d) (h : isO E G x0 11 ∧ (wpR E (d - 1) M_X11_scored [vr x0, vi x1] G (fun r1 G2 => (¬ r1 = 0 → isO E G2 x0 11 ∧ (isO E G2 (gR G2 x0 4) 1 ∧ (wpI E (d - 1) M_X1_alwaysBroken [vr (gR G2 x0 4), vr r1] G2 (fun r4 G5 => Q (some (vi r4)) G5)))) ∧ (r1 = 0 → Q (some (vi (-1))) G2)))) : wp E d M_X11_hopeless 0 [some (vr x0), some (vi x1), none] [] G Q := by
  refine wp_aload_n (pc := 0) d_X11_hopeless_0 rfl ?_
  refine wp_iload_n (pc := 1) d_X11_hopeless_1 rfl ?_
  obtain ⟨ho7, h⟩ := h
  refine wp_invV (pc := 2) (N := M_X11_scored) (As := [vi _]) (rest := []) (r := (cn_11, ct_11, 12)) d_X11_hopeless_2 ml_X11_289 mk_X11_scored mv_X11_scored h0 ho7 rfl rfl (Nat.le_of_ble_eq_true rfl) ?_
  refine wpM.mono h (fun rr G2 hr => ?_)
  obtain ⟨r1, rfl, h⟩ := hr
  show wp E d M_X11_hopeless 5 [some (vr _), some (vi _), none] [vr _] G2 Q
  refine wp_astore_n (pc := 5) (lv' := [some (vr _), some (vi _), some (vr _)]) d_X11_hopeless_5 (by decide) rfl ?_
  refine wp_aload_n (pc := 6) d_X11_hopeless_6 rfl ?_
  refine wp_ifnonnull (pc := 7) (tgt := 14) d_X11_hopeless_7 (by decide) (fun hc => ?_) (fun hc => ?_)
  · have h := h.1 hc
    refine wp_aload_n (pc := 14) d_X11_hopeless_14 rfl ?_
    obtain ⟨ho3, h⟩ := h
    refine wp_getR (pc := 15) d_X11_hopeless_15 fl_X11_43 (fun _ _ _ => rfl) ho3 ?_
    refine wp_aload_n (pc := 18) d_X11_hopeless_18 rfl ?_
    obtain ⟨ho6, h⟩ := h
    refine wp_invV (pc := 19) (N := M_X1_alwaysBroken) (As := [vr _]) (rest := []) (r := (cn_1, ct_1, 6)) d_X11_hopeless_19 ml_X11_299 mk_X1_alwaysBroken mv_X1_alwaysBroken h0 ho6 rfl rfl (Nat.le_of_ble_eq_true rfl) ?_
    refine wpM.mono h (fun rr G5 hr => ?_)
    obtain ⟨r4, rfl, h⟩ := hr
    show wp E d M_X11_hopeless 22 [some (vr _), some (vi _), some (vr _)] [vi _] G5 Q
    exact wp_iret (pc := 22) d_X11_hopeless_22 rfl h
  · have h := h.2 hc
    refine wp_iconst (pc := 10) (v := (-1)) d_X11_hopeless_10 rfl ?_
    refine wp_goto (pc := 11) (tgt := 22) d_X11_hopeless_11 (by decide) ?_
    exact wp_iret (pc := 22) d_X11_hopeless_22 rfl h
theorem d_X11_isLeft_0 : decode prog_1_method_26_code 0 = .ok (.aload_n 0, 1) := by decide +kernel
theorem d_X11_isLeft_1 : decode prog_1_method_26_code 1 = .ok (.iload_n 1, 1) := by decide +kernel
theorem d_X11_isLeft_2 : decode prog_1_method_26_code 2 = .ok (.invokevirtual 289, 3) := by decide +kernel
theorem d_X11_isLeft_5 : decode prog_1_method_26_code 5 = .ok (.astore 4, 2) := by decide +kernel
theorem d_X11_isLeft_7 : decode prog_1_method_26_code 7 = .ok (.aload 4, 2) := by decide +kernel
theorem d_X11_isLeft_9 : decode prog_1_method_26_code 9 = .ok (.ifnull 33, 3) := by decide +kernel
theorem d_X11_isLeft_12 : decode prog_1_method_26_code 12 = .ok (.aload 4, 2) := by decide +kernel
theorem d_X11_isLeft_14 : decode prog_1_method_26_code 14 = .ok (.getfield 139, 3) := by decide +kernel
theorem d_X11_isLeft_17 : decode prog_1_method_26_code 17 = .ok (.iload_n 2, 1) := by decide +kernel
theorem d_X11_isLeft_18 : decode prog_1_method_26_code 18 = .ok (.invokevirtual 209, 3) := by decide +kernel
theorem d_X11_isLeft_21 : decode prog_1_method_26_code 21 = .ok (.ifCond .eq 21, 3) := by decide +kernel
theorem d_X11_isLeft_24 : decode prog_1_method_26_code 24 = .ok (.iload_n 3, 1) := by decide +kernel
theorem d_X11_isLeft_25 : decode prog_1_method_26_code 25 = .ok (.ifCond .lt 17, 3) := by decide +kernel
theorem d_X11_isLeft_28 : decode prog_1_method_26_code 28 = .ok (.iload_n 3, 1) := by decide +kernel
theorem d_X11_isLeft_29 : decode prog_1_method_26_code 29 = .ok (.aload 4, 2) := by decide +kernel
theorem d_X11_isLeft_31 : decode prog_1_method_26_code 31 = .ok (.getfield 139, 3) := by decide +kernel
theorem d_X11_isLeft_34 : decode prog_1_method_26_code 34 = .ok (.getfield 212, 3) := by decide +kernel
theorem d_X11_isLeft_37 : decode prog_1_method_26_code 37 = .ok (.iload_n 2, 1) := by decide +kernel
theorem d_X11_isLeft_38 : decode prog_1_method_26_code 38 = .ok (.iaload, 1) := by decide +kernel
theorem d_X11_isLeft_39 : decode prog_1_method_26_code 39 = .ok (.if_icmp .lt 5, 3) := by decide +kernel
theorem d_X11_isLeft_42 : decode prog_1_method_26_code 42 = .ok (.iconst 0, 1) := by decide +kernel
theorem d_X11_isLeft_43 : decode prog_1_method_26_code 43 = .ok (.ireturn, 1) := by decide +kernel
theorem d_X11_isLeft_44 : decode prog_1_method_26_code 44 = .ok (.aload_n 0, 1) := by decide +kernel
theorem d_X11_isLeft_45 : decode prog_1_method_26_code 45 = .ok (.getfield 43, 3) := by decide +kernel
theorem d_X11_isLeft_48 : decode prog_1_method_26_code 48 = .ok (.aload 4, 2) := by decide +kernel
theorem d_X11_isLeft_50 : decode prog_1_method_26_code 50 = .ok (.invokevirtual 292, 3) := by decide +kernel
theorem d_X11_isLeft_53 : decode prog_1_method_26_code 53 = .ok (.pop, 1) := by decide +kernel
theorem d_X11_isLeft_54 : decode prog_1_method_26_code 54 = .ok (.aload_n 0, 1) := by decide +kernel
theorem d_X11_isLeft_55 : decode prog_1_method_26_code 55 = .ok (.getfield 43, 3) := by decide +kernel
theorem d_X11_isLeft_58 : decode prog_1_method_26_code 58 = .ok (.getfield 296, 3) := by decide +kernel
theorem d_X11_isLeft_61 : decode prog_1_method_26_code 61 = .ok (.iload_n 2, 1) := by decide +kernel
theorem d_X11_isLeft_62 : decode prog_1_method_26_code 62 = .ok (.iaload, 1) := by decide +kernel
theorem d_X11_isLeft_63 : decode prog_1_method_26_code 63 = .ok (.iload_n 3, 1) := by decide +kernel
theorem d_X11_isLeft_64 : decode prog_1_method_26_code 64 = .ok (.ishr, 1) := by decide +kernel
theorem d_X11_isLeft_65 : decode prog_1_method_26_code 65 = .ok (.iconst 1, 1) := by decide +kernel
theorem d_X11_isLeft_66 : decode prog_1_method_26_code 66 = .ok (.iand, 1) := by decide +kernel
theorem d_X11_isLeft_67 : decode prog_1_method_26_code 67 = .ok (.ifCond .eq 7, 3) := by decide +kernel
theorem d_X11_isLeft_70 : decode prog_1_method_26_code 70 = .ok (.iconst 1, 1) := by decide +kernel
theorem d_X11_isLeft_71 : decode prog_1_method_26_code 71 = .ok (.goto 4, 3) := by decide +kernel
theorem d_X11_isLeft_74 : decode prog_1_method_26_code 74 = .ok (.iconst 0, 1) := by decide +kernel
theorem d_X11_isLeft_75 : decode prog_1_method_26_code 75 = .ok (.ireturn, 1) := by decide +kernel
theorem v_X11_isLeft_0 {E : EE} {d : Nat} {Q : Option AV → AH → Prop} {x0 : Nat} {x1 : Int32} {x2 : Int32} {x3 : Int32} {G : AH} (h0 : 0 < d) (h : isO E G x0 11 ∧ (wpR E (d - 1) M_X11_scored [vr x0, vi x1] G (fun r1 G2 => (r1 = 0 → Q (some (vi 0)) G2) ∧ (¬ r1 = 0 → isO E G2 r1 3 ∧ (isO E G2 (gR G2 r1 4) 7 ∧ (wpI E (d - 1) M_X7_isVar [vr (gR G2 r1 4), vi x2] G2 (fun r4 G5 => (r4 = 0 → Q (some (vi 0)) G5) ∧ (¬ (r4 = 0) → (x3 < 0 → Q (some (vi 0)) G5) ∧ (¬ (x3 < 0) → isO E G5 r1 3 ∧ (isO E G5 (gR G5 r1 4) 7 ∧ (isO E G5 (gR G5 (gR G5 r1 4) 2) 14 ∧ (vp_in x2 (gN G5 (gR G5 (gR G5 r1 4) 2)) ∧ ((x3 < (gI G5 (gR G5 (gR G5 r1 4) 2) (Int32.toNatClampNeg x2)) → isO E G5 x0 11 ∧ (isO E G5 (gR G5 x0 4) 1 ∧ (wpI E (d - 1) M_X1_workOut [vr (gR G5 x0 4), vr r1] G5 (fun r11 G12 => isO E G12 x0 11 ∧ (isO E G12 (gR G12 x0 4) 1 ∧ (isO E G12 (gR G12 (gR G12 x0 4) 0) 14 ∧ (vp_in x2 (gN G12 (gR G12 (gR G12 x0 4) 0)) ∧ (((((gI G12 (gR G12 (gR G12 x0 4) 0) (Int32.toNatClampNeg x2)) >>> (x3 &&& 31)) &&& 1) = 0 → Q (some (vi 0)) G12) ∧ (¬ ((((gI G12 (gR G12 (gR G12 x0 4) 0) (Int32.toNatClampNeg x2)) >>> (x3 &&& 31)) &&& 1) = 0) → Q (some (vi 1)) G12))))))))) ∧ (¬ (x3 < (gI G5 (gR G5 (gR G5 r1 4) 2) (Int32.toNatClampNeg x2))) → Q (some (vi 0)) G5)))))))))))))) : wp E d M_X11_isLeft 0 [some (vr x0), some (vi x1), some (vi x2), some (vi x3), none] [] G Q := by
  refine wp_aload_n (pc := 0) d_X11_isLeft_0 rfl ?_
  refine wp_iload_n (pc := 1) d_X11_isLeft_1 rfl ?_
  obtain ⟨ho19, h⟩ := h
  refine wp_invV (pc := 2) (N := M_X11_scored) (As := [vi _]) (rest := []) (r := (cn_11, ct_11, 12)) d_X11_isLeft_2 ml_X11_289 mk_X11_scored mv_X11_scored h0 ho19 rfl rfl (Nat.le_of_ble_eq_true rfl) ?_
  refine wpM.mono h (fun rr G2 hr => ?_)
  obtain ⟨r1, rfl, h⟩ := hr
  show wp E d M_X11_isLeft 5 [some (vr _), some (vi _), some (vi _), some (vi _), none] [vr _] G2 Q
  refine wp_astore (pc := 5) (lv' := [some (vr _), some (vi _), some (vi _), some (vi _), some (vr _)]) d_X11_isLeft_5 (by decide) rfl ?_
  refine wp_aload (pc := 7) d_X11_isLeft_7 rfl ?_
  refine wp_ifnull (pc := 9) (tgt := 42) d_X11_isLeft_9 (by decide) (fun hc => ?_) (fun hc => ?_)
  · have h := h.1 hc
    refine wp_iconst (pc := 42) (v := 0) d_X11_isLeft_42 rfl ?_
    exact wp_zret (pc := 43) d_X11_isLeft_43 rfl rfl h
  · have h := h.2 hc
    refine wp_aload (pc := 12) d_X11_isLeft_12 rfl ?_
    obtain ⟨ho3, h⟩ := h
    refine wp_getR (pc := 14) d_X11_isLeft_14 fl_X11_139 (fun _ _ _ => rfl) ho3 ?_
    refine wp_iload_n (pc := 17) d_X11_isLeft_17 rfl ?_
    obtain ⟨ho18, h⟩ := h
    refine wp_invV (pc := 18) (N := M_X7_isVar) (As := [vi _]) (rest := []) (r := (cn_7, ct_7, 5)) d_X11_isLeft_18 ml_X11_209 mk_X7_isVar mv_X7_isVar h0 ho18 rfl rfl (Nat.le_of_ble_eq_true rfl) ?_
    refine wpM.mono h (fun rr G5 hr => ?_)
    obtain ⟨r4, rfl, h⟩ := hr
    show wp E d M_X11_isLeft 21 [some (vr _), some (vi _), some (vi _), some (vi _), some (vr _)] [vi _] G5 Q
    refine wp_if_eq (pc := 21) (tgt := 42) d_X11_isLeft_21 (by decide) (fun hc => ?_) (fun hc => ?_)
    · have h := h.1 hc
      refine wp_iconst (pc := 42) (v := 0) d_X11_isLeft_42 rfl ?_
      exact wp_zret (pc := 43) d_X11_isLeft_43 rfl rfl h
    · have h := h.2 hc
      refine wp_iload_n (pc := 24) d_X11_isLeft_24 rfl ?_
      refine wp_if_lt (pc := 25) (tgt := 42) d_X11_isLeft_25 (by decide) (fun hc => ?_) (fun hc => ?_)
      · have h := h.1 hc
        refine wp_iconst (pc := 42) (v := 0) d_X11_isLeft_42 rfl ?_
        exact wp_zret (pc := 43) d_X11_isLeft_43 rfl rfl h
      · have h := h.2 hc
        refine wp_iload_n (pc := 28) d_X11_isLeft_28 rfl ?_
        refine wp_aload (pc := 29) d_X11_isLeft_29 rfl ?_
        obtain ⟨ho6, h⟩ := h
        refine wp_getR (pc := 31) d_X11_isLeft_31 fl_X11_139 (fun _ _ _ => rfl) ho6 ?_
        obtain ⟨ho7, h⟩ := h
        refine wp_getR (pc := 34) d_X11_isLeft_34 fl_X11_212 (fun _ _ _ => rfl) ho7 ?_
        refine wp_iload_n (pc := 37) d_X11_isLeft_37 rfl ?_
        obtain ⟨ho8, h⟩ := h
        obtain ⟨hi9, h⟩ := h
        refine wp_iald (pc := 38) d_X11_isLeft_38 ho8 hi9 ?_
        refine wp_icmp_lt (pc := 39) (tgt := 44) d_X11_isLeft_39 (by decide) (fun hc => ?_) (fun hc => ?_)
        · have h := h.1 hc
          refine wp_aload_n (pc := 44) d_X11_isLeft_44 rfl ?_
          obtain ⟨ho10, h⟩ := h
          refine wp_getR (pc := 45) d_X11_isLeft_45 fl_X11_43 (fun _ _ _ => rfl) ho10 ?_
          refine wp_aload (pc := 48) d_X11_isLeft_48 rfl ?_
          obtain ⟨ho17, h⟩ := h
          refine wp_invV (pc := 50) (N := M_X1_workOut) (As := [vr _]) (rest := []) (r := (cn_1, ct_1, 6)) d_X11_isLeft_50 ml_X11_292 mk_X1_workOut mv_X1_workOut h0 ho17 rfl rfl (Nat.le_of_ble_eq_true rfl) ?_
          refine wpM.mono h (fun rr G12 hr => ?_)
          obtain ⟨r11, rfl, h⟩ := hr
          show wp E d M_X11_isLeft 53 [some (vr _), some (vi _), some (vi _), some (vi _), some (vr _)] [vi _] G12 Q
          refine wp_pop (pc := 53) d_X11_isLeft_53 (c1_i _) ?_
          refine wp_aload_n (pc := 54) d_X11_isLeft_54 rfl ?_
          obtain ⟨ho13, h⟩ := h
          refine wp_getR (pc := 55) d_X11_isLeft_55 fl_X11_43 (fun _ _ _ => rfl) ho13 ?_
          obtain ⟨ho14, h⟩ := h
          refine wp_getR (pc := 58) d_X11_isLeft_58 fl_X11_296 (fun _ _ _ => rfl) ho14 ?_
          refine wp_iload_n (pc := 61) d_X11_isLeft_61 rfl ?_
          obtain ⟨ho15, h⟩ := h
          obtain ⟨hi16, h⟩ := h
          refine wp_iald (pc := 62) d_X11_isLeft_62 ho15 hi16 ?_
          refine wp_iload_n (pc := 63) d_X11_isLeft_63 rfl ?_
          refine wp_ishr (pc := 64) d_X11_isLeft_64 ?_
          refine wp_iconst (pc := 65) (v := 1) d_X11_isLeft_65 rfl ?_
          refine wp_iand (pc := 66) d_X11_isLeft_66 ?_
          refine wp_if_eq (pc := 67) (tgt := 74) d_X11_isLeft_67 (by decide) (fun hc => ?_) (fun hc => ?_)
          · have h := h.1 hc
            refine wp_iconst (pc := 74) (v := 0) d_X11_isLeft_74 rfl ?_
            exact wp_zret (pc := 75) d_X11_isLeft_75 rfl rfl h
          · have h := h.2 hc
            refine wp_iconst (pc := 70) (v := 1) d_X11_isLeft_70 rfl ?_
            refine wp_goto (pc := 71) (tgt := 75) d_X11_isLeft_71 (by decide) ?_
            exact wp_zret (pc := 75) d_X11_isLeft_75 rfl rfl h
        · have h := h.2 hc
          refine wp_iconst (pc := 42) (v := 0) d_X11_isLeft_42 rfl ?_
          exact wp_zret (pc := 43) d_X11_isLeft_43 rfl rfl h
theorem d_X11_reach_0 : decode prog_1_method_25_code 0 = .ok (.aload_n 0, 1) := by decide +kernel
theorem d_X11_reach_1 : decode prog_1_method_25_code 1 = .ok (.iload_n 1, 1) := by decide +kernel
theorem d_X11_reach_2 : decode prog_1_method_25_code 2 = .ok (.invokevirtual 289, 3) := by decide +kernel
theorem d_X11_reach_5 : decode prog_1_method_25_code 5 = .ok (.astore_n 2, 1) := by decide +kernel
theorem d_X11_reach_6 : decode prog_1_method_25_code 6 = .ok (.aload_n 2, 1) := by decide +kernel
theorem d_X11_reach_7 : decode prog_1_method_25_code 7 = .ok (.ifnonnull 7, 3) := by decide +kernel
theorem d_X11_reach_10 : decode prog_1_method_25_code 10 = .ok (.iconst (-1), 1) := by decide +kernel
theorem d_X11_reach_11 : decode prog_1_method_25_code 11 = .ok (.goto 11, 3) := by decide +kernel
theorem d_X11_reach_14 : decode prog_1_method_25_code 14 = .ok (.aload_n 0, 1) := by decide +kernel
theorem d_X11_reach_15 : decode prog_1_method_25_code 15 = .ok (.getfield 43, 3) := by decide +kernel
theorem d_X11_reach_18 : decode prog_1_method_25_code 18 = .ok (.aload_n 2, 1) := by decide +kernel
theorem d_X11_reach_19 : decode prog_1_method_25_code 19 = .ok (.invokevirtual 292, 3) := by decide +kernel
theorem d_X11_reach_22 : decode prog_1_method_25_code 22 = .ok (.ireturn, 1) := by decide +kernel
theorem v_X11_reach_0 {E : EE} {d : Nat} {Q : Option AV → AH → Prop} {x0 : Nat} {x1 : Int32} {G : AH} (h0 : 0 < d) (h : isO E G x0 11 ∧ (wpR E (d - 1) M_X11_scored [vr x0, vi x1] G (fun r1 G2 => (¬ r1 = 0 → isO E G2 x0 11 ∧ (isO E G2 (gR G2 x0 4) 1 ∧ (wpI E (d - 1) M_X1_workOut [vr (gR G2 x0 4), vr r1] G2 (fun r4 G5 => Q (some (vi r4)) G5)))) ∧ (r1 = 0 → Q (some (vi (-1))) G2)))) : wp E d M_X11_reach 0 [some (vr x0), some (vi x1), none] [] G Q := by
  refine wp_aload_n (pc := 0) d_X11_reach_0 rfl ?_
  refine wp_iload_n (pc := 1) d_X11_reach_1 rfl ?_
  obtain ⟨ho7, h⟩ := h
  refine wp_invV (pc := 2) (N := M_X11_scored) (As := [vi _]) (rest := []) (r := (cn_11, ct_11, 12)) d_X11_reach_2 ml_X11_289 mk_X11_scored mv_X11_scored h0 ho7 rfl rfl (Nat.le_of_ble_eq_true rfl) ?_
  refine wpM.mono h (fun rr G2 hr => ?_)
  obtain ⟨r1, rfl, h⟩ := hr
  show wp E d M_X11_reach 5 [some (vr _), some (vi _), none] [vr _] G2 Q
  refine wp_astore_n (pc := 5) (lv' := [some (vr _), some (vi _), some (vr _)]) d_X11_reach_5 (by decide) rfl ?_
  refine wp_aload_n (pc := 6) d_X11_reach_6 rfl ?_
  refine wp_ifnonnull (pc := 7) (tgt := 14) d_X11_reach_7 (by decide) (fun hc => ?_) (fun hc => ?_)
  · have h := h.1 hc
    refine wp_aload_n (pc := 14) d_X11_reach_14 rfl ?_
    obtain ⟨ho3, h⟩ := h
    refine wp_getR (pc := 15) d_X11_reach_15 fl_X11_43 (fun _ _ _ => rfl) ho3 ?_
    refine wp_aload_n (pc := 18) d_X11_reach_18 rfl ?_
    obtain ⟨ho6, h⟩ := h
    refine wp_invV (pc := 19) (N := M_X1_workOut) (As := [vr _]) (rest := []) (r := (cn_1, ct_1, 6)) d_X11_reach_19 ml_X11_292 mk_X1_workOut mv_X1_workOut h0 ho6 rfl rfl (Nat.le_of_ble_eq_true rfl) ?_
    refine wpM.mono h (fun rr G5 hr => ?_)
    obtain ⟨r4, rfl, h⟩ := hr
    show wp E d M_X11_reach 22 [some (vr _), some (vi _), some (vr _)] [vi _] G5 Q
    exact wp_iret (pc := 22) d_X11_reach_22 rfl h
  · have h := h.2 hc
    refine wp_iconst (pc := 10) (v := (-1)) d_X11_reach_10 rfl ?_
    refine wp_goto (pc := 11) (tgt := 22) d_X11_reach_11 (by decide) ?_
    exact wp_iret (pc := 22) d_X11_reach_22 rfl h

