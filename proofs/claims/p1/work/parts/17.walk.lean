theorem d_X4_init_0 : decode prog_6_method_1_code 0 = .ok (.aload_n 0, 1) := by decide +kernel
theorem d_X4_init_1 : decode prog_6_method_1_code 1 = .ok (.invokespecial 3, 3) := by decide +kernel
theorem d_X4_init_4 : decode prog_6_method_1_code 4 = .ok (.aload_n 0, 1) := by decide +kernel
theorem d_X4_init_5 : decode prog_6_method_1_code 5 = .ok (.bipush 30, 2) := by decide +kernel
theorem d_X4_init_7 : decode prog_6_method_1_code 7 = .ok (.newarray .int, 2) := by decide +kernel
theorem d_X4_init_9 : decode prog_6_method_1_code 9 = .ok (.putfield 9, 3) := by decide +kernel
theorem d_X4_init_12 : decode prog_6_method_1_code 12 = .ok (.aload_n 0, 1) := by decide +kernel
theorem d_X4_init_13 : decode prog_6_method_1_code 13 = .ok (.iconst 3, 1) := by decide +kernel
theorem d_X4_init_14 : decode prog_6_method_1_code 14 = .ok (.newarray .long, 2) := by decide +kernel
theorem d_X4_init_16 : decode prog_6_method_1_code 16 = .ok (.putfield 15, 3) := by decide +kernel
theorem d_X4_init_19 : decode prog_6_method_1_code 19 = .ok (.aload_n 0, 1) := by decide +kernel
theorem d_X4_init_20 : decode prog_6_method_1_code 20 = .ok (.aload_n 1, 1) := by decide +kernel
theorem d_X4_init_21 : decode prog_6_method_1_code 21 = .ok (.putfield 19, 3) := by decide +kernel
theorem d_X4_init_24 : decode prog_6_method_1_code 24 = .ok (.return_, 1) := by decide +kernel
theorem v_X4_init_0 {E : EE} {d : Nat} {Q : Option AV → AH → Prop} {x0 : Nat} {x1 : Nat} {G : AH} (h0 : 0 < d) (h : isO E G x0 4 ∧ (eB E ≤ gT G ∧ (∀ G6 : AH, G6 = nw G 14 (Int32.toNatClampNeg 30) (Int32.toNatClampNeg 30) → ∀ G10 : AH, G10 = sR G6 x0 1 (gT G) → ∀ G16 : AH, G16 = nw G10 15 (Int32.toNatClampNeg 3) (Int32.toNatClampNeg 3) → ∀ G20 : AH, G20 = sR G16 x0 2 (gT G10) → ∀ G23 : AH, G23 = sR G20 x0 0 x1 → Q none G23))) : wp E d M_X4_init 0 [some (vr x0), some (vr x1)] [] G Q := by
  refine wp_aload_n (pc := 0) d_X4_init_0 rfl ?_
  obtain ⟨ho1, h⟩ := h
  refine wp_objI (pc := 1) d_X4_init_1 ml_X4_3 in_obj mc_obj h0 ho1 (Nat.le_of_ble_eq_true rfl) ?_
  refine wp_aload_n (pc := 4) d_X4_init_4 rfl ?_
  refine wp_bipush (pc := 5) (v := 30) d_X4_init_5 rfl ?_
  obtain ⟨hb2, h⟩ := h
  refine wp_newa (pc := 7) (t0 := 1) (kd := 14) d_X4_init_7 rfl (fun _ q => by cases q) ac_int (by decide) (fun _ => rfl) rfl (by decide) (by decide) (by decide) ?_
  refine wp_nm (fun G6 eG6 => ?_)
  have h := h G6 eG6
  have ho7 := isO_nwE eG6 ho1
  have hb8 := base_nwE eG6 hb2
  have ho9 := isO_newE eG6 hb2
  refine wp_putR (pc := 9) d_X4_init_9 fl_X4_9 (fun _ _ _ => rfl) (Or.inr ⟨_, rfl⟩) (Or.inr ⟨rfl, rfl, rfl⟩) ho7 ?_
  refine wp_nm (fun G10 eG10 => ?_)
  have h := h G10 eG10
  have ho11 := isO_sR eG10 ho7
  have hb12 := base_sR eG10 hb8
  refine wp_aload_n (pc := 12) d_X4_init_12 rfl ?_
  refine wp_iconst (pc := 13) (v := 3) d_X4_init_13 rfl ?_
  refine wp_newa (pc := 14) (t0 := 2) (kd := 15) d_X4_init_14 rfl (fun _ q => by cases q) ac_long (by decide) (fun _ => rfl) rfl (by decide) (by decide) (by decide) ?_
  refine wp_nm (fun G16 eG16 => ?_)
  have h := h G16 eG16
  have ho17 := isO_nwE eG16 ho11
  have hb18 := base_nwE eG16 hb12
  have ho19 := isO_newE eG16 hb12
  refine wp_putR (pc := 16) d_X4_init_16 fl_X4_15 (fun _ _ _ => rfl) (Or.inr ⟨_, rfl⟩) (Or.inr ⟨rfl, rfl, rfl⟩) ho17 ?_
  refine wp_nm (fun G20 eG20 => ?_)
  have h := h G20 eG20
  have ho21 := isO_sR eG20 ho17
  have hb22 := base_sR eG20 hb18
  refine wp_aload_n (pc := 19) d_X4_init_19 rfl ?_
  refine wp_aload_n (pc := 20) d_X4_init_20 rfl ?_
  refine wp_putR (pc := 21) d_X4_init_21 fl_X4_19 (fun _ _ _ => rfl) (Or.inl ⟨_, rfl⟩) (Or.inr ⟨rfl, rfl, rfl⟩) ho21 ?_
  refine wp_nm (fun G23 eG23 => ?_)
  have h := h G23 eG23
  have ho24 := isO_sR eG23 ho21
  have hb25 := base_sR eG23 hb22
  exact wp_vret (pc := 24) d_X4_init_24 rfl h
theorem d_X8_init_0 : decode prog_10_method_1_code 0 = .ok (.aload_n 0, 1) := by decide +kernel
theorem d_X8_init_1 : decode prog_10_method_1_code 1 = .ok (.invokespecial 5, 3) := by decide +kernel
theorem d_X8_init_4 : decode prog_10_method_1_code 4 = .ok (.aload_n 0, 1) := by decide +kernel
theorem d_X8_init_5 : decode prog_10_method_1_code 5 = .ok (.new 11, 3) := by decide +kernel
theorem d_X8_init_8 : decode prog_10_method_1_code 8 = .ok (.dup, 1) := by decide +kernel
theorem d_X8_init_9 : decode prog_10_method_1_code 9 = .ok (.invokespecial 13, 3) := by decide +kernel
theorem d_X8_init_12 : decode prog_10_method_1_code 12 = .ok (.putfield 14, 3) := by decide +kernel
theorem d_X8_init_15 : decode prog_10_method_1_code 15 = .ok (.aload_n 0, 1) := by decide +kernel
theorem d_X8_init_16 : decode prog_10_method_1_code 16 = .ok (.iconst 0, 1) := by decide +kernel
theorem d_X8_init_17 : decode prog_10_method_1_code 17 = .ok (.putfield 18, 3) := by decide +kernel
theorem d_X8_init_20 : decode prog_10_method_1_code 20 = .ok (.aload_n 0, 1) := by decide +kernel
theorem d_X8_init_21 : decode prog_10_method_1_code 21 = .ok (.bipush 100, 2) := by decide +kernel
theorem d_X8_init_23 : decode prog_10_method_1_code 23 = .ok (.newarray .int, 2) := by decide +kernel
theorem d_X8_init_25 : decode prog_10_method_1_code 25 = .ok (.putfield 22, 3) := by decide +kernel
theorem d_X8_init_28 : decode prog_10_method_1_code 28 = .ok (.aload_n 0, 1) := by decide +kernel
theorem d_X8_init_29 : decode prog_10_method_1_code 29 = .ok (.bipush 100, 2) := by decide +kernel
theorem d_X8_init_31 : decode prog_10_method_1_code 31 = .ok (.newarray .int, 2) := by decide +kernel
theorem d_X8_init_33 : decode prog_10_method_1_code 33 = .ok (.putfield 26, 3) := by decide +kernel
theorem d_X8_init_36 : decode prog_10_method_1_code 36 = .ok (.aload_n 0, 1) := by decide +kernel
theorem d_X8_init_37 : decode prog_10_method_1_code 37 = .ok (.iconst (-1), 1) := by decide +kernel
theorem d_X8_init_38 : decode prog_10_method_1_code 38 = .ok (.putfield 29, 3) := by decide +kernel
theorem d_X8_init_41 : decode prog_10_method_1_code 41 = .ok (.return_, 1) := by decide +kernel
theorem v_X8_init_0 {E : EE} {d : Nat} {Q : Option AV → AH → Prop} {x0 : Nat} {G : AH} (h0 : 0 < d) (h : isO E G x0 8 ∧ (eB E ≤ gT G ∧ (∀ G6 : AH, G6 = nw G 0 0 2 → wpV E (d - 1) M_X0_init [vr (gT G)] G6 (fun G10 => isO E G10 x0 8 ∧ (∀ G12 : AH, G12 = sR G10 x0 0 (gT G) → ∀ G14 : AH, G14 = sI G12 x0 1 0 → eB E ≤ gT G14 ∧ (∀ G20 : AH, G20 = nw G14 14 (Int32.toNatClampNeg 100) (Int32.toNatClampNeg 100) → ∀ G24 : AH, G24 = sR G20 x0 2 (gT G14) → ∀ G30 : AH, G30 = nw G24 14 (Int32.toNatClampNeg 100) (Int32.toNatClampNeg 100) → ∀ G34 : AH, G34 = sR G30 x0 3 (gT G24) → ∀ G37 : AH, G37 = sI G34 x0 4 (-1) → Q none G37)))))) : wp E d M_X8_init 0 [some (vr x0)] [] G Q := by
  refine wp_aload_n (pc := 0) d_X8_init_0 rfl ?_
  obtain ⟨ho1, h⟩ := h
  refine wp_objI (pc := 1) d_X8_init_1 ml_X8_5 in_obj mc_obj h0 ho1 (Nat.le_of_ble_eq_true rfl) ?_
  refine wp_aload_n (pc := 4) d_X8_init_4 rfl ?_
  obtain ⟨hb2, h⟩ := h
  refine wp_new (pc := 5) (c := 0) (r := (cn_0, ct_0, 2)) d_X8_init_5 rfl cx_X8_11 it_0 ii_0 ?_
  refine wp_nm (fun G6 eG6 => ?_)
  have h := h G6 eG6
  have ho7 := isO_nwE eG6 ho1
  have hb8 := base_nwE eG6 hb2
  have ho9 := isO_newE eG6 hb2
  refine wp_dup (pc := 8) d_X8_init_8 (c1_r _) ?_
  refine wp_invI (pc := 9) (N := M_X0_init) (As := []) (rest := [vr _, vr _]) d_X8_init_9 ml_X8_13 mk_X0_init mi_X0_init h0 ho9 (Nat.le_of_ble_eq_true rfl) ?_
  refine wpM.mono h (fun rr G10 hr => ?_)
  obtain ⟨rfl, h⟩ := hr
  show wp E d M_X8_init 12 [some (vr _)] [vr _, vr _] G10 Q
  obtain ⟨ho11, h⟩ := h
  refine wp_putR (pc := 12) d_X8_init_12 fl_X8_14 (fun _ _ _ => rfl) (Or.inl ⟨_, rfl⟩) (Or.inr ⟨rfl, rfl, rfl⟩) ho11 ?_
  refine wp_nm (fun G12 eG12 => ?_)
  have h := h G12 eG12
  have ho13 := isO_sR eG12 ho11
  refine wp_aload_n (pc := 15) d_X8_init_15 rfl ?_
  refine wp_iconst (pc := 16) (v := 0) d_X8_init_16 rfl ?_
  refine wp_putI (pc := 17) d_X8_init_17 fl_X8_18 (fun _ _ _ => rfl) (Or.inl rfl) ho13 (okI_int _) ?_
  refine wp_nm (fun G14 eG14 => ?_)
  have h := h G14 eG14
  have ho15 := isO_sI eG14 ho13
  refine wp_aload_n (pc := 20) d_X8_init_20 rfl ?_
  refine wp_bipush (pc := 21) (v := 100) d_X8_init_21 rfl ?_
  obtain ⟨hb16, h⟩ := h
  refine wp_newa (pc := 23) (t0 := 1) (kd := 14) d_X8_init_23 rfl (fun _ q => by cases q) ac_int (by decide) (fun _ => rfl) rfl (by decide) (by decide) (by decide) ?_
  refine wp_nm (fun G20 eG20 => ?_)
  have h := h G20 eG20
  have ho21 := isO_nwE eG20 ho15
  have hb22 := base_nwE eG20 hb16
  have ho23 := isO_newE eG20 hb16
  refine wp_putR (pc := 25) d_X8_init_25 fl_X8_22 (fun _ _ _ => rfl) (Or.inr ⟨_, rfl⟩) (Or.inr ⟨rfl, rfl, rfl⟩) ho21 ?_
  refine wp_nm (fun G24 eG24 => ?_)
  have h := h G24 eG24
  have ho25 := isO_sR eG24 ho21
  have hb26 := base_sR eG24 hb22
  refine wp_aload_n (pc := 28) d_X8_init_28 rfl ?_
  refine wp_bipush (pc := 29) (v := 100) d_X8_init_29 rfl ?_
  refine wp_newa (pc := 31) (t0 := 1) (kd := 14) d_X8_init_31 rfl (fun _ q => by cases q) ac_int (by decide) (fun _ => rfl) rfl (by decide) (by decide) (by decide) ?_
  refine wp_nm (fun G30 eG30 => ?_)
  have h := h G30 eG30
  have ho31 := isO_nwE eG30 ho25
  have hb32 := base_nwE eG30 hb26
  have ho33 := isO_newE eG30 hb26
  refine wp_putR (pc := 33) d_X8_init_33 fl_X8_26 (fun _ _ _ => rfl) (Or.inr ⟨_, rfl⟩) (Or.inr ⟨rfl, rfl, rfl⟩) ho31 ?_
  refine wp_nm (fun G34 eG34 => ?_)
  have h := h G34 eG34
  have ho35 := isO_sR eG34 ho31
  have hb36 := base_sR eG34 hb32
  refine wp_aload_n (pc := 36) d_X8_init_36 rfl ?_
  refine wp_iconst (pc := 37) (v := (-1)) d_X8_init_37 rfl ?_
  refine wp_putI (pc := 38) d_X8_init_38 fl_X8_29 (fun _ _ _ => rfl) (Or.inl rfl) ho35 (okI_int _) ?_
  refine wp_nm (fun G37 eG37 => ?_)
  have h := h G37 eG37
  have ho38 := isO_sI eG37 ho35
  have hb39 := base_sI eG37 hb36
  exact wp_vret (pc := 41) d_X8_init_41 rfl h
theorem d_X8_announced_0 : decode prog_10_method_11_code 0 = .ok (.aload_n 1, 1) := by decide +kernel
theorem d_X8_announced_1 : decode prog_10_method_11_code 1 = .ok (.getfield 32, 3) := by decide +kernel
theorem d_X8_announced_4 : decode prog_10_method_11_code 4 = .ok (.bipush 8, 2) := by decide +kernel
theorem d_X8_announced_6 : decode prog_10_method_11_code 6 = .ok (.isub, 1) := by decide +kernel
theorem d_X8_announced_7 : decode prog_10_method_11_code 7 = .ok (.istore_n 2, 1) := by decide +kernel
theorem d_X8_announced_8 : decode prog_10_method_11_code 8 = .ok (.iload_n 2, 1) := by decide +kernel
theorem d_X8_announced_9 : decode prog_10_method_11_code 9 = .ok (.iconst 2, 1) := by decide +kernel
theorem d_X8_announced_10 : decode prog_10_method_11_code 10 = .ok (.if_icmp .lt 20, 3) := by decide +kernel
theorem d_X8_announced_13 : decode prog_10_method_11_code 13 = .ok (.aload_n 1, 1) := by decide +kernel
theorem d_X8_announced_14 : decode prog_10_method_11_code 14 = .ok (.iconst 0, 1) := by decide +kernel
theorem d_X8_announced_15 : decode prog_10_method_11_code 15 = .ok (.iload_n 2, 1) := by decide +kernel
theorem d_X8_announced_16 : decode prog_10_method_11_code 16 = .ok (.invokevirtual 89, 3) := by decide +kernel
theorem d_X8_announced_19 : decode prog_10_method_11_code 19 = .ok (.aload_n 1, 1) := by decide +kernel
theorem d_X8_announced_20 : decode prog_10_method_11_code 20 = .ok (.iload_n 2, 1) := by decide +kernel
theorem d_X8_announced_21 : decode prog_10_method_11_code 21 = .ok (.bipush 8, 2) := by decide +kernel
theorem d_X8_announced_23 : decode prog_10_method_11_code 23 = .ok (.invokevirtual 97, 3) := by decide +kernel
theorem d_X8_announced_26 : decode prog_10_method_11_code 26 = .ok (.lcmp, 1) := by decide +kernel
theorem d_X8_announced_27 : decode prog_10_method_11_code 27 = .ok (.ifCond .eq 5, 3) := by decide +kernel
theorem d_X8_announced_30 : decode prog_10_method_11_code 30 = .ok (.iconst (-1), 1) := by decide +kernel
theorem d_X8_announced_31 : decode prog_10_method_11_code 31 = .ok (.ireturn, 1) := by decide +kernel
theorem d_X8_announced_32 : decode prog_10_method_11_code 32 = .ok (.aload_n 1, 1) := by decide +kernel
theorem d_X8_announced_33 : decode prog_10_method_11_code 33 = .ok (.iconst 0, 1) := by decide +kernel
theorem d_X8_announced_34 : decode prog_10_method_11_code 34 = .ok (.iconst 2, 1) := by decide +kernel
theorem d_X8_announced_35 : decode prog_10_method_11_code 35 = .ok (.invokevirtual 97, 3) := by decide +kernel
theorem d_X8_announced_38 : decode prog_10_method_11_code 38 = .ok (.l2i, 1) := by decide +kernel
theorem d_X8_announced_39 : decode prog_10_method_11_code 39 = .ok (.ireturn, 1) := by decide +kernel
theorem v_X8_announced_0 {E : EE} {d : Nat} {Q : Option AV → AH → Prop} {x0 : Nat} {x1 : Nat} {G : AH} (h0 : 0 < d) (h : isO E G x1 0 ∧ ((((gI G x1 1) - 8) < 2 → Q (some (vi (-1))) G) ∧ (¬ (((gI G x1 1) - 8) < 2) → wpJ E (d - 1) M_X0_sum [vr x1, vi 0, vi ((gI G x1 1) - 8)] G (fun r2 G3 => isO E G3 x1 0 ∧ (wpJ E (d - 1) M_X0_number [vr x1, vi ((gI G x1 1) - 8), vi 8] G3 (fun r4 G5 => (r2 = r4 → isO E G5 x1 0 ∧ (wpJ E (d - 1) M_X0_number [vr x1, vi 0, vi 2] G5 (fun r6 G7 => Q (some (vi (Int64.toInt32 r6))) G7))) ∧ (¬ (r2 = r4) → Q (some (vi (-1))) G5))))))) : wp E d M_X8_announced 0 [some (vr x0), some (vr x1), none] [] G Q := by
  refine wp_aload_n (pc := 0) d_X8_announced_0 rfl ?_
  obtain ⟨ho1, h⟩ := h
  refine wp_getI (pc := 1) d_X8_announced_1 fl_X8_32 (fun _ _ _ => rfl) ho1 ?_
  refine wp_bipush (pc := 4) (v := 8) d_X8_announced_4 rfl ?_
  refine wp_isub (pc := 6) d_X8_announced_6 ?_
  refine wp_istore_n (pc := 7) (lv' := [some (vr _), some (vr _), some (vi _)]) d_X8_announced_7 (by decide) rfl ?_
  refine wp_iload_n (pc := 8) d_X8_announced_8 rfl ?_
  refine wp_iconst (pc := 9) (v := 2) d_X8_announced_9 rfl ?_
  refine wp_icmp_lt (pc := 10) (tgt := 30) d_X8_announced_10 (by decide) (fun hc => ?_) (fun hc => ?_)
  · have h := h.1 hc
    refine wp_iconst (pc := 30) (v := (-1)) d_X8_announced_30 rfl ?_
    exact wp_iret (pc := 31) d_X8_announced_31 rfl h
  · have h := h.2 hc
    refine wp_aload_n (pc := 13) d_X8_announced_13 rfl ?_
    refine wp_iconst (pc := 14) (v := 0) d_X8_announced_14 rfl ?_
    refine wp_iload_n (pc := 15) d_X8_announced_15 rfl ?_
    refine wp_invV (pc := 16) (N := M_X0_sum) (As := [vi _, vi _]) (rest := []) (r := (cn_0, ct_0, 2)) d_X8_announced_16 ml_X8_89 mk_X0_sum mv_X0_sum h0 ho1 rfl rfl (Nat.le_of_ble_eq_true rfl) ?_
    refine wpM.mono h (fun rr G3 hr => ?_)
    obtain ⟨r2, rfl, h⟩ := hr
    show wp E d M_X8_announced 19 [some (vr _), some (vr _), some (vi _)] [vj _] G3 Q
    refine wp_aload_n (pc := 19) d_X8_announced_19 rfl ?_
    refine wp_iload_n (pc := 20) d_X8_announced_20 rfl ?_
    refine wp_bipush (pc := 21) (v := 8) d_X8_announced_21 rfl ?_
    obtain ⟨ho9, h⟩ := h
    refine wp_invV (pc := 23) (N := M_X0_number) (As := [vi _, vi _]) (rest := [vj _]) (r := (cn_0, ct_0, 2)) d_X8_announced_23 ml_X8_97 mk_X0_number mv_X0_number h0 ho9 rfl rfl (Nat.le_of_ble_eq_true rfl) ?_
    refine wpM.mono h (fun rr G5 hr => ?_)
    obtain ⟨r4, rfl, h⟩ := hr
    show wp E d M_X8_announced 26 [some (vr _), some (vr _), some (vi _)] [vj _, vj _] G5 Q
    refine wp_lcmp_eq (pc := 26) (tgt := 32) d_X8_announced_26 d_X8_announced_27 (by decide) (fun hc => ?_) (fun hc => ?_)
    · have h := h.1 hc
      refine wp_aload_n (pc := 32) d_X8_announced_32 rfl ?_
      refine wp_iconst (pc := 33) (v := 0) d_X8_announced_33 rfl ?_
      refine wp_iconst (pc := 34) (v := 2) d_X8_announced_34 rfl ?_
      obtain ⟨ho8, h⟩ := h
      refine wp_invV (pc := 35) (N := M_X0_number) (As := [vi _, vi _]) (rest := []) (r := (cn_0, ct_0, 2)) d_X8_announced_35 ml_X8_97 mk_X0_number mv_X0_number h0 ho8 rfl rfl (Nat.le_of_ble_eq_true rfl) ?_
      refine wpM.mono h (fun rr G7 hr => ?_)
      obtain ⟨r6, rfl, h⟩ := hr
      show wp E d M_X8_announced 38 [some (vr _), some (vr _), some (vi _)] [vj _] G7 Q
      refine wp_l2i (pc := 38) d_X8_announced_38 ?_
      exact wp_iret (pc := 39) d_X8_announced_39 rfl h
    · have h := h.2 hc
      refine wp_iconst (pc := 30) (v := (-1)) d_X8_announced_30 rfl ?_
      exact wp_iret (pc := 31) d_X8_announced_31 rfl h
theorem d_X8_export_0 : decode prog_10_method_10_code 0 = .ok (.aload_n 1, 1) := by decide +kernel
theorem d_X8_export_1 : decode prog_10_method_10_code 1 = .ok (.iconst 0, 1) := by decide +kernel
theorem d_X8_export_2 : decode prog_10_method_10_code 2 = .ok (.invokevirtual 111, 3) := by decide +kernel
theorem d_X8_export_5 : decode prog_10_method_10_code 5 = .ok (.aload_n 1, 1) := by decide +kernel
theorem d_X8_export_6 : decode prog_10_method_10_code 6 = .ok (.aload_n 0, 1) := by decide +kernel
theorem d_X8_export_7 : decode prog_10_method_10_code 7 = .ok (.getfield 18, 3) := by decide +kernel
theorem d_X8_export_10 : decode prog_10_method_10_code 10 = .ok (.i2l, 1) := by decide +kernel
theorem d_X8_export_11 : decode prog_10_method_10_code 11 = .ok (.iconst 2, 1) := by decide +kernel
theorem d_X8_export_12 : decode prog_10_method_10_code 12 = .ok (.invokevirtual 53, 3) := by decide +kernel
theorem d_X8_export_15 : decode prog_10_method_10_code 15 = .ok (.aload_n 1, 1) := by decide +kernel
theorem d_X8_export_16 : decode prog_10_method_10_code 16 = .ok (.aload_n 0, 1) := by decide +kernel
theorem d_X8_export_17 : decode prog_10_method_10_code 17 = .ok (.getfield 14, 3) := by decide +kernel
theorem d_X8_export_20 : decode prog_10_method_10_code 20 = .ok (.iconst 0, 1) := by decide +kernel
theorem d_X8_export_21 : decode prog_10_method_10_code 21 = .ok (.aload_n 0, 1) := by decide +kernel
theorem d_X8_export_22 : decode prog_10_method_10_code 22 = .ok (.getfield 14, 3) := by decide +kernel
theorem d_X8_export_25 : decode prog_10_method_10_code 25 = .ok (.getfield 32, 3) := by decide +kernel
theorem d_X8_export_28 : decode prog_10_method_10_code 28 = .ok (.invokevirtual 57, 3) := by decide +kernel
theorem d_X8_export_31 : decode prog_10_method_10_code 31 = .ok (.aload_n 1, 1) := by decide +kernel
theorem d_X8_export_32 : decode prog_10_method_10_code 32 = .ok (.aload_n 1, 1) := by decide +kernel
theorem d_X8_export_33 : decode prog_10_method_10_code 33 = .ok (.iconst 0, 1) := by decide +kernel
theorem d_X8_export_34 : decode prog_10_method_10_code 34 = .ok (.aload_n 1, 1) := by decide +kernel
theorem d_X8_export_35 : decode prog_10_method_10_code 35 = .ok (.getfield 32, 3) := by decide +kernel
theorem d_X8_export_38 : decode prog_10_method_10_code 38 = .ok (.invokevirtual 89, 3) := by decide +kernel
theorem d_X8_export_41 : decode prog_10_method_10_code 41 = .ok (.bipush 8, 2) := by decide +kernel
theorem d_X8_export_43 : decode prog_10_method_10_code 43 = .ok (.invokevirtual 53, 3) := by decide +kernel
theorem d_X8_export_46 : decode prog_10_method_10_code 46 = .ok (.return_, 1) := by decide +kernel
theorem v_X8_export_0 {E : EE} {d : Nat} {Q : Option AV → AH → Prop} {x0 : Nat} {x1 : Nat} {G : AH} (h0 : 0 < d) (h : isO E G x1 0 ∧ (wpV E (d - 1) M_X0_keep [vr x1, vi 0] G (fun G1 => isO E G1 x0 8 ∧ (isO E G1 x1 0 ∧ (wpV E (d - 1) M_X0_addNumber [vr x1, vj (Int32.toInt64 (gI G1 x0 1)), vi 2] G1 (fun G3 => isO E G3 x0 8 ∧ (isO E G3 (gR G3 x0 0) 0 ∧ (isO E G3 x1 0 ∧ (wpV E (d - 1) M_X0_addAll [vr x1, vr (gR G3 x0 0), vi 0, vi (gI G3 (gR G3 x0 0) 1)] G3 (fun G6 => isO E G6 x1 0 ∧ (wpJ E (d - 1) M_X0_sum [vr x1, vi 0, vi (gI G6 x1 1)] G6 (fun r8 G9 => isO E G9 x1 0 ∧ (wpV E (d - 1) M_X0_addNumber [vr x1, vj r8, vi 8] G9 (fun G10 => Q none G10)))))))))))))) : wp E d M_X8_export 0 [some (vr x0), some (vr x1)] [] G Q := by
  refine wp_aload_n (pc := 0) d_X8_export_0 rfl ?_
  refine wp_iconst (pc := 1) (v := 0) d_X8_export_1 rfl ?_
  obtain ⟨ho14, h⟩ := h
  refine wp_invV (pc := 2) (N := M_X0_keep) (As := [vi _]) (rest := []) (r := (cn_0, ct_0, 2)) d_X8_export_2 ml_X8_111 mk_X0_keep mv_X0_keep h0 ho14 rfl rfl (Nat.le_of_ble_eq_true rfl) ?_
  refine wpM.mono h (fun rr G1 hr => ?_)
  obtain ⟨rfl, h⟩ := hr
  show wp E d M_X8_export 5 [some (vr _), some (vr _)] [] G1 Q
  refine wp_aload_n (pc := 5) d_X8_export_5 rfl ?_
  refine wp_aload_n (pc := 6) d_X8_export_6 rfl ?_
  obtain ⟨ho2, h⟩ := h
  refine wp_getI (pc := 7) d_X8_export_7 fl_X8_18 (fun _ _ _ => rfl) ho2 ?_
  refine wp_i2l (pc := 10) d_X8_export_10 ?_
  refine wp_iconst (pc := 11) (v := 2) d_X8_export_11 rfl ?_
  obtain ⟨ho13, h⟩ := h
  refine wp_invV (pc := 12) (N := M_X0_addNumber) (As := [vj _, vi _]) (rest := []) (r := (cn_0, ct_0, 2)) d_X8_export_12 ml_X8_53 mk_X0_addNumber mv_X0_addNumber h0 ho13 rfl rfl (Nat.le_of_ble_eq_true rfl) ?_
  refine wpM.mono h (fun rr G3 hr => ?_)
  obtain ⟨rfl, h⟩ := hr
  show wp E d M_X8_export 15 [some (vr _), some (vr _)] [] G3 Q
  refine wp_aload_n (pc := 15) d_X8_export_15 rfl ?_
  refine wp_aload_n (pc := 16) d_X8_export_16 rfl ?_
  obtain ⟨ho4, h⟩ := h
  refine wp_getR (pc := 17) d_X8_export_17 fl_X8_14 (fun _ _ _ => rfl) ho4 ?_
  refine wp_iconst (pc := 20) (v := 0) d_X8_export_20 rfl ?_
  refine wp_aload_n (pc := 21) d_X8_export_21 rfl ?_
  refine wp_getR (pc := 22) d_X8_export_22 fl_X8_14 (fun _ _ _ => rfl) ho4 ?_
  obtain ⟨ho5, h⟩ := h
  refine wp_getI (pc := 25) d_X8_export_25 fl_X8_32 (fun _ _ _ => rfl) ho5 ?_
  obtain ⟨ho12, h⟩ := h
  refine wp_invV (pc := 28) (N := M_X0_addAll) (As := [vr _, vi _, vi _]) (rest := []) (r := (cn_0, ct_0, 2)) d_X8_export_28 ml_X8_57 mk_X0_addAll mv_X0_addAll h0 ho12 rfl rfl (Nat.le_of_ble_eq_true rfl) ?_
  refine wpM.mono h (fun rr G6 hr => ?_)
  obtain ⟨rfl, h⟩ := hr
  show wp E d M_X8_export 31 [some (vr _), some (vr _)] [] G6 Q
  refine wp_aload_n (pc := 31) d_X8_export_31 rfl ?_
  refine wp_aload_n (pc := 32) d_X8_export_32 rfl ?_
  refine wp_iconst (pc := 33) (v := 0) d_X8_export_33 rfl ?_
  refine wp_aload_n (pc := 34) d_X8_export_34 rfl ?_
  obtain ⟨ho7, h⟩ := h
  refine wp_getI (pc := 35) d_X8_export_35 fl_X8_32 (fun _ _ _ => rfl) ho7 ?_
  refine wp_invV (pc := 38) (N := M_X0_sum) (As := [vi _, vi _]) (rest := [vr _]) (r := (cn_0, ct_0, 2)) d_X8_export_38 ml_X8_89 mk_X0_sum mv_X0_sum h0 ho7 rfl rfl (Nat.le_of_ble_eq_true rfl) ?_
  refine wpM.mono h (fun rr G9 hr => ?_)
  obtain ⟨r8, rfl, h⟩ := hr
  show wp E d M_X8_export 41 [some (vr _), some (vr _)] [vj _, vr _] G9 Q
  refine wp_bipush (pc := 41) (v := 8) d_X8_export_41 rfl ?_
  obtain ⟨ho11, h⟩ := h
  refine wp_invV (pc := 43) (N := M_X0_addNumber) (As := [vj _, vi _]) (rest := []) (r := (cn_0, ct_0, 2)) d_X8_export_43 ml_X8_53 mk_X0_addNumber mv_X0_addNumber h0 ho11 rfl rfl (Nat.le_of_ble_eq_true rfl) ?_
  refine wpM.mono h (fun rr G10 hr => ?_)
  obtain ⟨rfl, h⟩ := hr
  show wp E d M_X8_export 46 [some (vr _), some (vr _)] [] G10 Q
  exact wp_vret (pc := 46) d_X8_export_46 rfl h
theorem d_X8_lose_0 : decode prog_10_method_9_code 0 = .ok (.aload_n 0, 1) := by decide +kernel
theorem d_X8_lose_1 : decode prog_10_method_9_code 1 = .ok (.getfield 29, 3) := by decide +kernel
theorem d_X8_lose_4 : decode prog_10_method_9_code 4 = .ok (.ifCond .ge 8, 3) := by decide +kernel
theorem d_X8_lose_7 : decode prog_10_method_9_code 7 = .ok (.aload_n 0, 1) := by decide +kernel
theorem d_X8_lose_8 : decode prog_10_method_9_code 8 = .ok (.getfield 18, 3) := by decide +kernel
theorem d_X8_lose_11 : decode prog_10_method_9_code 11 = .ok (.ireturn, 1) := by decide +kernel
theorem d_X8_lose_12 : decode prog_10_method_9_code 12 = .ok (.aload_n 0, 1) := by decide +kernel
theorem d_X8_lose_13 : decode prog_10_method_9_code 13 = .ok (.getfield 29, 3) := by decide +kernel
theorem d_X8_lose_16 : decode prog_10_method_9_code 16 = .ok (.ifCond .ne 7, 3) := by decide +kernel
theorem d_X8_lose_19 : decode prog_10_method_9_code 19 = .ok (.iconst 0, 1) := by decide +kernel
theorem d_X8_lose_20 : decode prog_10_method_9_code 20 = .ok (.goto 14, 3) := by decide +kernel
theorem d_X8_lose_23 : decode prog_10_method_9_code 23 = .ok (.aload_n 0, 1) := by decide +kernel
theorem d_X8_lose_24 : decode prog_10_method_9_code 24 = .ok (.getfield 22, 3) := by decide +kernel
theorem d_X8_lose_27 : decode prog_10_method_9_code 27 = .ok (.aload_n 0, 1) := by decide +kernel
theorem d_X8_lose_28 : decode prog_10_method_9_code 28 = .ok (.getfield 29, 3) := by decide +kernel
theorem d_X8_lose_31 : decode prog_10_method_9_code 31 = .ok (.iconst 1, 1) := by decide +kernel
theorem d_X8_lose_32 : decode prog_10_method_9_code 32 = .ok (.isub, 1) := by decide +kernel
theorem d_X8_lose_33 : decode prog_10_method_9_code 33 = .ok (.iaload, 1) := by decide +kernel
theorem v_X8_lose_0 {E : EE} {d : Nat} {Q : Option AV → AH → Prop} {x0 : Nat} {x1 : Int32} {G : AH} (h : isO E G x0 8 ∧ ((0 ≤ (gI G x0 4) → (¬ (gI G x0 4) = 0 → isO E G (gR G x0 2) 14 ∧ (vp_in ((gI G x0 4) - 1) (gN G (gR G x0 2)) ∧ (wp E d M_X8_lose 34 [some (vr x0), some (vi x1), none] [vi (gI G (gR G x0 2) (Int32.toNatClampNeg ((gI G x0 4) - 1)))] G Q))) ∧ ((gI G x0 4) = 0 → wp E d M_X8_lose 34 [some (vr x0), some (vi x1), none] [vi 0] G Q)) ∧ (¬ (0 ≤ (gI G x0 4)) → Q (some (vi (gI G x0 1))) G))) : wp E d M_X8_lose 0 [some (vr x0), some (vi x1), none] [] G Q := by
  refine wp_aload_n (pc := 0) d_X8_lose_0 rfl ?_
  obtain ⟨ho1, h⟩ := h
  refine wp_getI (pc := 1) d_X8_lose_1 fl_X8_29 (fun _ _ _ => rfl) ho1 ?_
  refine wp_if_ge (pc := 4) (tgt := 12) d_X8_lose_4 (by decide) (fun hc => ?_) (fun hc => ?_)
  · have h := h.1 hc
    refine wp_aload_n (pc := 12) d_X8_lose_12 rfl ?_
    refine wp_getI (pc := 13) d_X8_lose_13 fl_X8_29 (fun _ _ _ => rfl) ho1 ?_
    refine wp_if_ne (pc := 16) (tgt := 23) d_X8_lose_16 (by decide) (fun hc => ?_) (fun hc => ?_)
    · have h := h.1 hc
      refine wp_aload_n (pc := 23) d_X8_lose_23 rfl ?_
      refine wp_getR (pc := 24) d_X8_lose_24 fl_X8_22 (fun _ _ _ => rfl) ho1 ?_
      refine wp_aload_n (pc := 27) d_X8_lose_27 rfl ?_
      refine wp_getI (pc := 28) d_X8_lose_28 fl_X8_29 (fun _ _ _ => rfl) ho1 ?_
      refine wp_iconst (pc := 31) (v := 1) d_X8_lose_31 rfl ?_
      refine wp_isub (pc := 32) d_X8_lose_32 ?_
      obtain ⟨ho2, h⟩ := h
      obtain ⟨hi3, h⟩ := h
      refine wp_iald (pc := 33) d_X8_lose_33 ho2 hi3 ?_
      refine wp_sub ?_ h
      exact ⟨rfl, ⟨rfl, trivial⟩⟩
    · have h := h.2 hc
      refine wp_iconst (pc := 19) (v := 0) d_X8_lose_19 rfl ?_
      refine wp_goto (pc := 20) (tgt := 34) d_X8_lose_20 (by decide) ?_
      refine wp_sub ?_ h
      exact ⟨rfl, ⟨rfl, trivial⟩⟩
  · have h := h.2 hc
    refine wp_aload_n (pc := 7) d_X8_lose_7 rfl ?_
    refine wp_getI (pc := 8) d_X8_lose_8 fl_X8_18 (fun _ _ _ => rfl) ho1 ?_
    exact wp_iret (pc := 11) d_X8_lose_11 rfl h
theorem d_X8_start_0 : decode prog_10_method_2_code 0 = .ok (.iload_n 1, 1) := by decide +kernel
theorem d_X8_start_1 : decode prog_10_method_2_code 1 = .ok (.ifCond .lt 17, 3) := by decide +kernel
theorem d_X8_start_4 : decode prog_10_method_2_code 4 = .ok (.iload_n 1, 1) := by decide +kernel
theorem d_X8_start_5 : decode prog_10_method_2_code 5 = .ok (.aload_n 0, 1) := by decide +kernel
theorem d_X8_start_6 : decode prog_10_method_2_code 6 = .ok (.getfield 18, 3) := by decide +kernel
theorem d_X8_start_9 : decode prog_10_method_2_code 9 = .ok (.if_icmp .ge 9, 3) := by decide +kernel
theorem d_X8_start_12 : decode prog_10_method_2_code 12 = .ok (.iload_n 1, 1) := by decide +kernel
theorem d_X8_start_13 : decode prog_10_method_2_code 13 = .ok (.bipush 100, 2) := by decide +kernel
theorem d_X8_start_15 : decode prog_10_method_2_code 15 = .ok (.if_icmp .lt 5, 3) := by decide +kernel
theorem d_X8_start_18 : decode prog_10_method_2_code 18 = .ok (.iconst (-1), 1) := by decide +kernel
theorem d_X8_start_19 : decode prog_10_method_2_code 19 = .ok (.ireturn, 1) := by decide +kernel
theorem d_X8_start_20 : decode prog_10_method_2_code 20 = .ok (.iload_n 1, 1) := by decide +kernel
theorem d_X8_start_21 : decode prog_10_method_2_code 21 = .ok (.ifCond .ne 7, 3) := by decide +kernel
theorem d_X8_start_24 : decode prog_10_method_2_code 24 = .ok (.iconst 0, 1) := by decide +kernel
theorem d_X8_start_25 : decode prog_10_method_2_code 25 = .ok (.goto 11, 3) := by decide +kernel
theorem d_X8_start_28 : decode prog_10_method_2_code 28 = .ok (.aload_n 0, 1) := by decide +kernel
theorem d_X8_start_29 : decode prog_10_method_2_code 29 = .ok (.getfield 22, 3) := by decide +kernel
theorem d_X8_start_32 : decode prog_10_method_2_code 32 = .ok (.iload_n 1, 1) := by decide +kernel
theorem d_X8_start_33 : decode prog_10_method_2_code 33 = .ok (.iconst 1, 1) := by decide +kernel
theorem d_X8_start_34 : decode prog_10_method_2_code 34 = .ok (.isub, 1) := by decide +kernel
theorem d_X8_start_35 : decode prog_10_method_2_code 35 = .ok (.iaload, 1) := by decide +kernel
theorem d_X8_start_36 : decode prog_10_method_2_code 36 = .ok (.ireturn, 1) := by decide +kernel
theorem v_X8_start_0 {E : EE} {d : Nat} {Q : Option AV → AH → Prop} {x0 : Nat} {x1 : Int32} {G : AH} (h : (x1 < 0 → Q (some (vi (-1))) G) ∧ (¬ (x1 < 0) → isO E G x0 8 ∧ (((gI G x0 1) ≤ x1 → Q (some (vi (-1))) G) ∧ (¬ ((gI G x0 1) ≤ x1) → (x1 < 100 → (¬ x1 = 0 → isO E G (gR G x0 2) 14 ∧ (vp_in (x1 - 1) (gN G (gR G x0 2)) ∧ (Q (some (vi (gI G (gR G x0 2) (Int32.toNatClampNeg (x1 - 1))))) G))) ∧ (x1 = 0 → Q (some (vi 0)) G)) ∧ (¬ (x1 < 100) → Q (some (vi (-1))) G))))) : wp E d M_X8_start 0 [some (vr x0), some (vi x1)] [] G Q := by
  refine wp_iload_n (pc := 0) d_X8_start_0 rfl ?_
  refine wp_if_lt (pc := 1) (tgt := 18) d_X8_start_1 (by decide) (fun hc => ?_) (fun hc => ?_)
  · have h := h.1 hc
    refine wp_iconst (pc := 18) (v := (-1)) d_X8_start_18 rfl ?_
    exact wp_iret (pc := 19) d_X8_start_19 rfl h
  · have h := h.2 hc
    refine wp_iload_n (pc := 4) d_X8_start_4 rfl ?_
    refine wp_aload_n (pc := 5) d_X8_start_5 rfl ?_
    obtain ⟨ho1, h⟩ := h
    refine wp_getI (pc := 6) d_X8_start_6 fl_X8_18 (fun _ _ _ => rfl) ho1 ?_
    refine wp_icmp_ge (pc := 9) (tgt := 18) d_X8_start_9 (by decide) (fun hc => ?_) (fun hc => ?_)
    · have h := h.1 hc
      refine wp_iconst (pc := 18) (v := (-1)) d_X8_start_18 rfl ?_
      exact wp_iret (pc := 19) d_X8_start_19 rfl h
    · have h := h.2 hc
      refine wp_iload_n (pc := 12) d_X8_start_12 rfl ?_
      refine wp_bipush (pc := 13) (v := 100) d_X8_start_13 rfl ?_
      refine wp_icmp_lt (pc := 15) (tgt := 20) d_X8_start_15 (by decide) (fun hc => ?_) (fun hc => ?_)
      · have h := h.1 hc
        refine wp_iload_n (pc := 20) d_X8_start_20 rfl ?_
        refine wp_if_ne (pc := 21) (tgt := 28) d_X8_start_21 (by decide) (fun hc => ?_) (fun hc => ?_)
        · have h := h.1 hc
          refine wp_aload_n (pc := 28) d_X8_start_28 rfl ?_
          refine wp_getR (pc := 29) d_X8_start_29 fl_X8_22 (fun _ _ _ => rfl) ho1 ?_
          refine wp_iload_n (pc := 32) d_X8_start_32 rfl ?_
          refine wp_iconst (pc := 33) (v := 1) d_X8_start_33 rfl ?_
          refine wp_isub (pc := 34) d_X8_start_34 ?_
          obtain ⟨ho2, h⟩ := h
          obtain ⟨hi3, h⟩ := h
          refine wp_iald (pc := 35) d_X8_start_35 ho2 hi3 ?_
          exact wp_iret (pc := 36) d_X8_start_36 rfl h
        · have h := h.2 hc
          refine wp_iconst (pc := 24) (v := 0) d_X8_start_24 rfl ?_
          refine wp_goto (pc := 25) (tgt := 36) d_X8_start_25 (by decide) ?_
          exact wp_iret (pc := 36) d_X8_start_36 rfl h
      · have h := h.2 hc
        refine wp_iconst (pc := 18) (v := (-1)) d_X8_start_18 rfl ?_
        exact wp_iret (pc := 19) d_X8_start_19 rfl h
