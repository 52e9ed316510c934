/-! decode rows and regions (by program): X9_differentValues X2_init X2_clear X2_begin X2_emit X2_note X2_amend X2_finish X2_describe X2_weighAll X2_look X2_run X2_leaf X2_push X2_pop X2_ofOne X2_held X2_picked X2_noteAt X2_ofTwo X2_ofMany X2_overlaps X2_valueAt X2_overload X2_astray X2_offRound X2_outOfOrder X2_offRows X2_repeated X2_isPart X3_init X3_clear X3_lookUp X3_tell X3_letters -/
theorem d_X9_differentValues_0 : decode prog_11_method_10_code 0 = .ok (.iconst 0, 1) := by decide +kernel
theorem d_X9_differentValues_1 : decode prog_11_method_10_code 1 = .ok (.istore_n 3, 1) := by decide +kernel
theorem d_X9_differentValues_2 : decode prog_11_method_10_code 2 = .ok (.iconst 0, 1) := by decide +kernel
theorem d_X9_differentValues_3 : decode prog_11_method_10_code 3 = .ok (.istore 4, 2) := by decide +kernel
theorem d_X9_differentValues_5 : decode prog_11_method_10_code 5 = .ok (.iload 4, 2) := by decide +kernel
theorem d_X9_differentValues_7 : decode prog_11_method_10_code 7 = .ok (.aload_n 0, 1) := by decide +kernel
theorem d_X9_differentValues_8 : decode prog_11_method_10_code 8 = .ok (.getfield 23, 3) := by decide +kernel
theorem d_X9_differentValues_11 : decode prog_11_method_10_code 11 = .ok (.if_icmp .ge 26, 3) := by decide +kernel
theorem d_X9_differentValues_14 : decode prog_11_method_10_code 14 = .ok (.iload_n 3, 1) := by decide +kernel
theorem d_X9_differentValues_15 : decode prog_11_method_10_code 15 = .ok (.iconst 1, 1) := by decide +kernel
theorem d_X9_differentValues_16 : decode prog_11_method_10_code 16 = .ok (.aload_n 1, 1) := by decide +kernel
theorem d_X9_differentValues_17 : decode prog_11_method_10_code 17 = .ok (.aload_n 0, 1) := by decide +kernel
theorem d_X9_differentValues_18 : decode prog_11_method_10_code 18 = .ok (.getfield 19, 3) := by decide +kernel
theorem d_X9_differentValues_21 : decode prog_11_method_10_code 21 = .ok (.iload 4, 2) := by decide +kernel
theorem d_X9_differentValues_23 : decode prog_11_method_10_code 23 = .ok (.iaload, 1) := by decide +kernel
theorem d_X9_differentValues_24 : decode prog_11_method_10_code 24 = .ok (.iload_n 2, 1) := by decide +kernel
theorem d_X9_differentValues_25 : decode prog_11_method_10_code 25 = .ok (.invokevirtual 107, 3) := by decide +kernel
theorem d_X9_differentValues_28 : decode prog_11_method_10_code 28 = .ok (.ishl, 1) := by decide +kernel
theorem d_X9_differentValues_29 : decode prog_11_method_10_code 29 = .ok (.ior, 1) := by decide +kernel
theorem d_X9_differentValues_30 : decode prog_11_method_10_code 30 = .ok (.istore_n 3, 1) := by decide +kernel
theorem d_X9_differentValues_31 : decode prog_11_method_10_code 31 = .ok (.iinc 4 1, 3) := by decide +kernel
theorem d_X9_differentValues_34 : decode prog_11_method_10_code 34 = .ok (.goto (-29), 3) := by decide +kernel
theorem d_X9_differentValues_37 : decode prog_11_method_10_code 37 = .ok (.iload_n 3, 1) := by decide +kernel
theorem d_X9_differentValues_38 : decode prog_11_method_10_code 38 = .ok (.invokestatic 110, 3) := by decide +kernel
theorem d_X9_differentValues_41 : decode prog_11_method_10_code 41 = .ok (.ireturn, 1) := by decide +kernel
theorem v_X9_differentValues_0 {E : EE} {d : Nat} {Q : Option AV → AH → Prop} {x0 : Nat} {x1 : Nat} {x2 : Int32} {G : AH} (h : wp E d M_X9_differentValues 5 [some (vr x0), some (vr x1), some (vi x2), some (vi 0), some (vi 0)] [] G Q) : wp E d M_X9_differentValues 0 [some (vr x0), some (vr x1), some (vi x2), none, none] [] G Q := by
  refine wp_iconst (pc := 0) (v := 0) d_X9_differentValues_0 rfl ?_
  refine wp_istore_n (pc := 1) (lv' := [some (vr _), some (vr _), some (vi _), some (vi _), none]) d_X9_differentValues_1 (by decide) rfl ?_
  refine wp_iconst (pc := 2) (v := 0) d_X9_differentValues_2 rfl ?_
  refine wp_istore (pc := 3) (lv' := [some (vr _), some (vr _), some (vi _), some (vi _), some (vi _)]) d_X9_differentValues_3 (by decide) rfl ?_
  refine wp_sub ?_ h
  exact ⟨rfl, ⟨rfl, ⟨rfl, ⟨rfl, ⟨rfl, trivial⟩⟩⟩⟩⟩
theorem v_X9_differentValues_5 {E : EE} {d : Nat} {Q : Option AV → AH → Prop} {x0 : Nat} {x1 : Nat} {x2 : Int32} {x3 : Int32} {x4 : Int32} {G : AH} (h0 : 0 < d) (h : isO E G x0 9 ∧ (((gI G x0 3) ≤ x4 → wpI E (d - 1) M_J6_bitCount_0f7a4 [vi x3] G (fun r2 G3 => Q (some (vi r2)) G3)) ∧ (¬ ((gI G x0 3) ≤ x4) → isO E G (gR G x0 2) 14 ∧ (vp_in x4 (gN G (gR G x0 2)) ∧ (isO E G x1 7 ∧ (wpI E (d - 1) M_X7_placeOf [vr x1, vi (gI G (gR G x0 2) (Int32.toNatClampNeg x4)), vi x2] G (fun r6 G7 => wp E d M_X9_differentValues 5 [some (vr x0), some (vr x1), some (vi x2), some (vi (x3 ||| (1 <<< (r6 &&& 31)))), some (vi (x4 + 1))] [] G7 Q))))))) : wp E d M_X9_differentValues 5 [some (vr x0), some (vr x1), some (vi x2), some (vi x3), some (vi x4)] [] G Q := by
  refine wp_iload (pc := 5) d_X9_differentValues_5 rfl ?_
  refine wp_aload_n (pc := 7) d_X9_differentValues_7 rfl ?_
  obtain ⟨ho1, h⟩ := h
  refine wp_getI (pc := 8) d_X9_differentValues_8 fl_X9_23 (fun _ _ _ => rfl) ho1 ?_
  refine wp_icmp_ge (pc := 11) (tgt := 37) d_X9_differentValues_11 (by decide) (fun hc => ?_) (fun hc => ?_)
  · have h := h.1 hc
    refine wp_iload_n (pc := 37) d_X9_differentValues_37 rfl ?_
    refine wp_invS (pc := 38) (N := M_J6_bitCount_0f7a4) (As := [vi _]) (rest := []) d_X9_differentValues_38 ml_X9_110 mk_J6_bitCount_0f7a4 ms_J6_bitCount_0f7a4 h0 (Nat.le_of_ble_eq_true rfl) ?_
    refine wpM.mono h (fun rr G3 hr => ?_)
    obtain ⟨r2, rfl, h⟩ := hr
    show wp E d M_X9_differentValues 41 [some (vr _), some (vr _), some (vi _), some (vi _), some (vi _)] [vi _] G3 Q
    exact wp_iret (pc := 41) d_X9_differentValues_41 rfl h
  · have h := h.2 hc
    refine wp_iload_n (pc := 14) d_X9_differentValues_14 rfl ?_
    refine wp_iconst (pc := 15) (v := 1) d_X9_differentValues_15 rfl ?_
    refine wp_aload_n (pc := 16) d_X9_differentValues_16 rfl ?_
    refine wp_aload_n (pc := 17) d_X9_differentValues_17 rfl ?_
    refine wp_getR (pc := 18) d_X9_differentValues_18 fl_X9_19 (fun _ _ _ => rfl) ho1 ?_
    refine wp_iload (pc := 21) d_X9_differentValues_21 rfl ?_
    obtain ⟨ho4, h⟩ := h
    obtain ⟨hi5, h⟩ := h
    refine wp_iald (pc := 23) d_X9_differentValues_23 ho4 hi5 ?_
    refine wp_iload_n (pc := 24) d_X9_differentValues_24 rfl ?_
    obtain ⟨ho8, h⟩ := h
    refine wp_invV (pc := 25) (N := M_X7_placeOf) (As := [vi _, vi _]) (rest := [vi _, vi _]) (r := (cn_7, ct_7, 5)) d_X9_differentValues_25 ml_X9_107 mk_X7_placeOf mv_X7_placeOf h0 ho8 rfl rfl (Nat.le_of_ble_eq_true rfl) ?_
    refine wpM.mono h (fun rr G7 hr => ?_)
    obtain ⟨r6, rfl, h⟩ := hr
    show wp E d M_X9_differentValues 28 [some (vr _), some (vr _), some (vi _), some (vi _), some (vi _)] [vi _, vi _, vi _] G7 Q
    refine wp_ishl (pc := 28) d_X9_differentValues_28 ?_
    refine wp_ior (pc := 29) d_X9_differentValues_29 ?_
    refine wp_istore_n (pc := 30) (lv' := [some (vr _), some (vr _), some (vi _), some (vi _), some (vi _)]) d_X9_differentValues_30 (by decide) rfl ?_
    refine wp_iinc (pc := 31) (v := 1) (lv' := [some (vr _), some (vr _), some (vi _), some (vi _), some (vi _)]) d_X9_differentValues_31 (by decide) rfl rfl rfl ?_
    refine wp_goto (pc := 34) (tgt := 5) d_X9_differentValues_34 (by decide) ?_
    refine wp_sub ?_ h
    exact ⟨rfl, ⟨rfl, ⟨rfl, ⟨rfl, ⟨rfl, trivial⟩⟩⟩⟩⟩
theorem d_X2_init_0 : decode prog_4_method_1_code 0 = .ok (.aload_n 0, 1) := by decide +kernel
theorem d_X2_init_1 : decode prog_4_method_1_code 1 = .ok (.invokespecial 3, 3) := by decide +kernel
theorem d_X2_init_4 : decode prog_4_method_1_code 4 = .ok (.aload_n 0, 1) := by decide +kernel
theorem d_X2_init_5 : decode prog_4_method_1_code 5 = .ok (.iconst 0, 1) := by decide +kernel
theorem d_X2_init_6 : decode prog_4_method_1_code 6 = .ok (.putfield 9, 3) := by decide +kernel
theorem d_X2_init_9 : decode prog_4_method_1_code 9 = .ok (.aload_n 0, 1) := by decide +kernel
theorem d_X2_init_10 : decode prog_4_method_1_code 10 = .ok (.iconst 0, 1) := by decide +kernel
theorem d_X2_init_11 : decode prog_4_method_1_code 11 = .ok (.putfield 15, 3) := by decide +kernel
theorem d_X2_init_14 : decode prog_4_method_1_code 14 = .ok (.aload_n 0, 1) := by decide +kernel
theorem d_X2_init_15 : decode prog_4_method_1_code 15 = .ok (.iconst 0, 1) := by decide +kernel
theorem d_X2_init_16 : decode prog_4_method_1_code 16 = .ok (.putfield 18, 3) := by decide +kernel
theorem d_X2_init_19 : decode prog_4_method_1_code 19 = .ok (.aload_n 0, 1) := by decide +kernel
theorem d_X2_init_20 : decode prog_4_method_1_code 20 = .ok (.iconst 0, 1) := by decide +kernel
theorem d_X2_init_21 : decode prog_4_method_1_code 21 = .ok (.putfield 21, 3) := by decide +kernel
theorem d_X2_init_24 : decode prog_4_method_1_code 24 = .ok (.aload_n 0, 1) := by decide +kernel
theorem d_X2_init_25 : decode prog_4_method_1_code 25 = .ok (.bipush 30, 2) := by decide +kernel
theorem d_X2_init_27 : decode prog_4_method_1_code 27 = .ok (.newarray .int, 2) := by decide +kernel
theorem d_X2_init_29 : decode prog_4_method_1_code 29 = .ok (.putfield 24, 3) := by decide +kernel
theorem d_X2_init_32 : decode prog_4_method_1_code 32 = .ok (.aload_n 0, 1) := by decide +kernel
theorem d_X2_init_33 : decode prog_4_method_1_code 33 = .ok (.bipush 24, 2) := by decide +kernel
theorem d_X2_init_35 : decode prog_4_method_1_code 35 = .ok (.newarray .int, 2) := by decide +kernel
theorem d_X2_init_37 : decode prog_4_method_1_code 37 = .ok (.putfield 28, 3) := by decide +kernel
theorem d_X2_init_40 : decode prog_4_method_1_code 40 = .ok (.aload_n 0, 1) := by decide +kernel
theorem d_X2_init_41 : decode prog_4_method_1_code 41 = .ok (.bipush 24, 2) := by decide +kernel
theorem d_X2_init_43 : decode prog_4_method_1_code 43 = .ok (.newarray .int, 2) := by decide +kernel
theorem d_X2_init_45 : decode prog_4_method_1_code 45 = .ok (.putfield 31, 3) := by decide +kernel
theorem d_X2_init_48 : decode prog_4_method_1_code 48 = .ok (.aload_n 0, 1) := by decide +kernel
theorem d_X2_init_49 : decode prog_4_method_1_code 49 = .ok (.bipush 30, 2) := by decide +kernel
theorem d_X2_init_51 : decode prog_4_method_1_code 51 = .ok (.newarray .int, 2) := by decide +kernel
theorem d_X2_init_53 : decode prog_4_method_1_code 53 = .ok (.putfield 34, 3) := by decide +kernel
theorem d_X2_init_56 : decode prog_4_method_1_code 56 = .ok (.aload_n 0, 1) := by decide +kernel
theorem d_X2_init_57 : decode prog_4_method_1_code 57 = .ok (.bipush 30, 2) := by decide +kernel
theorem d_X2_init_59 : decode prog_4_method_1_code 59 = .ok (.newarray .int, 2) := by decide +kernel
theorem d_X2_init_61 : decode prog_4_method_1_code 61 = .ok (.putfield 37, 3) := by decide +kernel
theorem d_X2_init_64 : decode prog_4_method_1_code 64 = .ok (.aload_n 0, 1) := by decide +kernel
theorem d_X2_init_65 : decode prog_4_method_1_code 65 = .ok (.sipush 128, 3) := by decide +kernel
theorem d_X2_init_68 : decode prog_4_method_1_code 68 = .ok (.newarray .int, 2) := by decide +kernel
theorem d_X2_init_70 : decode prog_4_method_1_code 70 = .ok (.putfield 40, 3) := by decide +kernel
theorem d_X2_init_73 : decode prog_4_method_1_code 73 = .ok (.aload_n 0, 1) := by decide +kernel
theorem d_X2_init_74 : decode prog_4_method_1_code 74 = .ok (.iconst 0, 1) := by decide +kernel
theorem d_X2_init_75 : decode prog_4_method_1_code 75 = .ok (.putfield 43, 3) := by decide +kernel
theorem d_X2_init_78 : decode prog_4_method_1_code 78 = .ok (.aload_n 0, 1) := by decide +kernel
theorem d_X2_init_79 : decode prog_4_method_1_code 79 = .ok (.sipush 128, 3) := by decide +kernel
theorem d_X2_init_82 : decode prog_4_method_1_code 82 = .ok (.newarray .int, 2) := by decide +kernel
theorem d_X2_init_84 : decode prog_4_method_1_code 84 = .ok (.putfield 46, 3) := by decide +kernel
theorem d_X2_init_87 : decode prog_4_method_1_code 87 = .ok (.aload_n 0, 1) := by decide +kernel
theorem d_X2_init_88 : decode prog_4_method_1_code 88 = .ok (.sipush 128, 3) := by decide +kernel
theorem d_X2_init_91 : decode prog_4_method_1_code 91 = .ok (.newarray .int, 2) := by decide +kernel
theorem d_X2_init_93 : decode prog_4_method_1_code 93 = .ok (.putfield 49, 3) := by decide +kernel
theorem d_X2_init_96 : decode prog_4_method_1_code 96 = .ok (.aload_n 0, 1) := by decide +kernel
theorem d_X2_init_97 : decode prog_4_method_1_code 97 = .ok (.iconst 0, 1) := by decide +kernel
theorem d_X2_init_98 : decode prog_4_method_1_code 98 = .ok (.putfield 52, 3) := by decide +kernel
theorem d_X2_init_101 : decode prog_4_method_1_code 101 = .ok (.aload_n 0, 1) := by decide +kernel
theorem d_X2_init_102 : decode prog_4_method_1_code 102 = .ok (.bipush 12, 2) := by decide +kernel
theorem d_X2_init_104 : decode prog_4_method_1_code 104 = .ok (.newarray .int, 2) := by decide +kernel
theorem d_X2_init_106 : decode prog_4_method_1_code 106 = .ok (.putfield 55, 3) := by decide +kernel
theorem d_X2_init_109 : decode prog_4_method_1_code 109 = .ok (.return_, 1) := by decide +kernel
theorem v_X2_init_0 {E : EE} {d : Nat} {Q : Option AV → AH → Prop} {x0 : Nat} {G : AH} (h0 : 0 < d) (h : isO E G x0 2 ∧ (∀ G2 : AH, G2 = sI G x0 0 0 → ∀ G4 : AH, G4 = sI G2 x0 1 0 → ∀ G6 : AH, G6 = sI G4 x0 2 0 → ∀ G8 : AH, G8 = sI G6 x0 3 0 → eB E ≤ gT G8 ∧ (∀ G14 : AH, G14 = nw G8 14 (Int32.toNatClampNeg 30) (Int32.toNatClampNeg 30) → ∀ G18 : AH, G18 = sR G14 x0 4 (gT G8) → ∀ G24 : AH, G24 = nw G18 14 (Int32.toNatClampNeg 24) (Int32.toNatClampNeg 24) → ∀ G28 : AH, G28 = sR G24 x0 5 (gT G18) → ∀ G34 : AH, G34 = nw G28 14 (Int32.toNatClampNeg 24) (Int32.toNatClampNeg 24) → ∀ G38 : AH, G38 = sR G34 x0 6 (gT G28) → ∀ G44 : AH, G44 = nw G38 14 (Int32.toNatClampNeg 30) (Int32.toNatClampNeg 30) → ∀ G48 : AH, G48 = sR G44 x0 7 (gT G38) → ∀ G54 : AH, G54 = nw G48 14 (Int32.toNatClampNeg 30) (Int32.toNatClampNeg 30) → ∀ G58 : AH, G58 = sR G54 x0 8 (gT G48) → ∀ G64 : AH, G64 = nw G58 14 (Int32.toNatClampNeg 128) (Int32.toNatClampNeg 128) → ∀ G68 : AH, G68 = sR G64 x0 9 (gT G58) → ∀ G71 : AH, G71 = sI G68 x0 10 0 → ∀ G77 : AH, G77 = nw G71 14 (Int32.toNatClampNeg 128) (Int32.toNatClampNeg 128) → ∀ G81 : AH, G81 = sR G77 x0 11 (gT G71) → ∀ G87 : AH, G87 = nw G81 14 (Int32.toNatClampNeg 128) (Int32.toNatClampNeg 128) → ∀ G91 : AH, G91 = sR G87 x0 12 (gT G81) → ∀ G94 : AH, G94 = sI G91 x0 13 0 → ∀ G100 : AH, G100 = nw G94 14 (Int32.toNatClampNeg 12) (Int32.toNatClampNeg 12) → ∀ G104 : AH, G104 = sR G100 x0 14 (gT G94) → Q none G104))) : wp E d M_X2_init 0 [some (vr x0)] [] G Q := by
  refine wp_aload_n (pc := 0) d_X2_init_0 rfl ?_
  obtain ⟨ho1, h⟩ := h
  refine wp_objI (pc := 1) d_X2_init_1 ml_X2_3 in_obj mc_obj h0 ho1 (Nat.le_of_ble_eq_true rfl) ?_
  refine wp_aload_n (pc := 4) d_X2_init_4 rfl ?_
  refine wp_iconst (pc := 5) (v := 0) d_X2_init_5 rfl ?_
  refine wp_putI (pc := 6) d_X2_init_6 fl_X2_9 (fun _ _ _ => rfl) (Or.inl rfl) ho1 (okI_int _) ?_
  refine wp_nm (fun G2 eG2 => ?_)
  have h := h G2 eG2
  have ho3 := isO_sI eG2 ho1
  refine wp_aload_n (pc := 9) d_X2_init_9 rfl ?_
  refine wp_iconst (pc := 10) (v := 0) d_X2_init_10 rfl ?_
  refine wp_putI (pc := 11) d_X2_init_11 fl_X2_15 (fun _ _ _ => rfl) (Or.inl rfl) ho3 (okI_int _) ?_
  refine wp_nm (fun G4 eG4 => ?_)
  have h := h G4 eG4
  have ho5 := isO_sI eG4 ho3
  refine wp_aload_n (pc := 14) d_X2_init_14 rfl ?_
  refine wp_iconst (pc := 15) (v := 0) d_X2_init_15 rfl ?_
  refine wp_putI (pc := 16) d_X2_init_16 fl_X2_18 (fun _ _ _ => rfl) (Or.inl rfl) ho5 (okI_int _) ?_
  refine wp_nm (fun G6 eG6 => ?_)
  have h := h G6 eG6
  have ho7 := isO_sI eG6 ho5
  refine wp_aload_n (pc := 19) d_X2_init_19 rfl ?_
  refine wp_iconst (pc := 20) (v := 0) d_X2_init_20 rfl ?_
  refine wp_putI (pc := 21) d_X2_init_21 fl_X2_21 (fun _ _ _ => rfl) (Or.inl rfl) ho7 (okI_int _) ?_
  refine wp_nm (fun G8 eG8 => ?_)
  have h := h G8 eG8
  have ho9 := isO_sI eG8 ho7
  refine wp_aload_n (pc := 24) d_X2_init_24 rfl ?_
  refine wp_bipush (pc := 25) (v := 30) d_X2_init_25 rfl ?_
  obtain ⟨hb10, h⟩ := h
  refine wp_newa (pc := 27) (t0 := 1) (kd := 14) d_X2_init_27 rfl (fun _ q => by cases q) ac_int (by decide) (fun _ => rfl) rfl (by decide) (by decide) (by decide) ?_
  refine wp_nm (fun G14 eG14 => ?_)
  have h := h G14 eG14
  have ho15 := isO_nwE eG14 ho9
  have hb16 := base_nwE eG14 hb10
  have ho17 := isO_newE eG14 hb10
  refine wp_putR (pc := 29) d_X2_init_29 fl_X2_24 (fun _ _ _ => rfl) (Or.inr ⟨_, rfl⟩) (Or.inr ⟨rfl, rfl, rfl⟩) ho15 ?_
  refine wp_nm (fun G18 eG18 => ?_)
  have h := h G18 eG18
  have ho19 := isO_sR eG18 ho15
  have hb20 := base_sR eG18 hb16
  refine wp_aload_n (pc := 32) d_X2_init_32 rfl ?_
  refine wp_bipush (pc := 33) (v := 24) d_X2_init_33 rfl ?_
  refine wp_newa (pc := 35) (t0 := 1) (kd := 14) d_X2_init_35 rfl (fun _ q => by cases q) ac_int (by decide) (fun _ => rfl) rfl (by decide) (by decide) (by decide) ?_
  refine wp_nm (fun G24 eG24 => ?_)
  have h := h G24 eG24
  have ho25 := isO_nwE eG24 ho19
  have hb26 := base_nwE eG24 hb20
  have ho27 := isO_newE eG24 hb20
  refine wp_putR (pc := 37) d_X2_init_37 fl_X2_28 (fun _ _ _ => rfl) (Or.inr ⟨_, rfl⟩) (Or.inr ⟨rfl, rfl, rfl⟩) ho25 ?_
  refine wp_nm (fun G28 eG28 => ?_)
  have h := h G28 eG28
  have ho29 := isO_sR eG28 ho25
  have hb30 := base_sR eG28 hb26
  refine wp_aload_n (pc := 40) d_X2_init_40 rfl ?_
  refine wp_bipush (pc := 41) (v := 24) d_X2_init_41 rfl ?_
  refine wp_newa (pc := 43) (t0 := 1) (kd := 14) d_X2_init_43 rfl (fun _ q => by cases q) ac_int (by decide) (fun _ => rfl) rfl (by decide) (by decide) (by decide) ?_
  refine wp_nm (fun G34 eG34 => ?_)
  have h := h G34 eG34
  have ho35 := isO_nwE eG34 ho29
  have hb36 := base_nwE eG34 hb30
  have ho37 := isO_newE eG34 hb30
  refine wp_putR (pc := 45) d_X2_init_45 fl_X2_31 (fun _ _ _ => rfl) (Or.inr ⟨_, rfl⟩) (Or.inr ⟨rfl, rfl, rfl⟩) ho35 ?_
  refine wp_nm (fun G38 eG38 => ?_)
  have h := h G38 eG38
  have ho39 := isO_sR eG38 ho35
  have hb40 := base_sR eG38 hb36
  refine wp_aload_n (pc := 48) d_X2_init_48 rfl ?_
  refine wp_bipush (pc := 49) (v := 30) d_X2_init_49 rfl ?_
  refine wp_newa (pc := 51) (t0 := 1) (kd := 14) d_X2_init_51 rfl (fun _ q => by cases q) ac_int (by decide) (fun _ => rfl) rfl (by decide) (by decide) (by decide) ?_
  refine wp_nm (fun G44 eG44 => ?_)
  have h := h G44 eG44
  have ho45 := isO_nwE eG44 ho39
  have hb46 := base_nwE eG44 hb40
  have ho47 := isO_newE eG44 hb40
  refine wp_putR (pc := 53) d_X2_init_53 fl_X2_34 (fun _ _ _ => rfl) (Or.inr ⟨_, rfl⟩) (Or.inr ⟨rfl, rfl, rfl⟩) ho45 ?_
  refine wp_nm (fun G48 eG48 => ?_)
  have h := h G48 eG48
  have ho49 := isO_sR eG48 ho45
  have hb50 := base_sR eG48 hb46
  refine wp_aload_n (pc := 56) d_X2_init_56 rfl ?_
  refine wp_bipush (pc := 57) (v := 30) d_X2_init_57 rfl ?_
  refine wp_newa (pc := 59) (t0 := 1) (kd := 14) d_X2_init_59 rfl (fun _ q => by cases q) ac_int (by decide) (fun _ => rfl) rfl (by decide) (by decide) (by decide) ?_
  refine wp_nm (fun G54 eG54 => ?_)
  have h := h G54 eG54
  have ho55 := isO_nwE eG54 ho49
  have hb56 := base_nwE eG54 hb50
  have ho57 := isO_newE eG54 hb50
  refine wp_putR (pc := 61) d_X2_init_61 fl_X2_37 (fun _ _ _ => rfl) (Or.inr ⟨_, rfl⟩) (Or.inr ⟨rfl, rfl, rfl⟩) ho55 ?_
  refine wp_nm (fun G58 eG58 => ?_)
  have h := h G58 eG58
  have ho59 := isO_sR eG58 ho55
  have hb60 := base_sR eG58 hb56
  refine wp_aload_n (pc := 64) d_X2_init_64 rfl ?_
  refine wp_sipush (pc := 65) (v := 128) d_X2_init_65 rfl ?_
  refine wp_newa (pc := 68) (t0 := 1) (kd := 14) d_X2_init_68 rfl (fun _ q => by cases q) ac_int (by decide) (fun _ => rfl) rfl (by decide) (by decide) (by decide) ?_
  refine wp_nm (fun G64 eG64 => ?_)
  have h := h G64 eG64
  have ho65 := isO_nwE eG64 ho59
  have hb66 := base_nwE eG64 hb60
  have ho67 := isO_newE eG64 hb60
  refine wp_putR (pc := 70) d_X2_init_70 fl_X2_40 (fun _ _ _ => rfl) (Or.inr ⟨_, rfl⟩) (Or.inl rfl) ho65 ?_
  refine wp_nm (fun G68 eG68 => ?_)
  have h := h G68 eG68
  have ho69 := isO_sR eG68 ho65
  have hb70 := base_sR eG68 hb66
  refine wp_aload_n (pc := 73) d_X2_init_73 rfl ?_
  refine wp_iconst (pc := 74) (v := 0) d_X2_init_74 rfl ?_
  refine wp_putI (pc := 75) d_X2_init_75 fl_X2_43 (fun _ _ _ => rfl) (Or.inl rfl) ho69 (okI_int _) ?_
  refine wp_nm (fun G71 eG71 => ?_)
  have h := h G71 eG71
  have ho72 := isO_sI eG71 ho69
  have hb73 := base_sI eG71 hb70
  refine wp_aload_n (pc := 78) d_X2_init_78 rfl ?_
  refine wp_sipush (pc := 79) (v := 128) d_X2_init_79 rfl ?_
  refine wp_newa (pc := 82) (t0 := 1) (kd := 14) d_X2_init_82 rfl (fun _ q => by cases q) ac_int (by decide) (fun _ => rfl) rfl (by decide) (by decide) (by decide) ?_
  refine wp_nm (fun G77 eG77 => ?_)
  have h := h G77 eG77
  have ho78 := isO_nwE eG77 ho72
  have hb79 := base_nwE eG77 hb73
  have ho80 := isO_newE eG77 hb73
  refine wp_putR (pc := 84) d_X2_init_84 fl_X2_46 (fun _ _ _ => rfl) (Or.inr ⟨_, rfl⟩) (Or.inl rfl) ho78 ?_
  refine wp_nm (fun G81 eG81 => ?_)
  have h := h G81 eG81
  have ho82 := isO_sR eG81 ho78
  have hb83 := base_sR eG81 hb79
  refine wp_aload_n (pc := 87) d_X2_init_87 rfl ?_
  refine wp_sipush (pc := 88) (v := 128) d_X2_init_88 rfl ?_
  refine wp_newa (pc := 91) (t0 := 1) (kd := 14) d_X2_init_91 rfl (fun _ q => by cases q) ac_int (by decide) (fun _ => rfl) rfl (by decide) (by decide) (by decide) ?_
  refine wp_nm (fun G87 eG87 => ?_)
  have h := h G87 eG87
  have ho88 := isO_nwE eG87 ho82
  have hb89 := base_nwE eG87 hb83
  have ho90 := isO_newE eG87 hb83
  refine wp_putR (pc := 93) d_X2_init_93 fl_X2_49 (fun _ _ _ => rfl) (Or.inr ⟨_, rfl⟩) (Or.inr ⟨rfl, rfl, rfl⟩) ho88 ?_
  refine wp_nm (fun G91 eG91 => ?_)
  have h := h G91 eG91
  have ho92 := isO_sR eG91 ho88
  have hb93 := base_sR eG91 hb89
  refine wp_aload_n (pc := 96) d_X2_init_96 rfl ?_
  refine wp_iconst (pc := 97) (v := 0) d_X2_init_97 rfl ?_
  refine wp_putI (pc := 98) d_X2_init_98 fl_X2_52 (fun _ _ _ => rfl) (Or.inl rfl) ho92 (okI_int _) ?_
  refine wp_nm (fun G94 eG94 => ?_)
  have h := h G94 eG94
  have ho95 := isO_sI eG94 ho92
  have hb96 := base_sI eG94 hb93
  refine wp_aload_n (pc := 101) d_X2_init_101 rfl ?_
  refine wp_bipush (pc := 102) (v := 12) d_X2_init_102 rfl ?_
  refine wp_newa (pc := 104) (t0 := 1) (kd := 14) d_X2_init_104 rfl (fun _ q => by cases q) ac_int (by decide) (fun _ => rfl) rfl (by decide) (by decide) (by decide) ?_
  refine wp_nm (fun G100 eG100 => ?_)
  have h := h G100 eG100
  have ho101 := isO_nwE eG100 ho95
  have hb102 := base_nwE eG100 hb96
  have ho103 := isO_newE eG100 hb96
  refine wp_putR (pc := 106) d_X2_init_106 fl_X2_55 (fun _ _ _ => rfl) (Or.inr ⟨_, rfl⟩) (Or.inr ⟨rfl, rfl, rfl⟩) ho101 ?_
  refine wp_nm (fun G104 eG104 => ?_)
  have h := h G104 eG104
  have ho105 := isO_sR eG104 ho101
  have hb106 := base_sR eG104 hb102
  exact wp_vret (pc := 109) d_X2_init_109 rfl h
theorem d_X2_clear_0 : decode prog_4_method_2_code 0 = .ok (.aload_n 0, 1) := by decide +kernel
theorem d_X2_clear_1 : decode prog_4_method_2_code 1 = .ok (.iconst 0, 1) := by decide +kernel
theorem d_X2_clear_2 : decode prog_4_method_2_code 2 = .ok (.putfield 9, 3) := by decide +kernel
theorem d_X2_clear_5 : decode prog_4_method_2_code 5 = .ok (.aload_n 0, 1) := by decide +kernel
theorem d_X2_clear_6 : decode prog_4_method_2_code 6 = .ok (.iconst 0, 1) := by decide +kernel
theorem d_X2_clear_7 : decode prog_4_method_2_code 7 = .ok (.putfield 15, 3) := by decide +kernel
theorem d_X2_clear_10 : decode prog_4_method_2_code 10 = .ok (.aload_n 0, 1) := by decide +kernel
theorem d_X2_clear_11 : decode prog_4_method_2_code 11 = .ok (.iconst 0, 1) := by decide +kernel
theorem d_X2_clear_12 : decode prog_4_method_2_code 12 = .ok (.putfield 18, 3) := by decide +kernel
theorem d_X2_clear_15 : decode prog_4_method_2_code 15 = .ok (.aload_n 0, 1) := by decide +kernel
theorem d_X2_clear_16 : decode prog_4_method_2_code 16 = .ok (.iconst 0, 1) := by decide +kernel
theorem d_X2_clear_17 : decode prog_4_method_2_code 17 = .ok (.putfield 21, 3) := by decide +kernel
theorem d_X2_clear_20 : decode prog_4_method_2_code 20 = .ok (.aload_n 0, 1) := by decide +kernel
theorem d_X2_clear_21 : decode prog_4_method_2_code 21 = .ok (.iconst 0, 1) := by decide +kernel
theorem d_X2_clear_22 : decode prog_4_method_2_code 22 = .ok (.putfield 43, 3) := by decide +kernel
theorem d_X2_clear_25 : decode prog_4_method_2_code 25 = .ok (.return_, 1) := by decide +kernel
theorem v_X2_clear_0 {E : EE} {d : Nat} {Q : Option AV → AH → Prop} {x0 : Nat} {G : AH} (h : isO E G x0 2 ∧ (∀ G2 : AH, G2 = sI G x0 0 0 → ∀ G4 : AH, G4 = sI G2 x0 1 0 → ∀ G6 : AH, G6 = sI G4 x0 2 0 → ∀ G8 : AH, G8 = sI G6 x0 3 0 → ∀ G10 : AH, G10 = sI G8 x0 10 0 → Q none G10)) : wp E d M_X2_clear 0 [some (vr x0)] [] G Q := by
  refine wp_aload_n (pc := 0) d_X2_clear_0 rfl ?_
  refine wp_iconst (pc := 1) (v := 0) d_X2_clear_1 rfl ?_
  obtain ⟨ho1, h⟩ := h
  refine wp_putI (pc := 2) d_X2_clear_2 fl_X2_9 (fun _ _ _ => rfl) (Or.inl rfl) ho1 (okI_int _) ?_
  refine wp_nm (fun G2 eG2 => ?_)
  have h := h G2 eG2
  have ho3 := isO_sI eG2 ho1
  refine wp_aload_n (pc := 5) d_X2_clear_5 rfl ?_
  refine wp_iconst (pc := 6) (v := 0) d_X2_clear_6 rfl ?_
  refine wp_putI (pc := 7) d_X2_clear_7 fl_X2_15 (fun _ _ _ => rfl) (Or.inl rfl) ho3 (okI_int _) ?_
  refine wp_nm (fun G4 eG4 => ?_)
  have h := h G4 eG4
  have ho5 := isO_sI eG4 ho3
  refine wp_aload_n (pc := 10) d_X2_clear_10 rfl ?_
  refine wp_iconst (pc := 11) (v := 0) d_X2_clear_11 rfl ?_
  refine wp_putI (pc := 12) d_X2_clear_12 fl_X2_18 (fun _ _ _ => rfl) (Or.inl rfl) ho5 (okI_int _) ?_
  refine wp_nm (fun G6 eG6 => ?_)
  have h := h G6 eG6
  have ho7 := isO_sI eG6 ho5
  refine wp_aload_n (pc := 15) d_X2_clear_15 rfl ?_
  refine wp_iconst (pc := 16) (v := 0) d_X2_clear_16 rfl ?_
  refine wp_putI (pc := 17) d_X2_clear_17 fl_X2_21 (fun _ _ _ => rfl) (Or.inl rfl) ho7 (okI_int _) ?_
  refine wp_nm (fun G8 eG8 => ?_)
  have h := h G8 eG8
  have ho9 := isO_sI eG8 ho7
  refine wp_aload_n (pc := 20) d_X2_clear_20 rfl ?_
  refine wp_iconst (pc := 21) (v := 0) d_X2_clear_21 rfl ?_
  refine wp_putI (pc := 22) d_X2_clear_22 fl_X2_43 (fun _ _ _ => rfl) (Or.inl rfl) ho9 (okI_int _) ?_
  refine wp_nm (fun G10 eG10 => ?_)
  have h := h G10 eG10
  have ho11 := isO_sI eG10 ho9
  exact wp_vret (pc := 25) d_X2_clear_25 rfl h
theorem d_X2_begin_0 : decode prog_4_method_3_code 0 = .ok (.iload_n 1, 1) := by decide +kernel
theorem d_X2_begin_1 : decode prog_4_method_3_code 1 = .ok (.ifCond .lt 19, 3) := by decide +kernel
theorem d_X2_begin_4 : decode prog_4_method_3_code 4 = .ok (.iload_n 1, 1) := by decide +kernel
theorem d_X2_begin_5 : decode prog_4_method_3_code 5 = .ok (.bipush 30, 2) := by decide +kernel
theorem d_X2_begin_7 : decode prog_4_method_3_code 7 = .ok (.if_icmp .ge 13, 3) := by decide +kernel
theorem d_X2_begin_10 : decode prog_4_method_3_code 10 = .ok (.aload_n 0, 1) := by decide +kernel
theorem d_X2_begin_11 : decode prog_4_method_3_code 11 = .ok (.getfield 34, 3) := by decide +kernel
theorem d_X2_begin_14 : decode prog_4_method_3_code 14 = .ok (.iload_n 1, 1) := by decide +kernel
theorem d_X2_begin_15 : decode prog_4_method_3_code 15 = .ok (.aload_n 0, 1) := by decide +kernel
theorem d_X2_begin_16 : decode prog_4_method_3_code 16 = .ok (.getfield 43, 3) := by decide +kernel
theorem d_X2_begin_19 : decode prog_4_method_3_code 19 = .ok (.iastore, 1) := by decide +kernel
theorem d_X2_begin_20 : decode prog_4_method_3_code 20 = .ok (.return_, 1) := by decide +kernel
theorem v_X2_begin_0 {E : EE} {d : Nat} {Q : Option AV → AH → Prop} {x0 : Nat} {x1 : Int32} {G : AH} (h : (x1 < 0 → Q none G) ∧ (¬ (x1 < 0) → (30 ≤ x1 → Q none G) ∧ (¬ (30 ≤ x1) → isO E G x0 2 ∧ (isO E G (gR G x0 7) 14 ∧ (vp_in x1 (gN G (gR G x0 7)) ∧ (Q none (sI G (gR G x0 7) (Int32.toNatClampNeg x1) (gI G x0 10)))))))) : wp E d M_X2_begin 0 [some (vr x0), some (vi x1)] [] G Q := by
  refine wp_iload_n (pc := 0) d_X2_begin_0 rfl ?_
  refine wp_if_lt (pc := 1) (tgt := 20) d_X2_begin_1 (by decide) (fun hc => ?_) (fun hc => ?_)
  · have h := h.1 hc
    exact wp_vret (pc := 20) d_X2_begin_20 rfl h
  · have h := h.2 hc
    refine wp_iload_n (pc := 4) d_X2_begin_4 rfl ?_
    refine wp_bipush (pc := 5) (v := 30) d_X2_begin_5 rfl ?_
    refine wp_icmp_ge (pc := 7) (tgt := 20) d_X2_begin_7 (by decide) (fun hc => ?_) (fun hc => ?_)
    · have h := h.1 hc
      exact wp_vret (pc := 20) d_X2_begin_20 rfl h
    · have h := h.2 hc
      refine wp_aload_n (pc := 10) d_X2_begin_10 rfl ?_
      obtain ⟨ho1, h⟩ := h
      refine wp_getR (pc := 11) d_X2_begin_11 fl_X2_34 (fun _ _ _ => rfl) ho1 ?_
      refine wp_iload_n (pc := 14) d_X2_begin_14 rfl ?_
      refine wp_aload_n (pc := 15) d_X2_begin_15 rfl ?_
      refine wp_getI (pc := 16) d_X2_begin_16 fl_X2_43 (fun _ _ _ => rfl) ho1 ?_
      obtain ⟨ho2, h⟩ := h
      obtain ⟨hi3, h⟩ := h
      refine wp_iast (pc := 19) d_X2_begin_19 ho2 hi3 ?_
      exact wp_vret (pc := 20) d_X2_begin_20 rfl h
theorem d_X2_emit_0 : decode prog_4_method_6_code 0 = .ok (.aload_n 0, 1) := by decide +kernel
theorem d_X2_emit_1 : decode prog_4_method_6_code 1 = .ok (.getfield 43, 3) := by decide +kernel
theorem d_X2_emit_4 : decode prog_4_method_6_code 4 = .ok (.iconst 2, 1) := by decide +kernel
theorem d_X2_emit_5 : decode prog_4_method_6_code 5 = .ok (.iadd, 1) := by decide +kernel
theorem d_X2_emit_6 : decode prog_4_method_6_code 6 = .ok (.aload_n 0, 1) := by decide +kernel
theorem d_X2_emit_7 : decode prog_4_method_6_code 7 = .ok (.getfield 40, 3) := by decide +kernel
theorem d_X2_emit_10 : decode prog_4_method_6_code 10 = .ok (.arraylength, 1) := by decide +kernel
theorem d_X2_emit_11 : decode prog_4_method_6_code 11 = .ok (.if_icmp .le 21, 3) := by decide +kernel
theorem d_X2_emit_14 : decode prog_4_method_6_code 14 = .ok (.aload_n 0, 1) := by decide +kernel
theorem d_X2_emit_15 : decode prog_4_method_6_code 15 = .ok (.aload_n 0, 1) := by decide +kernel
theorem d_X2_emit_16 : decode prog_4_method_6_code 16 = .ok (.getfield 40, 3) := by decide +kernel
theorem d_X2_emit_19 : decode prog_4_method_6_code 19 = .ok (.iconst 2, 1) := by decide +kernel
theorem d_X2_emit_20 : decode prog_4_method_6_code 20 = .ok (.aload_n 0, 1) := by decide +kernel
theorem d_X2_emit_21 : decode prog_4_method_6_code 21 = .ok (.getfield 40, 3) := by decide +kernel
theorem d_X2_emit_24 : decode prog_4_method_6_code 24 = .ok (.arraylength, 1) := by decide +kernel
theorem d_X2_emit_25 : decode prog_4_method_6_code 25 = .ok (.imul, 1) := by decide +kernel
theorem d_X2_emit_26 : decode prog_4_method_6_code 26 = .ok (.invokestatic 58, 3) := by decide +kernel
theorem d_X2_emit_29 : decode prog_4_method_6_code 29 = .ok (.putfield 40, 3) := by decide +kernel
theorem d_X2_emit_32 : decode prog_4_method_6_code 32 = .ok (.aload_n 0, 1) := by decide +kernel
theorem d_X2_emit_33 : decode prog_4_method_6_code 33 = .ok (.getfield 43, 3) := by decide +kernel
theorem d_X2_emit_36 : decode prog_4_method_6_code 36 = .ok (.iconst 2, 1) := by decide +kernel
theorem d_X2_emit_37 : decode prog_4_method_6_code 37 = .ok (.iadd, 1) := by decide +kernel
theorem d_X2_emit_38 : decode prog_4_method_6_code 38 = .ok (.aload_n 0, 1) := by decide +kernel
theorem d_X2_emit_39 : decode prog_4_method_6_code 39 = .ok (.getfield 40, 3) := by decide +kernel
theorem d_X2_emit_42 : decode prog_4_method_6_code 42 = .ok (.arraylength, 1) := by decide +kernel
theorem d_X2_emit_43 : decode prog_4_method_6_code 43 = .ok (.if_icmp .le 5, 3) := by decide +kernel
theorem d_X2_emit_46 : decode prog_4_method_6_code 46 = .ok (.iconst 1, 1) := by decide +kernel
theorem d_X2_emit_47 : decode prog_4_method_6_code 47 = .ok (.ireturn, 1) := by decide +kernel
theorem d_X2_emit_48 : decode prog_4_method_6_code 48 = .ok (.aload_n 0, 1) := by decide +kernel
theorem d_X2_emit_49 : decode prog_4_method_6_code 49 = .ok (.getfield 40, 3) := by decide +kernel
theorem d_X2_emit_52 : decode prog_4_method_6_code 52 = .ok (.aload_n 0, 1) := by decide +kernel
theorem d_X2_emit_53 : decode prog_4_method_6_code 53 = .ok (.getfield 43, 3) := by decide +kernel
theorem d_X2_emit_56 : decode prog_4_method_6_code 56 = .ok (.iload_n 1, 1) := by decide +kernel
theorem d_X2_emit_57 : decode prog_4_method_6_code 57 = .ok (.iastore, 1) := by decide +kernel
theorem d_X2_emit_58 : decode prog_4_method_6_code 58 = .ok (.aload_n 0, 1) := by decide +kernel
theorem d_X2_emit_59 : decode prog_4_method_6_code 59 = .ok (.getfield 40, 3) := by decide +kernel
theorem d_X2_emit_62 : decode prog_4_method_6_code 62 = .ok (.aload_n 0, 1) := by decide +kernel
theorem d_X2_emit_63 : decode prog_4_method_6_code 63 = .ok (.getfield 43, 3) := by decide +kernel
theorem d_X2_emit_66 : decode prog_4_method_6_code 66 = .ok (.iconst 1, 1) := by decide +kernel
theorem d_X2_emit_67 : decode prog_4_method_6_code 67 = .ok (.iadd, 1) := by decide +kernel
theorem d_X2_emit_68 : decode prog_4_method_6_code 68 = .ok (.iload_n 2, 1) := by decide +kernel
theorem d_X2_emit_69 : decode prog_4_method_6_code 69 = .ok (.iastore, 1) := by decide +kernel
theorem d_X2_emit_70 : decode prog_4_method_6_code 70 = .ok (.aload_n 0, 1) := by decide +kernel
theorem d_X2_emit_71 : decode prog_4_method_6_code 71 = .ok (.dup, 1) := by decide +kernel
theorem d_X2_emit_72 : decode prog_4_method_6_code 72 = .ok (.getfield 43, 3) := by decide +kernel
theorem d_X2_emit_75 : decode prog_4_method_6_code 75 = .ok (.iconst 2, 1) := by decide +kernel
theorem d_X2_emit_76 : decode prog_4_method_6_code 76 = .ok (.iadd, 1) := by decide +kernel
theorem d_X2_emit_77 : decode prog_4_method_6_code 77 = .ok (.putfield 43, 3) := by decide +kernel
theorem d_X2_emit_80 : decode prog_4_method_6_code 80 = .ok (.iconst 1, 1) := by decide +kernel
theorem d_X2_emit_81 : decode prog_4_method_6_code 81 = .ok (.ireturn, 1) := by decide +kernel
theorem v_X2_emit_0 {E : EE} {d : Nat} {Q : Option AV → AH → Prop} {x0 : Nat} {x1 : Int32} {x2 : Int32} {G : AH} (h0 : 0 < d) (h : isO E G x0 2 ∧ (isO E G (gR G x0 9) 14 ∧ ((((gI G x0 10) + 2) ≤ (nI (gN G (gR G x0 9))) → wp E d M_X2_emit 32 [some (vr x0), some (vi x1), some (vi x2)] [] G Q) ∧ (¬ (((gI G x0 10) + 2) ≤ (nI (gN G (gR G x0 9)))) → wpR E (d - 1) M_J7_copyOf_59c91 [vr (gR G x0 9), vi (2 * (nI (gN G (gR G x0 9))))] G (fun r3 G4 => isO E G4 x0 2 ∧ (wp E d M_X2_emit 32 [some (vr x0), some (vi x1), some (vi x2)] [] (sR G4 x0 9 r3) Q)))))) : wp E d M_X2_emit 0 [some (vr x0), some (vi x1), some (vi x2)] [] G Q := by
  refine wp_aload_n (pc := 0) d_X2_emit_0 rfl ?_
  obtain ⟨ho1, h⟩ := h
  refine wp_getI (pc := 1) d_X2_emit_1 fl_X2_43 (fun _ _ _ => rfl) ho1 ?_
  refine wp_iconst (pc := 4) (v := 2) d_X2_emit_4 rfl ?_
  refine wp_iadd (pc := 5) d_X2_emit_5 ?_
  refine wp_aload_n (pc := 6) d_X2_emit_6 rfl ?_
  refine wp_getR (pc := 7) d_X2_emit_7 fl_X2_40 (fun _ _ _ => rfl) ho1 ?_
  obtain ⟨ho2, h⟩ := h
  refine wp_alen (pc := 10) d_X2_emit_10 ho2 (by decide) rfl ?_
  refine wp_icmp_le (pc := 11) (tgt := 32) d_X2_emit_11 (by decide) (fun hc => ?_) (fun hc => ?_)
  · have h := h.1 hc
    refine wp_sub ?_ h
    exact ⟨rfl, ⟨rfl, ⟨rfl, trivial⟩⟩⟩
  · have h := h.2 hc
    refine wp_aload_n (pc := 14) d_X2_emit_14 rfl ?_
    refine wp_aload_n (pc := 15) d_X2_emit_15 rfl ?_
    refine wp_getR (pc := 16) d_X2_emit_16 fl_X2_40 (fun _ _ _ => rfl) ho1 ?_
    refine wp_iconst (pc := 19) (v := 2) d_X2_emit_19 rfl ?_
    refine wp_aload_n (pc := 20) d_X2_emit_20 rfl ?_
    refine wp_getR (pc := 21) d_X2_emit_21 fl_X2_40 (fun _ _ _ => rfl) ho1 ?_
    refine wp_alen (pc := 24) d_X2_emit_24 ho2 (by decide) rfl ?_
    refine wp_imul (pc := 25) d_X2_emit_25 ?_
    refine wp_invS (pc := 26) (N := M_J7_copyOf_59c91) (As := [vr _, vi _]) (rest := [vr _]) d_X2_emit_26 ml_X2_58 mk_J7_copyOf_59c91 ms_J7_copyOf_59c91 h0 (Nat.le_of_ble_eq_true rfl) ?_
    refine wpM.mono h (fun rr G4 hr => ?_)
    obtain ⟨r3, rfl, h⟩ := hr
    show wp E d M_X2_emit 29 [some (vr _), some (vi _), some (vi _)] [vr _, vr _] G4 Q
    obtain ⟨ho5, h⟩ := h
    refine wp_putR (pc := 29) d_X2_emit_29 fl_X2_40 (fun _ _ _ => rfl) (Or.inr ⟨_, rfl⟩) (Or.inl rfl) ho5 ?_
    refine wp_sub ?_ h
    exact ⟨rfl, ⟨rfl, ⟨rfl, trivial⟩⟩⟩
theorem v_X2_emit_32 {E : EE} {d : Nat} {Q : Option AV → AH → Prop} {x0 : Nat} {x1 : Int32} {x2 : Int32} {G : AH} (h : isO E G x0 2 ∧ (isO E G (gR G x0 9) 14 ∧ ((((gI G x0 10) + 2) ≤ (nI (gN G (gR G x0 9))) → vp_in (gI G x0 10) (gN G (gR G x0 9)) ∧ (∀ G4 : AH, G4 = sI G (gR G x0 9) (Int32.toNatClampNeg (gI G x0 10)) x1 → isO E G4 (gR G4 x0 9) 14 ∧ (vp_in ((gI G4 x0 10) + 1) (gN G4 (gR G4 x0 9)) ∧ (∀ G8 : AH, G8 = sI G4 (gR G4 x0 9) (Int32.toNatClampNeg ((gI G4 x0 10) + 1)) x2 → ∀ G10 : AH, G10 = sI G8 x0 10 ((gI G8 x0 10) + 2) → Q (some (vi 1)) G10)))) ∧ (¬ (((gI G x0 10) + 2) ≤ (nI (gN G (gR G x0 9)))) → Q (some (vi 1)) G)))) : wp E d M_X2_emit 32 [some (vr x0), some (vi x1), some (vi x2)] [] G Q := by
  refine wp_aload_n (pc := 32) d_X2_emit_32 rfl ?_
  obtain ⟨ho1, h⟩ := h
  refine wp_getI (pc := 33) d_X2_emit_33 fl_X2_43 (fun _ _ _ => rfl) ho1 ?_
  refine wp_iconst (pc := 36) (v := 2) d_X2_emit_36 rfl ?_
  refine wp_iadd (pc := 37) d_X2_emit_37 ?_
  refine wp_aload_n (pc := 38) d_X2_emit_38 rfl ?_
  refine wp_getR (pc := 39) d_X2_emit_39 fl_X2_40 (fun _ _ _ => rfl) ho1 ?_
  obtain ⟨ho2, h⟩ := h
  refine wp_alen (pc := 42) d_X2_emit_42 ho2 (by decide) rfl ?_
  refine wp_icmp_le (pc := 43) (tgt := 48) d_X2_emit_43 (by decide) (fun hc => ?_) (fun hc => ?_)
  · have h := h.1 hc
    refine wp_aload_n (pc := 48) d_X2_emit_48 rfl ?_
    refine wp_getR (pc := 49) d_X2_emit_49 fl_X2_40 (fun _ _ _ => rfl) ho1 ?_
    refine wp_aload_n (pc := 52) d_X2_emit_52 rfl ?_
    refine wp_getI (pc := 53) d_X2_emit_53 fl_X2_43 (fun _ _ _ => rfl) ho1 ?_
    refine wp_iload_n (pc := 56) d_X2_emit_56 rfl ?_
    obtain ⟨hi3, h⟩ := h
    refine wp_iast (pc := 57) d_X2_emit_57 ho2 hi3 ?_
    refine wp_nm (fun G4 eG4 => ?_)
    have h := h G4 eG4
    have ho5 := isO_sI eG4 ho1
    refine wp_aload_n (pc := 58) d_X2_emit_58 rfl ?_
    refine wp_getR (pc := 59) d_X2_emit_59 fl_X2_40 (fun _ _ _ => rfl) ho5 ?_
    refine wp_aload_n (pc := 62) d_X2_emit_62 rfl ?_
    refine wp_getI (pc := 63) d_X2_emit_63 fl_X2_43 (fun _ _ _ => rfl) ho5 ?_
    refine wp_iconst (pc := 66) (v := 1) d_X2_emit_66 rfl ?_
    refine wp_iadd (pc := 67) d_X2_emit_67 ?_
    refine wp_iload_n (pc := 68) d_X2_emit_68 rfl ?_
    obtain ⟨ho6, h⟩ := h
    obtain ⟨hi7, h⟩ := h
    refine wp_iast (pc := 69) d_X2_emit_69 ho6 hi7 ?_
    refine wp_nm (fun G8 eG8 => ?_)
    have h := h G8 eG8
    have ho9 := isO_sI eG8 ho5
    refine wp_aload_n (pc := 70) d_X2_emit_70 rfl ?_
    refine wp_dup (pc := 71) d_X2_emit_71 (c1_r _) ?_
    refine wp_getI (pc := 72) d_X2_emit_72 fl_X2_43 (fun _ _ _ => rfl) ho9 ?_
    refine wp_iconst (pc := 75) (v := 2) d_X2_emit_75 rfl ?_
    refine wp_iadd (pc := 76) d_X2_emit_76 ?_
    refine wp_putI (pc := 77) d_X2_emit_77 fl_X2_43 (fun _ _ _ => rfl) (Or.inl rfl) ho9 (okI_int _) ?_
    refine wp_nm (fun G10 eG10 => ?_)
    have h := h G10 eG10
    have ho11 := isO_sI eG10 ho9
    refine wp_iconst (pc := 80) (v := 1) d_X2_emit_80 rfl ?_
    exact wp_zret (pc := 81) d_X2_emit_81 rfl rfl h
  · have h := h.2 hc
    refine wp_iconst (pc := 46) (v := 1) d_X2_emit_46 rfl ?_
    exact wp_zret (pc := 47) d_X2_emit_47 rfl rfl h
theorem d_X2_note_0 : decode prog_4_method_7_code 0 = .ok (.aload_n 0, 1) := by decide +kernel
theorem d_X2_note_1 : decode prog_4_method_7_code 1 = .ok (.getfield 21, 3) := by decide +kernel
theorem d_X2_note_4 : decode prog_4_method_7_code 4 = .ok (.aload_n 0, 1) := by decide +kernel
theorem d_X2_note_5 : decode prog_4_method_7_code 5 = .ok (.getfield 46, 3) := by decide +kernel
theorem d_X2_note_8 : decode prog_4_method_7_code 8 = .ok (.arraylength, 1) := by decide +kernel
theorem d_X2_note_9 : decode prog_4_method_7_code 9 = .ok (.if_icmp .lt 21, 3) := by decide +kernel
theorem d_X2_note_12 : decode prog_4_method_7_code 12 = .ok (.aload_n 0, 1) := by decide +kernel
theorem d_X2_note_13 : decode prog_4_method_7_code 13 = .ok (.aload_n 0, 1) := by decide +kernel
theorem d_X2_note_14 : decode prog_4_method_7_code 14 = .ok (.getfield 46, 3) := by decide +kernel
theorem d_X2_note_17 : decode prog_4_method_7_code 17 = .ok (.iconst 2, 1) := by decide +kernel
theorem d_X2_note_18 : decode prog_4_method_7_code 18 = .ok (.aload_n 0, 1) := by decide +kernel
theorem d_X2_note_19 : decode prog_4_method_7_code 19 = .ok (.getfield 46, 3) := by decide +kernel
theorem d_X2_note_22 : decode prog_4_method_7_code 22 = .ok (.arraylength, 1) := by decide +kernel
theorem d_X2_note_23 : decode prog_4_method_7_code 23 = .ok (.imul, 1) := by decide +kernel
theorem d_X2_note_24 : decode prog_4_method_7_code 24 = .ok (.invokestatic 58, 3) := by decide +kernel
theorem d_X2_note_27 : decode prog_4_method_7_code 27 = .ok (.putfield 46, 3) := by decide +kernel
theorem d_X2_note_30 : decode prog_4_method_7_code 30 = .ok (.aload_n 0, 1) := by decide +kernel
theorem d_X2_note_31 : decode prog_4_method_7_code 31 = .ok (.getfield 21, 3) := by decide +kernel
theorem d_X2_note_34 : decode prog_4_method_7_code 34 = .ok (.aload_n 0, 1) := by decide +kernel
theorem d_X2_note_35 : decode prog_4_method_7_code 35 = .ok (.getfield 46, 3) := by decide +kernel
theorem d_X2_note_38 : decode prog_4_method_7_code 38 = .ok (.arraylength, 1) := by decide +kernel
theorem d_X2_note_39 : decode prog_4_method_7_code 39 = .ok (.if_icmp .lt 5, 3) := by decide +kernel
theorem d_X2_note_42 : decode prog_4_method_7_code 42 = .ok (.iconst (-1), 1) := by decide +kernel
theorem d_X2_note_43 : decode prog_4_method_7_code 43 = .ok (.ireturn, 1) := by decide +kernel
theorem d_X2_note_44 : decode prog_4_method_7_code 44 = .ok (.aload_n 0, 1) := by decide +kernel
theorem d_X2_note_45 : decode prog_4_method_7_code 45 = .ok (.getfield 46, 3) := by decide +kernel
theorem d_X2_note_48 : decode prog_4_method_7_code 48 = .ok (.aload_n 0, 1) := by decide +kernel
theorem d_X2_note_49 : decode prog_4_method_7_code 49 = .ok (.getfield 21, 3) := by decide +kernel
theorem d_X2_note_52 : decode prog_4_method_7_code 52 = .ok (.iload_n 1, 1) := by decide +kernel
theorem d_X2_note_53 : decode prog_4_method_7_code 53 = .ok (.iastore, 1) := by decide +kernel
theorem d_X2_note_54 : decode prog_4_method_7_code 54 = .ok (.aload_n 0, 1) := by decide +kernel
theorem d_X2_note_55 : decode prog_4_method_7_code 55 = .ok (.dup, 1) := by decide +kernel
theorem d_X2_note_56 : decode prog_4_method_7_code 56 = .ok (.getfield 21, 3) := by decide +kernel
theorem d_X2_note_59 : decode prog_4_method_7_code 59 = .ok (.dup_x1, 1) := by decide +kernel
theorem d_X2_note_60 : decode prog_4_method_7_code 60 = .ok (.iconst 1, 1) := by decide +kernel
theorem d_X2_note_61 : decode prog_4_method_7_code 61 = .ok (.iadd, 1) := by decide +kernel
theorem d_X2_note_62 : decode prog_4_method_7_code 62 = .ok (.putfield 21, 3) := by decide +kernel
theorem d_X2_note_65 : decode prog_4_method_7_code 65 = .ok (.ireturn, 1) := by decide +kernel
theorem v_X2_note_0 {E : EE} {d : Nat} {Q : Option AV → AH → Prop} {x0 : Nat} {x1 : Int32} {G : AH} (h0 : 0 < d) (h : isO E G x0 2 ∧ (isO E G (gR G x0 11) 14 ∧ (((gI G x0 3) < (nI (gN G (gR G x0 11))) → wp E d M_X2_note 30 [some (vr x0), some (vi x1)] [] G Q) ∧ (¬ ((gI G x0 3) < (nI (gN G (gR G x0 11)))) → wpR E (d - 1) M_J7_copyOf_59c91 [vr (gR G x0 11), vi (2 * (nI (gN G (gR G x0 11))))] G (fun r3 G4 => isO E G4 x0 2 ∧ (wp E d M_X2_note 30 [some (vr x0), some (vi x1)] [] (sR G4 x0 11 r3) Q)))))) : wp E d M_X2_note 0 [some (vr x0), some (vi x1)] [] G Q := by
  refine wp_aload_n (pc := 0) d_X2_note_0 rfl ?_
  obtain ⟨ho1, h⟩ := h
  refine wp_getI (pc := 1) d_X2_note_1 fl_X2_21 (fun _ _ _ => rfl) ho1 ?_
  refine wp_aload_n (pc := 4) d_X2_note_4 rfl ?_
  refine wp_getR (pc := 5) d_X2_note_5 fl_X2_46 (fun _ _ _ => rfl) ho1 ?_
  obtain ⟨ho2, h⟩ := h
  refine wp_alen (pc := 8) d_X2_note_8 ho2 (by decide) rfl ?_
  refine wp_icmp_lt (pc := 9) (tgt := 30) d_X2_note_9 (by decide) (fun hc => ?_) (fun hc => ?_)
  · have h := h.1 hc
    refine wp_sub ?_ h
    exact ⟨rfl, ⟨rfl, trivial⟩⟩
  · have h := h.2 hc
    refine wp_aload_n (pc := 12) d_X2_note_12 rfl ?_
    refine wp_aload_n (pc := 13) d_X2_note_13 rfl ?_
    refine wp_getR (pc := 14) d_X2_note_14 fl_X2_46 (fun _ _ _ => rfl) ho1 ?_
    refine wp_iconst (pc := 17) (v := 2) d_X2_note_17 rfl ?_
    refine wp_aload_n (pc := 18) d_X2_note_18 rfl ?_
    refine wp_getR (pc := 19) d_X2_note_19 fl_X2_46 (fun _ _ _ => rfl) ho1 ?_
    refine wp_alen (pc := 22) d_X2_note_22 ho2 (by decide) rfl ?_
    refine wp_imul (pc := 23) d_X2_note_23 ?_
    refine wp_invS (pc := 24) (N := M_J7_copyOf_59c91) (As := [vr _, vi _]) (rest := [vr _]) d_X2_note_24 ml_X2_58 mk_J7_copyOf_59c91 ms_J7_copyOf_59c91 h0 (Nat.le_of_ble_eq_true rfl) ?_
    refine wpM.mono h (fun rr G4 hr => ?_)
    obtain ⟨r3, rfl, h⟩ := hr
    show wp E d M_X2_note 27 [some (vr _), some (vi _)] [vr _, vr _] G4 Q
    obtain ⟨ho5, h⟩ := h
    refine wp_putR (pc := 27) d_X2_note_27 fl_X2_46 (fun _ _ _ => rfl) (Or.inr ⟨_, rfl⟩) (Or.inl rfl) ho5 ?_
    refine wp_sub ?_ h
    exact ⟨rfl, ⟨rfl, trivial⟩⟩
theorem v_X2_note_30 {E : EE} {d : Nat} {Q : Option AV → AH → Prop} {x0 : Nat} {x1 : Int32} {G : AH} (h : isO E G x0 2 ∧ (isO E G (gR G x0 11) 14 ∧ (((gI G x0 3) < (nI (gN G (gR G x0 11))) → vp_in (gI G x0 3) (gN G (gR G x0 11)) ∧ (∀ G4 : AH, G4 = sI G (gR G x0 11) (Int32.toNatClampNeg (gI G x0 3)) x1 → ∀ G6 : AH, G6 = sI G4 x0 3 ((gI G4 x0 3) + 1) → Q (some (vi (gI G4 x0 3))) G6)) ∧ (¬ ((gI G x0 3) < (nI (gN G (gR G x0 11)))) → Q (some (vi (-1))) G)))) : wp E d M_X2_note 30 [some (vr x0), some (vi x1)] [] G Q := by
  refine wp_aload_n (pc := 30) d_X2_note_30 rfl ?_
  obtain ⟨ho1, h⟩ := h
  refine wp_getI (pc := 31) d_X2_note_31 fl_X2_21 (fun _ _ _ => rfl) ho1 ?_
  refine wp_aload_n (pc := 34) d_X2_note_34 rfl ?_
  refine wp_getR (pc := 35) d_X2_note_35 fl_X2_46 (fun _ _ _ => rfl) ho1 ?_
  obtain ⟨ho2, h⟩ := h
  refine wp_alen (pc := 38) d_X2_note_38 ho2 (by decide) rfl ?_
  refine wp_icmp_lt (pc := 39) (tgt := 44) d_X2_note_39 (by decide) (fun hc => ?_) (fun hc => ?_)
  · have h := h.1 hc
    refine wp_aload_n (pc := 44) d_X2_note_44 rfl ?_
    refine wp_getR (pc := 45) d_X2_note_45 fl_X2_46 (fun _ _ _ => rfl) ho1 ?_
    refine wp_aload_n (pc := 48) d_X2_note_48 rfl ?_
    refine wp_getI (pc := 49) d_X2_note_49 fl_X2_21 (fun _ _ _ => rfl) ho1 ?_
    refine wp_iload_n (pc := 52) d_X2_note_52 rfl ?_
    obtain ⟨hi3, h⟩ := h
    refine wp_iast (pc := 53) d_X2_note_53 ho2 hi3 ?_
    refine wp_nm (fun G4 eG4 => ?_)
    have h := h G4 eG4
    have ho5 := isO_sI eG4 ho1
    refine wp_aload_n (pc := 54) d_X2_note_54 rfl ?_
    refine wp_dup (pc := 55) d_X2_note_55 (c1_r _) ?_
    refine wp_getI (pc := 56) d_X2_note_56 fl_X2_21 (fun _ _ _ => rfl) ho5 ?_
    refine wp_dup_x1 (pc := 59) d_X2_note_59 (c1_i _) (c1_r _) ?_
    refine wp_iconst (pc := 60) (v := 1) d_X2_note_60 rfl ?_
    refine wp_iadd (pc := 61) d_X2_note_61 ?_
    refine wp_putI (pc := 62) d_X2_note_62 fl_X2_21 (fun _ _ _ => rfl) (Or.inl rfl) ho5 (okI_int _) ?_
    refine wp_nm (fun G6 eG6 => ?_)
    have h := h G6 eG6
    have ho7 := isO_sI eG6 ho5
    exact wp_iret (pc := 65) d_X2_note_65 rfl h
  · have h := h.2 hc
    refine wp_iconst (pc := 42) (v := (-1)) d_X2_note_42 rfl ?_
    exact wp_iret (pc := 43) d_X2_note_43 rfl h
theorem d_X2_amend_0 : decode prog_4_method_8_code 0 = .ok (.iload_n 1, 1) := by decide +kernel
theorem d_X2_amend_1 : decode prog_4_method_8_code 1 = .ok (.ifCond .lt 18, 3) := by decide +kernel
theorem d_X2_amend_4 : decode prog_4_method_8_code 4 = .ok (.iload_n 1, 1) := by decide +kernel
theorem d_X2_amend_5 : decode prog_4_method_8_code 5 = .ok (.aload_n 0, 1) := by decide +kernel
theorem d_X2_amend_6 : decode prog_4_method_8_code 6 = .ok (.getfield 21, 3) := by decide +kernel
theorem d_X2_amend_9 : decode prog_4_method_8_code 9 = .ok (.if_icmp .ge 10, 3) := by decide +kernel
theorem d_X2_amend_12 : decode prog_4_method_8_code 12 = .ok (.aload_n 0, 1) := by decide +kernel
theorem d_X2_amend_13 : decode prog_4_method_8_code 13 = .ok (.getfield 46, 3) := by decide +kernel
theorem d_X2_amend_16 : decode prog_4_method_8_code 16 = .ok (.iload_n 1, 1) := by decide +kernel
theorem d_X2_amend_17 : decode prog_4_method_8_code 17 = .ok (.iload_n 2, 1) := by decide +kernel
theorem d_X2_amend_18 : decode prog_4_method_8_code 18 = .ok (.iastore, 1) := by decide +kernel
theorem d_X2_amend_19 : decode prog_4_method_8_code 19 = .ok (.return_, 1) := by decide +kernel
theorem v_X2_amend_0 {E : EE} {d : Nat} {Q : Option AV → AH → Prop} {x0 : Nat} {x1 : Int32} {x2 : Int32} {G : AH} (h : (x1 < 0 → Q none G) ∧ (¬ (x1 < 0) → isO E G x0 2 ∧ (((gI G x0 3) ≤ x1 → Q none G) ∧ (¬ ((gI G x0 3) ≤ x1) → isO E G (gR G x0 11) 14 ∧ (vp_in x1 (gN G (gR G x0 11)) ∧ (Q none (sI G (gR G x0 11) (Int32.toNatClampNeg x1) x2))))))) : wp E d M_X2_amend 0 [some (vr x0), some (vi x1), some (vi x2)] [] G Q := by
  refine wp_iload_n (pc := 0) d_X2_amend_0 rfl ?_
  refine wp_if_lt (pc := 1) (tgt := 19) d_X2_amend_1 (by decide) (fun hc => ?_) (fun hc => ?_)
  · have h := h.1 hc
    exact wp_vret (pc := 19) d_X2_amend_19 rfl h
  · have h := h.2 hc
    refine wp_iload_n (pc := 4) d_X2_amend_4 rfl ?_
    refine wp_aload_n (pc := 5) d_X2_amend_5 rfl ?_
    obtain ⟨ho1, h⟩ := h
    refine wp_getI (pc := 6) d_X2_amend_6 fl_X2_21 (fun _ _ _ => rfl) ho1 ?_
    refine wp_icmp_ge (pc := 9) (tgt := 19) d_X2_amend_9 (by decide) (fun hc => ?_) (fun hc => ?_)
    · have h := h.1 hc
      exact wp_vret (pc := 19) d_X2_amend_19 rfl h
    · have h := h.2 hc
      refine wp_aload_n (pc := 12) d_X2_amend_12 rfl ?_
      refine wp_getR (pc := 13) d_X2_amend_13 fl_X2_46 (fun _ _ _ => rfl) ho1 ?_
      refine wp_iload_n (pc := 16) d_X2_amend_16 rfl ?_
      refine wp_iload_n (pc := 17) d_X2_amend_17 rfl ?_
      obtain ⟨ho2, h⟩ := h
      obtain ⟨hi3, h⟩ := h
      refine wp_iast (pc := 18) d_X2_amend_18 ho2 hi3 ?_
      exact wp_vret (pc := 19) d_X2_amend_19 rfl h
theorem d_X2_finish_0 : decode prog_4_method_4_code 0 = .ok (.iload_n 1, 1) := by decide +kernel
theorem d_X2_finish_1 : decode prog_4_method_4_code 1 = .ok (.ifCond .lt 9, 3) := by decide +kernel
theorem d_X2_finish_4 : decode prog_4_method_4_code 4 = .ok (.iload_n 1, 1) := by decide +kernel
theorem d_X2_finish_5 : decode prog_4_method_4_code 5 = .ok (.bipush 30, 2) := by decide +kernel
theorem d_X2_finish_7 : decode prog_4_method_4_code 7 = .ok (.if_icmp .lt 4, 3) := by decide +kernel
theorem d_X2_finish_10 : decode prog_4_method_4_code 10 = .ok (.return_, 1) := by decide +kernel
theorem d_X2_finish_11 : decode prog_4_method_4_code 11 = .ok (.aload_n 0, 1) := by decide +kernel
theorem d_X2_finish_12 : decode prog_4_method_4_code 12 = .ok (.getfield 37, 3) := by decide +kernel
theorem d_X2_finish_15 : decode prog_4_method_4_code 15 = .ok (.iload_n 1, 1) := by decide +kernel
theorem d_X2_finish_16 : decode prog_4_method_4_code 16 = .ok (.aload_n 0, 1) := by decide +kernel
theorem d_X2_finish_17 : decode prog_4_method_4_code 17 = .ok (.getfield 43, 3) := by decide +kernel
theorem d_X2_finish_20 : decode prog_4_method_4_code 20 = .ok (.iastore, 1) := by decide +kernel
theorem d_X2_finish_21 : decode prog_4_method_4_code 21 = .ok (.aload_n 0, 1) := by decide +kernel
theorem d_X2_finish_22 : decode prog_4_method_4_code 22 = .ok (.getfield 24, 3) := by decide +kernel
theorem d_X2_finish_25 : decode prog_4_method_4_code 25 = .ok (.iload_n 1, 1) := by decide +kernel
theorem d_X2_finish_26 : decode prog_4_method_4_code 26 = .ok (.iload_n 2, 1) := by decide +kernel
theorem d_X2_finish_27 : decode prog_4_method_4_code 27 = .ok (.iastore, 1) := by decide +kernel
theorem d_X2_finish_28 : decode prog_4_method_4_code 28 = .ok (.iload_n 1, 1) := by decide +kernel
theorem d_X2_finish_29 : decode prog_4_method_4_code 29 = .ok (.bipush 24, 2) := by decide +kernel
theorem d_X2_finish_31 : decode prog_4_method_4_code 31 = .ok (.if_icmp .lt 13, 3) := by decide +kernel
theorem d_X2_finish_34 : decode prog_4_method_4_code 34 = .ok (.aload_n 0, 1) := by decide +kernel
theorem d_X2_finish_35 : decode prog_4_method_4_code 35 = .ok (.iload_n 1, 1) := by decide +kernel
theorem d_X2_finish_36 : decode prog_4_method_4_code 36 = .ok (.bipush 24, 2) := by decide +kernel
theorem d_X2_finish_38 : decode prog_4_method_4_code 38 = .ok (.isub, 1) := by decide +kernel
theorem d_X2_finish_39 : decode prog_4_method_4_code 39 = .ok (.iconst 1, 1) := by decide +kernel
theorem d_X2_finish_40 : decode prog_4_method_4_code 40 = .ok (.iadd, 1) := by decide +kernel
theorem d_X2_finish_41 : decode prog_4_method_4_code 41 = .ok (.putfield 18, 3) := by decide +kernel
theorem d_X2_finish_44 : decode prog_4_method_4_code 44 = .ok (.return_, 1) := by decide +kernel
theorem v_X2_finish_0 {E : EE} {d : Nat} {Q : Option AV → AH → Prop} {x0 : Nat} {x1 : Int32} {x2 : Int32} {G : AH} (h : (x1 < 0 → Q none G) ∧ (¬ (x1 < 0) → (x1 < 30 → isO E G x0 2 ∧ (isO E G (gR G x0 8) 14 ∧ (vp_in x1 (gN G (gR G x0 8)) ∧ (∀ G4 : AH, G4 = sI G (gR G x0 8) (Int32.toNatClampNeg x1) (gI G x0 10) → isO E G4 (gR G4 x0 4) 14 ∧ (vp_in x1 (gN G4 (gR G4 x0 4)) ∧ (∀ G8 : AH, G8 = sI G4 (gR G4 x0 4) (Int32.toNatClampNeg x1) x2 → (x1 < 24 → Q none G8) ∧ (¬ (x1 < 24) → ∀ G10 : AH, G10 = sI G8 x0 2 ((x1 - 24) + 1) → Q none G10))))))) ∧ (¬ (x1 < 30) → Q none G))) : wp E d M_X2_finish 0 [some (vr x0), some (vi x1), some (vi x2)] [] G Q := by
  refine wp_iload_n (pc := 0) d_X2_finish_0 rfl ?_
  refine wp_if_lt (pc := 1) (tgt := 10) d_X2_finish_1 (by decide) (fun hc => ?_) (fun hc => ?_)
  · have h := h.1 hc
    exact wp_vret (pc := 10) d_X2_finish_10 rfl h
  · have h := h.2 hc
    refine wp_iload_n (pc := 4) d_X2_finish_4 rfl ?_
    refine wp_bipush (pc := 5) (v := 30) d_X2_finish_5 rfl ?_
    refine wp_icmp_lt (pc := 7) (tgt := 11) d_X2_finish_7 (by decide) (fun hc => ?_) (fun hc => ?_)
    · have h := h.1 hc
      refine wp_aload_n (pc := 11) d_X2_finish_11 rfl ?_
      obtain ⟨ho1, h⟩ := h
      refine wp_getR (pc := 12) d_X2_finish_12 fl_X2_37 (fun _ _ _ => rfl) ho1 ?_
      refine wp_iload_n (pc := 15) d_X2_finish_15 rfl ?_
      refine wp_aload_n (pc := 16) d_X2_finish_16 rfl ?_
      refine wp_getI (pc := 17) d_X2_finish_17 fl_X2_43 (fun _ _ _ => rfl) ho1 ?_
      obtain ⟨ho2, h⟩ := h
      obtain ⟨hi3, h⟩ := h
      refine wp_iast (pc := 20) d_X2_finish_20 ho2 hi3 ?_
      refine wp_nm (fun G4 eG4 => ?_)
      have h := h G4 eG4
      have ho5 := isO_sI eG4 ho1
      refine wp_aload_n (pc := 21) d_X2_finish_21 rfl ?_
      refine wp_getR (pc := 22) d_X2_finish_22 fl_X2_24 (fun _ _ _ => rfl) ho5 ?_
      refine wp_iload_n (pc := 25) d_X2_finish_25 rfl ?_
      refine wp_iload_n (pc := 26) d_X2_finish_26 rfl ?_
      obtain ⟨ho6, h⟩ := h
      obtain ⟨hi7, h⟩ := h
      refine wp_iast (pc := 27) d_X2_finish_27 ho6 hi7 ?_
      refine wp_nm (fun G8 eG8 => ?_)
      have h := h G8 eG8
      have ho9 := isO_sI eG8 ho5
      refine wp_iload_n (pc := 28) d_X2_finish_28 rfl ?_
      refine wp_bipush (pc := 29) (v := 24) d_X2_finish_29 rfl ?_
      refine wp_icmp_lt (pc := 31) (tgt := 44) d_X2_finish_31 (by decide) (fun hc => ?_) (fun hc => ?_)
      · have h := h.1 hc
        exact wp_vret (pc := 44) d_X2_finish_44 rfl h
      · have h := h.2 hc
        refine wp_aload_n (pc := 34) d_X2_finish_34 rfl ?_
        refine wp_iload_n (pc := 35) d_X2_finish_35 rfl ?_
        refine wp_bipush (pc := 36) (v := 24) d_X2_finish_36 rfl ?_
        refine wp_isub (pc := 38) d_X2_finish_38 ?_
        refine wp_iconst (pc := 39) (v := 1) d_X2_finish_39 rfl ?_
        refine wp_iadd (pc := 40) d_X2_finish_40 ?_
        refine wp_putI (pc := 41) d_X2_finish_41 fl_X2_18 (fun _ _ _ => rfl) (Or.inl rfl) ho9 (okI_int _) ?_
        refine wp_nm (fun G10 eG10 => ?_)
        have h := h G10 eG10
        have ho11 := isO_sI eG10 ho9
        exact wp_vret (pc := 44) d_X2_finish_44 rfl h
    · have h := h.2 hc
      exact wp_vret (pc := 10) d_X2_finish_10 rfl h
theorem d_X2_describe_0 : decode prog_4_method_5_code 0 = .ok (.iload_n 1, 1) := by decide +kernel
theorem d_X2_describe_1 : decode prog_4_method_5_code 1 = .ok (.ifCond .lt 9, 3) := by decide +kernel
theorem d_X2_describe_4 : decode prog_4_method_5_code 4 = .ok (.iload_n 1, 1) := by decide +kernel
theorem d_X2_describe_5 : decode prog_4_method_5_code 5 = .ok (.bipush 24, 2) := by decide +kernel
theorem d_X2_describe_7 : decode prog_4_method_5_code 7 = .ok (.if_icmp .lt 4, 3) := by decide +kernel
theorem d_X2_describe_10 : decode prog_4_method_5_code 10 = .ok (.return_, 1) := by decide +kernel
theorem d_X2_describe_11 : decode prog_4_method_5_code 11 = .ok (.aload_n 0, 1) := by decide +kernel
theorem d_X2_describe_12 : decode prog_4_method_5_code 12 = .ok (.getfield 28, 3) := by decide +kernel
theorem d_X2_describe_15 : decode prog_4_method_5_code 15 = .ok (.iload_n 1, 1) := by decide +kernel
theorem d_X2_describe_16 : decode prog_4_method_5_code 16 = .ok (.iload_n 2, 1) := by decide +kernel
theorem d_X2_describe_17 : decode prog_4_method_5_code 17 = .ok (.iastore, 1) := by decide +kernel
theorem d_X2_describe_18 : decode prog_4_method_5_code 18 = .ok (.aload_n 0, 1) := by decide +kernel
theorem d_X2_describe_19 : decode prog_4_method_5_code 19 = .ok (.getfield 31, 3) := by decide +kernel
theorem d_X2_describe_22 : decode prog_4_method_5_code 22 = .ok (.iload_n 1, 1) := by decide +kernel
theorem d_X2_describe_23 : decode prog_4_method_5_code 23 = .ok (.iload_n 3, 1) := by decide +kernel
theorem d_X2_describe_24 : decode prog_4_method_5_code 24 = .ok (.iastore, 1) := by decide +kernel
theorem d_X2_describe_25 : decode prog_4_method_5_code 25 = .ok (.aload_n 0, 1) := by decide +kernel
theorem d_X2_describe_26 : decode prog_4_method_5_code 26 = .ok (.getfield 24, 3) := by decide +kernel
theorem d_X2_describe_29 : decode prog_4_method_5_code 29 = .ok (.iload_n 1, 1) := by decide +kernel
theorem d_X2_describe_30 : decode prog_4_method_5_code 30 = .ok (.iaload, 1) := by decide +kernel
theorem d_X2_describe_31 : decode prog_4_method_5_code 31 = .ok (.ifCond .ne 15, 3) := by decide +kernel
theorem d_X2_describe_34 : decode prog_4_method_5_code 34 = .ok (.aload_n 0, 1) := by decide +kernel
theorem d_X2_describe_35 : decode prog_4_method_5_code 35 = .ok (.dup, 1) := by decide +kernel
theorem d_X2_describe_36 : decode prog_4_method_5_code 36 = .ok (.getfield 9, 3) := by decide +kernel
theorem d_X2_describe_39 : decode prog_4_method_5_code 39 = .ok (.iconst 1, 1) := by decide +kernel
theorem d_X2_describe_40 : decode prog_4_method_5_code 40 = .ok (.iload_n 1, 1) := by decide +kernel
theorem d_X2_describe_41 : decode prog_4_method_5_code 41 = .ok (.ishl, 1) := by decide +kernel
theorem d_X2_describe_42 : decode prog_4_method_5_code 42 = .ok (.ior, 1) := by decide +kernel
theorem d_X2_describe_43 : decode prog_4_method_5_code 43 = .ok (.putfield 9, 3) := by decide +kernel
theorem d_X2_describe_46 : decode prog_4_method_5_code 46 = .ok (.aload_n 0, 1) := by decide +kernel
theorem d_X2_describe_47 : decode prog_4_method_5_code 47 = .ok (.iload_n 1, 1) := by decide +kernel
theorem d_X2_describe_48 : decode prog_4_method_5_code 48 = .ok (.iconst 1, 1) := by decide +kernel
theorem d_X2_describe_49 : decode prog_4_method_5_code 49 = .ok (.iadd, 1) := by decide +kernel
theorem d_X2_describe_50 : decode prog_4_method_5_code 50 = .ok (.putfield 15, 3) := by decide +kernel
theorem d_X2_describe_53 : decode prog_4_method_5_code 53 = .ok (.return_, 1) := by decide +kernel
theorem v_X2_describe_0 {E : EE} {d : Nat} {Q : Option AV → AH → Prop} {x0 : Nat} {x1 : Int32} {x2 : Int32} {x3 : Int32} {G : AH} (h : (x1 < 0 → Q none G) ∧ (¬ (x1 < 0) → (x1 < 24 → isO E G x0 2 ∧ (isO E G (gR G x0 5) 14 ∧ (vp_in x1 (gN G (gR G x0 5)) ∧ (∀ G4 : AH, G4 = sI G (gR G x0 5) (Int32.toNatClampNeg x1) x2 → isO E G4 (gR G4 x0 6) 14 ∧ (vp_in x1 (gN G4 (gR G4 x0 6)) ∧ (∀ G8 : AH, G8 = sI G4 (gR G4 x0 6) (Int32.toNatClampNeg x1) x3 → isO E G8 (gR G8 x0 4) 14 ∧ (vp_in x1 (gN G8 (gR G8 x0 4)) ∧ ((¬ (gI G8 (gR G8 x0 4) (Int32.toNatClampNeg x1)) = 0 → wp E d M_X2_describe 46 [some (vr x0), some (vi x1), some (vi x2), some (vi x3)] [] G8 Q) ∧ ((gI G8 (gR G8 x0 4) (Int32.toNatClampNeg x1)) = 0 → ∀ G12 : AH, G12 = sI G8 x0 0 ((gI G8 x0 0) ||| (1 <<< (x1 &&& 31))) → wp E d M_X2_describe 46 [some (vr x0), some (vi x1), some (vi x2), some (vi x3)] [] G12 Q))))))))) ∧ (¬ (x1 < 24) → Q none G))) : wp E d M_X2_describe 0 [some (vr x0), some (vi x1), some (vi x2), some (vi x3)] [] G Q := by
  refine wp_iload_n (pc := 0) d_X2_describe_0 rfl ?_
  refine wp_if_lt (pc := 1) (tgt := 10) d_X2_describe_1 (by decide) (fun hc => ?_) (fun hc => ?_)
  · have h := h.1 hc
    exact wp_vret (pc := 10) d_X2_describe_10 rfl h
  · have h := h.2 hc
    refine wp_iload_n (pc := 4) d_X2_describe_4 rfl ?_
    refine wp_bipush (pc := 5) (v := 24) d_X2_describe_5 rfl ?_
    refine wp_icmp_lt (pc := 7) (tgt := 11) d_X2_describe_7 (by decide) (fun hc => ?_) (fun hc => ?_)
    · have h := h.1 hc
      refine wp_aload_n (pc := 11) d_X2_describe_11 rfl ?_
      obtain ⟨ho1, h⟩ := h
      refine wp_getR (pc := 12) d_X2_describe_12 fl_X2_28 (fun _ _ _ => rfl) ho1 ?_
      refine wp_iload_n (pc := 15) d_X2_describe_15 rfl ?_
      refine wp_iload_n (pc := 16) d_X2_describe_16 rfl ?_
      obtain ⟨ho2, h⟩ := h
      obtain ⟨hi3, h⟩ := h
      refine wp_iast (pc := 17) d_X2_describe_17 ho2 hi3 ?_
      refine wp_nm (fun G4 eG4 => ?_)
      have h := h G4 eG4
      have ho5 := isO_sI eG4 ho1
      refine wp_aload_n (pc := 18) d_X2_describe_18 rfl ?_
      refine wp_getR (pc := 19) d_X2_describe_19 fl_X2_31 (fun _ _ _ => rfl) ho5 ?_
      refine wp_iload_n (pc := 22) d_X2_describe_22 rfl ?_
      refine wp_iload_n (pc := 23) d_X2_describe_23 rfl ?_
      obtain ⟨ho6, h⟩ := h
      obtain ⟨hi7, h⟩ := h
      refine wp_iast (pc := 24) d_X2_describe_24 ho6 hi7 ?_
      refine wp_nm (fun G8 eG8 => ?_)
      have h := h G8 eG8
      have ho9 := isO_sI eG8 ho5
      refine wp_aload_n (pc := 25) d_X2_describe_25 rfl ?_
      refine wp_getR (pc := 26) d_X2_describe_26 fl_X2_24 (fun _ _ _ => rfl) ho9 ?_
      refine wp_iload_n (pc := 29) d_X2_describe_29 rfl ?_
      obtain ⟨ho10, h⟩ := h
      obtain ⟨hi11, h⟩ := h
      refine wp_iald (pc := 30) d_X2_describe_30 ho10 hi11 ?_
      refine wp_if_ne (pc := 31) (tgt := 46) d_X2_describe_31 (by decide) (fun hc => ?_) (fun hc => ?_)
      · have h := h.1 hc
        refine wp_sub ?_ h
        exact ⟨rfl, ⟨rfl, ⟨rfl, ⟨rfl, trivial⟩⟩⟩⟩
      · have h := h.2 hc
        refine wp_aload_n (pc := 34) d_X2_describe_34 rfl ?_
        refine wp_dup (pc := 35) d_X2_describe_35 (c1_r _) ?_
        refine wp_getI (pc := 36) d_X2_describe_36 fl_X2_9 (fun _ _ _ => rfl) ho9 ?_
        refine wp_iconst (pc := 39) (v := 1) d_X2_describe_39 rfl ?_
        refine wp_iload_n (pc := 40) d_X2_describe_40 rfl ?_
        refine wp_ishl (pc := 41) d_X2_describe_41 ?_
        refine wp_ior (pc := 42) d_X2_describe_42 ?_
        refine wp_putI (pc := 43) d_X2_describe_43 fl_X2_9 (fun _ _ _ => rfl) (Or.inl rfl) ho9 (okI_int _) ?_
        refine wp_nm (fun G12 eG12 => ?_)
        have h := h G12 eG12
        have ho13 := isO_sI eG12 ho9
        refine wp_sub ?_ h
        exact ⟨rfl, ⟨rfl, ⟨rfl, ⟨rfl, trivial⟩⟩⟩⟩
    · have h := h.2 hc
      exact wp_vret (pc := 10) d_X2_describe_10 rfl h
theorem v_X2_describe_46 {E : EE} {d : Nat} {Q : Option AV → AH → Prop} {x0 : Nat} {x1 : Int32} {x2 : Int32} {x3 : Int32} {G : AH} (h : isO E G x0 2 ∧ (Q none (sI G x0 1 (x1 + 1)))) : wp E d M_X2_describe 46 [some (vr x0), some (vi x1), some (vi x2), some (vi x3)] [] G Q := by
  refine wp_aload_n (pc := 46) d_X2_describe_46 rfl ?_
  refine wp_iload_n (pc := 47) d_X2_describe_47 rfl ?_
  refine wp_iconst (pc := 48) (v := 1) d_X2_describe_48 rfl ?_
  refine wp_iadd (pc := 49) d_X2_describe_49 ?_
  obtain ⟨ho1, h⟩ := h
  refine wp_putI (pc := 50) d_X2_describe_50 fl_X2_15 (fun _ _ _ => rfl) (Or.inl rfl) ho1 (okI_int _) ?_
  exact wp_vret (pc := 53) d_X2_describe_53 rfl h
theorem d_X2_weighAll_0 : decode prog_4_method_12_code 0 = .ok (.iload 5, 2) := by decide +kernel
theorem d_X2_weighAll_2 : decode prog_4_method_12_code 2 = .ok (.ifCond .lt 13, 3) := by decide +kernel
theorem d_X2_weighAll_5 : decode prog_4_method_12_code 5 = .ok (.iload 5, 2) := by decide +kernel
theorem d_X2_weighAll_7 : decode prog_4_method_12_code 7 = .ok (.aload 4, 2) := by decide +kernel
theorem d_X2_weighAll_9 : decode prog_4_method_12_code 9 = .ok (.arraylength, 1) := by decide +kernel
theorem d_X2_weighAll_10 : decode prog_4_method_12_code 10 = .ok (.iconst 3, 1) := by decide +kernel
theorem d_X2_weighAll_11 : decode prog_4_method_12_code 11 = .ok (.isub, 1) := by decide +kernel
theorem d_X2_weighAll_12 : decode prog_4_method_12_code 12 = .ok (.if_icmp .le 5, 3) := by decide +kernel
theorem d_X2_weighAll_15 : decode prog_4_method_12_code 15 = .ok (.iconst 0, 1) := by decide +kernel
theorem d_X2_weighAll_16 : decode prog_4_method_12_code 16 = .ok (.ireturn, 1) := by decide +kernel
theorem d_X2_weighAll_17 : decode prog_4_method_12_code 17 = .ok (.aload_n 0, 1) := by decide +kernel
theorem d_X2_weighAll_18 : decode prog_4_method_12_code 18 = .ok (.aload_n 1, 1) := by decide +kernel
theorem d_X2_weighAll_19 : decode prog_4_method_12_code 19 = .ok (.iload_n 2, 1) := by decide +kernel
theorem d_X2_weighAll_20 : decode prog_4_method_12_code 20 = .ok (.invokevirtual 106, 3) := by decide +kernel
theorem d_X2_weighAll_23 : decode prog_4_method_12_code 23 = .ok (.iconst 0, 1) := by decide +kernel
theorem d_X2_weighAll_24 : decode prog_4_method_12_code 24 = .ok (.istore 6, 2) := by decide +kernel
theorem d_X2_weighAll_26 : decode prog_4_method_12_code 26 = .ok (.iload 6, 2) := by decide +kernel
theorem d_X2_weighAll_28 : decode prog_4_method_12_code 28 = .ok (.iconst 3, 1) := by decide +kernel
theorem d_X2_weighAll_29 : decode prog_4_method_12_code 29 = .ok (.if_icmp .ge 18, 3) := by decide +kernel
theorem d_X2_weighAll_32 : decode prog_4_method_12_code 32 = .ok (.aload 4, 2) := by decide +kernel
theorem d_X2_weighAll_34 : decode prog_4_method_12_code 34 = .ok (.iload 5, 2) := by decide +kernel
theorem d_X2_weighAll_36 : decode prog_4_method_12_code 36 = .ok (.iload 6, 2) := by decide +kernel
theorem d_X2_weighAll_38 : decode prog_4_method_12_code 38 = .ok (.iadd, 1) := by decide +kernel
theorem d_X2_weighAll_39 : decode prog_4_method_12_code 39 = .ok (.lconst 0, 1) := by decide +kernel
theorem d_X2_weighAll_40 : decode prog_4_method_12_code 40 = .ok (.lastore, 1) := by decide +kernel
theorem d_X2_weighAll_41 : decode prog_4_method_12_code 41 = .ok (.iinc 6 1, 3) := by decide +kernel
theorem d_X2_weighAll_44 : decode prog_4_method_12_code 44 = .ok (.goto (-18), 3) := by decide +kernel
theorem d_X2_weighAll_47 : decode prog_4_method_12_code 47 = .ok (.iconst 0, 1) := by decide +kernel
theorem d_X2_weighAll_48 : decode prog_4_method_12_code 48 = .ok (.istore 6, 2) := by decide +kernel
theorem d_X2_weighAll_50 : decode prog_4_method_12_code 50 = .ok (.iconst 0, 1) := by decide +kernel
theorem d_X2_weighAll_51 : decode prog_4_method_12_code 51 = .ok (.istore 7, 2) := by decide +kernel
theorem d_X2_weighAll_53 : decode prog_4_method_12_code 53 = .ok (.iload 7, 2) := by decide +kernel
theorem d_X2_weighAll_55 : decode prog_4_method_12_code 55 = .ok (.aload_n 0, 1) := by decide +kernel
theorem d_X2_weighAll_56 : decode prog_4_method_12_code 56 = .ok (.getfield 15, 3) := by decide +kernel
theorem d_X2_weighAll_59 : decode prog_4_method_12_code 59 = .ok (.if_icmp .ge 60, 3) := by decide +kernel
theorem d_X2_weighAll_62 : decode prog_4_method_12_code 62 = .ok (.aload_n 0, 1) := by decide +kernel
theorem d_X2_weighAll_63 : decode prog_4_method_12_code 63 = .ok (.iload 7, 2) := by decide +kernel
theorem d_X2_weighAll_65 : decode prog_4_method_12_code 65 = .ok (.aload_n 3, 1) := by decide +kernel
theorem d_X2_weighAll_66 : decode prog_4_method_12_code 66 = .ok (.invokevirtual 110, 3) := by decide +kernel
theorem d_X2_weighAll_69 : decode prog_4_method_12_code 69 = .ok (.istore 8, 2) := by decide +kernel
theorem d_X2_weighAll_71 : decode prog_4_method_12_code 71 = .ok (.iload 8, 2) := by decide +kernel
theorem d_X2_weighAll_73 : decode prog_4_method_12_code 73 = .ok (.ifCond .le 12, 3) := by decide +kernel
theorem d_X2_weighAll_76 : decode prog_4_method_12_code 76 = .ok (.iload 6, 2) := by decide +kernel
theorem d_X2_weighAll_78 : decode prog_4_method_12_code 78 = .ok (.iconst 1, 1) := by decide +kernel
theorem d_X2_weighAll_79 : decode prog_4_method_12_code 79 = .ok (.iload 7, 2) := by decide +kernel
theorem d_X2_weighAll_81 : decode prog_4_method_12_code 81 = .ok (.ishl, 1) := by decide +kernel
theorem d_X2_weighAll_82 : decode prog_4_method_12_code 82 = .ok (.ior, 1) := by decide +kernel
theorem d_X2_weighAll_83 : decode prog_4_method_12_code 83 = .ok (.istore 6, 2) := by decide +kernel
theorem d_X2_weighAll_85 : decode prog_4_method_12_code 85 = .ok (.aload 4, 2) := by decide +kernel
theorem d_X2_weighAll_87 : decode prog_4_method_12_code 87 = .ok (.iload 5, 2) := by decide +kernel
theorem d_X2_weighAll_89 : decode prog_4_method_12_code 89 = .ok (.aload_n 0, 1) := by decide +kernel
theorem d_X2_weighAll_90 : decode prog_4_method_12_code 90 = .ok (.getfield 24, 3) := by decide +kernel
theorem d_X2_weighAll_93 : decode prog_4_method_12_code 93 = .ok (.iload 7, 2) := by decide +kernel
theorem d_X2_weighAll_95 : decode prog_4_method_12_code 95 = .ok (.iaload, 1) := by decide +kernel
theorem d_X2_weighAll_96 : decode prog_4_method_12_code 96 = .ok (.iadd, 1) := by decide +kernel
theorem d_X2_weighAll_97 : decode prog_4_method_12_code 97 = .ok (.dup2, 1) := by decide +kernel
theorem d_X2_weighAll_98 : decode prog_4_method_12_code 98 = .ok (.laload, 1) := by decide +kernel
theorem d_X2_weighAll_99 : decode prog_4_method_12_code 99 = .ok (.aload_n 0, 1) := by decide +kernel
theorem d_X2_weighAll_100 : decode prog_4_method_12_code 100 = .ok (.getfield 28, 3) := by decide +kernel
theorem d_X2_weighAll_103 : decode prog_4_method_12_code 103 = .ok (.iload 7, 2) := by decide +kernel
theorem d_X2_weighAll_105 : decode prog_4_method_12_code 105 = .ok (.iaload, 1) := by decide +kernel
theorem d_X2_weighAll_106 : decode prog_4_method_12_code 106 = .ok (.i2l, 1) := by decide +kernel
theorem d_X2_weighAll_107 : decode prog_4_method_12_code 107 = .ok (.iload 8, 2) := by decide +kernel
theorem d_X2_weighAll_109 : decode prog_4_method_12_code 109 = .ok (.i2l, 1) := by decide +kernel
theorem d_X2_weighAll_110 : decode prog_4_method_12_code 110 = .ok (.lmul, 1) := by decide +kernel
theorem d_X2_weighAll_111 : decode prog_4_method_12_code 111 = .ok (.ladd, 1) := by decide +kernel
theorem d_X2_weighAll_112 : decode prog_4_method_12_code 112 = .ok (.lastore, 1) := by decide +kernel
theorem d_X2_weighAll_113 : decode prog_4_method_12_code 113 = .ok (.iinc 7 1, 3) := by decide +kernel
theorem d_X2_weighAll_116 : decode prog_4_method_12_code 116 = .ok (.goto (-63), 3) := by decide +kernel
theorem d_X2_weighAll_119 : decode prog_4_method_12_code 119 = .ok (.iconst 0, 1) := by decide +kernel
theorem d_X2_weighAll_120 : decode prog_4_method_12_code 120 = .ok (.istore 7, 2) := by decide +kernel
theorem d_X2_weighAll_122 : decode prog_4_method_12_code 122 = .ok (.iload 7, 2) := by decide +kernel
theorem d_X2_weighAll_124 : decode prog_4_method_12_code 124 = .ok (.aload_n 0, 1) := by decide +kernel
theorem d_X2_weighAll_125 : decode prog_4_method_12_code 125 = .ok (.getfield 18, 3) := by decide +kernel
theorem d_X2_weighAll_128 : decode prog_4_method_12_code 128 = .ok (.if_icmp .ge 39, 3) := by decide +kernel
theorem d_X2_weighAll_131 : decode prog_4_method_12_code 131 = .ok (.aload 4, 2) := by decide +kernel
theorem d_X2_weighAll_133 : decode prog_4_method_12_code 133 = .ok (.iload 5, 2) := by decide +kernel
theorem d_X2_weighAll_135 : decode prog_4_method_12_code 135 = .ok (.aload_n 0, 1) := by decide +kernel
theorem d_X2_weighAll_136 : decode prog_4_method_12_code 136 = .ok (.getfield 24, 3) := by decide +kernel
theorem d_X2_weighAll_139 : decode prog_4_method_12_code 139 = .ok (.bipush 24, 2) := by decide +kernel
theorem d_X2_weighAll_141 : decode prog_4_method_12_code 141 = .ok (.iload 7, 2) := by decide +kernel
theorem d_X2_weighAll_143 : decode prog_4_method_12_code 143 = .ok (.iadd, 1) := by decide +kernel
theorem d_X2_weighAll_144 : decode prog_4_method_12_code 144 = .ok (.iaload, 1) := by decide +kernel
theorem d_X2_weighAll_145 : decode prog_4_method_12_code 145 = .ok (.iadd, 1) := by decide +kernel
theorem d_X2_weighAll_146 : decode prog_4_method_12_code 146 = .ok (.dup2, 1) := by decide +kernel
theorem d_X2_weighAll_147 : decode prog_4_method_12_code 147 = .ok (.laload, 1) := by decide +kernel
theorem d_X2_weighAll_148 : decode prog_4_method_12_code 148 = .ok (.aload_n 0, 1) := by decide +kernel
theorem d_X2_weighAll_149 : decode prog_4_method_12_code 149 = .ok (.bipush 24, 2) := by decide +kernel
theorem d_X2_weighAll_151 : decode prog_4_method_12_code 151 = .ok (.iload 7, 2) := by decide +kernel
theorem d_X2_weighAll_153 : decode prog_4_method_12_code 153 = .ok (.iadd, 1) := by decide +kernel
theorem d_X2_weighAll_154 : decode prog_4_method_12_code 154 = .ok (.aload_n 3, 1) := by decide +kernel
theorem d_X2_weighAll_155 : decode prog_4_method_12_code 155 = .ok (.invokevirtual 110, 3) := by decide +kernel
theorem d_X2_weighAll_158 : decode prog_4_method_12_code 158 = .ok (.i2l, 1) := by decide +kernel
theorem d_X2_weighAll_159 : decode prog_4_method_12_code 159 = .ok (.ladd, 1) := by decide +kernel
theorem d_X2_weighAll_160 : decode prog_4_method_12_code 160 = .ok (.lastore, 1) := by decide +kernel
theorem d_X2_weighAll_161 : decode prog_4_method_12_code 161 = .ok (.iinc 7 1, 3) := by decide +kernel
theorem d_X2_weighAll_164 : decode prog_4_method_12_code 164 = .ok (.goto (-42), 3) := by decide +kernel
theorem d_X2_weighAll_167 : decode prog_4_method_12_code 167 = .ok (.iload 6, 2) := by decide +kernel
theorem d_X2_weighAll_169 : decode prog_4_method_12_code 169 = .ok (.ireturn, 1) := by decide +kernel
theorem v_X2_weighAll_0 {E : EE} {d : Nat} {Q : Option AV → AH → Prop} {x0 : Nat} {x1 : Nat} {x2 : Int32} {x3 : Nat} {x4 : Nat} {x5 : Int32} {G : AH} (h0 : 0 < d) (h : (x5 < 0 → Q (some (vi 0)) G) ∧ (¬ (x5 < 0) → isO E G x4 15 ∧ ((x5 ≤ ((nI (gN G x4)) - 3) → isO E G x0 2 ∧ (wpV E (d - 1) M_X2_look [vr x0, vr x1, vi x2] G (fun G2 => wp E d M_X2_weighAll 26 [some (vr x0), some (vr x1), some (vi x2), some (vr x3), some (vr x4), some (vi x5), some (vi 0), none, none] [] G2 Q))) ∧ (¬ (x5 ≤ ((nI (gN G x4)) - 3)) → Q (some (vi 0)) G)))) : wp E d M_X2_weighAll 0 [some (vr x0), some (vr x1), some (vi x2), some (vr x3), some (vr x4), some (vi x5), none, none, none] [] G Q := by
  refine wp_iload (pc := 0) d_X2_weighAll_0 rfl ?_
  refine wp_if_lt (pc := 2) (tgt := 15) d_X2_weighAll_2 (by decide) (fun hc => ?_) (fun hc => ?_)
  · have h := h.1 hc
    refine wp_iconst (pc := 15) (v := 0) d_X2_weighAll_15 rfl ?_
    exact wp_iret (pc := 16) d_X2_weighAll_16 rfl h
  · have h := h.2 hc
    refine wp_iload (pc := 5) d_X2_weighAll_5 rfl ?_
    refine wp_aload (pc := 7) d_X2_weighAll_7 rfl ?_
    obtain ⟨ho1, h⟩ := h
    refine wp_alen (pc := 9) d_X2_weighAll_9 ho1 (by decide) rfl ?_
    refine wp_iconst (pc := 10) (v := 3) d_X2_weighAll_10 rfl ?_
    refine wp_isub (pc := 11) d_X2_weighAll_11 ?_
    refine wp_icmp_le (pc := 12) (tgt := 17) d_X2_weighAll_12 (by decide) (fun hc => ?_) (fun hc => ?_)
    · have h := h.1 hc
      refine wp_aload_n (pc := 17) d_X2_weighAll_17 rfl ?_
      refine wp_aload_n (pc := 18) d_X2_weighAll_18 rfl ?_
      refine wp_iload_n (pc := 19) d_X2_weighAll_19 rfl ?_
      obtain ⟨ho3, h⟩ := h
      refine wp_invV (pc := 20) (N := M_X2_look) (As := [vr _, vi _]) (rest := []) (r := (cn_2, ct_2, 15)) d_X2_weighAll_20 ml_X2_106 mk_X2_look mv_X2_look h0 ho3 rfl rfl (Nat.le_of_ble_eq_true rfl) ?_
      refine wpM.mono h (fun rr G2 hr => ?_)
      obtain ⟨rfl, h⟩ := hr
      show wp E d M_X2_weighAll 23 [some (vr _), some (vr _), some (vi _), some (vr _), some (vr _), some (vi _), none, none, none] [] G2 Q
      refine wp_iconst (pc := 23) (v := 0) d_X2_weighAll_23 rfl ?_
      refine wp_istore (pc := 24) (lv' := [some (vr _), some (vr _), some (vi _), some (vr _), some (vr _), some (vi _), some (vi _), none, none]) d_X2_weighAll_24 (by decide) rfl ?_
      refine wp_sub ?_ h
      exact ⟨rfl, ⟨rfl, ⟨rfl, ⟨rfl, ⟨rfl, ⟨rfl, ⟨rfl, trivial⟩⟩⟩⟩⟩⟩⟩
    · have h := h.2 hc
      refine wp_iconst (pc := 15) (v := 0) d_X2_weighAll_15 rfl ?_
      exact wp_iret (pc := 16) d_X2_weighAll_16 rfl h
theorem v_X2_weighAll_26 {E : EE} {d : Nat} {Q : Option AV → AH → Prop} {x0 : Nat} {x1 : Nat} {x2 : Int32} {x3 : Nat} {x4 : Nat} {x5 : Int32} {x6 : Int32} {G : AH} (h : (3 ≤ x6 → wp E d M_X2_weighAll 53 [some (vr x0), some (vr x1), some (vi x2), some (vr x3), some (vr x4), some (vi x5), some (vi 0), some (vi 0), none] [] G Q) ∧ (¬ (3 ≤ x6) → isO E G x4 15 ∧ (vp_in (x5 + x6) (gN G x4) ∧ (wp E d M_X2_weighAll 26 [some (vr x0), some (vr x1), some (vi x2), some (vr x3), some (vr x4), some (vi x5), some (vi (x6 + 1)), none, none] [] (sJ G x4 (Int32.toNatClampNeg (x5 + x6)) 0) Q)))) : wp E d M_X2_weighAll 26 [some (vr x0), some (vr x1), some (vi x2), some (vr x3), some (vr x4), some (vi x5), some (vi x6), none, none] [] G Q := by
  refine wp_iload (pc := 26) d_X2_weighAll_26 rfl ?_
  refine wp_iconst (pc := 28) (v := 3) d_X2_weighAll_28 rfl ?_
  refine wp_icmp_ge (pc := 29) (tgt := 47) d_X2_weighAll_29 (by decide) (fun hc => ?_) (fun hc => ?_)
  · have h := h.1 hc
    refine wp_iconst (pc := 47) (v := 0) d_X2_weighAll_47 rfl ?_
    refine wp_istore (pc := 48) (lv' := [some (vr _), some (vr _), some (vi _), some (vr _), some (vr _), some (vi _), some (vi _), none, none]) d_X2_weighAll_48 (by decide) rfl ?_
    refine wp_iconst (pc := 50) (v := 0) d_X2_weighAll_50 rfl ?_
    refine wp_istore (pc := 51) (lv' := [some (vr _), some (vr _), some (vi _), some (vr _), some (vr _), some (vi _), some (vi _), some (vi _), none]) d_X2_weighAll_51 (by decide) rfl ?_
    refine wp_sub ?_ h
    exact ⟨rfl, ⟨rfl, ⟨rfl, ⟨rfl, ⟨rfl, ⟨rfl, ⟨rfl, ⟨rfl, trivial⟩⟩⟩⟩⟩⟩⟩⟩
  · have h := h.2 hc
    refine wp_aload (pc := 32) d_X2_weighAll_32 rfl ?_
    refine wp_iload (pc := 34) d_X2_weighAll_34 rfl ?_
    refine wp_iload (pc := 36) d_X2_weighAll_36 rfl ?_
    refine wp_iadd (pc := 38) d_X2_weighAll_38 ?_
    refine wp_lconst (pc := 39) (v := 0) d_X2_weighAll_39 rfl ?_
    obtain ⟨ho1, h⟩ := h
    obtain ⟨hi2, h⟩ := h
    refine wp_last (pc := 40) d_X2_weighAll_40 ho1 hi2 ?_
    refine wp_iinc (pc := 41) (v := 1) (lv' := [some (vr _), some (vr _), some (vi _), some (vr _), some (vr _), some (vi _), some (vi _), none, none]) d_X2_weighAll_41 (by decide) rfl rfl rfl ?_
    refine wp_goto (pc := 44) (tgt := 26) d_X2_weighAll_44 (by decide) ?_
    refine wp_sub ?_ h
    exact ⟨rfl, ⟨rfl, ⟨rfl, ⟨rfl, ⟨rfl, ⟨rfl, ⟨rfl, trivial⟩⟩⟩⟩⟩⟩⟩
theorem v_X2_weighAll_53 {E : EE} {d : Nat} {Q : Option AV → AH → Prop} {x0 : Nat} {x1 : Nat} {x2 : Int32} {x3 : Nat} {x4 : Nat} {x5 : Int32} {x6 : Int32} {x7 : Int32} {G : AH} (h0 : 0 < d) (h : isO E G x0 2 ∧ (((gI G x0 1) ≤ x7 → wp E d M_X2_weighAll 122 [some (vr x0), some (vr x1), some (vi x2), some (vr x3), some (vr x4), some (vi x5), some (vi x6), some (vi 0), none] [] G Q) ∧ (¬ ((gI G x0 1) ≤ x7) → wpI E (d - 1) M_X2_run [vr x0, vi x7, vr x3] G (fun r2 G3 => (r2 ≤ 0 → wp E d M_X2_weighAll 85 [some (vr x0), some (vr x1), some (vi x2), some (vr x3), some (vr x4), some (vi x5), some (vi x6), some (vi x7), some (vi r2)] [] G3 Q) ∧ (¬ (r2 ≤ 0) → wp E d M_X2_weighAll 85 [some (vr x0), some (vr x1), some (vi x2), some (vr x3), some (vr x4), some (vi x5), some (vi (x6 ||| (1 <<< (x7 &&& 31)))), some (vi x7), some (vi r2)] [] G3 Q))))) : wp E d M_X2_weighAll 53 [some (vr x0), some (vr x1), some (vi x2), some (vr x3), some (vr x4), some (vi x5), some (vi x6), some (vi x7), none] [] G Q := by
  refine wp_iload (pc := 53) d_X2_weighAll_53 rfl ?_
  refine wp_aload_n (pc := 55) d_X2_weighAll_55 rfl ?_
  obtain ⟨ho1, h⟩ := h
  refine wp_getI (pc := 56) d_X2_weighAll_56 fl_X2_15 (fun _ _ _ => rfl) ho1 ?_
  refine wp_icmp_ge (pc := 59) (tgt := 119) d_X2_weighAll_59 (by decide) (fun hc => ?_) (fun hc => ?_)
  · have h := h.1 hc
    refine wp_iconst (pc := 119) (v := 0) d_X2_weighAll_119 rfl ?_
    refine wp_istore (pc := 120) (lv' := [some (vr _), some (vr _), some (vi _), some (vr _), some (vr _), some (vi _), some (vi _), some (vi _), none]) d_X2_weighAll_120 (by decide) rfl ?_
    refine wp_sub ?_ h
    exact ⟨rfl, ⟨rfl, ⟨rfl, ⟨rfl, ⟨rfl, ⟨rfl, ⟨rfl, ⟨rfl, trivial⟩⟩⟩⟩⟩⟩⟩⟩
  · have h := h.2 hc
    refine wp_aload_n (pc := 62) d_X2_weighAll_62 rfl ?_
    refine wp_iload (pc := 63) d_X2_weighAll_63 rfl ?_
    refine wp_aload_n (pc := 65) d_X2_weighAll_65 rfl ?_
    refine wp_invV (pc := 66) (N := M_X2_run) (As := [vi _, vr _]) (rest := []) (r := (cn_2, ct_2, 15)) d_X2_weighAll_66 ml_X2_110 mk_X2_run mv_X2_run h0 ho1 rfl rfl (Nat.le_of_ble_eq_true rfl) ?_
    refine wpM.mono h (fun rr G3 hr => ?_)
    obtain ⟨r2, rfl, h⟩ := hr
    show wp E d M_X2_weighAll 69 [some (vr _), some (vr _), some (vi _), some (vr _), some (vr _), some (vi _), some (vi _), some (vi _), none] [vi _] G3 Q
    refine wp_istore (pc := 69) (lv' := [some (vr _), some (vr _), some (vi _), some (vr _), some (vr _), some (vi _), some (vi _), some (vi _), some (vi _)]) d_X2_weighAll_69 (by decide) rfl ?_
    refine wp_iload (pc := 71) d_X2_weighAll_71 rfl ?_
    refine wp_if_le (pc := 73) (tgt := 85) d_X2_weighAll_73 (by decide) (fun hc => ?_) (fun hc => ?_)
    · have h := h.1 hc
      refine wp_sub ?_ h
      exact ⟨rfl, ⟨rfl, ⟨rfl, ⟨rfl, ⟨rfl, ⟨rfl, ⟨rfl, ⟨rfl, ⟨rfl, trivial⟩⟩⟩⟩⟩⟩⟩⟩⟩
    · have h := h.2 hc
      refine wp_iload (pc := 76) d_X2_weighAll_76 rfl ?_
      refine wp_iconst (pc := 78) (v := 1) d_X2_weighAll_78 rfl ?_
      refine wp_iload (pc := 79) d_X2_weighAll_79 rfl ?_
      refine wp_ishl (pc := 81) d_X2_weighAll_81 ?_
      refine wp_ior (pc := 82) d_X2_weighAll_82 ?_
      refine wp_istore (pc := 83) (lv' := [some (vr _), some (vr _), some (vi _), some (vr _), some (vr _), some (vi _), some (vi _), some (vi _), some (vi _)]) d_X2_weighAll_83 (by decide) rfl ?_
      refine wp_sub ?_ h
      exact ⟨rfl, ⟨rfl, ⟨rfl, ⟨rfl, ⟨rfl, ⟨rfl, ⟨rfl, ⟨rfl, ⟨rfl, trivial⟩⟩⟩⟩⟩⟩⟩⟩⟩
theorem v_X2_weighAll_85 {E : EE} {d : Nat} {Q : Option AV → AH → Prop} {x0 : Nat} {x1 : Nat} {x2 : Int32} {x3 : Nat} {x4 : Nat} {x5 : Int32} {x6 : Int32} {x7 : Int32} {x8 : Int32} {G : AH} (h : isO E G x0 2 ∧ (isO E G (gR G x0 4) 14 ∧ (vp_in x7 (gN G (gR G x0 4)) ∧ (isO E G x4 15 ∧ (vp_in (x5 + (gI G (gR G x0 4) (Int32.toNatClampNeg x7))) (gN G x4) ∧ (isO E G (gR G x0 5) 14 ∧ (vp_in x7 (gN G (gR G x0 5)) ∧ (vp_in (x5 + (gI G (gR G x0 4) (Int32.toNatClampNeg x7))) (gN G x4) ∧ (wp E d M_X2_weighAll 53 [some (vr x0), some (vr x1), some (vi x2), some (vr x3), some (vr x4), some (vi x5), some (vi x6), some (vi (x7 + 1)), none] [] (sJ G x4 (Int32.toNatClampNeg (x5 + (gI G (gR G x0 4) (Int32.toNatClampNeg x7)))) ((gJ G x4 (Int32.toNatClampNeg (x5 + (gI G (gR G x0 4) (Int32.toNatClampNeg x7))))) + ((Int32.toInt64 (gI G (gR G x0 5) (Int32.toNatClampNeg x7))) * (Int32.toInt64 x8)))) Q))))))))) : wp E d M_X2_weighAll 85 [some (vr x0), some (vr x1), some (vi x2), some (vr x3), some (vr x4), some (vi x5), some (vi x6), some (vi x7), some (vi x8)] [] G Q := by
  refine wp_aload (pc := 85) d_X2_weighAll_85 rfl ?_
  refine wp_iload (pc := 87) d_X2_weighAll_87 rfl ?_
  refine wp_aload_n (pc := 89) d_X2_weighAll_89 rfl ?_
  obtain ⟨ho1, h⟩ := h
  refine wp_getR (pc := 90) d_X2_weighAll_90 fl_X2_24 (fun _ _ _ => rfl) ho1 ?_
  refine wp_iload (pc := 93) d_X2_weighAll_93 rfl ?_
  obtain ⟨ho2, h⟩ := h
  obtain ⟨hi3, h⟩ := h
  refine wp_iald (pc := 95) d_X2_weighAll_95 ho2 hi3 ?_
  refine wp_iadd (pc := 96) d_X2_weighAll_96 ?_
  refine wp_dup2 (pc := 97) d_X2_weighAll_97 (c1_i _) (c1_r _) ?_
  obtain ⟨ho4, h⟩ := h
  obtain ⟨hi5, h⟩ := h
  refine wp_lald (pc := 98) d_X2_weighAll_98 ho4 hi5 ?_
  refine wp_aload_n (pc := 99) d_X2_weighAll_99 rfl ?_
  refine wp_getR (pc := 100) d_X2_weighAll_100 fl_X2_28 (fun _ _ _ => rfl) ho1 ?_
  refine wp_iload (pc := 103) d_X2_weighAll_103 rfl ?_
  obtain ⟨ho6, h⟩ := h
  obtain ⟨hi7, h⟩ := h
  refine wp_iald (pc := 105) d_X2_weighAll_105 ho6 hi7 ?_
  refine wp_i2l (pc := 106) d_X2_weighAll_106 ?_
  refine wp_iload (pc := 107) d_X2_weighAll_107 rfl ?_
  refine wp_i2l (pc := 109) d_X2_weighAll_109 ?_
  refine wp_lmul (pc := 110) d_X2_weighAll_110 ?_
  refine wp_ladd (pc := 111) d_X2_weighAll_111 ?_
  obtain ⟨hi8, h⟩ := h
  refine wp_last (pc := 112) d_X2_weighAll_112 ho4 hi8 ?_
  refine wp_iinc (pc := 113) (v := 1) (lv' := [some (vr _), some (vr _), some (vi _), some (vr _), some (vr _), some (vi _), some (vi _), some (vi _), some (vi _)]) d_X2_weighAll_113 (by decide) rfl rfl rfl ?_
  refine wp_goto (pc := 116) (tgt := 53) d_X2_weighAll_116 (by decide) ?_
  refine wp_sub ?_ h
  exact ⟨rfl, ⟨rfl, ⟨rfl, ⟨rfl, ⟨rfl, ⟨rfl, ⟨rfl, ⟨rfl, trivial⟩⟩⟩⟩⟩⟩⟩⟩
theorem v_X2_weighAll_122 {E : EE} {d : Nat} {Q : Option AV → AH → Prop} {x0 : Nat} {x1 : Nat} {x2 : Int32} {x3 : Nat} {x4 : Nat} {x5 : Int32} {x6 : Int32} {x7 : Int32} {G : AH} (h0 : 0 < d) (h : isO E G x0 2 ∧ (((gI G x0 2) ≤ x7 → Q (some (vi x6)) G) ∧ (¬ ((gI G x0 2) ≤ x7) → isO E G (gR G x0 4) 14 ∧ (vp_in (24 + x7) (gN G (gR G x0 4)) ∧ (isO E G x4 15 ∧ (vp_in (x5 + (gI G (gR G x0 4) (Int32.toNatClampNeg (24 + x7)))) (gN G x4) ∧ (wpI E (d - 1) M_X2_run [vr x0, vi (24 + x7), vr x3] G (fun r6 G7 => isO E G7 x4 15 ∧ (vp_in (x5 + (gI G (gR G x0 4) (Int32.toNatClampNeg (24 + x7)))) (gN G7 x4) ∧ (wp E d M_X2_weighAll 122 [some (vr x0), some (vr x1), some (vi x2), some (vr x3), some (vr x4), some (vi x5), some (vi x6), some (vi (x7 + 1)), none] [] (sJ G7 x4 (Int32.toNatClampNeg (x5 + (gI G (gR G x0 4) (Int32.toNatClampNeg (24 + x7))))) ((gJ G x4 (Int32.toNatClampNeg (x5 + (gI G (gR G x0 4) (Int32.toNatClampNeg (24 + x7)))))) + (Int32.toInt64 r6))) Q)))))))))) : wp E d M_X2_weighAll 122 [some (vr x0), some (vr x1), some (vi x2), some (vr x3), some (vr x4), some (vi x5), some (vi x6), some (vi x7), none] [] G Q := by
  refine wp_iload (pc := 122) d_X2_weighAll_122 rfl ?_
  refine wp_aload_n (pc := 124) d_X2_weighAll_124 rfl ?_
  obtain ⟨ho1, h⟩ := h
  refine wp_getI (pc := 125) d_X2_weighAll_125 fl_X2_18 (fun _ _ _ => rfl) ho1 ?_
  refine wp_icmp_ge (pc := 128) (tgt := 167) d_X2_weighAll_128 (by decide) (fun hc => ?_) (fun hc => ?_)
  · have h := h.1 hc
    refine wp_iload (pc := 167) d_X2_weighAll_167 rfl ?_
    exact wp_iret (pc := 169) d_X2_weighAll_169 rfl h
  · have h := h.2 hc
    refine wp_aload (pc := 131) d_X2_weighAll_131 rfl ?_
    refine wp_iload (pc := 133) d_X2_weighAll_133 rfl ?_
    refine wp_aload_n (pc := 135) d_X2_weighAll_135 rfl ?_
    refine wp_getR (pc := 136) d_X2_weighAll_136 fl_X2_24 (fun _ _ _ => rfl) ho1 ?_
    refine wp_bipush (pc := 139) (v := 24) d_X2_weighAll_139 rfl ?_
    refine wp_iload (pc := 141) d_X2_weighAll_141 rfl ?_
    refine wp_iadd (pc := 143) d_X2_weighAll_143 ?_
    obtain ⟨ho2, h⟩ := h
    obtain ⟨hi3, h⟩ := h
    refine wp_iald (pc := 144) d_X2_weighAll_144 ho2 hi3 ?_
    refine wp_iadd (pc := 145) d_X2_weighAll_145 ?_
    refine wp_dup2 (pc := 146) d_X2_weighAll_146 (c1_i _) (c1_r _) ?_
    obtain ⟨ho4, h⟩ := h
    obtain ⟨hi5, h⟩ := h
    refine wp_lald (pc := 147) d_X2_weighAll_147 ho4 hi5 ?_
    refine wp_aload_n (pc := 148) d_X2_weighAll_148 rfl ?_
    refine wp_bipush (pc := 149) (v := 24) d_X2_weighAll_149 rfl ?_
    refine wp_iload (pc := 151) d_X2_weighAll_151 rfl ?_
    refine wp_iadd (pc := 153) d_X2_weighAll_153 ?_
    refine wp_aload_n (pc := 154) d_X2_weighAll_154 rfl ?_
    refine wp_invV (pc := 155) (N := M_X2_run) (As := [vi _, vr _]) (rest := [vj _, vi _, vr _]) (r := (cn_2, ct_2, 15)) d_X2_weighAll_155 ml_X2_110 mk_X2_run mv_X2_run h0 ho1 rfl rfl (Nat.le_of_ble_eq_true rfl) ?_
    refine wpM.mono h (fun rr G7 hr => ?_)
    obtain ⟨r6, rfl, h⟩ := hr
    show wp E d M_X2_weighAll 158 [some (vr _), some (vr _), some (vi _), some (vr _), some (vr _), some (vi _), some (vi _), some (vi _), none] [vi _, vj _, vi _, vr _] G7 Q
    refine wp_i2l (pc := 158) d_X2_weighAll_158 ?_
    refine wp_ladd (pc := 159) d_X2_weighAll_159 ?_
    obtain ⟨ho8, h⟩ := h
    obtain ⟨hi9, h⟩ := h
    refine wp_last (pc := 160) d_X2_weighAll_160 ho8 hi9 ?_
    refine wp_iinc (pc := 161) (v := 1) (lv' := [some (vr _), some (vr _), some (vi _), some (vr _), some (vr _), some (vi _), some (vi _), some (vi _), none]) d_X2_weighAll_161 (by decide) rfl rfl rfl ?_
    refine wp_goto (pc := 164) (tgt := 122) d_X2_weighAll_164 (by decide) ?_
    refine wp_sub ?_ h
    exact ⟨rfl, ⟨rfl, ⟨rfl, ⟨rfl, ⟨rfl, ⟨rfl, ⟨rfl, ⟨rfl, trivial⟩⟩⟩⟩⟩⟩⟩⟩
theorem d_X2_look_0 : decode prog_4_method_10_code 0 = .ok (.iconst 0, 1) := by decide +kernel
theorem d_X2_look_1 : decode prog_4_method_10_code 1 = .ok (.istore_n 3, 1) := by decide +kernel
theorem d_X2_look_2 : decode prog_4_method_10_code 2 = .ok (.iload_n 3, 1) := by decide +kernel
theorem d_X2_look_3 : decode prog_4_method_10_code 3 = .ok (.aload_n 1, 1) := by decide +kernel
theorem d_X2_look_4 : decode prog_4_method_10_code 4 = .ok (.getfield 64, 3) := by decide +kernel
theorem d_X2_look_7 : decode prog_4_method_10_code 7 = .ok (.if_icmp .ge 30, 3) := by decide +kernel
theorem d_X2_look_10 : decode prog_4_method_10_code 10 = .ok (.iload_n 3, 1) := by decide +kernel
theorem d_X2_look_11 : decode prog_4_method_10_code 11 = .ok (.aload_n 0, 1) := by decide +kernel
theorem d_X2_look_12 : decode prog_4_method_10_code 12 = .ok (.getfield 55, 3) := by decide +kernel
theorem d_X2_look_15 : decode prog_4_method_10_code 15 = .ok (.arraylength, 1) := by decide +kernel
theorem d_X2_look_16 : decode prog_4_method_10_code 16 = .ok (.if_icmp .ge 21, 3) := by decide +kernel
theorem d_X2_look_19 : decode prog_4_method_10_code 19 = .ok (.aload_n 0, 1) := by decide +kernel
theorem d_X2_look_20 : decode prog_4_method_10_code 20 = .ok (.getfield 55, 3) := by decide +kernel
theorem d_X2_look_23 : decode prog_4_method_10_code 23 = .ok (.iload_n 3, 1) := by decide +kernel
theorem d_X2_look_24 : decode prog_4_method_10_code 24 = .ok (.aload_n 1, 1) := by decide +kernel
theorem d_X2_look_25 : decode prog_4_method_10_code 25 = .ok (.iload_n 2, 1) := by decide +kernel
theorem d_X2_look_26 : decode prog_4_method_10_code 26 = .ok (.iload_n 3, 1) := by decide +kernel
theorem d_X2_look_27 : decode prog_4_method_10_code 27 = .ok (.invokevirtual 69, 3) := by decide +kernel
theorem d_X2_look_30 : decode prog_4_method_10_code 30 = .ok (.iastore, 1) := by decide +kernel
theorem d_X2_look_31 : decode prog_4_method_10_code 31 = .ok (.iinc 3 1, 3) := by decide +kernel
theorem d_X2_look_34 : decode prog_4_method_10_code 34 = .ok (.goto (-32), 3) := by decide +kernel
theorem d_X2_look_37 : decode prog_4_method_10_code 37 = .ok (.return_, 1) := by decide +kernel
theorem v_X2_look_0 {E : EE} {d : Nat} {Q : Option AV → AH → Prop} {x0 : Nat} {x1 : Nat} {x2 : Int32} {G : AH} (h : wp E d M_X2_look 2 [some (vr x0), some (vr x1), some (vi x2), some (vi 0)] [] G Q) : wp E d M_X2_look 0 [some (vr x0), some (vr x1), some (vi x2), none] [] G Q := by
  refine wp_iconst (pc := 0) (v := 0) d_X2_look_0 rfl ?_
  refine wp_istore_n (pc := 1) (lv' := [some (vr _), some (vr _), some (vi _), some (vi _)]) d_X2_look_1 (by decide) rfl ?_
  refine wp_sub ?_ h
  exact ⟨rfl, ⟨rfl, ⟨rfl, ⟨rfl, trivial⟩⟩⟩⟩
theorem v_X2_look_2 {E : EE} {d : Nat} {Q : Option AV → AH → Prop} {x0 : Nat} {x1 : Nat} {x2 : Int32} {x3 : Int32} {G : AH} (h0 : 0 < d) (h : isO E G x1 7 ∧ (((gI G x1 0) ≤ x3 → Q none G) ∧ (¬ ((gI G x1 0) ≤ x3) → isO E G x0 2 ∧ (isO E G (gR G x0 14) 14 ∧ (((nI (gN G (gR G x0 14))) ≤ x3 → Q none G) ∧ (¬ ((nI (gN G (gR G x0 14))) ≤ x3) → wpI E (d - 1) M_X7_valueOf [vr x1, vi x2, vi x3] G (fun r4 G5 => isO E G5 (gR G x0 14) 14 ∧ (vp_in x3 (gN G5 (gR G x0 14)) ∧ (wp E d M_X2_look 2 [some (vr x0), some (vr x1), some (vi x2), some (vi (x3 + 1))] [] (sI G5 (gR G x0 14) (Int32.toNatClampNeg x3) r4) Q))))))))) : wp E d M_X2_look 2 [some (vr x0), some (vr x1), some (vi x2), some (vi x3)] [] G Q := by
  refine wp_iload_n (pc := 2) d_X2_look_2 rfl ?_
  refine wp_aload_n (pc := 3) d_X2_look_3 rfl ?_
  obtain ⟨ho1, h⟩ := h
  refine wp_getI (pc := 4) d_X2_look_4 fl_X2_64 (fun _ _ _ => rfl) ho1 ?_
  refine wp_icmp_ge (pc := 7) (tgt := 37) d_X2_look_7 (by decide) (fun hc => ?_) (fun hc => ?_)
  · have h := h.1 hc
    exact wp_vret (pc := 37) d_X2_look_37 rfl h
  · have h := h.2 hc
    refine wp_iload_n (pc := 10) d_X2_look_10 rfl ?_
    refine wp_aload_n (pc := 11) d_X2_look_11 rfl ?_
    obtain ⟨ho2, h⟩ := h
    refine wp_getR (pc := 12) d_X2_look_12 fl_X2_55 (fun _ _ _ => rfl) ho2 ?_
    obtain ⟨ho3, h⟩ := h
    refine wp_alen (pc := 15) d_X2_look_15 ho3 (by decide) rfl ?_
    refine wp_icmp_ge (pc := 16) (tgt := 37) d_X2_look_16 (by decide) (fun hc => ?_) (fun hc => ?_)
    · have h := h.1 hc
      exact wp_vret (pc := 37) d_X2_look_37 rfl h
    · have h := h.2 hc
      refine wp_aload_n (pc := 19) d_X2_look_19 rfl ?_
      refine wp_getR (pc := 20) d_X2_look_20 fl_X2_55 (fun _ _ _ => rfl) ho2 ?_
      refine wp_iload_n (pc := 23) d_X2_look_23 rfl ?_
      refine wp_aload_n (pc := 24) d_X2_look_24 rfl ?_
      refine wp_iload_n (pc := 25) d_X2_look_25 rfl ?_
      refine wp_iload_n (pc := 26) d_X2_look_26 rfl ?_
      refine wp_invV (pc := 27) (N := M_X7_valueOf) (As := [vi _, vi _]) (rest := [vi _, vr _]) (r := (cn_7, ct_7, 5)) d_X2_look_27 ml_X2_69 mk_X7_valueOf mv_X7_valueOf h0 ho1 rfl rfl (Nat.le_of_ble_eq_true rfl) ?_
      refine wpM.mono h (fun rr G5 hr => ?_)
      obtain ⟨r4, rfl, h⟩ := hr
      show wp E d M_X2_look 30 [some (vr _), some (vr _), some (vi _), some (vi _)] [vi _, vi _, vr _] G5 Q
      obtain ⟨ho6, h⟩ := h
      obtain ⟨hi7, h⟩ := h
      refine wp_iast (pc := 30) d_X2_look_30 ho6 hi7 ?_
      refine wp_iinc (pc := 31) (v := 1) (lv' := [some (vr _), some (vr _), some (vi _), some (vi _)]) d_X2_look_31 (by decide) rfl rfl rfl ?_
      refine wp_goto (pc := 34) (tgt := 2) d_X2_look_34 (by decide) ?_
      refine wp_sub ?_ h
      exact ⟨rfl, ⟨rfl, ⟨rfl, ⟨rfl, trivial⟩⟩⟩⟩
theorem d_X2_run_0 : decode prog_4_method_11_code 0 = .ok (.iload_n 1, 1) := by decide +kernel
theorem d_X2_run_1 : decode prog_4_method_11_code 1 = .ok (.ifCond .lt 9, 3) := by decide +kernel
theorem d_X2_run_4 : decode prog_4_method_11_code 4 = .ok (.iload_n 1, 1) := by decide +kernel
theorem d_X2_run_5 : decode prog_4_method_11_code 5 = .ok (.bipush 30, 2) := by decide +kernel
theorem d_X2_run_7 : decode prog_4_method_11_code 7 = .ok (.if_icmp .lt 5, 3) := by decide +kernel
theorem d_X2_run_10 : decode prog_4_method_11_code 10 = .ok (.iconst 0, 1) := by decide +kernel
theorem d_X2_run_11 : decode prog_4_method_11_code 11 = .ok (.ireturn, 1) := by decide +kernel
theorem d_X2_run_12 : decode prog_4_method_11_code 12 = .ok (.aload_n 0, 1) := by decide +kernel
theorem d_X2_run_13 : decode prog_4_method_11_code 13 = .ok (.iconst 0, 1) := by decide +kernel
theorem d_X2_run_14 : decode prog_4_method_11_code 14 = .ok (.putfield 52, 3) := by decide +kernel
theorem d_X2_run_17 : decode prog_4_method_11_code 17 = .ok (.aload_n 0, 1) := by decide +kernel
theorem d_X2_run_18 : decode prog_4_method_11_code 18 = .ok (.getfield 37, 3) := by decide +kernel
theorem d_X2_run_21 : decode prog_4_method_11_code 21 = .ok (.iload_n 1, 1) := by decide +kernel
theorem d_X2_run_22 : decode prog_4_method_11_code 22 = .ok (.iaload, 1) := by decide +kernel
theorem d_X2_run_23 : decode prog_4_method_11_code 23 = .ok (.aload_n 0, 1) := by decide +kernel
theorem d_X2_run_24 : decode prog_4_method_11_code 24 = .ok (.getfield 40, 3) := by decide +kernel
theorem d_X2_run_27 : decode prog_4_method_11_code 27 = .ok (.arraylength, 1) := by decide +kernel
theorem d_X2_run_28 : decode prog_4_method_11_code 28 = .ok (.invokestatic 73, 3) := by decide +kernel
theorem d_X2_run_31 : decode prog_4_method_11_code 31 = .ok (.istore_n 3, 1) := by decide +kernel
theorem d_X2_run_32 : decode prog_4_method_11_code 32 = .ok (.aload_n 0, 1) := by decide +kernel
theorem d_X2_run_33 : decode prog_4_method_11_code 33 = .ok (.getfield 34, 3) := by decide +kernel
theorem d_X2_run_36 : decode prog_4_method_11_code 36 = .ok (.iload_n 1, 1) := by decide +kernel
theorem d_X2_run_37 : decode prog_4_method_11_code 37 = .ok (.iaload, 1) := by decide +kernel
theorem d_X2_run_38 : decode prog_4_method_11_code 38 = .ok (.iconst 0, 1) := by decide +kernel
theorem d_X2_run_39 : decode prog_4_method_11_code 39 = .ok (.invokestatic 78, 3) := by decide +kernel
theorem d_X2_run_42 : decode prog_4_method_11_code 42 = .ok (.istore 4, 2) := by decide +kernel
theorem d_X2_run_44 : decode prog_4_method_11_code 44 = .ok (.iload 4, 2) := by decide +kernel
theorem d_X2_run_46 : decode prog_4_method_11_code 46 = .ok (.iconst 1, 1) := by decide +kernel
theorem d_X2_run_47 : decode prog_4_method_11_code 47 = .ok (.iadd, 1) := by decide +kernel
theorem d_X2_run_48 : decode prog_4_method_11_code 48 = .ok (.iload_n 3, 1) := by decide +kernel
theorem d_X2_run_49 : decode prog_4_method_11_code 49 = .ok (.if_icmp .ge 141, 3) := by decide +kernel
theorem d_X2_run_52 : decode prog_4_method_11_code 52 = .ok (.aload_n 0, 1) := by decide +kernel
theorem d_X2_run_53 : decode prog_4_method_11_code 53 = .ok (.getfield 40, 3) := by decide +kernel
theorem d_X2_run_56 : decode prog_4_method_11_code 56 = .ok (.iload 4, 2) := by decide +kernel
theorem d_X2_run_58 : decode prog_4_method_11_code 58 = .ok (.iaload, 1) := by decide +kernel
theorem d_X2_run_59 : decode prog_4_method_11_code 59 = .ok (.istore 5, 2) := by decide +kernel
theorem d_X2_run_61 : decode prog_4_method_11_code 61 = .ok (.aload_n 0, 1) := by decide +kernel
theorem d_X2_run_62 : decode prog_4_method_11_code 62 = .ok (.getfield 40, 3) := by decide +kernel
theorem d_X2_run_65 : decode prog_4_method_11_code 65 = .ok (.iload 4, 2) := by decide +kernel
theorem d_X2_run_67 : decode prog_4_method_11_code 67 = .ok (.iconst 1, 1) := by decide +kernel
theorem d_X2_run_68 : decode prog_4_method_11_code 68 = .ok (.iadd, 1) := by decide +kernel
theorem d_X2_run_69 : decode prog_4_method_11_code 69 = .ok (.iaload, 1) := by decide +kernel
theorem d_X2_run_70 : decode prog_4_method_11_code 70 = .ok (.istore 6, 2) := by decide +kernel
theorem d_X2_run_72 : decode prog_4_method_11_code 72 = .ok (.iload 5, 2) := by decide +kernel
theorem d_X2_run_74 : decode prog_4_method_11_code 74 = .ok (.iconst 2, 1) := by decide +kernel
theorem d_X2_run_75 : decode prog_4_method_11_code 75 = .ok (.if_icmp .gt 19, 3) := by decide +kernel
theorem d_X2_run_78 : decode prog_4_method_11_code 78 = .ok (.aload_n 0, 1) := by decide +kernel
theorem d_X2_run_79 : decode prog_4_method_11_code 79 = .ok (.aload_n 0, 1) := by decide +kernel
theorem d_X2_run_80 : decode prog_4_method_11_code 80 = .ok (.iload 5, 2) := by decide +kernel
theorem d_X2_run_82 : decode prog_4_method_11_code 82 = .ok (.iload 6, 2) := by decide +kernel
theorem d_X2_run_84 : decode prog_4_method_11_code 84 = .ok (.aload_n 2, 1) := by decide +kernel
theorem d_X2_run_85 : decode prog_4_method_11_code 85 = .ok (.invokevirtual 81, 3) := by decide +kernel
theorem d_X2_run_88 : decode prog_4_method_11_code 88 = .ok (.invokevirtual 85, 3) := by decide +kernel
theorem d_X2_run_91 : decode prog_4_method_11_code 91 = .ok (.goto 93, 3) := by decide +kernel
theorem d_X2_run_94 : decode prog_4_method_11_code 94 = .ok (.iload 5, 2) := by decide +kernel
theorem d_X2_run_96 : decode prog_4_method_11_code 96 = .ok (.bipush 7, 2) := by decide +kernel
theorem d_X2_run_98 : decode prog_4_method_11_code 98 = .ok (.if_icmp .ge 19, 3) := by decide +kernel
theorem d_X2_run_101 : decode prog_4_method_11_code 101 = .ok (.aload_n 0, 1) := by decide +kernel
theorem d_X2_run_102 : decode prog_4_method_11_code 102 = .ok (.iload 5, 2) := by decide +kernel
theorem d_X2_run_104 : decode prog_4_method_11_code 104 = .ok (.aload_n 0, 1) := by decide +kernel
theorem d_X2_run_105 : decode prog_4_method_11_code 105 = .ok (.invokevirtual 89, 3) := by decide +kernel
theorem d_X2_run_108 : decode prog_4_method_11_code 108 = .ok (.invokestatic 93, 3) := by decide +kernel
theorem d_X2_run_111 : decode prog_4_method_11_code 111 = .ok (.invokevirtual 85, 3) := by decide +kernel
theorem d_X2_run_114 : decode prog_4_method_11_code 114 = .ok (.goto 70, 3) := by decide +kernel
theorem d_X2_run_117 : decode prog_4_method_11_code 117 = .ok (.iload 5, 2) := by decide +kernel
theorem d_X2_run_119 : decode prog_4_method_11_code 119 = .ok (.bipush 7, 2) := by decide +kernel
theorem d_X2_run_121 : decode prog_4_method_11_code 121 = .ok (.if_icmp .ne 20, 3) := by decide +kernel
theorem d_X2_run_124 : decode prog_4_method_11_code 124 = .ok (.aload_n 0, 1) := by decide +kernel
theorem d_X2_run_125 : decode prog_4_method_11_code 125 = .ok (.aload_n 0, 1) := by decide +kernel
theorem d_X2_run_126 : decode prog_4_method_11_code 126 = .ok (.iload 6, 2) := by decide +kernel
theorem d_X2_run_128 : decode prog_4_method_11_code 128 = .ok (.aload_n 0, 1) := by decide +kernel
theorem d_X2_run_129 : decode prog_4_method_11_code 129 = .ok (.invokevirtual 89, 3) := by decide +kernel
theorem d_X2_run_132 : decode prog_4_method_11_code 132 = .ok (.invokevirtual 96, 3) := by decide +kernel
theorem d_X2_run_135 : decode prog_4_method_11_code 135 = .ok (.invokevirtual 85, 3) := by decide +kernel
theorem d_X2_run_138 : decode prog_4_method_11_code 138 = .ok (.goto 46, 3) := by decide +kernel
theorem d_X2_run_141 : decode prog_4_method_11_code 141 = .ok (.iload 5, 2) := by decide +kernel
theorem d_X2_run_143 : decode prog_4_method_11_code 143 = .ok (.bipush 22, 2) := by decide +kernel
theorem d_X2_run_145 : decode prog_4_method_11_code 145 = .ok (.if_icmp .ge 27, 3) := by decide +kernel
theorem d_X2_run_148 : decode prog_4_method_11_code 148 = .ok (.aload_n 0, 1) := by decide +kernel
theorem d_X2_run_149 : decode prog_4_method_11_code 149 = .ok (.invokevirtual 89, 3) := by decide +kernel
theorem d_X2_run_152 : decode prog_4_method_11_code 152 = .ok (.istore 7, 2) := by decide +kernel
theorem d_X2_run_154 : decode prog_4_method_11_code 154 = .ok (.aload_n 0, 1) := by decide +kernel
theorem d_X2_run_155 : decode prog_4_method_11_code 155 = .ok (.iload 5, 2) := by decide +kernel
theorem d_X2_run_157 : decode prog_4_method_11_code 157 = .ok (.aload_n 0, 1) := by decide +kernel
theorem d_X2_run_158 : decode prog_4_method_11_code 158 = .ok (.invokevirtual 89, 3) := by decide +kernel
theorem d_X2_run_161 : decode prog_4_method_11_code 161 = .ok (.iload 7, 2) := by decide +kernel
theorem d_X2_run_163 : decode prog_4_method_11_code 163 = .ok (.invokestatic 99, 3) := by decide +kernel
theorem d_X2_run_166 : decode prog_4_method_11_code 166 = .ok (.invokevirtual 85, 3) := by decide +kernel
theorem d_X2_run_169 : decode prog_4_method_11_code 169 = .ok (.goto 15, 3) := by decide +kernel
theorem d_X2_run_172 : decode prog_4_method_11_code 172 = .ok (.aload_n 0, 1) := by decide +kernel
theorem d_X2_run_173 : decode prog_4_method_11_code 173 = .ok (.aload_n 0, 1) := by decide +kernel
theorem d_X2_run_174 : decode prog_4_method_11_code 174 = .ok (.iload 5, 2) := by decide +kernel
theorem d_X2_run_176 : decode prog_4_method_11_code 176 = .ok (.iload 6, 2) := by decide +kernel
theorem d_X2_run_178 : decode prog_4_method_11_code 178 = .ok (.invokevirtual 103, 3) := by decide +kernel
theorem d_X2_run_181 : decode prog_4_method_11_code 181 = .ok (.invokevirtual 85, 3) := by decide +kernel
theorem d_X2_run_184 : decode prog_4_method_11_code 184 = .ok (.iinc 4 2, 3) := by decide +kernel
theorem d_X2_run_187 : decode prog_4_method_11_code 187 = .ok (.goto (-143), 3) := by decide +kernel
theorem d_X2_run_190 : decode prog_4_method_11_code 190 = .ok (.aload_n 0, 1) := by decide +kernel
theorem d_X2_run_191 : decode prog_4_method_11_code 191 = .ok (.invokevirtual 89, 3) := by decide +kernel
theorem d_X2_run_194 : decode prog_4_method_11_code 194 = .ok (.ireturn, 1) := by decide +kernel
theorem v_X2_run_0 {E : EE} {d : Nat} {Q : Option AV → AH → Prop} {x0 : Nat} {x1 : Int32} {x2 : Nat} {G : AH} (h0 : 0 < d) (h : (x1 < 0 → Q (some (vi 0)) G) ∧ (¬ (x1 < 0) → (x1 < 30 → isO E G x0 2 ∧ (isO E G (gR G x0 8) 14 ∧ (vp_in x1 (gN G (gR G x0 8)) ∧ (isO E G (gR G x0 9) 14 ∧ (isO E G (gR G x0 7) 14 ∧ (vp_in x1 (gN G (gR G x0 7)) ∧ (wp E d M_X2_run 44 [some (vr x0), some (vi x1), some (vr x2), some (vi (imin (gI (sI G x0 13 0) (gR G x0 8) (Int32.toNatClampNeg x1)) (nI (gN G (gR G x0 9))))), some (vi (imax (gI (sI G x0 13 0) (gR G x0 7) (Int32.toNatClampNeg x1)) 0)), none, none, none] [] (sI G x0 13 0) Q))))))) ∧ (¬ (x1 < 30) → Q (some (vi 0)) G))) : wp E d M_X2_run 0 [some (vr x0), some (vi x1), some (vr x2), none, none, none, none, none] [] G Q := by
  refine wp_iload_n (pc := 0) d_X2_run_0 rfl ?_
  refine wp_if_lt (pc := 1) (tgt := 10) d_X2_run_1 (by decide) (fun hc => ?_) (fun hc => ?_)
  · have h := h.1 hc
    refine wp_iconst (pc := 10) (v := 0) d_X2_run_10 rfl ?_
    exact wp_iret (pc := 11) d_X2_run_11 rfl h
  · have h := h.2 hc
    refine wp_iload_n (pc := 4) d_X2_run_4 rfl ?_
    refine wp_bipush (pc := 5) (v := 30) d_X2_run_5 rfl ?_
    refine wp_icmp_lt (pc := 7) (tgt := 12) d_X2_run_7 (by decide) (fun hc => ?_) (fun hc => ?_)
    · have h := h.1 hc
      refine wp_aload_n (pc := 12) d_X2_run_12 rfl ?_
      refine wp_iconst (pc := 13) (v := 0) d_X2_run_13 rfl ?_
      obtain ⟨ho1, h⟩ := h
      refine wp_putI (pc := 14) d_X2_run_14 fl_X2_52 (fun _ _ _ => rfl) (Or.inl rfl) ho1 (okI_int _) ?_
      refine wp_aload_n (pc := 17) d_X2_run_17 rfl ?_
      refine wp_getR (pc := 18) d_X2_run_18 fl_X2_37 (fun _ _ _ => rfl) ho1 ?_
      show wp E d M_X2_run 21 [some (vr x0), some (vi x1), some (vr x2), none, none, none, none, none] [vr (gR G x0 8)] (sI G x0 13 0) Q
      refine wp_iload_n (pc := 21) d_X2_run_21 rfl ?_
      obtain ⟨ho2, h⟩ := h
      obtain ⟨hi3, h⟩ := h
      refine wp_iald (pc := 22) d_X2_run_22 ho2 hi3 ?_
      refine wp_aload_n (pc := 23) d_X2_run_23 rfl ?_
      refine wp_getR (pc := 24) d_X2_run_24 fl_X2_40 (fun _ _ _ => rfl) ho1 ?_
      show wp E d M_X2_run 27 [some (vr x0), some (vi x1), some (vr x2), none, none, none, none, none] [vr (gR G x0 9), vi (gI (sI G x0 13 0) (gR G x0 8) (Int32.toNatClampNeg x1))] (sI G x0 13 0) Q
      obtain ⟨ho4, h⟩ := h
      refine wp_alen (pc := 27) d_X2_run_27 ho4 (by decide) rfl ?_
      show wp E d M_X2_run 28 [some (vr x0), some (vi x1), some (vr x2), none, none, none, none, none] [vi (nI (gN G (gR G x0 9))), vi (gI (sI G x0 13 0) (gR G x0 8) (Int32.toNatClampNeg x1))] (sI G x0 13 0) Q
      refine wp_imin (pc := 28) d_X2_run_28 ml_X2_73 ms_imin ii_math mc_imin h0 (Nat.le_of_ble_eq_true rfl) ?_
      refine wp_istore_n (pc := 31) (lv' := [some (vr _), some (vi _), some (vr _), some (vi _), none, none, none, none]) d_X2_run_31 (by decide) rfl ?_
      refine wp_aload_n (pc := 32) d_X2_run_32 rfl ?_
      refine wp_getR (pc := 33) d_X2_run_33 fl_X2_34 (fun _ _ _ => rfl) ho1 ?_
      show wp E d M_X2_run 36 [some (vr x0), some (vi x1), some (vr x2), some (vi (imin (gI (sI G x0 13 0) (gR G x0 8) (Int32.toNatClampNeg x1)) (nI (gN G (gR G x0 9))))), none, none, none, none] [vr (gR G x0 7)] (sI G x0 13 0) Q
      refine wp_iload_n (pc := 36) d_X2_run_36 rfl ?_
      obtain ⟨ho5, h⟩ := h
      obtain ⟨hi6, h⟩ := h
      refine wp_iald (pc := 37) d_X2_run_37 ho5 hi6 ?_
      refine wp_iconst (pc := 38) (v := 0) d_X2_run_38 rfl ?_
      refine wp_imax (pc := 39) d_X2_run_39 ml_X2_78 ms_imax ii_math mc_imax h0 (Nat.le_of_ble_eq_true rfl) ?_
      refine wp_istore (pc := 42) (lv' := [some (vr _), some (vi _), some (vr _), some (vi _), some (vi _), none, none, none]) d_X2_run_42 (by decide) rfl ?_
      refine wp_sub ?_ h
      exact ⟨rfl, ⟨rfl, ⟨rfl, ⟨rfl, ⟨rfl, trivial⟩⟩⟩⟩⟩
    · have h := h.2 hc
      refine wp_iconst (pc := 10) (v := 0) d_X2_run_10 rfl ?_
      exact wp_iret (pc := 11) d_X2_run_11 rfl h
theorem v_X2_run_44 {E : EE} {d : Nat} {Q : Option AV → AH → Prop} {x0 : Nat} {x1 : Int32} {x2 : Nat} {x3 : Int32} {x4 : Int32} {G : AH} (h0 : 0 < d) (h : (x3 ≤ (x4 + 1) → isO E G x0 2 ∧ (wpI E (d - 1) M_X2_pop [vr x0] G (fun r1 G2 => Q (some (vi r1)) G2))) ∧ (¬ (x3 ≤ (x4 + 1)) → isO E G x0 2 ∧ (isO E G (gR G x0 9) 14 ∧ (vp_in x4 (gN G (gR G x0 9)) ∧ (vp_in (x4 + 1) (gN G (gR G x0 9)) ∧ ((2 < (gI G (gR G x0 9) (Int32.toNatClampNeg x4)) → (7 ≤ (gI G (gR G x0 9) (Int32.toNatClampNeg x4)) → (¬ (gI G (gR G x0 9) (Int32.toNatClampNeg x4)) = 7 → (22 ≤ (gI G (gR G x0 9) (Int32.toNatClampNeg x4)) → wpI E (d - 1) M_X2_ofMany [vr x0, vi (gI G (gR G x0 9) (Int32.toNatClampNeg x4)), vi (gI G (gR G x0 9) (Int32.toNatClampNeg (x4 + 1)))] G (fun r8 G9 => isO E G9 x0 2 ∧ (wpV E (d - 1) M_X2_push [vr x0, vi r8] G9 (fun G10 => wp E d M_X2_run 184 [some (vr x0), some (vi x1), some (vr x2), some (vi x3), some (vi x4), some (vi (gI G (gR G x0 9) (Int32.toNatClampNeg x4))), some (vi (gI G (gR G x0 9) (Int32.toNatClampNeg (x4 + 1)))), none] [] G10 Q)))) ∧ (¬ (22 ≤ (gI G (gR G x0 9) (Int32.toNatClampNeg x4))) → wpI E (d - 1) M_X2_pop [vr x0] G (fun r12 G13 => isO E G13 x0 2 ∧ (wpI E (d - 1) M_X2_pop [vr x0] G13 (fun r14 G15 => wpI E (d - 1) M_X2_ofTwo [vi (gI G (gR G x0 9) (Int32.toNatClampNeg x4)), vi r14, vi r12] G15 (fun r16 G17 => isO E G17 x0 2 ∧ (wpV E (d - 1) M_X2_push [vr x0, vi r16] G17 (fun G18 => wp E d M_X2_run 184 [some (vr x0), some (vi x1), some (vr x2), some (vi x3), some (vi x4), some (vi (gI G (gR G x0 9) (Int32.toNatClampNeg x4))), some (vi (gI G (gR G x0 9) (Int32.toNatClampNeg (x4 + 1)))), none] [] G18 Q)))))))) ∧ ((gI G (gR G x0 9) (Int32.toNatClampNeg x4)) = 7 → wpI E (d - 1) M_X2_pop [vr x0] G (fun r21 G22 => isO E G22 x0 2 ∧ (wpI E (d - 1) M_X2_picked [vr x0, vi (gI G (gR G x0 9) (Int32.toNatClampNeg (x4 + 1))), vi r21] G22 (fun r23 G24 => isO E G24 x0 2 ∧ (wpV E (d - 1) M_X2_push [vr x0, vi r23] G24 (fun G25 => wp E d M_X2_run 184 [some (vr x0), some (vi x1), some (vr x2), some (vi x3), some (vi x4), some (vi (gI G (gR G x0 9) (Int32.toNatClampNeg x4))), some (vi (gI G (gR G x0 9) (Int32.toNatClampNeg (x4 + 1)))), none] [] G25 Q))))))) ∧ (¬ (7 ≤ (gI G (gR G x0 9) (Int32.toNatClampNeg x4))) → wpI E (d - 1) M_X2_pop [vr x0] G (fun r28 G29 => wpI E (d - 1) M_X2_ofOne [vi (gI G (gR G x0 9) (Int32.toNatClampNeg x4)), vi r28] G29 (fun r30 G31 => isO E G31 x0 2 ∧ (wpV E (d - 1) M_X2_push [vr x0, vi r30] G31 (fun G32 => wp E d M_X2_run 184 [some (vr x0), some (vi x1), some (vr x2), some (vi x3), some (vi x4), some (vi (gI G (gR G x0 9) (Int32.toNatClampNeg x4))), some (vi (gI G (gR G x0 9) (Int32.toNatClampNeg (x4 + 1)))), none] [] G32 Q)))))) ∧ (¬ (2 < (gI G (gR G x0 9) (Int32.toNatClampNeg x4))) → wpI E (d - 1) M_X2_leaf [vr x0, vi (gI G (gR G x0 9) (Int32.toNatClampNeg x4)), vi (gI G (gR G x0 9) (Int32.toNatClampNeg (x4 + 1))), vr x2] G (fun r34 G35 => isO E G35 x0 2 ∧ (wpV E (d - 1) M_X2_push [vr x0, vi r34] G35 (fun G36 => wp E d M_X2_run 184 [some (vr x0), some (vi x1), some (vr x2), some (vi x3), some (vi x4), some (vi (gI G (gR G x0 9) (Int32.toNatClampNeg x4))), some (vi (gI G (gR G x0 9) (Int32.toNatClampNeg (x4 + 1)))), none] [] G36 Q)))))))))) : wp E d M_X2_run 44 [some (vr x0), some (vi x1), some (vr x2), some (vi x3), some (vi x4), none, none, none] [] G Q := by
  refine wp_iload (pc := 44) d_X2_run_44 rfl ?_
  refine wp_iconst (pc := 46) (v := 1) d_X2_run_46 rfl ?_
  refine wp_iadd (pc := 47) d_X2_run_47 ?_
  refine wp_iload_n (pc := 48) d_X2_run_48 rfl ?_
  refine wp_icmp_ge (pc := 49) (tgt := 190) d_X2_run_49 (by decide) (fun hc => ?_) (fun hc => ?_)
  · have h := h.1 hc
    refine wp_aload_n (pc := 190) d_X2_run_190 rfl ?_
    obtain ⟨ho3, h⟩ := h
    refine wp_invV (pc := 191) (N := M_X2_pop) (As := []) (rest := []) (r := (cn_2, ct_2, 15)) d_X2_run_191 ml_X2_89 mk_X2_pop mv_X2_pop h0 ho3 rfl rfl (Nat.le_of_ble_eq_true rfl) ?_
    refine wpM.mono h (fun rr G2 hr => ?_)
    obtain ⟨r1, rfl, h⟩ := hr
    show wp E d M_X2_run 194 [some (vr _), some (vi _), some (vr _), some (vi _), some (vi _), none, none, none] [vi _] G2 Q
    exact wp_iret (pc := 194) d_X2_run_194 rfl h
  · have h := h.2 hc
    refine wp_aload_n (pc := 52) d_X2_run_52 rfl ?_
    obtain ⟨ho4, h⟩ := h
    refine wp_getR (pc := 53) d_X2_run_53 fl_X2_40 (fun _ _ _ => rfl) ho4 ?_
    refine wp_iload (pc := 56) d_X2_run_56 rfl ?_
    obtain ⟨ho5, h⟩ := h
    obtain ⟨hi6, h⟩ := h
    refine wp_iald (pc := 58) d_X2_run_58 ho5 hi6 ?_
    refine wp_istore (pc := 59) (lv' := [some (vr _), some (vi _), some (vr _), some (vi _), some (vi _), some (vi _), none, none]) d_X2_run_59 (by decide) rfl ?_
    refine wp_aload_n (pc := 61) d_X2_run_61 rfl ?_
    refine wp_getR (pc := 62) d_X2_run_62 fl_X2_40 (fun _ _ _ => rfl) ho4 ?_
    refine wp_iload (pc := 65) d_X2_run_65 rfl ?_
    refine wp_iconst (pc := 67) (v := 1) d_X2_run_67 rfl ?_
    refine wp_iadd (pc := 68) d_X2_run_68 ?_
    obtain ⟨hi7, h⟩ := h
    refine wp_iald (pc := 69) d_X2_run_69 ho5 hi7 ?_
    refine wp_istore (pc := 70) (lv' := [some (vr _), some (vi _), some (vr _), some (vi _), some (vi _), some (vi _), some (vi _), none]) d_X2_run_70 (by decide) rfl ?_
    refine wp_iload (pc := 72) d_X2_run_72 rfl ?_
    refine wp_iconst (pc := 74) (v := 2) d_X2_run_74 rfl ?_
    refine wp_icmp_gt (pc := 75) (tgt := 94) d_X2_run_75 (by decide) (fun hc => ?_) (fun hc => ?_)
    · have h := h.1 hc
      refine wp_iload (pc := 94) d_X2_run_94 rfl ?_
      refine wp_bipush (pc := 96) (v := 7) d_X2_run_96 rfl ?_
      refine wp_icmp_ge (pc := 98) (tgt := 117) d_X2_run_98 (by decide) (fun hc => ?_) (fun hc => ?_)
      · have h := h.1 hc
        refine wp_iload (pc := 117) d_X2_run_117 rfl ?_
        refine wp_bipush (pc := 119) (v := 7) d_X2_run_119 rfl ?_
        refine wp_icmp_ne (pc := 121) (tgt := 141) d_X2_run_121 (by decide) (fun hc => ?_) (fun hc => ?_)
        · have h := h.1 hc
          refine wp_iload (pc := 141) d_X2_run_141 rfl ?_
          refine wp_bipush (pc := 143) (v := 22) d_X2_run_143 rfl ?_
          refine wp_icmp_ge (pc := 145) (tgt := 172) d_X2_run_145 (by decide) (fun hc => ?_) (fun hc => ?_)
          · have h := h.1 hc
            refine wp_aload_n (pc := 172) d_X2_run_172 rfl ?_
            refine wp_aload_n (pc := 173) d_X2_run_173 rfl ?_
            refine wp_iload (pc := 174) d_X2_run_174 rfl ?_
            refine wp_iload (pc := 176) d_X2_run_176 rfl ?_
            refine wp_invV (pc := 178) (N := M_X2_ofMany) (As := [vi _, vi _]) (rest := [vr _]) (r := (cn_2, ct_2, 15)) d_X2_run_178 ml_X2_103 mk_X2_ofMany mv_X2_ofMany h0 ho4 rfl rfl (Nat.le_of_ble_eq_true rfl) ?_
            refine wpM.mono h (fun rr G9 hr => ?_)
            obtain ⟨r8, rfl, h⟩ := hr
            show wp E d M_X2_run 181 [some (vr _), some (vi _), some (vr _), some (vi _), some (vi _), some (vi _), some (vi _), none] [vi _, vr _] G9 Q
            obtain ⟨ho11, h⟩ := h
            refine wp_invV (pc := 181) (N := M_X2_push) (As := [vi _]) (rest := []) (r := (cn_2, ct_2, 15)) d_X2_run_181 ml_X2_85 mk_X2_push mv_X2_push h0 ho11 rfl rfl (Nat.le_of_ble_eq_true rfl) ?_
            refine wpM.mono h (fun rr G10 hr => ?_)
            obtain ⟨rfl, h⟩ := hr
            show wp E d M_X2_run 184 [some (vr _), some (vi _), some (vr _), some (vi _), some (vi _), some (vi _), some (vi _), none] [] G10 Q
            refine wp_sub ?_ h
            exact ⟨rfl, ⟨rfl, ⟨rfl, ⟨rfl, ⟨rfl, ⟨rfl, ⟨rfl, trivial⟩⟩⟩⟩⟩⟩⟩
          · have h := h.2 hc
            refine wp_aload_n (pc := 148) d_X2_run_148 rfl ?_
            refine wp_invV (pc := 149) (N := M_X2_pop) (As := []) (rest := []) (r := (cn_2, ct_2, 15)) d_X2_run_149 ml_X2_89 mk_X2_pop mv_X2_pop h0 ho4 rfl rfl (Nat.le_of_ble_eq_true rfl) ?_
            refine wpM.mono h (fun rr G13 hr => ?_)
            obtain ⟨r12, rfl, h⟩ := hr
            show wp E d M_X2_run 152 [some (vr _), some (vi _), some (vr _), some (vi _), some (vi _), some (vi _), some (vi _), none] [vi _] G13 Q
            refine wp_istore (pc := 152) (lv' := [some (vr _), some (vi _), some (vr _), some (vi _), some (vi _), some (vi _), some (vi _), some (vi _)]) d_X2_run_152 (by decide) rfl ?_
            refine wp_aload_n (pc := 154) d_X2_run_154 rfl ?_
            refine wp_iload (pc := 155) d_X2_run_155 rfl ?_
            refine wp_aload_n (pc := 157) d_X2_run_157 rfl ?_
            obtain ⟨ho20, h⟩ := h
            refine wp_invV (pc := 158) (N := M_X2_pop) (As := []) (rest := [vi _, vr _]) (r := (cn_2, ct_2, 15)) d_X2_run_158 ml_X2_89 mk_X2_pop mv_X2_pop h0 ho20 rfl rfl (Nat.le_of_ble_eq_true rfl) ?_
            refine wpM.mono h (fun rr G15 hr => ?_)
            obtain ⟨r14, rfl, h⟩ := hr
            show wp E d M_X2_run 161 [some (vr _), some (vi _), some (vr _), some (vi _), some (vi _), some (vi _), some (vi _), some (vi _)] [vi _, vi _, vr _] G15 Q
            refine wp_iload (pc := 161) d_X2_run_161 rfl ?_
            refine wp_invS (pc := 163) (N := M_X2_ofTwo) (As := [vi _, vi _, vi _]) (rest := [vr _]) d_X2_run_163 ml_X2_99 mk_X2_ofTwo ms_X2_ofTwo h0 (Nat.le_of_ble_eq_true rfl) ?_
            refine wpM.mono h (fun rr G17 hr => ?_)
            obtain ⟨r16, rfl, h⟩ := hr
            show wp E d M_X2_run 166 [some (vr _), some (vi _), some (vr _), some (vi _), some (vi _), some (vi _), some (vi _), some (vi _)] [vi _, vr _] G17 Q
            obtain ⟨ho19, h⟩ := h
            refine wp_invV (pc := 166) (N := M_X2_push) (As := [vi _]) (rest := []) (r := (cn_2, ct_2, 15)) d_X2_run_166 ml_X2_85 mk_X2_push mv_X2_push h0 ho19 rfl rfl (Nat.le_of_ble_eq_true rfl) ?_
            refine wpM.mono h (fun rr G18 hr => ?_)
            obtain ⟨rfl, h⟩ := hr
            show wp E d M_X2_run 169 [some (vr _), some (vi _), some (vr _), some (vi _), some (vi _), some (vi _), some (vi _), some (vi _)] [] G18 Q
            refine wp_goto (pc := 169) (tgt := 184) d_X2_run_169 (by decide) ?_
            refine wp_sub ?_ h
            exact ⟨rfl, ⟨rfl, ⟨rfl, ⟨rfl, ⟨rfl, ⟨rfl, ⟨rfl, trivial⟩⟩⟩⟩⟩⟩⟩
        · have h := h.2 hc
          refine wp_aload_n (pc := 124) d_X2_run_124 rfl ?_
          refine wp_aload_n (pc := 125) d_X2_run_125 rfl ?_
          refine wp_iload (pc := 126) d_X2_run_126 rfl ?_
          refine wp_aload_n (pc := 128) d_X2_run_128 rfl ?_
          refine wp_invV (pc := 129) (N := M_X2_pop) (As := []) (rest := [vi _, vr _, vr _]) (r := (cn_2, ct_2, 15)) d_X2_run_129 ml_X2_89 mk_X2_pop mv_X2_pop h0 ho4 rfl rfl (Nat.le_of_ble_eq_true rfl) ?_
          refine wpM.mono h (fun rr G22 hr => ?_)
          obtain ⟨r21, rfl, h⟩ := hr
          show wp E d M_X2_run 132 [some (vr _), some (vi _), some (vr _), some (vi _), some (vi _), some (vi _), some (vi _), none] [vi _, vi _, vr _, vr _] G22 Q
          obtain ⟨ho27, h⟩ := h
          refine wp_invV (pc := 132) (N := M_X2_picked) (As := [vi _, vi _]) (rest := [vr _]) (r := (cn_2, ct_2, 15)) d_X2_run_132 ml_X2_96 mk_X2_picked mv_X2_picked h0 ho27 rfl rfl (Nat.le_of_ble_eq_true rfl) ?_
          refine wpM.mono h (fun rr G24 hr => ?_)
          obtain ⟨r23, rfl, h⟩ := hr
          show wp E d M_X2_run 135 [some (vr _), some (vi _), some (vr _), some (vi _), some (vi _), some (vi _), some (vi _), none] [vi _, vr _] G24 Q
          obtain ⟨ho26, h⟩ := h
          refine wp_invV (pc := 135) (N := M_X2_push) (As := [vi _]) (rest := []) (r := (cn_2, ct_2, 15)) d_X2_run_135 ml_X2_85 mk_X2_push mv_X2_push h0 ho26 rfl rfl (Nat.le_of_ble_eq_true rfl) ?_
          refine wpM.mono h (fun rr G25 hr => ?_)
          obtain ⟨rfl, h⟩ := hr
          show wp E d M_X2_run 138 [some (vr _), some (vi _), some (vr _), some (vi _), some (vi _), some (vi _), some (vi _), none] [] G25 Q
          refine wp_goto (pc := 138) (tgt := 184) d_X2_run_138 (by decide) ?_
          refine wp_sub ?_ h
          exact ⟨rfl, ⟨rfl, ⟨rfl, ⟨rfl, ⟨rfl, ⟨rfl, ⟨rfl, trivial⟩⟩⟩⟩⟩⟩⟩
      · have h := h.2 hc
        refine wp_aload_n (pc := 101) d_X2_run_101 rfl ?_
        refine wp_iload (pc := 102) d_X2_run_102 rfl ?_
        refine wp_aload_n (pc := 104) d_X2_run_104 rfl ?_
        refine wp_invV (pc := 105) (N := M_X2_pop) (As := []) (rest := [vi _, vr _]) (r := (cn_2, ct_2, 15)) d_X2_run_105 ml_X2_89 mk_X2_pop mv_X2_pop h0 ho4 rfl rfl (Nat.le_of_ble_eq_true rfl) ?_
        refine wpM.mono h (fun rr G29 hr => ?_)
        obtain ⟨r28, rfl, h⟩ := hr
        show wp E d M_X2_run 108 [some (vr _), some (vi _), some (vr _), some (vi _), some (vi _), some (vi _), some (vi _), none] [vi _, vi _, vr _] G29 Q
        refine wp_invS (pc := 108) (N := M_X2_ofOne) (As := [vi _, vi _]) (rest := [vr _]) d_X2_run_108 ml_X2_93 mk_X2_ofOne ms_X2_ofOne h0 (Nat.le_of_ble_eq_true rfl) ?_
        refine wpM.mono h (fun rr G31 hr => ?_)
        obtain ⟨r30, rfl, h⟩ := hr
        show wp E d M_X2_run 111 [some (vr _), some (vi _), some (vr _), some (vi _), some (vi _), some (vi _), some (vi _), none] [vi _, vr _] G31 Q
        obtain ⟨ho33, h⟩ := h
        refine wp_invV (pc := 111) (N := M_X2_push) (As := [vi _]) (rest := []) (r := (cn_2, ct_2, 15)) d_X2_run_111 ml_X2_85 mk_X2_push mv_X2_push h0 ho33 rfl rfl (Nat.le_of_ble_eq_true rfl) ?_
        refine wpM.mono h (fun rr G32 hr => ?_)
        obtain ⟨rfl, h⟩ := hr
        show wp E d M_X2_run 114 [some (vr _), some (vi _), some (vr _), some (vi _), some (vi _), some (vi _), some (vi _), none] [] G32 Q
        refine wp_goto (pc := 114) (tgt := 184) d_X2_run_114 (by decide) ?_
        refine wp_sub ?_ h
        exact ⟨rfl, ⟨rfl, ⟨rfl, ⟨rfl, ⟨rfl, ⟨rfl, ⟨rfl, trivial⟩⟩⟩⟩⟩⟩⟩
    · have h := h.2 hc
      refine wp_aload_n (pc := 78) d_X2_run_78 rfl ?_
      refine wp_aload_n (pc := 79) d_X2_run_79 rfl ?_
      refine wp_iload (pc := 80) d_X2_run_80 rfl ?_
      refine wp_iload (pc := 82) d_X2_run_82 rfl ?_
      refine wp_aload_n (pc := 84) d_X2_run_84 rfl ?_
      refine wp_invV (pc := 85) (N := M_X2_leaf) (As := [vi _, vi _, vr _]) (rest := [vr _]) (r := (cn_2, ct_2, 15)) d_X2_run_85 ml_X2_81 mk_X2_leaf mv_X2_leaf h0 ho4 rfl rfl (Nat.le_of_ble_eq_true rfl) ?_
      refine wpM.mono h (fun rr G35 hr => ?_)
      obtain ⟨r34, rfl, h⟩ := hr
      show wp E d M_X2_run 88 [some (vr _), some (vi _), some (vr _), some (vi _), some (vi _), some (vi _), some (vi _), none] [vi _, vr _] G35 Q
      obtain ⟨ho37, h⟩ := h
      refine wp_invV (pc := 88) (N := M_X2_push) (As := [vi _]) (rest := []) (r := (cn_2, ct_2, 15)) d_X2_run_88 ml_X2_85 mk_X2_push mv_X2_push h0 ho37 rfl rfl (Nat.le_of_ble_eq_true rfl) ?_
      refine wpM.mono h (fun rr G36 hr => ?_)
      obtain ⟨rfl, h⟩ := hr
      show wp E d M_X2_run 91 [some (vr _), some (vi _), some (vr _), some (vi _), some (vi _), some (vi _), some (vi _), none] [] G36 Q
      refine wp_goto (pc := 91) (tgt := 184) d_X2_run_91 (by decide) ?_
      refine wp_sub ?_ h
      exact ⟨rfl, ⟨rfl, ⟨rfl, ⟨rfl, ⟨rfl, ⟨rfl, ⟨rfl, trivial⟩⟩⟩⟩⟩⟩⟩
theorem v_X2_run_184 {E : EE} {d : Nat} {Q : Option AV → AH → Prop} {x0 : Nat} {x1 : Int32} {x2 : Nat} {x3 : Int32} {x4 : Int32} {x5 : Int32} {x6 : Int32} {G : AH} (h : wp E d M_X2_run 44 [some (vr x0), some (vi x1), some (vr x2), some (vi x3), some (vi (x4 + 2)), none, none, none] [] G Q) : wp E d M_X2_run 184 [some (vr x0), some (vi x1), some (vr x2), some (vi x3), some (vi x4), some (vi x5), some (vi x6), none] [] G Q := by
  refine wp_iinc (pc := 184) (v := 2) (lv' := [some (vr _), some (vi _), some (vr _), some (vi _), some (vi _), some (vi _), some (vi _), none]) d_X2_run_184 (by decide) rfl rfl rfl ?_
  refine wp_goto (pc := 187) (tgt := 44) d_X2_run_187 (by decide) ?_
  refine wp_sub ?_ h
  exact ⟨rfl, ⟨rfl, ⟨rfl, ⟨rfl, ⟨rfl, trivial⟩⟩⟩⟩⟩
theorem d_X2_leaf_0 : decode prog_4_method_15_code 0 = .ok (.iload_n 1, 1) := by decide +kernel
theorem d_X2_leaf_1 : decode prog_4_method_15_code 1 = .ok (.ifCond .ne 5, 3) := by decide +kernel
theorem d_X2_leaf_4 : decode prog_4_method_15_code 4 = .ok (.iload_n 2, 1) := by decide +kernel
theorem d_X2_leaf_5 : decode prog_4_method_15_code 5 = .ok (.ireturn, 1) := by decide +kernel
theorem d_X2_leaf_6 : decode prog_4_method_15_code 6 = .ok (.iload_n 1, 1) := by decide +kernel
theorem d_X2_leaf_7 : decode prog_4_method_15_code 7 = .ok (.iconst 1, 1) := by decide +kernel
theorem d_X2_leaf_8 : decode prog_4_method_15_code 8 = .ok (.if_icmp .ne 7, 3) := by decide +kernel
theorem d_X2_leaf_11 : decode prog_4_method_15_code 11 = .ok (.aload_n 3, 1) := by decide +kernel
theorem d_X2_leaf_12 : decode prog_4_method_15_code 12 = .ok (.goto 7, 3) := by decide +kernel
theorem d_X2_leaf_15 : decode prog_4_method_15_code 15 = .ok (.aload_n 0, 1) := by decide +kernel
theorem d_X2_leaf_16 : decode prog_4_method_15_code 16 = .ok (.getfield 55, 3) := by decide +kernel
theorem d_X2_leaf_19 : decode prog_4_method_15_code 19 = .ok (.astore 4, 2) := by decide +kernel
theorem d_X2_leaf_21 : decode prog_4_method_15_code 21 = .ok (.iload_n 2, 1) := by decide +kernel
theorem d_X2_leaf_22 : decode prog_4_method_15_code 22 = .ok (.ifCond .lt 17, 3) := by decide +kernel
theorem d_X2_leaf_25 : decode prog_4_method_15_code 25 = .ok (.iload_n 2, 1) := by decide +kernel
theorem d_X2_leaf_26 : decode prog_4_method_15_code 26 = .ok (.aload 4, 2) := by decide +kernel
theorem d_X2_leaf_28 : decode prog_4_method_15_code 28 = .ok (.arraylength, 1) := by decide +kernel
theorem d_X2_leaf_29 : decode prog_4_method_15_code 29 = .ok (.if_icmp .ge 10, 3) := by decide +kernel
theorem d_X2_leaf_32 : decode prog_4_method_15_code 32 = .ok (.aload 4, 2) := by decide +kernel
theorem d_X2_leaf_34 : decode prog_4_method_15_code 34 = .ok (.iload_n 2, 1) := by decide +kernel
theorem d_X2_leaf_35 : decode prog_4_method_15_code 35 = .ok (.iaload, 1) := by decide +kernel
theorem d_X2_leaf_36 : decode prog_4_method_15_code 36 = .ok (.goto 4, 3) := by decide +kernel
theorem d_X2_leaf_39 : decode prog_4_method_15_code 39 = .ok (.iconst 0, 1) := by decide +kernel
theorem d_X2_leaf_40 : decode prog_4_method_15_code 40 = .ok (.ireturn, 1) := by decide +kernel
theorem v_X2_leaf_0 {E : EE} {d : Nat} {Q : Option AV → AH → Prop} {x0 : Nat} {x1 : Int32} {x2 : Int32} {x3 : Nat} {G : AH} (h : (¬ x1 = 0 → (¬ x1 = 1 → isO E G x0 2 ∧ (wp E d M_X2_leaf 19 [some (vr x0), some (vi x1), some (vi x2), some (vr x3), none] [vr (gR G x0 14)] G Q)) ∧ (x1 = 1 → wp E d M_X2_leaf 19 [some (vr x0), some (vi x1), some (vi x2), some (vr x3), none] [vr x3] G Q)) ∧ (x1 = 0 → Q (some (vi x2)) G)) : wp E d M_X2_leaf 0 [some (vr x0), some (vi x1), some (vi x2), some (vr x3), none] [] G Q := by
  refine wp_iload_n (pc := 0) d_X2_leaf_0 rfl ?_
  refine wp_if_ne (pc := 1) (tgt := 6) d_X2_leaf_1 (by decide) (fun hc => ?_) (fun hc => ?_)
  · have h := h.1 hc
    refine wp_iload_n (pc := 6) d_X2_leaf_6 rfl ?_
    refine wp_iconst (pc := 7) (v := 1) d_X2_leaf_7 rfl ?_
    refine wp_icmp_ne (pc := 8) (tgt := 15) d_X2_leaf_8 (by decide) (fun hc => ?_) (fun hc => ?_)
    · have h := h.1 hc
      refine wp_aload_n (pc := 15) d_X2_leaf_15 rfl ?_
      obtain ⟨ho1, h⟩ := h
      refine wp_getR (pc := 16) d_X2_leaf_16 fl_X2_55 (fun _ _ _ => rfl) ho1 ?_
      refine wp_sub ?_ h
      exact ⟨rfl, ⟨rfl, ⟨rfl, ⟨rfl, trivial⟩⟩⟩⟩
    · have h := h.2 hc
      refine wp_aload_n (pc := 11) d_X2_leaf_11 rfl ?_
      refine wp_goto (pc := 12) (tgt := 19) d_X2_leaf_12 (by decide) ?_
      refine wp_sub ?_ h
      exact ⟨rfl, ⟨rfl, ⟨rfl, ⟨rfl, trivial⟩⟩⟩⟩
  · have h := h.2 hc
    refine wp_iload_n (pc := 4) d_X2_leaf_4 rfl ?_
    exact wp_iret (pc := 5) d_X2_leaf_5 rfl h
theorem v_X2_leaf_19 {E : EE} {d : Nat} {Q : Option AV → AH → Prop} {x0 : Nat} {x1 : Int32} {x2 : Int32} {x3 : Nat} {t0 : Nat} {G : AH} (h : (x2 < 0 → Q (some (vi 0)) G) ∧ (¬ (x2 < 0) → isO E G t0 14 ∧ (((nI (gN G t0)) ≤ x2 → Q (some (vi 0)) G) ∧ (¬ ((nI (gN G t0)) ≤ x2) → vp_in x2 (gN G t0) ∧ (Q (some (vi (gI G t0 (Int32.toNatClampNeg x2)))) G))))) : wp E d M_X2_leaf 19 [some (vr x0), some (vi x1), some (vi x2), some (vr x3), none] [vr t0] G Q := by
  refine wp_astore (pc := 19) (lv' := [some (vr _), some (vi _), some (vi _), some (vr _), some (vr _)]) d_X2_leaf_19 (by decide) rfl ?_
  refine wp_iload_n (pc := 21) d_X2_leaf_21 rfl ?_
  refine wp_if_lt (pc := 22) (tgt := 39) d_X2_leaf_22 (by decide) (fun hc => ?_) (fun hc => ?_)
  · have h := h.1 hc
    refine wp_iconst (pc := 39) (v := 0) d_X2_leaf_39 rfl ?_
    exact wp_iret (pc := 40) d_X2_leaf_40 rfl h
  · have h := h.2 hc
    refine wp_iload_n (pc := 25) d_X2_leaf_25 rfl ?_
    refine wp_aload (pc := 26) d_X2_leaf_26 rfl ?_
    obtain ⟨ho1, h⟩ := h
    refine wp_alen (pc := 28) d_X2_leaf_28 ho1 (by decide) rfl ?_
    refine wp_icmp_ge (pc := 29) (tgt := 39) d_X2_leaf_29 (by decide) (fun hc => ?_) (fun hc => ?_)
    · have h := h.1 hc
      refine wp_iconst (pc := 39) (v := 0) d_X2_leaf_39 rfl ?_
      exact wp_iret (pc := 40) d_X2_leaf_40 rfl h
    · have h := h.2 hc
      refine wp_aload (pc := 32) d_X2_leaf_32 rfl ?_
      refine wp_iload_n (pc := 34) d_X2_leaf_34 rfl ?_
      obtain ⟨hi2, h⟩ := h
      refine wp_iald (pc := 35) d_X2_leaf_35 ho1 hi2 ?_
      refine wp_goto (pc := 36) (tgt := 40) d_X2_leaf_36 (by decide) ?_
      exact wp_iret (pc := 40) d_X2_leaf_40 rfl h
theorem d_X2_push_0 : decode prog_4_method_13_code 0 = .ok (.aload_n 0, 1) := by decide +kernel
theorem d_X2_push_1 : decode prog_4_method_13_code 1 = .ok (.getfield 52, 3) := by decide +kernel
theorem d_X2_push_4 : decode prog_4_method_13_code 4 = .ok (.sipush 128, 3) := by decide +kernel
theorem d_X2_push_7 : decode prog_4_method_13_code 7 = .ok (.if_icmp .ge 20, 3) := by decide +kernel
theorem d_X2_push_10 : decode prog_4_method_13_code 10 = .ok (.aload_n 0, 1) := by decide +kernel
theorem d_X2_push_11 : decode prog_4_method_13_code 11 = .ok (.getfield 49, 3) := by decide +kernel
theorem d_X2_push_14 : decode prog_4_method_13_code 14 = .ok (.aload_n 0, 1) := by decide +kernel
theorem d_X2_push_15 : decode prog_4_method_13_code 15 = .ok (.dup, 1) := by decide +kernel
theorem d_X2_push_16 : decode prog_4_method_13_code 16 = .ok (.getfield 52, 3) := by decide +kernel
theorem d_X2_push_19 : decode prog_4_method_13_code 19 = .ok (.dup_x1, 1) := by decide +kernel
theorem d_X2_push_20 : decode prog_4_method_13_code 20 = .ok (.iconst 1, 1) := by decide +kernel
theorem d_X2_push_21 : decode prog_4_method_13_code 21 = .ok (.iadd, 1) := by decide +kernel
theorem d_X2_push_22 : decode prog_4_method_13_code 22 = .ok (.putfield 52, 3) := by decide +kernel
theorem d_X2_push_25 : decode prog_4_method_13_code 25 = .ok (.iload_n 1, 1) := by decide +kernel
theorem d_X2_push_26 : decode prog_4_method_13_code 26 = .ok (.iastore, 1) := by decide +kernel
theorem d_X2_push_27 : decode prog_4_method_13_code 27 = .ok (.return_, 1) := by decide +kernel
theorem v_X2_push_0 {E : EE} {d : Nat} {Q : Option AV → AH → Prop} {x0 : Nat} {x1 : Int32} {G : AH} (h : isO E G x0 2 ∧ ((128 ≤ (gI G x0 13) → Q none G) ∧ (¬ (128 ≤ (gI G x0 13)) → ∀ G2 : AH, G2 = sI G x0 13 ((gI G x0 13) + 1) → isO E G2 (gR G x0 12) 14 ∧ (vp_in (gI G x0 13) (gN G2 (gR G x0 12)) ∧ (∀ G6 : AH, G6 = sI G2 (gR G x0 12) (Int32.toNatClampNeg (gI G x0 13)) x1 → Q none G6))))) : wp E d M_X2_push 0 [some (vr x0), some (vi x1)] [] G Q := by
  refine wp_aload_n (pc := 0) d_X2_push_0 rfl ?_
  obtain ⟨ho1, h⟩ := h
  refine wp_getI (pc := 1) d_X2_push_1 fl_X2_52 (fun _ _ _ => rfl) ho1 ?_
  refine wp_sipush (pc := 4) (v := 128) d_X2_push_4 rfl ?_
  refine wp_icmp_ge (pc := 7) (tgt := 27) d_X2_push_7 (by decide) (fun hc => ?_) (fun hc => ?_)
  · have h := h.1 hc
    exact wp_vret (pc := 27) d_X2_push_27 rfl h
  · have h := h.2 hc
    refine wp_aload_n (pc := 10) d_X2_push_10 rfl ?_
    refine wp_getR (pc := 11) d_X2_push_11 fl_X2_49 (fun _ _ _ => rfl) ho1 ?_
    refine wp_aload_n (pc := 14) d_X2_push_14 rfl ?_
    refine wp_dup (pc := 15) d_X2_push_15 (c1_r _) ?_
    refine wp_getI (pc := 16) d_X2_push_16 fl_X2_52 (fun _ _ _ => rfl) ho1 ?_
    refine wp_dup_x1 (pc := 19) d_X2_push_19 (c1_i _) (c1_r _) ?_
    refine wp_iconst (pc := 20) (v := 1) d_X2_push_20 rfl ?_
    refine wp_iadd (pc := 21) d_X2_push_21 ?_
    refine wp_putI (pc := 22) d_X2_push_22 fl_X2_52 (fun _ _ _ => rfl) (Or.inl rfl) ho1 (okI_int _) ?_
    refine wp_nm (fun G2 eG2 => ?_)
    have h := h G2 eG2
    have ho3 := isO_sI eG2 ho1
    refine wp_iload_n (pc := 25) d_X2_push_25 rfl ?_
    obtain ⟨ho4, h⟩ := h
    obtain ⟨hi5, h⟩ := h
    refine wp_iast (pc := 26) d_X2_push_26 ho4 hi5 ?_
    refine wp_nm (fun G6 eG6 => ?_)
    have h := h G6 eG6
    have ho7 := isO_sI eG6 ho3
    exact wp_vret (pc := 27) d_X2_push_27 rfl h
theorem d_X2_pop_0 : decode prog_4_method_14_code 0 = .ok (.aload_n 0, 1) := by decide +kernel
theorem d_X2_pop_1 : decode prog_4_method_14_code 1 = .ok (.getfield 52, 3) := by decide +kernel
theorem d_X2_pop_4 : decode prog_4_method_14_code 4 = .ok (.ifCond .le 32, 3) := by decide +kernel
theorem d_X2_pop_7 : decode prog_4_method_14_code 7 = .ok (.aload_n 0, 1) := by decide +kernel
theorem d_X2_pop_8 : decode prog_4_method_14_code 8 = .ok (.getfield 52, 3) := by decide +kernel
theorem d_X2_pop_11 : decode prog_4_method_14_code 11 = .ok (.sipush 128, 3) := by decide +kernel
theorem d_X2_pop_14 : decode prog_4_method_14_code 14 = .ok (.if_icmp .gt 22, 3) := by decide +kernel
theorem d_X2_pop_17 : decode prog_4_method_14_code 17 = .ok (.aload_n 0, 1) := by decide +kernel
theorem d_X2_pop_18 : decode prog_4_method_14_code 18 = .ok (.getfield 49, 3) := by decide +kernel
theorem d_X2_pop_21 : decode prog_4_method_14_code 21 = .ok (.aload_n 0, 1) := by decide +kernel
theorem d_X2_pop_22 : decode prog_4_method_14_code 22 = .ok (.dup, 1) := by decide +kernel
theorem d_X2_pop_23 : decode prog_4_method_14_code 23 = .ok (.getfield 52, 3) := by decide +kernel
theorem d_X2_pop_26 : decode prog_4_method_14_code 26 = .ok (.iconst 1, 1) := by decide +kernel
theorem d_X2_pop_27 : decode prog_4_method_14_code 27 = .ok (.isub, 1) := by decide +kernel
theorem d_X2_pop_28 : decode prog_4_method_14_code 28 = .ok (.dup_x1, 1) := by decide +kernel
theorem d_X2_pop_29 : decode prog_4_method_14_code 29 = .ok (.putfield 52, 3) := by decide +kernel
theorem d_X2_pop_32 : decode prog_4_method_14_code 32 = .ok (.iaload, 1) := by decide +kernel
theorem d_X2_pop_33 : decode prog_4_method_14_code 33 = .ok (.goto 4, 3) := by decide +kernel
theorem d_X2_pop_36 : decode prog_4_method_14_code 36 = .ok (.iconst 0, 1) := by decide +kernel
theorem d_X2_pop_37 : decode prog_4_method_14_code 37 = .ok (.ireturn, 1) := by decide +kernel
theorem v_X2_pop_0 {E : EE} {d : Nat} {Q : Option AV → AH → Prop} {x0 : Nat} {G : AH} (h : isO E G x0 2 ∧ (((gI G x0 13) ≤ 0 → Q (some (vi 0)) G) ∧ (¬ ((gI G x0 13) ≤ 0) → (128 < (gI G x0 13) → Q (some (vi 0)) G) ∧ (¬ (128 < (gI G x0 13)) → isO E G (gR G x0 12) 14 ∧ (vp_in ((gI G x0 13) - 1) (gN G (gR G x0 12)) ∧ (Q (some (vi (gI (sI G x0 13 ((gI G x0 13) - 1)) (gR G x0 12) (Int32.toNatClampNeg ((gI G x0 13) - 1))))) (sI G x0 13 ((gI G x0 13) - 1)))))))) : wp E d M_X2_pop 0 [some (vr x0)] [] G Q := by
  refine wp_aload_n (pc := 0) d_X2_pop_0 rfl ?_
  obtain ⟨ho1, h⟩ := h
  refine wp_getI (pc := 1) d_X2_pop_1 fl_X2_52 (fun _ _ _ => rfl) ho1 ?_
  refine wp_if_le (pc := 4) (tgt := 36) d_X2_pop_4 (by decide) (fun hc => ?_) (fun hc => ?_)
  · have h := h.1 hc
    refine wp_iconst (pc := 36) (v := 0) d_X2_pop_36 rfl ?_
    exact wp_iret (pc := 37) d_X2_pop_37 rfl h
  · have h := h.2 hc
    refine wp_aload_n (pc := 7) d_X2_pop_7 rfl ?_
    refine wp_getI (pc := 8) d_X2_pop_8 fl_X2_52 (fun _ _ _ => rfl) ho1 ?_
    refine wp_sipush (pc := 11) (v := 128) d_X2_pop_11 rfl ?_
    refine wp_icmp_gt (pc := 14) (tgt := 36) d_X2_pop_14 (by decide) (fun hc => ?_) (fun hc => ?_)
    · have h := h.1 hc
      refine wp_iconst (pc := 36) (v := 0) d_X2_pop_36 rfl ?_
      exact wp_iret (pc := 37) d_X2_pop_37 rfl h
    · have h := h.2 hc
      refine wp_aload_n (pc := 17) d_X2_pop_17 rfl ?_
      refine wp_getR (pc := 18) d_X2_pop_18 fl_X2_49 (fun _ _ _ => rfl) ho1 ?_
      refine wp_aload_n (pc := 21) d_X2_pop_21 rfl ?_
      refine wp_dup (pc := 22) d_X2_pop_22 (c1_r _) ?_
      refine wp_getI (pc := 23) d_X2_pop_23 fl_X2_52 (fun _ _ _ => rfl) ho1 ?_
      refine wp_iconst (pc := 26) (v := 1) d_X2_pop_26 rfl ?_
      refine wp_isub (pc := 27) d_X2_pop_27 ?_
      refine wp_dup_x1 (pc := 28) d_X2_pop_28 (c1_i _) (c1_r _) ?_
      refine wp_putI (pc := 29) d_X2_pop_29 fl_X2_52 (fun _ _ _ => rfl) (Or.inl rfl) ho1 (okI_int _) ?_
      obtain ⟨ho2, h⟩ := h
      obtain ⟨hi3, h⟩ := h
      refine wp_iald (pc := 32) d_X2_pop_32 ho2 hi3 ?_
      refine wp_goto (pc := 33) (tgt := 37) d_X2_pop_33 (by decide) ?_
      exact wp_iret (pc := 37) d_X2_pop_37 rfl h
theorem d_X2_ofOne_0 : decode prog_4_method_17_code 0 = .ok (.iload_n 0, 1) := by decide +kernel
theorem d_X2_ofOne_1 : decode prog_4_method_17_code 1 = .ok (.lookupswitch 43 #[(3, 27), (4, 34)], 27) := by decide +kernel
theorem d_X2_ofOne_28 : decode prog_4_method_17_code 28 = .ok (.iload_n 1, 1) := by decide +kernel
theorem d_X2_ofOne_29 : decode prog_4_method_17_code 29 = .ok (.i2l, 1) := by decide +kernel
theorem d_X2_ofOne_30 : decode prog_4_method_17_code 30 = .ok (.lneg, 1) := by decide +kernel
theorem d_X2_ofOne_31 : decode prog_4_method_17_code 31 = .ok (.invokestatic 123, 3) := by decide +kernel
theorem d_X2_ofOne_34 : decode prog_4_method_17_code 34 = .ok (.ireturn, 1) := by decide +kernel
theorem d_X2_ofOne_35 : decode prog_4_method_17_code 35 = .ok (.iload_n 1, 1) := by decide +kernel
theorem d_X2_ofOne_36 : decode prog_4_method_17_code 36 = .ok (.i2l, 1) := by decide +kernel
theorem d_X2_ofOne_37 : decode prog_4_method_17_code 37 = .ok (.invokestatic 127, 3) := by decide +kernel
theorem d_X2_ofOne_40 : decode prog_4_method_17_code 40 = .ok (.invokestatic 123, 3) := by decide +kernel
theorem d_X2_ofOne_43 : decode prog_4_method_17_code 43 = .ok (.ireturn, 1) := by decide +kernel
theorem d_X2_ofOne_44 : decode prog_4_method_17_code 44 = .ok (.iload_n 1, 1) := by decide +kernel
theorem d_X2_ofOne_45 : decode prog_4_method_17_code 45 = .ok (.ifCond .ne 7, 3) := by decide +kernel
theorem d_X2_ofOne_48 : decode prog_4_method_17_code 48 = .ok (.iconst 1, 1) := by decide +kernel
theorem d_X2_ofOne_49 : decode prog_4_method_17_code 49 = .ok (.goto 4, 3) := by decide +kernel
theorem d_X2_ofOne_52 : decode prog_4_method_17_code 52 = .ok (.iconst 0, 1) := by decide +kernel
theorem d_X2_ofOne_53 : decode prog_4_method_17_code 53 = .ok (.ireturn, 1) := by decide +kernel
theorem v_X2_ofOne_0 {E : EE} {d : Nat} {Q : Option AV → AH → Prop} {x0 : Int32} {x1 : Int32} {G : AH} (h0 : 0 < d) (h : (x0 = 3 → wpI E (d - 1) M_X2_held [vj (-(Int32.toInt64 x1))] G (fun r2 G3 => Q (some (vi r2)) G3)) ∧ ((x0 = 4 → wpI E (d - 1) M_X2_held [vj (labs (Int32.toInt64 x1))] G (fun r5 G6 => Q (some (vi r5)) G6)) ∧ ((¬ x0 = 3 → ¬ x0 = 4 → (¬ x1 = 0 → Q (some (vi 0)) G) ∧ (x1 = 0 → Q (some (vi 1)) G))))) : wp E d M_X2_ofOne 0 [some (vi x0), some (vi x1)] [] G Q := by
  refine wp_iload_n (pc := 0) d_X2_ofOne_0 rfl ?_
  obtain ⟨hk, h⟩ := h
  by_cases hn1 : x0 = 3
  · have h := hk hn1
    refine wp_lkp (pc := 1) (tgt := 28) (off := 27) d_X2_ofOne_1 (by decide) (by rw [hn1]; first | done | rfl) (by decide) ?_
    refine wp_iload_n (pc := 28) d_X2_ofOne_28 rfl ?_
    refine wp_i2l (pc := 29) d_X2_ofOne_29 ?_
    refine wp_lneg (pc := 30) d_X2_ofOne_30 ?_
    refine wp_invS (pc := 31) (N := M_X2_held) (As := [vj _]) (rest := []) d_X2_ofOne_31 ml_X2_123 mk_X2_held ms_X2_held h0 (Nat.le_of_ble_eq_true rfl) ?_
    refine wpM.mono h (fun rr G3 hr => ?_)
    obtain ⟨r2, rfl, h⟩ := hr
    show wp E d M_X2_ofOne 34 [some (vi _), some (vi _)] [vi _] G3 Q
    exact wp_iret (pc := 34) d_X2_ofOne_34 rfl h
  obtain ⟨hk, h⟩ := h
  by_cases hn4 : x0 = 4
  · have h := hk hn4
    refine wp_lkp (pc := 1) (tgt := 35) (off := 34) d_X2_ofOne_1 (by decide) (by rw [hn4]; first | done | rfl) (by decide) ?_
    refine wp_iload_n (pc := 35) d_X2_ofOne_35 rfl ?_
    refine wp_i2l (pc := 36) d_X2_ofOne_36 ?_
    refine wp_labs (pc := 37) d_X2_ofOne_37 ml_X2_127 ms_labs ii_math mc_labs h0 (Nat.le_of_ble_eq_true rfl) ?_
    refine wp_invS (pc := 40) (N := M_X2_held) (As := [vj _]) (rest := []) d_X2_ofOne_40 ml_X2_123 mk_X2_held ms_X2_held h0 (Nat.le_of_ble_eq_true rfl) ?_
    refine wpM.mono h (fun rr G6 hr => ?_)
    obtain ⟨r5, rfl, h⟩ := hr
    show wp E d M_X2_ofOne 43 [some (vi _), some (vi _)] [vi _] G6 Q
    exact wp_iret (pc := 43) d_X2_ofOne_43 rfl h
  have h := h hn1 hn4
  refine wp_lkp (pc := 1) (tgt := 44) (off := 43) d_X2_ofOne_1 (by decide) (by rw [lv_osw hn1 (by decide), lv_osw hn4 (by decide)]; first | done | rfl) (by decide) ?_
  refine wp_iload_n (pc := 44) d_X2_ofOne_44 rfl ?_
  refine wp_if_ne (pc := 45) (tgt := 52) d_X2_ofOne_45 (by decide) (fun hc => ?_) (fun hc => ?_)
  · have h := h.1 hc
    refine wp_iconst (pc := 52) (v := 0) d_X2_ofOne_52 rfl ?_
    exact wp_iret (pc := 53) d_X2_ofOne_53 rfl h
  · have h := h.2 hc
    refine wp_iconst (pc := 48) (v := 1) d_X2_ofOne_48 rfl ?_
    refine wp_goto (pc := 49) (tgt := 53) d_X2_ofOne_49 (by decide) ?_
    exact wp_iret (pc := 53) d_X2_ofOne_53 rfl h
theorem d_X2_held_0 : decode prog_4_method_16_code 0 = .ok (.ldc2_w 114, 3) := by decide +kernel
theorem d_X2_held_3 : decode prog_4_method_16_code 3 = .ok (.ldc2_w 116, 3) := by decide +kernel
theorem d_X2_held_6 : decode prog_4_method_16_code 6 = .ok (.lload_n 0, 1) := by decide +kernel
theorem d_X2_held_7 : decode prog_4_method_16_code 7 = .ok (.invokestatic 118, 3) := by decide +kernel
theorem d_X2_held_10 : decode prog_4_method_16_code 10 = .ok (.invokestatic 121, 3) := by decide +kernel
theorem d_X2_held_13 : decode prog_4_method_16_code 13 = .ok (.l2i, 1) := by decide +kernel
theorem d_X2_held_14 : decode prog_4_method_16_code 14 = .ok (.ireturn, 1) := by decide +kernel
theorem v_X2_held_0 {E : EE} {d : Nat} {Q : Option AV → AH → Prop} {x0 : Int64} {G : AH} (h0 : 0 < d) (h : Q (some (vi (Int64.toInt32 (lmax (-1000000) (lmin 1000000 x0))))) G) : wp E d M_X2_held 0 [some (vj x0), none] [] G Q := by
  refine wp_ldc2 (pc := 0) (v := (-1000000)) d_X2_held_0 cj_X2_114 ?_
  refine wp_ldc2 (pc := 3) (v := 1000000) d_X2_held_3 cj_X2_116 ?_
  refine wp_lload_n (pc := 6) d_X2_held_6 rfl ?_
  refine wp_lmin (pc := 7) d_X2_held_7 ml_X2_118 ms_lmin ii_math mc_lmin h0 (Nat.le_of_ble_eq_true rfl) ?_
  refine wp_lmax (pc := 10) d_X2_held_10 ml_X2_121 ms_lmax ii_math mc_lmax h0 (Nat.le_of_ble_eq_true rfl) ?_
  refine wp_l2i (pc := 13) d_X2_held_13 ?_
  exact wp_iret (pc := 14) d_X2_held_14 rfl h
theorem d_X2_picked_0 : decode prog_4_method_22_code 0 = .ok (.iload_n 2, 1) := by decide +kernel
theorem d_X2_picked_1 : decode prog_4_method_22_code 1 = .ok (.ifCond .lt 24, 3) := by decide +kernel
theorem d_X2_picked_4 : decode prog_4_method_22_code 4 = .ok (.iload_n 2, 1) := by decide +kernel
theorem d_X2_picked_5 : decode prog_4_method_22_code 5 = .ok (.aload_n 0, 1) := by decide +kernel
theorem d_X2_picked_6 : decode prog_4_method_22_code 6 = .ok (.iload_n 1, 1) := by decide +kernel
theorem d_X2_picked_7 : decode prog_4_method_22_code 7 = .ok (.invokevirtual 156, 3) := by decide +kernel
theorem d_X2_picked_10 : decode prog_4_method_22_code 10 = .ok (.if_icmp .ge 15, 3) := by decide +kernel
theorem d_X2_picked_13 : decode prog_4_method_22_code 13 = .ok (.aload_n 0, 1) := by decide +kernel
theorem d_X2_picked_14 : decode prog_4_method_22_code 14 = .ok (.iload_n 1, 1) := by decide +kernel
theorem d_X2_picked_15 : decode prog_4_method_22_code 15 = .ok (.iconst 1, 1) := by decide +kernel
theorem d_X2_picked_16 : decode prog_4_method_22_code 16 = .ok (.iadd, 1) := by decide +kernel
theorem d_X2_picked_17 : decode prog_4_method_22_code 17 = .ok (.iload_n 2, 1) := by decide +kernel
theorem d_X2_picked_18 : decode prog_4_method_22_code 18 = .ok (.iadd, 1) := by decide +kernel
theorem d_X2_picked_19 : decode prog_4_method_22_code 19 = .ok (.invokevirtual 156, 3) := by decide +kernel
theorem d_X2_picked_22 : decode prog_4_method_22_code 22 = .ok (.goto 4, 3) := by decide +kernel
theorem d_X2_picked_25 : decode prog_4_method_22_code 25 = .ok (.iconst 0, 1) := by decide +kernel
theorem d_X2_picked_26 : decode prog_4_method_22_code 26 = .ok (.ireturn, 1) := by decide +kernel
theorem v_X2_picked_0 {E : EE} {d : Nat} {Q : Option AV → AH → Prop} {x0 : Nat} {x1 : Int32} {x2 : Int32} {G : AH} (h0 : 0 < d) (h : (x2 < 0 → Q (some (vi 0)) G) ∧ (¬ (x2 < 0) → isO E G x0 2 ∧ (wpI E (d - 1) M_X2_noteAt [vr x0, vi x1] G (fun r1 G2 => (r1 ≤ x2 → Q (some (vi 0)) G2) ∧ (¬ (r1 ≤ x2) → isO E G2 x0 2 ∧ (wpI E (d - 1) M_X2_noteAt [vr x0, vi ((x1 + 1) + x2)] G2 (fun r3 G4 => Q (some (vi r3)) G4))))))) : wp E d M_X2_picked 0 [some (vr x0), some (vi x1), some (vi x2)] [] G Q := by
  refine wp_iload_n (pc := 0) d_X2_picked_0 rfl ?_
  refine wp_if_lt (pc := 1) (tgt := 25) d_X2_picked_1 (by decide) (fun hc => ?_) (fun hc => ?_)
  · have h := h.1 hc
    refine wp_iconst (pc := 25) (v := 0) d_X2_picked_25 rfl ?_
    exact wp_iret (pc := 26) d_X2_picked_26 rfl h
  · have h := h.2 hc
    refine wp_iload_n (pc := 4) d_X2_picked_4 rfl ?_
    refine wp_aload_n (pc := 5) d_X2_picked_5 rfl ?_
    refine wp_iload_n (pc := 6) d_X2_picked_6 rfl ?_
    obtain ⟨ho6, h⟩ := h
    refine wp_invV (pc := 7) (N := M_X2_noteAt) (As := [vi _]) (rest := [vi _]) (r := (cn_2, ct_2, 15)) d_X2_picked_7 ml_X2_156 mk_X2_noteAt mv_X2_noteAt h0 ho6 rfl rfl (Nat.le_of_ble_eq_true rfl) ?_
    refine wpM.mono h (fun rr G2 hr => ?_)
    obtain ⟨r1, rfl, h⟩ := hr
    show wp E d M_X2_picked 10 [some (vr _), some (vi _), some (vi _)] [vi _, vi _] G2 Q
    refine wp_icmp_ge (pc := 10) (tgt := 25) d_X2_picked_10 (by decide) (fun hc => ?_) (fun hc => ?_)
    · have h := h.1 hc
      refine wp_iconst (pc := 25) (v := 0) d_X2_picked_25 rfl ?_
      exact wp_iret (pc := 26) d_X2_picked_26 rfl h
    · have h := h.2 hc
      refine wp_aload_n (pc := 13) d_X2_picked_13 rfl ?_
      refine wp_iload_n (pc := 14) d_X2_picked_14 rfl ?_
      refine wp_iconst (pc := 15) (v := 1) d_X2_picked_15 rfl ?_
      refine wp_iadd (pc := 16) d_X2_picked_16 ?_
      refine wp_iload_n (pc := 17) d_X2_picked_17 rfl ?_
      refine wp_iadd (pc := 18) d_X2_picked_18 ?_
      obtain ⟨ho5, h⟩ := h
      refine wp_invV (pc := 19) (N := M_X2_noteAt) (As := [vi _]) (rest := []) (r := (cn_2, ct_2, 15)) d_X2_picked_19 ml_X2_156 mk_X2_noteAt mv_X2_noteAt h0 ho5 rfl rfl (Nat.le_of_ble_eq_true rfl) ?_
      refine wpM.mono h (fun rr G4 hr => ?_)
      obtain ⟨r3, rfl, h⟩ := hr
      show wp E d M_X2_picked 22 [some (vr _), some (vi _), some (vi _)] [vi _] G4 Q
      refine wp_goto (pc := 22) (tgt := 26) d_X2_picked_22 (by decide) ?_
      exact wp_iret (pc := 26) d_X2_picked_26 rfl h
theorem d_X2_noteAt_0 : decode prog_4_method_20_code 0 = .ok (.iload_n 1, 1) := by decide +kernel
theorem d_X2_noteAt_1 : decode prog_4_method_20_code 1 = .ok (.ifCond .lt 29, 3) := by decide +kernel
theorem d_X2_noteAt_4 : decode prog_4_method_20_code 4 = .ok (.iload_n 1, 1) := by decide +kernel
theorem d_X2_noteAt_5 : decode prog_4_method_20_code 5 = .ok (.aload_n 0, 1) := by decide +kernel
theorem d_X2_noteAt_6 : decode prog_4_method_20_code 6 = .ok (.getfield 21, 3) := by decide +kernel
theorem d_X2_noteAt_9 : decode prog_4_method_20_code 9 = .ok (.if_icmp .ge 21, 3) := by decide +kernel
theorem d_X2_noteAt_12 : decode prog_4_method_20_code 12 = .ok (.iload_n 1, 1) := by decide +kernel
theorem d_X2_noteAt_13 : decode prog_4_method_20_code 13 = .ok (.aload_n 0, 1) := by decide +kernel
theorem d_X2_noteAt_14 : decode prog_4_method_20_code 14 = .ok (.getfield 46, 3) := by decide +kernel
theorem d_X2_noteAt_17 : decode prog_4_method_20_code 17 = .ok (.arraylength, 1) := by decide +kernel
theorem d_X2_noteAt_18 : decode prog_4_method_20_code 18 = .ok (.if_icmp .ge 12, 3) := by decide +kernel
theorem d_X2_noteAt_21 : decode prog_4_method_20_code 21 = .ok (.aload_n 0, 1) := by decide +kernel
theorem d_X2_noteAt_22 : decode prog_4_method_20_code 22 = .ok (.getfield 46, 3) := by decide +kernel
theorem d_X2_noteAt_25 : decode prog_4_method_20_code 25 = .ok (.iload_n 1, 1) := by decide +kernel
theorem d_X2_noteAt_26 : decode prog_4_method_20_code 26 = .ok (.iaload, 1) := by decide +kernel
theorem d_X2_noteAt_27 : decode prog_4_method_20_code 27 = .ok (.goto 4, 3) := by decide +kernel
theorem d_X2_noteAt_30 : decode prog_4_method_20_code 30 = .ok (.iconst 0, 1) := by decide +kernel
theorem d_X2_noteAt_31 : decode prog_4_method_20_code 31 = .ok (.ireturn, 1) := by decide +kernel
theorem v_X2_noteAt_0 {E : EE} {d : Nat} {Q : Option AV → AH → Prop} {x0 : Nat} {x1 : Int32} {G : AH} (h : (x1 < 0 → Q (some (vi 0)) G) ∧ (¬ (x1 < 0) → isO E G x0 2 ∧ (((gI G x0 3) ≤ x1 → Q (some (vi 0)) G) ∧ (¬ ((gI G x0 3) ≤ x1) → isO E G (gR G x0 11) 14 ∧ (((nI (gN G (gR G x0 11))) ≤ x1 → Q (some (vi 0)) G) ∧ (¬ ((nI (gN G (gR G x0 11))) ≤ x1) → vp_in x1 (gN G (gR G x0 11)) ∧ (Q (some (vi (gI G (gR G x0 11) (Int32.toNatClampNeg x1)))) G))))))) : wp E d M_X2_noteAt 0 [some (vr x0), some (vi x1)] [] G Q := by
  refine wp_iload_n (pc := 0) d_X2_noteAt_0 rfl ?_
  refine wp_if_lt (pc := 1) (tgt := 30) d_X2_noteAt_1 (by decide) (fun hc => ?_) (fun hc => ?_)
  · have h := h.1 hc
    refine wp_iconst (pc := 30) (v := 0) d_X2_noteAt_30 rfl ?_
    exact wp_iret (pc := 31) d_X2_noteAt_31 rfl h
  · have h := h.2 hc
    refine wp_iload_n (pc := 4) d_X2_noteAt_4 rfl ?_
    refine wp_aload_n (pc := 5) d_X2_noteAt_5 rfl ?_
    obtain ⟨ho1, h⟩ := h
    refine wp_getI (pc := 6) d_X2_noteAt_6 fl_X2_21 (fun _ _ _ => rfl) ho1 ?_
    refine wp_icmp_ge (pc := 9) (tgt := 30) d_X2_noteAt_9 (by decide) (fun hc => ?_) (fun hc => ?_)
    · have h := h.1 hc
      refine wp_iconst (pc := 30) (v := 0) d_X2_noteAt_30 rfl ?_
      exact wp_iret (pc := 31) d_X2_noteAt_31 rfl h
    · have h := h.2 hc
      refine wp_iload_n (pc := 12) d_X2_noteAt_12 rfl ?_
      refine wp_aload_n (pc := 13) d_X2_noteAt_13 rfl ?_
      refine wp_getR (pc := 14) d_X2_noteAt_14 fl_X2_46 (fun _ _ _ => rfl) ho1 ?_
      obtain ⟨ho2, h⟩ := h
      refine wp_alen (pc := 17) d_X2_noteAt_17 ho2 (by decide) rfl ?_
      refine wp_icmp_ge (pc := 18) (tgt := 30) d_X2_noteAt_18 (by decide) (fun hc => ?_) (fun hc => ?_)
      · have h := h.1 hc
        refine wp_iconst (pc := 30) (v := 0) d_X2_noteAt_30 rfl ?_
        exact wp_iret (pc := 31) d_X2_noteAt_31 rfl h
      · have h := h.2 hc
        refine wp_aload_n (pc := 21) d_X2_noteAt_21 rfl ?_
        refine wp_getR (pc := 22) d_X2_noteAt_22 fl_X2_46 (fun _ _ _ => rfl) ho1 ?_
        refine wp_iload_n (pc := 25) d_X2_noteAt_25 rfl ?_
        obtain ⟨hi3, h⟩ := h
        refine wp_iald (pc := 26) d_X2_noteAt_26 ho2 hi3 ?_
        refine wp_goto (pc := 27) (tgt := 31) d_X2_noteAt_27 (by decide) ?_
        exact wp_iret (pc := 31) d_X2_noteAt_31 rfl h
theorem d_X2_ofTwo_0 : decode prog_4_method_18_code 0 = .ok (.iload_n 0, 1) := by decide +kernel
theorem d_X2_ofTwo_1 : decode prog_4_method_18_code 1 = .ok (.tableswitch 169 8 20 #[67, 76, 85, 94, 100, 106, 113, 124, 134, 142, 152, 160, 94], 67) := by decide +kernel
theorem d_X2_ofTwo_68 : decode prog_4_method_18_code 68 = .ok (.iload_n 1, 1) := by decide +kernel
theorem d_X2_ofTwo_69 : decode prog_4_method_18_code 69 = .ok (.i2l, 1) := by decide +kernel
theorem d_X2_ofTwo_70 : decode prog_4_method_18_code 70 = .ok (.iload_n 2, 1) := by decide +kernel
theorem d_X2_ofTwo_71 : decode prog_4_method_18_code 71 = .ok (.i2l, 1) := by decide +kernel
theorem d_X2_ofTwo_72 : decode prog_4_method_18_code 72 = .ok (.ladd, 1) := by decide +kernel
theorem d_X2_ofTwo_73 : decode prog_4_method_18_code 73 = .ok (.invokestatic 123, 3) := by decide +kernel
theorem d_X2_ofTwo_76 : decode prog_4_method_18_code 76 = .ok (.ireturn, 1) := by decide +kernel
theorem d_X2_ofTwo_77 : decode prog_4_method_18_code 77 = .ok (.iload_n 1, 1) := by decide +kernel
theorem d_X2_ofTwo_78 : decode prog_4_method_18_code 78 = .ok (.i2l, 1) := by decide +kernel
theorem d_X2_ofTwo_79 : decode prog_4_method_18_code 79 = .ok (.iload_n 2, 1) := by decide +kernel
theorem d_X2_ofTwo_80 : decode prog_4_method_18_code 80 = .ok (.i2l, 1) := by decide +kernel
theorem d_X2_ofTwo_81 : decode prog_4_method_18_code 81 = .ok (.lsub, 1) := by decide +kernel
theorem d_X2_ofTwo_82 : decode prog_4_method_18_code 82 = .ok (.invokestatic 123, 3) := by decide +kernel
theorem d_X2_ofTwo_85 : decode prog_4_method_18_code 85 = .ok (.ireturn, 1) := by decide +kernel
theorem d_X2_ofTwo_86 : decode prog_4_method_18_code 86 = .ok (.iload_n 1, 1) := by decide +kernel
theorem d_X2_ofTwo_87 : decode prog_4_method_18_code 87 = .ok (.i2l, 1) := by decide +kernel
theorem d_X2_ofTwo_88 : decode prog_4_method_18_code 88 = .ok (.iload_n 2, 1) := by decide +kernel
theorem d_X2_ofTwo_89 : decode prog_4_method_18_code 89 = .ok (.i2l, 1) := by decide +kernel
theorem d_X2_ofTwo_90 : decode prog_4_method_18_code 90 = .ok (.lmul, 1) := by decide +kernel
theorem d_X2_ofTwo_91 : decode prog_4_method_18_code 91 = .ok (.invokestatic 123, 3) := by decide +kernel
theorem d_X2_ofTwo_94 : decode prog_4_method_18_code 94 = .ok (.ireturn, 1) := by decide +kernel
theorem d_X2_ofTwo_95 : decode prog_4_method_18_code 95 = .ok (.iload_n 1, 1) := by decide +kernel
theorem d_X2_ofTwo_96 : decode prog_4_method_18_code 96 = .ok (.iload_n 2, 1) := by decide +kernel
theorem d_X2_ofTwo_97 : decode prog_4_method_18_code 97 = .ok (.invokestatic 73, 3) := by decide +kernel
theorem d_X2_ofTwo_100 : decode prog_4_method_18_code 100 = .ok (.ireturn, 1) := by decide +kernel
theorem d_X2_ofTwo_101 : decode prog_4_method_18_code 101 = .ok (.iload_n 1, 1) := by decide +kernel
theorem d_X2_ofTwo_102 : decode prog_4_method_18_code 102 = .ok (.iload_n 2, 1) := by decide +kernel
theorem d_X2_ofTwo_103 : decode prog_4_method_18_code 103 = .ok (.invokestatic 78, 3) := by decide +kernel
theorem d_X2_ofTwo_106 : decode prog_4_method_18_code 106 = .ok (.ireturn, 1) := by decide +kernel
theorem d_X2_ofTwo_107 : decode prog_4_method_18_code 107 = .ok (.iload_n 1, 1) := by decide +kernel
theorem d_X2_ofTwo_108 : decode prog_4_method_18_code 108 = .ok (.iload_n 2, 1) := by decide +kernel
theorem d_X2_ofTwo_109 : decode prog_4_method_18_code 109 = .ok (.isub, 1) := by decide +kernel
theorem d_X2_ofTwo_110 : decode prog_4_method_18_code 110 = .ok (.invokestatic 131, 3) := by decide +kernel
theorem d_X2_ofTwo_113 : decode prog_4_method_18_code 113 = .ok (.ireturn, 1) := by decide +kernel
theorem d_X2_ofTwo_114 : decode prog_4_method_18_code 114 = .ok (.iload_n 1, 1) := by decide +kernel
theorem d_X2_ofTwo_115 : decode prog_4_method_18_code 115 = .ok (.iload_n 2, 1) := by decide +kernel
theorem d_X2_ofTwo_116 : decode prog_4_method_18_code 116 = .ok (.if_icmp .ne 7, 3) := by decide +kernel
theorem d_X2_ofTwo_119 : decode prog_4_method_18_code 119 = .ok (.iconst 1, 1) := by decide +kernel
theorem d_X2_ofTwo_120 : decode prog_4_method_18_code 120 = .ok (.goto 4, 3) := by decide +kernel
theorem d_X2_ofTwo_123 : decode prog_4_method_18_code 123 = .ok (.iconst 0, 1) := by decide +kernel
theorem d_X2_ofTwo_124 : decode prog_4_method_18_code 124 = .ok (.ireturn, 1) := by decide +kernel
theorem d_X2_ofTwo_125 : decode prog_4_method_18_code 125 = .ok (.iconst 0, 1) := by decide +kernel
theorem d_X2_ofTwo_126 : decode prog_4_method_18_code 126 = .ok (.iload_n 1, 1) := by decide +kernel
theorem d_X2_ofTwo_127 : decode prog_4_method_18_code 127 = .ok (.iload_n 2, 1) := by decide +kernel
theorem d_X2_ofTwo_128 : decode prog_4_method_18_code 128 = .ok (.isub, 1) := by decide +kernel
theorem d_X2_ofTwo_129 : decode prog_4_method_18_code 129 = .ok (.iconst 1, 1) := by decide +kernel
theorem d_X2_ofTwo_130 : decode prog_4_method_18_code 130 = .ok (.iadd, 1) := by decide +kernel
theorem d_X2_ofTwo_131 : decode prog_4_method_18_code 131 = .ok (.invokestatic 78, 3) := by decide +kernel
theorem d_X2_ofTwo_134 : decode prog_4_method_18_code 134 = .ok (.ireturn, 1) := by decide +kernel
theorem d_X2_ofTwo_135 : decode prog_4_method_18_code 135 = .ok (.iconst 0, 1) := by decide +kernel
theorem d_X2_ofTwo_136 : decode prog_4_method_18_code 136 = .ok (.iload_n 1, 1) := by decide +kernel
theorem d_X2_ofTwo_137 : decode prog_4_method_18_code 137 = .ok (.iload_n 2, 1) := by decide +kernel
theorem d_X2_ofTwo_138 : decode prog_4_method_18_code 138 = .ok (.isub, 1) := by decide +kernel
theorem d_X2_ofTwo_139 : decode prog_4_method_18_code 139 = .ok (.invokestatic 78, 3) := by decide +kernel
theorem d_X2_ofTwo_142 : decode prog_4_method_18_code 142 = .ok (.ireturn, 1) := by decide +kernel
theorem d_X2_ofTwo_143 : decode prog_4_method_18_code 143 = .ok (.iconst 0, 1) := by decide +kernel
theorem d_X2_ofTwo_144 : decode prog_4_method_18_code 144 = .ok (.iload_n 2, 1) := by decide +kernel
theorem d_X2_ofTwo_145 : decode prog_4_method_18_code 145 = .ok (.iload_n 1, 1) := by decide +kernel
theorem d_X2_ofTwo_146 : decode prog_4_method_18_code 146 = .ok (.isub, 1) := by decide +kernel
theorem d_X2_ofTwo_147 : decode prog_4_method_18_code 147 = .ok (.iconst 1, 1) := by decide +kernel
theorem d_X2_ofTwo_148 : decode prog_4_method_18_code 148 = .ok (.iadd, 1) := by decide +kernel
theorem d_X2_ofTwo_149 : decode prog_4_method_18_code 149 = .ok (.invokestatic 78, 3) := by decide +kernel
theorem d_X2_ofTwo_152 : decode prog_4_method_18_code 152 = .ok (.ireturn, 1) := by decide +kernel
theorem d_X2_ofTwo_153 : decode prog_4_method_18_code 153 = .ok (.iconst 0, 1) := by decide +kernel
theorem d_X2_ofTwo_154 : decode prog_4_method_18_code 154 = .ok (.iload_n 2, 1) := by decide +kernel
theorem d_X2_ofTwo_155 : decode prog_4_method_18_code 155 = .ok (.iload_n 1, 1) := by decide +kernel
theorem d_X2_ofTwo_156 : decode prog_4_method_18_code 156 = .ok (.isub, 1) := by decide +kernel
theorem d_X2_ofTwo_157 : decode prog_4_method_18_code 157 = .ok (.invokestatic 78, 3) := by decide +kernel
theorem d_X2_ofTwo_160 : decode prog_4_method_18_code 160 = .ok (.ireturn, 1) := by decide +kernel
theorem d_X2_ofTwo_161 : decode prog_4_method_18_code 161 = .ok (.ldc 134, 2) := by decide +kernel
theorem d_X2_ofTwo_163 : decode prog_4_method_18_code 163 = .ok (.iload_n 1, 1) := by decide +kernel
theorem d_X2_ofTwo_164 : decode prog_4_method_18_code 164 = .ok (.iload_n 2, 1) := by decide +kernel
theorem d_X2_ofTwo_165 : decode prog_4_method_18_code 165 = .ok (.iadd, 1) := by decide +kernel
theorem d_X2_ofTwo_166 : decode prog_4_method_18_code 166 = .ok (.invokestatic 73, 3) := by decide +kernel
theorem d_X2_ofTwo_169 : decode prog_4_method_18_code 169 = .ok (.ireturn, 1) := by decide +kernel
theorem d_X2_ofTwo_170 : decode prog_4_method_18_code 170 = .ok (.iload_n 1, 1) := by decide +kernel
theorem d_X2_ofTwo_171 : decode prog_4_method_18_code 171 = .ok (.ifCond .ne 7, 3) := by decide +kernel
theorem d_X2_ofTwo_174 : decode prog_4_method_18_code 174 = .ok (.iload_n 2, 1) := by decide +kernel
theorem d_X2_ofTwo_175 : decode prog_4_method_18_code 175 = .ok (.goto 4, 3) := by decide +kernel
theorem d_X2_ofTwo_178 : decode prog_4_method_18_code 178 = .ok (.iconst 0, 1) := by decide +kernel
theorem d_X2_ofTwo_179 : decode prog_4_method_18_code 179 = .ok (.ireturn, 1) := by decide +kernel
theorem v_X2_ofTwo_0 {E : EE} {d : Nat} {Q : Option AV → AH → Prop} {x0 : Int32} {x1 : Int32} {x2 : Int32} {G : AH} (h0 : 0 < d) (h : (x0 = 8 → wpI E (d - 1) M_X2_held [vj ((Int32.toInt64 x1) + (Int32.toInt64 x2))] G (fun r2 G3 => Q (some (vi r2)) G3)) ∧ ((x0 = 9 → wpI E (d - 1) M_X2_held [vj ((Int32.toInt64 x1) - (Int32.toInt64 x2))] G (fun r5 G6 => Q (some (vi r5)) G6)) ∧ ((x0 = 10 → wpI E (d - 1) M_X2_held [vj ((Int32.toInt64 x1) * (Int32.toInt64 x2))] G (fun r8 G9 => Q (some (vi r8)) G9)) ∧ ((x0 = 11 → Q (some (vi (imin x1 x2))) G) ∧ ((x0 = 12 → Q (some (vi (imax x1 x2))) G) ∧ ((x0 = 13 → Q (some (vi (iabs (x1 - x2)))) G) ∧ ((x0 = 14 → (¬ x1 = x2 → Q (some (vi 0)) G) ∧ (x1 = x2 → Q (some (vi 1)) G)) ∧ ((x0 = 15 → Q (some (vi (imax 0 ((x1 - x2) + 1)))) G) ∧ ((x0 = 16 → Q (some (vi (imax 0 (x1 - x2)))) G) ∧ ((x0 = 17 → Q (some (vi (imax 0 ((x2 - x1) + 1)))) G) ∧ ((x0 = 18 → Q (some (vi (imax 0 (x2 - x1)))) G) ∧ ((x0 = 19 → Q (some (vi (imin 1000000 (x1 + x2)))) G) ∧ ((x0 = 20 → Q (some (vi (imin x1 x2))) G) ∧ ((¬ x0 = 8 → ¬ x0 = 9 → ¬ x0 = 10 → ¬ x0 = 11 → ¬ x0 = 12 → ¬ x0 = 13 → ¬ x0 = 14 → ¬ x0 = 15 → ¬ x0 = 16 → ¬ x0 = 17 → ¬ x0 = 18 → ¬ x0 = 19 → ¬ x0 = 20 → (¬ x1 = 0 → Q (some (vi 0)) G) ∧ (x1 = 0 → Q (some (vi x2)) G)))))))))))))))) : wp E d M_X2_ofTwo 0 [some (vi x0), some (vi x1), some (vi x2)] [] G Q := by
  refine wp_iload_n (pc := 0) d_X2_ofTwo_0 rfl ?_
  obtain ⟨hk, h⟩ := h
  by_cases hn1 : x0 = 8
  · have h := hk hn1
    refine wp_tblI (pc := 1) (tgt := 68) d_X2_ofTwo_1 (by rw [hn1]; decide) (by rw [hn1]; decide) (by rw [hn1]; first | done | rfl) (by decide) ?_
    refine wp_iload_n (pc := 68) d_X2_ofTwo_68 rfl ?_
    refine wp_i2l (pc := 69) d_X2_ofTwo_69 ?_
    refine wp_iload_n (pc := 70) d_X2_ofTwo_70 rfl ?_
    refine wp_i2l (pc := 71) d_X2_ofTwo_71 ?_
    refine wp_ladd (pc := 72) d_X2_ofTwo_72 ?_
    refine wp_invS (pc := 73) (N := M_X2_held) (As := [vj _]) (rest := []) d_X2_ofTwo_73 ml_X2_123 mk_X2_held ms_X2_held h0 (Nat.le_of_ble_eq_true rfl) ?_
    refine wpM.mono h (fun rr G3 hr => ?_)
    obtain ⟨r2, rfl, h⟩ := hr
    show wp E d M_X2_ofTwo 76 [some (vi _), some (vi _), some (vi _)] [vi _] G3 Q
    exact wp_iret (pc := 76) d_X2_ofTwo_76 rfl h
  obtain ⟨hk, h⟩ := h
  by_cases hn4 : x0 = 9
  · have h := hk hn4
    refine wp_tblI (pc := 1) (tgt := 77) d_X2_ofTwo_1 (by rw [hn4]; decide) (by rw [hn4]; decide) (by rw [hn4]; first | done | rfl) (by decide) ?_
    refine wp_iload_n (pc := 77) d_X2_ofTwo_77 rfl ?_
    refine wp_i2l (pc := 78) d_X2_ofTwo_78 ?_
    refine wp_iload_n (pc := 79) d_X2_ofTwo_79 rfl ?_
    refine wp_i2l (pc := 80) d_X2_ofTwo_80 ?_
    refine wp_lsub (pc := 81) d_X2_ofTwo_81 ?_
    refine wp_invS (pc := 82) (N := M_X2_held) (As := [vj _]) (rest := []) d_X2_ofTwo_82 ml_X2_123 mk_X2_held ms_X2_held h0 (Nat.le_of_ble_eq_true rfl) ?_
    refine wpM.mono h (fun rr G6 hr => ?_)
    obtain ⟨r5, rfl, h⟩ := hr
    show wp E d M_X2_ofTwo 85 [some (vi _), some (vi _), some (vi _)] [vi _] G6 Q
    exact wp_iret (pc := 85) d_X2_ofTwo_85 rfl h
  obtain ⟨hk, h⟩ := h
  by_cases hn7 : x0 = 10
  · have h := hk hn7
    refine wp_tblI (pc := 1) (tgt := 86) d_X2_ofTwo_1 (by rw [hn7]; decide) (by rw [hn7]; decide) (by rw [hn7]; first | done | rfl) (by decide) ?_
    refine wp_iload_n (pc := 86) d_X2_ofTwo_86 rfl ?_
    refine wp_i2l (pc := 87) d_X2_ofTwo_87 ?_
    refine wp_iload_n (pc := 88) d_X2_ofTwo_88 rfl ?_
    refine wp_i2l (pc := 89) d_X2_ofTwo_89 ?_
    refine wp_lmul (pc := 90) d_X2_ofTwo_90 ?_
    refine wp_invS (pc := 91) (N := M_X2_held) (As := [vj _]) (rest := []) d_X2_ofTwo_91 ml_X2_123 mk_X2_held ms_X2_held h0 (Nat.le_of_ble_eq_true rfl) ?_
    refine wpM.mono h (fun rr G9 hr => ?_)
    obtain ⟨r8, rfl, h⟩ := hr
    show wp E d M_X2_ofTwo 94 [some (vi _), some (vi _), some (vi _)] [vi _] G9 Q
    exact wp_iret (pc := 94) d_X2_ofTwo_94 rfl h
  obtain ⟨hk, h⟩ := h
  by_cases hn10 : x0 = 11
  · have h := hk hn10
    refine wp_tblI (pc := 1) (tgt := 95) d_X2_ofTwo_1 (by rw [hn10]; decide) (by rw [hn10]; decide) (by rw [hn10]; first | done | rfl) (by decide) ?_
    refine wp_iload_n (pc := 95) d_X2_ofTwo_95 rfl ?_
    refine wp_iload_n (pc := 96) d_X2_ofTwo_96 rfl ?_
    refine wp_imin (pc := 97) d_X2_ofTwo_97 ml_X2_73 ms_imin ii_math mc_imin h0 (Nat.le_of_ble_eq_true rfl) ?_
    exact wp_iret (pc := 100) d_X2_ofTwo_100 rfl h
  obtain ⟨hk, h⟩ := h
  by_cases hn11 : x0 = 12
  · have h := hk hn11
    refine wp_tblI (pc := 1) (tgt := 101) d_X2_ofTwo_1 (by rw [hn11]; decide) (by rw [hn11]; decide) (by rw [hn11]; first | done | rfl) (by decide) ?_
    refine wp_iload_n (pc := 101) d_X2_ofTwo_101 rfl ?_
    refine wp_iload_n (pc := 102) d_X2_ofTwo_102 rfl ?_
    refine wp_imax (pc := 103) d_X2_ofTwo_103 ml_X2_78 ms_imax ii_math mc_imax h0 (Nat.le_of_ble_eq_true rfl) ?_
    exact wp_iret (pc := 106) d_X2_ofTwo_106 rfl h
  obtain ⟨hk, h⟩ := h
  by_cases hn12 : x0 = 13
  · have h := hk hn12
    refine wp_tblI (pc := 1) (tgt := 107) d_X2_ofTwo_1 (by rw [hn12]; decide) (by rw [hn12]; decide) (by rw [hn12]; first | done | rfl) (by decide) ?_
    refine wp_iload_n (pc := 107) d_X2_ofTwo_107 rfl ?_
    refine wp_iload_n (pc := 108) d_X2_ofTwo_108 rfl ?_
    refine wp_isub (pc := 109) d_X2_ofTwo_109 ?_
    refine wp_iabs (pc := 110) d_X2_ofTwo_110 ml_X2_131 ms_iabs ii_math mc_iabs h0 (Nat.le_of_ble_eq_true rfl) ?_
    exact wp_iret (pc := 113) d_X2_ofTwo_113 rfl h
  obtain ⟨hk, h⟩ := h
  by_cases hn13 : x0 = 14
  · have h := hk hn13
    refine wp_tblI (pc := 1) (tgt := 114) d_X2_ofTwo_1 (by rw [hn13]; decide) (by rw [hn13]; decide) (by rw [hn13]; first | done | rfl) (by decide) ?_
    refine wp_iload_n (pc := 114) d_X2_ofTwo_114 rfl ?_
    refine wp_iload_n (pc := 115) d_X2_ofTwo_115 rfl ?_
    refine wp_icmp_ne (pc := 116) (tgt := 123) d_X2_ofTwo_116 (by decide) (fun hc => ?_) (fun hc => ?_)
    · have h := h.1 hc
      refine wp_iconst (pc := 123) (v := 0) d_X2_ofTwo_123 rfl ?_
      exact wp_iret (pc := 124) d_X2_ofTwo_124 rfl h
    · have h := h.2 hc
      refine wp_iconst (pc := 119) (v := 1) d_X2_ofTwo_119 rfl ?_
      refine wp_goto (pc := 120) (tgt := 124) d_X2_ofTwo_120 (by decide) ?_
      exact wp_iret (pc := 124) d_X2_ofTwo_124 rfl h
  obtain ⟨hk, h⟩ := h
  by_cases hn14 : x0 = 15
  · have h := hk hn14
    refine wp_tblI (pc := 1) (tgt := 125) d_X2_ofTwo_1 (by rw [hn14]; decide) (by rw [hn14]; decide) (by rw [hn14]; first | done | rfl) (by decide) ?_
    refine wp_iconst (pc := 125) (v := 0) d_X2_ofTwo_125 rfl ?_
    refine wp_iload_n (pc := 126) d_X2_ofTwo_126 rfl ?_
    refine wp_iload_n (pc := 127) d_X2_ofTwo_127 rfl ?_
    refine wp_isub (pc := 128) d_X2_ofTwo_128 ?_
    refine wp_iconst (pc := 129) (v := 1) d_X2_ofTwo_129 rfl ?_
    refine wp_iadd (pc := 130) d_X2_ofTwo_130 ?_
    refine wp_imax (pc := 131) d_X2_ofTwo_131 ml_X2_78 ms_imax ii_math mc_imax h0 (Nat.le_of_ble_eq_true rfl) ?_
    exact wp_iret (pc := 134) d_X2_ofTwo_134 rfl h
  obtain ⟨hk, h⟩ := h
  by_cases hn15 : x0 = 16
  · have h := hk hn15
    refine wp_tblI (pc := 1) (tgt := 135) d_X2_ofTwo_1 (by rw [hn15]; decide) (by rw [hn15]; decide) (by rw [hn15]; first | done | rfl) (by decide) ?_
    refine wp_iconst (pc := 135) (v := 0) d_X2_ofTwo_135 rfl ?_
    refine wp_iload_n (pc := 136) d_X2_ofTwo_136 rfl ?_
    refine wp_iload_n (pc := 137) d_X2_ofTwo_137 rfl ?_
    refine wp_isub (pc := 138) d_X2_ofTwo_138 ?_
    refine wp_imax (pc := 139) d_X2_ofTwo_139 ml_X2_78 ms_imax ii_math mc_imax h0 (Nat.le_of_ble_eq_true rfl) ?_
    exact wp_iret (pc := 142) d_X2_ofTwo_142 rfl h
  obtain ⟨hk, h⟩ := h
  by_cases hn16 : x0 = 17
  · have h := hk hn16
    refine wp_tblI (pc := 1) (tgt := 143) d_X2_ofTwo_1 (by rw [hn16]; decide) (by rw [hn16]; decide) (by rw [hn16]; first | done | rfl) (by decide) ?_
    refine wp_iconst (pc := 143) (v := 0) d_X2_ofTwo_143 rfl ?_
    refine wp_iload_n (pc := 144) d_X2_ofTwo_144 rfl ?_
    refine wp_iload_n (pc := 145) d_X2_ofTwo_145 rfl ?_
    refine wp_isub (pc := 146) d_X2_ofTwo_146 ?_
    refine wp_iconst (pc := 147) (v := 1) d_X2_ofTwo_147 rfl ?_
    refine wp_iadd (pc := 148) d_X2_ofTwo_148 ?_
    refine wp_imax (pc := 149) d_X2_ofTwo_149 ml_X2_78 ms_imax ii_math mc_imax h0 (Nat.le_of_ble_eq_true rfl) ?_
    exact wp_iret (pc := 152) d_X2_ofTwo_152 rfl h
  obtain ⟨hk, h⟩ := h
  by_cases hn17 : x0 = 18
  · have h := hk hn17
    refine wp_tblI (pc := 1) (tgt := 153) d_X2_ofTwo_1 (by rw [hn17]; decide) (by rw [hn17]; decide) (by rw [hn17]; first | done | rfl) (by decide) ?_
    refine wp_iconst (pc := 153) (v := 0) d_X2_ofTwo_153 rfl ?_
    refine wp_iload_n (pc := 154) d_X2_ofTwo_154 rfl ?_
    refine wp_iload_n (pc := 155) d_X2_ofTwo_155 rfl ?_
    refine wp_isub (pc := 156) d_X2_ofTwo_156 ?_
    refine wp_imax (pc := 157) d_X2_ofTwo_157 ml_X2_78 ms_imax ii_math mc_imax h0 (Nat.le_of_ble_eq_true rfl) ?_
    exact wp_iret (pc := 160) d_X2_ofTwo_160 rfl h
  obtain ⟨hk, h⟩ := h
  by_cases hn18 : x0 = 19
  · have h := hk hn18
    refine wp_tblI (pc := 1) (tgt := 161) d_X2_ofTwo_1 (by rw [hn18]; decide) (by rw [hn18]; decide) (by rw [hn18]; first | done | rfl) (by decide) ?_
    refine wp_ldc (pc := 161) (v := 1000000) d_X2_ofTwo_161 ci_X2_134 ?_
    refine wp_iload_n (pc := 163) d_X2_ofTwo_163 rfl ?_
    refine wp_iload_n (pc := 164) d_X2_ofTwo_164 rfl ?_
    refine wp_iadd (pc := 165) d_X2_ofTwo_165 ?_
    refine wp_imin (pc := 166) d_X2_ofTwo_166 ml_X2_73 ms_imin ii_math mc_imin h0 (Nat.le_of_ble_eq_true rfl) ?_
    exact wp_iret (pc := 169) d_X2_ofTwo_169 rfl h
  obtain ⟨hk, h⟩ := h
  by_cases hn19 : x0 = 20
  · have h := hk hn19
    refine wp_tblI (pc := 1) (tgt := 95) d_X2_ofTwo_1 (by rw [hn19]; decide) (by rw [hn19]; decide) (by rw [hn19]; first | done | rfl) (by decide) ?_
    refine wp_iload_n (pc := 95) d_X2_ofTwo_95 rfl ?_
    refine wp_iload_n (pc := 96) d_X2_ofTwo_96 rfl ?_
    refine wp_imin (pc := 97) d_X2_ofTwo_97 ml_X2_73 ms_imin ii_math mc_imin h0 (Nat.le_of_ble_eq_true rfl) ?_
    exact wp_iret (pc := 100) d_X2_ofTwo_100 rfl h
  have h := h hn1 hn4 hn7 hn10 hn11 hn12 hn13 hn14 hn15 hn16 hn17 hn18 hn19
  have qhn1 := lv_neT (a := 8) hn1 (by decide)
  have qhn4 := lv_neT (a := 9) hn4 (by decide)
  have qhn7 := lv_neT (a := 10) hn7 (by decide)
  have qhn10 := lv_neT (a := 11) hn10 (by decide)
  have qhn11 := lv_neT (a := 12) hn11 (by decide)
  have qhn12 := lv_neT (a := 13) hn12 (by decide)
  have qhn13 := lv_neT (a := 14) hn13 (by decide)
  have qhn14 := lv_neT (a := 15) hn14 (by decide)
  have qhn15 := lv_neT (a := 16) hn15 (by decide)
  have qhn16 := lv_neT (a := 17) hn16 (by decide)
  have qhn17 := lv_neT (a := 18) hn17 (by decide)
  have qhn18 := lv_neT (a := 19) hn18 (by decide)
  have qhn19 := lv_neT (a := 20) hn19 (by decide)
  refine wp_tblO (pc := 1) (tgt := 170) d_X2_ofTwo_1 (by omega) (by decide) ?_
  refine wp_iload_n (pc := 170) d_X2_ofTwo_170 rfl ?_
  refine wp_if_ne (pc := 171) (tgt := 178) d_X2_ofTwo_171 (by decide) (fun hc => ?_) (fun hc => ?_)
  · have h := h.1 hc
    refine wp_iconst (pc := 178) (v := 0) d_X2_ofTwo_178 rfl ?_
    exact wp_iret (pc := 179) d_X2_ofTwo_179 rfl h
  · have h := h.2 hc
    refine wp_iload_n (pc := 174) d_X2_ofTwo_174 rfl ?_
    refine wp_goto (pc := 175) (tgt := 179) d_X2_ofTwo_175 (by decide) ?_
    exact wp_iret (pc := 179) d_X2_ofTwo_179 rfl h
theorem d_X2_ofMany_0 : decode prog_4_method_19_code 0 = .ok (.iload_n 1, 1) := by decide +kernel
theorem d_X2_ofMany_1 : decode prog_4_method_19_code 1 = .ok (.tableswitch 75 22 27 #[39, 45, 51, 57, 63, 69], 39) := by decide +kernel
theorem d_X2_ofMany_40 : decode prog_4_method_19_code 40 = .ok (.aload_n 0, 1) := by decide +kernel
theorem d_X2_ofMany_41 : decode prog_4_method_19_code 41 = .ok (.iload_n 2, 1) := by decide +kernel
theorem d_X2_ofMany_42 : decode prog_4_method_19_code 42 = .ok (.invokevirtual 135, 3) := by decide +kernel
theorem d_X2_ofMany_45 : decode prog_4_method_19_code 45 = .ok (.ireturn, 1) := by decide +kernel
theorem d_X2_ofMany_46 : decode prog_4_method_19_code 46 = .ok (.aload_n 0, 1) := by decide +kernel
theorem d_X2_ofMany_47 : decode prog_4_method_19_code 47 = .ok (.iload_n 2, 1) := by decide +kernel
theorem d_X2_ofMany_48 : decode prog_4_method_19_code 48 = .ok (.invokevirtual 138, 3) := by decide +kernel
theorem d_X2_ofMany_51 : decode prog_4_method_19_code 51 = .ok (.ireturn, 1) := by decide +kernel
theorem d_X2_ofMany_52 : decode prog_4_method_19_code 52 = .ok (.aload_n 0, 1) := by decide +kernel
theorem d_X2_ofMany_53 : decode prog_4_method_19_code 53 = .ok (.iload_n 2, 1) := by decide +kernel
theorem d_X2_ofMany_54 : decode prog_4_method_19_code 54 = .ok (.invokevirtual 141, 3) := by decide +kernel
theorem d_X2_ofMany_57 : decode prog_4_method_19_code 57 = .ok (.ireturn, 1) := by decide +kernel
theorem d_X2_ofMany_58 : decode prog_4_method_19_code 58 = .ok (.aload_n 0, 1) := by decide +kernel
theorem d_X2_ofMany_59 : decode prog_4_method_19_code 59 = .ok (.iload_n 2, 1) := by decide +kernel
theorem d_X2_ofMany_60 : decode prog_4_method_19_code 60 = .ok (.invokevirtual 144, 3) := by decide +kernel
theorem d_X2_ofMany_63 : decode prog_4_method_19_code 63 = .ok (.ireturn, 1) := by decide +kernel
theorem d_X2_ofMany_64 : decode prog_4_method_19_code 64 = .ok (.aload_n 0, 1) := by decide +kernel
theorem d_X2_ofMany_65 : decode prog_4_method_19_code 65 = .ok (.iload_n 2, 1) := by decide +kernel
theorem d_X2_ofMany_66 : decode prog_4_method_19_code 66 = .ok (.invokevirtual 147, 3) := by decide +kernel
theorem d_X2_ofMany_69 : decode prog_4_method_19_code 69 = .ok (.ireturn, 1) := by decide +kernel
theorem d_X2_ofMany_70 : decode prog_4_method_19_code 70 = .ok (.aload_n 0, 1) := by decide +kernel
theorem d_X2_ofMany_71 : decode prog_4_method_19_code 71 = .ok (.iload_n 2, 1) := by decide +kernel
theorem d_X2_ofMany_72 : decode prog_4_method_19_code 72 = .ok (.invokevirtual 150, 3) := by decide +kernel
theorem d_X2_ofMany_75 : decode prog_4_method_19_code 75 = .ok (.ireturn, 1) := by decide +kernel
theorem d_X2_ofMany_76 : decode prog_4_method_19_code 76 = .ok (.aload_n 0, 1) := by decide +kernel
theorem d_X2_ofMany_77 : decode prog_4_method_19_code 77 = .ok (.iload_n 2, 1) := by decide +kernel
theorem d_X2_ofMany_78 : decode prog_4_method_19_code 78 = .ok (.invokevirtual 153, 3) := by decide +kernel
theorem d_X2_ofMany_81 : decode prog_4_method_19_code 81 = .ok (.ireturn, 1) := by decide +kernel
theorem v_X2_ofMany_0 {E : EE} {d : Nat} {Q : Option AV → AH → Prop} {x0 : Nat} {x1 : Int32} {x2 : Int32} {G : AH} (h0 : 0 < d) (h : (x1 = 22 → isO E G x0 2 ∧ (wpI E (d - 1) M_X2_repeated [vr x0, vi x2] G (fun r2 G3 => Q (some (vi r2)) G3))) ∧ ((x1 = 23 → isO E G x0 2 ∧ (wpI E (d - 1) M_X2_offRows [vr x0, vi x2] G (fun r6 G7 => Q (some (vi r6)) G7))) ∧ ((x1 = 24 → isO E G x0 2 ∧ (wpI E (d - 1) M_X2_outOfOrder [vr x0, vi x2] G (fun r10 G11 => Q (some (vi r10)) G11))) ∧ ((x1 = 25 → isO E G x0 2 ∧ (wpI E (d - 1) M_X2_offRound [vr x0, vi x2] G (fun r14 G15 => Q (some (vi r14)) G15))) ∧ ((x1 = 26 → isO E G x0 2 ∧ (wpI E (d - 1) M_X2_astray [vr x0, vi x2] G (fun r18 G19 => Q (some (vi r18)) G19))) ∧ ((x1 = 27 → isO E G x0 2 ∧ (wpI E (d - 1) M_X2_overload [vr x0, vi x2] G (fun r22 G23 => Q (some (vi r22)) G23))) ∧ ((¬ x1 = 22 → ¬ x1 = 23 → ¬ x1 = 24 → ¬ x1 = 25 → ¬ x1 = 26 → ¬ x1 = 27 → isO E G x0 2 ∧ (wpI E (d - 1) M_X2_overlaps [vr x0, vi x2] G (fun r25 G26 => Q (some (vi r25)) G26)))))))))) : wp E d M_X2_ofMany 0 [some (vr x0), some (vi x1), some (vi x2)] [] G Q := by
  refine wp_iload_n (pc := 0) d_X2_ofMany_0 rfl ?_
  obtain ⟨hk, h⟩ := h
  by_cases hn1 : x1 = 22
  · have h := hk hn1
    refine wp_tblI (pc := 1) (tgt := 40) d_X2_ofMany_1 (by rw [hn1]; decide) (by rw [hn1]; decide) (by rw [hn1]; first | done | rfl) (by decide) ?_
    refine wp_aload_n (pc := 40) d_X2_ofMany_40 rfl ?_
    refine wp_iload_n (pc := 41) d_X2_ofMany_41 rfl ?_
    obtain ⟨ho4, h⟩ := h
    refine wp_invV (pc := 42) (N := M_X2_repeated) (As := [vi _]) (rest := []) (r := (cn_2, ct_2, 15)) d_X2_ofMany_42 ml_X2_135 mk_X2_repeated mv_X2_repeated h0 ho4 rfl rfl (Nat.le_of_ble_eq_true rfl) ?_
    refine wpM.mono h (fun rr G3 hr => ?_)
    obtain ⟨r2, rfl, h⟩ := hr
    show wp E d M_X2_ofMany 45 [some (vr _), some (vi _), some (vi _)] [vi _] G3 Q
    exact wp_iret (pc := 45) d_X2_ofMany_45 rfl h
  obtain ⟨hk, h⟩ := h
  by_cases hn5 : x1 = 23
  · have h := hk hn5
    refine wp_tblI (pc := 1) (tgt := 46) d_X2_ofMany_1 (by rw [hn5]; decide) (by rw [hn5]; decide) (by rw [hn5]; first | done | rfl) (by decide) ?_
    refine wp_aload_n (pc := 46) d_X2_ofMany_46 rfl ?_
    refine wp_iload_n (pc := 47) d_X2_ofMany_47 rfl ?_
    obtain ⟨ho8, h⟩ := h
    refine wp_invV (pc := 48) (N := M_X2_offRows) (As := [vi _]) (rest := []) (r := (cn_2, ct_2, 15)) d_X2_ofMany_48 ml_X2_138 mk_X2_offRows mv_X2_offRows h0 ho8 rfl rfl (Nat.le_of_ble_eq_true rfl) ?_
    refine wpM.mono h (fun rr G7 hr => ?_)
    obtain ⟨r6, rfl, h⟩ := hr
    show wp E d M_X2_ofMany 51 [some (vr _), some (vi _), some (vi _)] [vi _] G7 Q
    exact wp_iret (pc := 51) d_X2_ofMany_51 rfl h
  obtain ⟨hk, h⟩ := h
  by_cases hn9 : x1 = 24
  · have h := hk hn9
    refine wp_tblI (pc := 1) (tgt := 52) d_X2_ofMany_1 (by rw [hn9]; decide) (by rw [hn9]; decide) (by rw [hn9]; first | done | rfl) (by decide) ?_
    refine wp_aload_n (pc := 52) d_X2_ofMany_52 rfl ?_
    refine wp_iload_n (pc := 53) d_X2_ofMany_53 rfl ?_
    obtain ⟨ho12, h⟩ := h
    refine wp_invV (pc := 54) (N := M_X2_outOfOrder) (As := [vi _]) (rest := []) (r := (cn_2, ct_2, 15)) d_X2_ofMany_54 ml_X2_141 mk_X2_outOfOrder mv_X2_outOfOrder h0 ho12 rfl rfl (Nat.le_of_ble_eq_true rfl) ?_
    refine wpM.mono h (fun rr G11 hr => ?_)
    obtain ⟨r10, rfl, h⟩ := hr
    show wp E d M_X2_ofMany 57 [some (vr _), some (vi _), some (vi _)] [vi _] G11 Q
    exact wp_iret (pc := 57) d_X2_ofMany_57 rfl h
  obtain ⟨hk, h⟩ := h
  by_cases hn13 : x1 = 25
  · have h := hk hn13
    refine wp_tblI (pc := 1) (tgt := 58) d_X2_ofMany_1 (by rw [hn13]; decide) (by rw [hn13]; decide) (by rw [hn13]; first | done | rfl) (by decide) ?_
    refine wp_aload_n (pc := 58) d_X2_ofMany_58 rfl ?_
    refine wp_iload_n (pc := 59) d_X2_ofMany_59 rfl ?_
    obtain ⟨ho16, h⟩ := h
    refine wp_invV (pc := 60) (N := M_X2_offRound) (As := [vi _]) (rest := []) (r := (cn_2, ct_2, 15)) d_X2_ofMany_60 ml_X2_144 mk_X2_offRound mv_X2_offRound h0 ho16 rfl rfl (Nat.le_of_ble_eq_true rfl) ?_
    refine wpM.mono h (fun rr G15 hr => ?_)
    obtain ⟨r14, rfl, h⟩ := hr
    show wp E d M_X2_ofMany 63 [some (vr _), some (vi _), some (vi _)] [vi _] G15 Q
    exact wp_iret (pc := 63) d_X2_ofMany_63 rfl h
  obtain ⟨hk, h⟩ := h
  by_cases hn17 : x1 = 26
  · have h := hk hn17
    refine wp_tblI (pc := 1) (tgt := 64) d_X2_ofMany_1 (by rw [hn17]; decide) (by rw [hn17]; decide) (by rw [hn17]; first | done | rfl) (by decide) ?_
    refine wp_aload_n (pc := 64) d_X2_ofMany_64 rfl ?_
    refine wp_iload_n (pc := 65) d_X2_ofMany_65 rfl ?_
    obtain ⟨ho20, h⟩ := h
    refine wp_invV (pc := 66) (N := M_X2_astray) (As := [vi _]) (rest := []) (r := (cn_2, ct_2, 15)) d_X2_ofMany_66 ml_X2_147 mk_X2_astray mv_X2_astray h0 ho20 rfl rfl (Nat.le_of_ble_eq_true rfl) ?_
    refine wpM.mono h (fun rr G19 hr => ?_)
    obtain ⟨r18, rfl, h⟩ := hr
    show wp E d M_X2_ofMany 69 [some (vr _), some (vi _), some (vi _)] [vi _] G19 Q
    exact wp_iret (pc := 69) d_X2_ofMany_69 rfl h
  obtain ⟨hk, h⟩ := h
  by_cases hn21 : x1 = 27
  · have h := hk hn21
    refine wp_tblI (pc := 1) (tgt := 70) d_X2_ofMany_1 (by rw [hn21]; decide) (by rw [hn21]; decide) (by rw [hn21]; first | done | rfl) (by decide) ?_
    refine wp_aload_n (pc := 70) d_X2_ofMany_70 rfl ?_
    refine wp_iload_n (pc := 71) d_X2_ofMany_71 rfl ?_
    obtain ⟨ho24, h⟩ := h
    refine wp_invV (pc := 72) (N := M_X2_overload) (As := [vi _]) (rest := []) (r := (cn_2, ct_2, 15)) d_X2_ofMany_72 ml_X2_150 mk_X2_overload mv_X2_overload h0 ho24 rfl rfl (Nat.le_of_ble_eq_true rfl) ?_
    refine wpM.mono h (fun rr G23 hr => ?_)
    obtain ⟨r22, rfl, h⟩ := hr
    show wp E d M_X2_ofMany 75 [some (vr _), some (vi _), some (vi _)] [vi _] G23 Q
    exact wp_iret (pc := 75) d_X2_ofMany_75 rfl h
  have h := h hn1 hn5 hn9 hn13 hn17 hn21
  have qhn1 := lv_neT (a := 22) hn1 (by decide)
  have qhn5 := lv_neT (a := 23) hn5 (by decide)
  have qhn9 := lv_neT (a := 24) hn9 (by decide)
  have qhn13 := lv_neT (a := 25) hn13 (by decide)
  have qhn17 := lv_neT (a := 26) hn17 (by decide)
  have qhn21 := lv_neT (a := 27) hn21 (by decide)
  refine wp_tblO (pc := 1) (tgt := 76) d_X2_ofMany_1 (by omega) (by decide) ?_
  refine wp_aload_n (pc := 76) d_X2_ofMany_76 rfl ?_
  refine wp_iload_n (pc := 77) d_X2_ofMany_77 rfl ?_
  obtain ⟨ho27, h⟩ := h
  refine wp_invV (pc := 78) (N := M_X2_overlaps) (As := [vi _]) (rest := []) (r := (cn_2, ct_2, 15)) d_X2_ofMany_78 ml_X2_153 mk_X2_overlaps mv_X2_overlaps h0 ho27 rfl rfl (Nat.le_of_ble_eq_true rfl) ?_
  refine wpM.mono h (fun rr G26 hr => ?_)
  obtain ⟨r25, rfl, h⟩ := hr
  show wp E d M_X2_ofMany 81 [some (vr _), some (vi _), some (vi _)] [vi _] G26 Q
  exact wp_iret (pc := 81) d_X2_ofMany_81 rfl h
theorem d_X2_overlaps_0 : decode prog_4_method_29_code 0 = .ok (.aload_n 0, 1) := by decide +kernel
theorem d_X2_overlaps_1 : decode prog_4_method_29_code 1 = .ok (.iload_n 1, 1) := by decide +kernel
theorem d_X2_overlaps_2 : decode prog_4_method_29_code 2 = .ok (.invokevirtual 156, 3) := by decide +kernel
theorem d_X2_overlaps_5 : decode prog_4_method_29_code 5 = .ok (.istore_n 2, 1) := by decide +kernel
theorem d_X2_overlaps_6 : decode prog_4_method_29_code 6 = .ok (.iconst 0, 1) := by decide +kernel
theorem d_X2_overlaps_7 : decode prog_4_method_29_code 7 = .ok (.istore_n 3, 1) := by decide +kernel
theorem d_X2_overlaps_8 : decode prog_4_method_29_code 8 = .ok (.iconst 0, 1) := by decide +kernel
theorem d_X2_overlaps_9 : decode prog_4_method_29_code 9 = .ok (.istore 4, 2) := by decide +kernel
theorem d_X2_overlaps_11 : decode prog_4_method_29_code 11 = .ok (.iload 4, 2) := by decide +kernel
theorem d_X2_overlaps_13 : decode prog_4_method_29_code 13 = .ok (.iload_n 2, 1) := by decide +kernel
theorem d_X2_overlaps_14 : decode prog_4_method_29_code 14 = .ok (.if_icmp .ge 178, 3) := by decide +kernel
theorem d_X2_overlaps_17 : decode prog_4_method_29_code 17 = .ok (.iload_n 1, 1) := by decide +kernel
theorem d_X2_overlaps_18 : decode prog_4_method_29_code 18 = .ok (.iconst 1, 1) := by decide +kernel
theorem d_X2_overlaps_19 : decode prog_4_method_29_code 19 = .ok (.iadd, 1) := by decide +kernel
theorem d_X2_overlaps_20 : decode prog_4_method_29_code 20 = .ok (.iconst 4, 1) := by decide +kernel
theorem d_X2_overlaps_21 : decode prog_4_method_29_code 21 = .ok (.iload 4, 2) := by decide +kernel
theorem d_X2_overlaps_23 : decode prog_4_method_29_code 23 = .ok (.imul, 1) := by decide +kernel
theorem d_X2_overlaps_24 : decode prog_4_method_29_code 24 = .ok (.iadd, 1) := by decide +kernel
theorem d_X2_overlaps_25 : decode prog_4_method_29_code 25 = .ok (.istore 5, 2) := by decide +kernel
theorem d_X2_overlaps_27 : decode prog_4_method_29_code 27 = .ok (.iload 4, 2) := by decide +kernel
theorem d_X2_overlaps_29 : decode prog_4_method_29_code 29 = .ok (.iconst 1, 1) := by decide +kernel
theorem d_X2_overlaps_30 : decode prog_4_method_29_code 30 = .ok (.iadd, 1) := by decide +kernel
theorem d_X2_overlaps_31 : decode prog_4_method_29_code 31 = .ok (.istore 6, 2) := by decide +kernel
theorem d_X2_overlaps_33 : decode prog_4_method_29_code 33 = .ok (.iload 6, 2) := by decide +kernel
theorem d_X2_overlaps_35 : decode prog_4_method_29_code 35 = .ok (.iload_n 2, 1) := by decide +kernel
theorem d_X2_overlaps_36 : decode prog_4_method_29_code 36 = .ok (.if_icmp .ge 150, 3) := by decide +kernel
theorem d_X2_overlaps_39 : decode prog_4_method_29_code 39 = .ok (.iload_n 1, 1) := by decide +kernel
theorem d_X2_overlaps_40 : decode prog_4_method_29_code 40 = .ok (.iconst 1, 1) := by decide +kernel
theorem d_X2_overlaps_41 : decode prog_4_method_29_code 41 = .ok (.iadd, 1) := by decide +kernel
theorem d_X2_overlaps_42 : decode prog_4_method_29_code 42 = .ok (.iconst 4, 1) := by decide +kernel
theorem d_X2_overlaps_43 : decode prog_4_method_29_code 43 = .ok (.iload 6, 2) := by decide +kernel
theorem d_X2_overlaps_45 : decode prog_4_method_29_code 45 = .ok (.imul, 1) := by decide +kernel
theorem d_X2_overlaps_46 : decode prog_4_method_29_code 46 = .ok (.iadd, 1) := by decide +kernel
theorem d_X2_overlaps_47 : decode prog_4_method_29_code 47 = .ok (.istore 7, 2) := by decide +kernel
theorem d_X2_overlaps_49 : decode prog_4_method_29_code 49 = .ok (.aload_n 0, 1) := by decide +kernel
theorem d_X2_overlaps_50 : decode prog_4_method_29_code 50 = .ok (.iload 5, 2) := by decide +kernel
theorem d_X2_overlaps_52 : decode prog_4_method_29_code 52 = .ok (.invokevirtual 159, 3) := by decide +kernel
theorem d_X2_overlaps_55 : decode prog_4_method_29_code 55 = .ok (.aload_n 0, 1) := by decide +kernel
theorem d_X2_overlaps_56 : decode prog_4_method_29_code 56 = .ok (.iload 7, 2) := by decide +kernel
theorem d_X2_overlaps_58 : decode prog_4_method_29_code 58 = .ok (.invokevirtual 159, 3) := by decide +kernel
theorem d_X2_overlaps_61 : decode prog_4_method_29_code 61 = .ok (.aload_n 0, 1) := by decide +kernel
theorem d_X2_overlaps_62 : decode prog_4_method_29_code 62 = .ok (.iload 7, 2) := by decide +kernel
theorem d_X2_overlaps_64 : decode prog_4_method_29_code 64 = .ok (.iconst 2, 1) := by decide +kernel
theorem d_X2_overlaps_65 : decode prog_4_method_29_code 65 = .ok (.iadd, 1) := by decide +kernel
theorem d_X2_overlaps_66 : decode prog_4_method_29_code 66 = .ok (.invokevirtual 156, 3) := by decide +kernel
theorem d_X2_overlaps_69 : decode prog_4_method_29_code 69 = .ok (.iadd, 1) := by decide +kernel
theorem d_X2_overlaps_70 : decode prog_4_method_29_code 70 = .ok (.if_icmp .ge 31, 3) := by decide +kernel
theorem d_X2_overlaps_73 : decode prog_4_method_29_code 73 = .ok (.aload_n 0, 1) := by decide +kernel
theorem d_X2_overlaps_74 : decode prog_4_method_29_code 74 = .ok (.iload 7, 2) := by decide +kernel
theorem d_X2_overlaps_76 : decode prog_4_method_29_code 76 = .ok (.invokevirtual 159, 3) := by decide +kernel
theorem d_X2_overlaps_79 : decode prog_4_method_29_code 79 = .ok (.aload_n 0, 1) := by decide +kernel
theorem d_X2_overlaps_80 : decode prog_4_method_29_code 80 = .ok (.iload 5, 2) := by decide +kernel
theorem d_X2_overlaps_82 : decode prog_4_method_29_code 82 = .ok (.invokevirtual 159, 3) := by decide +kernel
theorem d_X2_overlaps_85 : decode prog_4_method_29_code 85 = .ok (.aload_n 0, 1) := by decide +kernel
theorem d_X2_overlaps_86 : decode prog_4_method_29_code 86 = .ok (.iload 5, 2) := by decide +kernel
theorem d_X2_overlaps_88 : decode prog_4_method_29_code 88 = .ok (.iconst 2, 1) := by decide +kernel
theorem d_X2_overlaps_89 : decode prog_4_method_29_code 89 = .ok (.iadd, 1) := by decide +kernel
theorem d_X2_overlaps_90 : decode prog_4_method_29_code 90 = .ok (.invokevirtual 156, 3) := by decide +kernel
theorem d_X2_overlaps_93 : decode prog_4_method_29_code 93 = .ok (.iadd, 1) := by decide +kernel
theorem d_X2_overlaps_94 : decode prog_4_method_29_code 94 = .ok (.if_icmp .ge 7, 3) := by decide +kernel
theorem d_X2_overlaps_97 : decode prog_4_method_29_code 97 = .ok (.iconst 1, 1) := by decide +kernel
theorem d_X2_overlaps_98 : decode prog_4_method_29_code 98 = .ok (.goto 4, 3) := by decide +kernel
theorem d_X2_overlaps_101 : decode prog_4_method_29_code 101 = .ok (.iconst 0, 1) := by decide +kernel
theorem d_X2_overlaps_102 : decode prog_4_method_29_code 102 = .ok (.istore 8, 2) := by decide +kernel
theorem d_X2_overlaps_104 : decode prog_4_method_29_code 104 = .ok (.aload_n 0, 1) := by decide +kernel
theorem d_X2_overlaps_105 : decode prog_4_method_29_code 105 = .ok (.iload 5, 2) := by decide +kernel
theorem d_X2_overlaps_107 : decode prog_4_method_29_code 107 = .ok (.iconst 1, 1) := by decide +kernel
theorem d_X2_overlaps_108 : decode prog_4_method_29_code 108 = .ok (.iadd, 1) := by decide +kernel
theorem d_X2_overlaps_109 : decode prog_4_method_29_code 109 = .ok (.invokevirtual 159, 3) := by decide +kernel
theorem d_X2_overlaps_112 : decode prog_4_method_29_code 112 = .ok (.aload_n 0, 1) := by decide +kernel
theorem d_X2_overlaps_113 : decode prog_4_method_29_code 113 = .ok (.iload 7, 2) := by decide +kernel
theorem d_X2_overlaps_115 : decode prog_4_method_29_code 115 = .ok (.iconst 1, 1) := by decide +kernel
theorem d_X2_overlaps_116 : decode prog_4_method_29_code 116 = .ok (.iadd, 1) := by decide +kernel
theorem d_X2_overlaps_117 : decode prog_4_method_29_code 117 = .ok (.invokevirtual 159, 3) := by decide +kernel
theorem d_X2_overlaps_120 : decode prog_4_method_29_code 120 = .ok (.aload_n 0, 1) := by decide +kernel
theorem d_X2_overlaps_121 : decode prog_4_method_29_code 121 = .ok (.iload 7, 2) := by decide +kernel
theorem d_X2_overlaps_123 : decode prog_4_method_29_code 123 = .ok (.iconst 3, 1) := by decide +kernel
theorem d_X2_overlaps_124 : decode prog_4_method_29_code 124 = .ok (.iadd, 1) := by decide +kernel
theorem d_X2_overlaps_125 : decode prog_4_method_29_code 125 = .ok (.invokevirtual 156, 3) := by decide +kernel
theorem d_X2_overlaps_128 : decode prog_4_method_29_code 128 = .ok (.iadd, 1) := by decide +kernel
theorem d_X2_overlaps_129 : decode prog_4_method_29_code 129 = .ok (.if_icmp .ge 35, 3) := by decide +kernel
theorem d_X2_overlaps_132 : decode prog_4_method_29_code 132 = .ok (.aload_n 0, 1) := by decide +kernel
theorem d_X2_overlaps_133 : decode prog_4_method_29_code 133 = .ok (.iload 7, 2) := by decide +kernel
theorem d_X2_overlaps_135 : decode prog_4_method_29_code 135 = .ok (.iconst 1, 1) := by decide +kernel
theorem d_X2_overlaps_136 : decode prog_4_method_29_code 136 = .ok (.iadd, 1) := by decide +kernel
theorem d_X2_overlaps_137 : decode prog_4_method_29_code 137 = .ok (.invokevirtual 159, 3) := by decide +kernel
theorem d_X2_overlaps_140 : decode prog_4_method_29_code 140 = .ok (.aload_n 0, 1) := by decide +kernel
theorem d_X2_overlaps_141 : decode prog_4_method_29_code 141 = .ok (.iload 5, 2) := by decide +kernel
theorem d_X2_overlaps_143 : decode prog_4_method_29_code 143 = .ok (.iconst 1, 1) := by decide +kernel
theorem d_X2_overlaps_144 : decode prog_4_method_29_code 144 = .ok (.iadd, 1) := by decide +kernel
theorem d_X2_overlaps_145 : decode prog_4_method_29_code 145 = .ok (.invokevirtual 159, 3) := by decide +kernel
theorem d_X2_overlaps_148 : decode prog_4_method_29_code 148 = .ok (.aload_n 0, 1) := by decide +kernel
theorem d_X2_overlaps_149 : decode prog_4_method_29_code 149 = .ok (.iload 5, 2) := by decide +kernel
theorem d_X2_overlaps_151 : decode prog_4_method_29_code 151 = .ok (.iconst 3, 1) := by decide +kernel
theorem d_X2_overlaps_152 : decode prog_4_method_29_code 152 = .ok (.iadd, 1) := by decide +kernel
theorem d_X2_overlaps_153 : decode prog_4_method_29_code 153 = .ok (.invokevirtual 156, 3) := by decide +kernel
theorem d_X2_overlaps_156 : decode prog_4_method_29_code 156 = .ok (.iadd, 1) := by decide +kernel
theorem d_X2_overlaps_157 : decode prog_4_method_29_code 157 = .ok (.if_icmp .ge 7, 3) := by decide +kernel
theorem d_X2_overlaps_160 : decode prog_4_method_29_code 160 = .ok (.iconst 1, 1) := by decide +kernel
theorem d_X2_overlaps_161 : decode prog_4_method_29_code 161 = .ok (.goto 4, 3) := by decide +kernel
theorem d_X2_overlaps_164 : decode prog_4_method_29_code 164 = .ok (.iconst 0, 1) := by decide +kernel
theorem d_X2_overlaps_165 : decode prog_4_method_29_code 165 = .ok (.istore 9, 2) := by decide +kernel
theorem d_X2_overlaps_167 : decode prog_4_method_29_code 167 = .ok (.iload 8, 2) := by decide +kernel
theorem d_X2_overlaps_169 : decode prog_4_method_29_code 169 = .ok (.ifCond .eq 11, 3) := by decide +kernel
theorem d_X2_overlaps_172 : decode prog_4_method_29_code 172 = .ok (.iload 9, 2) := by decide +kernel
theorem d_X2_overlaps_174 : decode prog_4_method_29_code 174 = .ok (.ifCond .eq 6, 3) := by decide +kernel
theorem d_X2_overlaps_177 : decode prog_4_method_29_code 177 = .ok (.iinc 3 1, 3) := by decide +kernel
theorem d_X2_overlaps_180 : decode prog_4_method_29_code 180 = .ok (.iinc 6 1, 3) := by decide +kernel
theorem d_X2_overlaps_183 : decode prog_4_method_29_code 183 = .ok (.goto (-150), 3) := by decide +kernel
theorem d_X2_overlaps_186 : decode prog_4_method_29_code 186 = .ok (.iinc 4 1, 3) := by decide +kernel
theorem d_X2_overlaps_189 : decode prog_4_method_29_code 189 = .ok (.goto (-178), 3) := by decide +kernel
theorem d_X2_overlaps_192 : decode prog_4_method_29_code 192 = .ok (.iload_n 3, 1) := by decide +kernel
theorem d_X2_overlaps_193 : decode prog_4_method_29_code 193 = .ok (.ireturn, 1) := by decide +kernel
theorem v_X2_overlaps_0 {E : EE} {d : Nat} {Q : Option AV → AH → Prop} {x0 : Nat} {x1 : Int32} {G : AH} (h0 : 0 < d) (h : isO E G x0 2 ∧ (wpI E (d - 1) M_X2_noteAt [vr x0, vi x1] G (fun r1 G2 => wp E d M_X2_overlaps 11 [some (vr x0), some (vi x1), some (vi r1), some (vi 0), some (vi 0), none, none, none, none, none] [] G2 Q))) : wp E d M_X2_overlaps 0 [some (vr x0), some (vi x1), none, none, none, none, none, none, none, none] [] G Q := by
  refine wp_aload_n (pc := 0) d_X2_overlaps_0 rfl ?_
  refine wp_iload_n (pc := 1) d_X2_overlaps_1 rfl ?_
  obtain ⟨ho3, h⟩ := h
  refine wp_invV (pc := 2) (N := M_X2_noteAt) (As := [vi _]) (rest := []) (r := (cn_2, ct_2, 15)) d_X2_overlaps_2 ml_X2_156 mk_X2_noteAt mv_X2_noteAt h0 ho3 rfl rfl (Nat.le_of_ble_eq_true rfl) ?_
  refine wpM.mono h (fun rr G2 hr => ?_)
  obtain ⟨r1, rfl, h⟩ := hr
  show wp E d M_X2_overlaps 5 [some (vr _), some (vi _), none, none, none, none, none, none, none, none] [vi _] G2 Q
  refine wp_istore_n (pc := 5) (lv' := [some (vr _), some (vi _), some (vi _), none, none, none, none, none, none, none]) d_X2_overlaps_5 (by decide) rfl ?_
  refine wp_iconst (pc := 6) (v := 0) d_X2_overlaps_6 rfl ?_
  refine wp_istore_n (pc := 7) (lv' := [some (vr _), some (vi _), some (vi _), some (vi _), none, none, none, none, none, none]) d_X2_overlaps_7 (by decide) rfl ?_
  refine wp_iconst (pc := 8) (v := 0) d_X2_overlaps_8 rfl ?_
  refine wp_istore (pc := 9) (lv' := [some (vr _), some (vi _), some (vi _), some (vi _), some (vi _), none, none, none, none, none]) d_X2_overlaps_9 (by decide) rfl ?_
  refine wp_sub ?_ h
  exact ⟨rfl, ⟨rfl, ⟨rfl, ⟨rfl, ⟨rfl, trivial⟩⟩⟩⟩⟩
theorem v_X2_overlaps_11 {E : EE} {d : Nat} {Q : Option AV → AH → Prop} {x0 : Nat} {x1 : Int32} {x2 : Int32} {x3 : Int32} {x4 : Int32} {G : AH} (h : (x2 ≤ x4 → Q (some (vi x3)) G) ∧ (¬ (x2 ≤ x4) → wp E d M_X2_overlaps 33 [some (vr x0), some (vi x1), some (vi x2), some (vi x3), some (vi x4), some (vi ((x1 + 1) + (4 * x4))), some (vi (x4 + 1)), none, none, none] [] G Q)) : wp E d M_X2_overlaps 11 [some (vr x0), some (vi x1), some (vi x2), some (vi x3), some (vi x4), none, none, none, none, none] [] G Q := by
  refine wp_iload (pc := 11) d_X2_overlaps_11 rfl ?_
  refine wp_iload_n (pc := 13) d_X2_overlaps_13 rfl ?_
  refine wp_icmp_ge (pc := 14) (tgt := 192) d_X2_overlaps_14 (by decide) (fun hc => ?_) (fun hc => ?_)
  · have h := h.1 hc
    refine wp_iload_n (pc := 192) d_X2_overlaps_192 rfl ?_
    exact wp_iret (pc := 193) d_X2_overlaps_193 rfl h
  · have h := h.2 hc
    refine wp_iload_n (pc := 17) d_X2_overlaps_17 rfl ?_
    refine wp_iconst (pc := 18) (v := 1) d_X2_overlaps_18 rfl ?_
    refine wp_iadd (pc := 19) d_X2_overlaps_19 ?_
    refine wp_iconst (pc := 20) (v := 4) d_X2_overlaps_20 rfl ?_
    refine wp_iload (pc := 21) d_X2_overlaps_21 rfl ?_
    refine wp_imul (pc := 23) d_X2_overlaps_23 ?_
    refine wp_iadd (pc := 24) d_X2_overlaps_24 ?_
    refine wp_istore (pc := 25) (lv' := [some (vr _), some (vi _), some (vi _), some (vi _), some (vi _), some (vi _), none, none, none, none]) d_X2_overlaps_25 (by decide) rfl ?_
    refine wp_iload (pc := 27) d_X2_overlaps_27 rfl ?_
    refine wp_iconst (pc := 29) (v := 1) d_X2_overlaps_29 rfl ?_
    refine wp_iadd (pc := 30) d_X2_overlaps_30 ?_
    refine wp_istore (pc := 31) (lv' := [some (vr _), some (vi _), some (vi _), some (vi _), some (vi _), some (vi _), some (vi _), none, none, none]) d_X2_overlaps_31 (by decide) rfl ?_
    refine wp_sub ?_ h
    exact ⟨rfl, ⟨rfl, ⟨rfl, ⟨rfl, ⟨rfl, ⟨rfl, ⟨rfl, trivial⟩⟩⟩⟩⟩⟩⟩
theorem v_X2_overlaps_33 {E : EE} {d : Nat} {Q : Option AV → AH → Prop} {x0 : Nat} {x1 : Int32} {x2 : Int32} {x3 : Int32} {x4 : Int32} {x5 : Int32} {x6 : Int32} {G : AH} (h0 : 0 < d) (h : (x2 ≤ x6 → wp E d M_X2_overlaps 11 [some (vr x0), some (vi x1), some (vi x2), some (vi x3), some (vi (x4 + 1)), none, none, none, none, none] [] G Q) ∧ (¬ (x2 ≤ x6) → isO E G x0 2 ∧ (wpI E (d - 1) M_X2_valueAt [vr x0, vi x5] G (fun r1 G2 => isO E G2 x0 2 ∧ (wpI E (d - 1) M_X2_valueAt [vr x0, vi ((x1 + 1) + (4 * x6))] G2 (fun r3 G4 => isO E G4 x0 2 ∧ (wpI E (d - 1) M_X2_noteAt [vr x0, vi (((x1 + 1) + (4 * x6)) + 2)] G4 (fun r5 G6 => ((r3 + r5) ≤ r1 → wp E d M_X2_overlaps 101 [some (vr x0), some (vi x1), some (vi x2), some (vi x3), some (vi x4), some (vi x5), some (vi x6), some (vi ((x1 + 1) + (4 * x6))), none, none] [] G6 Q) ∧ (¬ ((r3 + r5) ≤ r1) → isO E G6 x0 2 ∧ (wpI E (d - 1) M_X2_valueAt [vr x0, vi ((x1 + 1) + (4 * x6))] G6 (fun r7 G8 => isO E G8 x0 2 ∧ (wpI E (d - 1) M_X2_valueAt [vr x0, vi x5] G8 (fun r9 G10 => isO E G10 x0 2 ∧ (wpI E (d - 1) M_X2_noteAt [vr x0, vi (x5 + 2)] G10 (fun r11 G12 => ((r9 + r11) ≤ r7 → wp E d M_X2_overlaps 101 [some (vr x0), some (vi x1), some (vi x2), some (vi x3), some (vi x4), some (vi x5), some (vi x6), some (vi ((x1 + 1) + (4 * x6))), none, none] [] G12 Q) ∧ (¬ ((r9 + r11) ≤ r7) → wp E d M_X2_overlaps 102 [some (vr x0), some (vi x1), some (vi x2), some (vi x3), some (vi x4), some (vi x5), some (vi x6), some (vi ((x1 + 1) + (4 * x6))), none, none] [vi 1] G12 Q)))))))))))))))) : wp E d M_X2_overlaps 33 [some (vr x0), some (vi x1), some (vi x2), some (vi x3), some (vi x4), some (vi x5), some (vi x6), none, none, none] [] G Q := by
  refine wp_iload (pc := 33) d_X2_overlaps_33 rfl ?_
  refine wp_iload_n (pc := 35) d_X2_overlaps_35 rfl ?_
  refine wp_icmp_ge (pc := 36) (tgt := 186) d_X2_overlaps_36 (by decide) (fun hc => ?_) (fun hc => ?_)
  · have h := h.1 hc
    refine wp_iinc (pc := 186) (v := 1) (lv' := [some (vr _), some (vi _), some (vi _), some (vi _), some (vi _), some (vi _), some (vi _), none, none, none]) d_X2_overlaps_186 (by decide) rfl rfl rfl ?_
    refine wp_goto (pc := 189) (tgt := 11) d_X2_overlaps_189 (by decide) ?_
    refine wp_sub ?_ h
    exact ⟨rfl, ⟨rfl, ⟨rfl, ⟨rfl, ⟨rfl, trivial⟩⟩⟩⟩⟩
  · have h := h.2 hc
    refine wp_iload_n (pc := 39) d_X2_overlaps_39 rfl ?_
    refine wp_iconst (pc := 40) (v := 1) d_X2_overlaps_40 rfl ?_
    refine wp_iadd (pc := 41) d_X2_overlaps_41 ?_
    refine wp_iconst (pc := 42) (v := 4) d_X2_overlaps_42 rfl ?_
    refine wp_iload (pc := 43) d_X2_overlaps_43 rfl ?_
    refine wp_imul (pc := 45) d_X2_overlaps_45 ?_
    refine wp_iadd (pc := 46) d_X2_overlaps_46 ?_
    refine wp_istore (pc := 47) (lv' := [some (vr _), some (vi _), some (vi _), some (vi _), some (vi _), some (vi _), some (vi _), some (vi _), none, none]) d_X2_overlaps_47 (by decide) rfl ?_
    refine wp_aload_n (pc := 49) d_X2_overlaps_49 rfl ?_
    refine wp_iload (pc := 50) d_X2_overlaps_50 rfl ?_
    obtain ⟨ho18, h⟩ := h
    refine wp_invV (pc := 52) (N := M_X2_valueAt) (As := [vi _]) (rest := []) (r := (cn_2, ct_2, 15)) d_X2_overlaps_52 ml_X2_159 mk_X2_valueAt mv_X2_valueAt h0 ho18 rfl rfl (Nat.le_of_ble_eq_true rfl) ?_
    refine wpM.mono h (fun rr G2 hr => ?_)
    obtain ⟨r1, rfl, h⟩ := hr
    show wp E d M_X2_overlaps 55 [some (vr _), some (vi _), some (vi _), some (vi _), some (vi _), some (vi _), some (vi _), some (vi _), none, none] [vi _] G2 Q
    refine wp_aload_n (pc := 55) d_X2_overlaps_55 rfl ?_
    refine wp_iload (pc := 56) d_X2_overlaps_56 rfl ?_
    obtain ⟨ho17, h⟩ := h
    refine wp_invV (pc := 58) (N := M_X2_valueAt) (As := [vi _]) (rest := [vi _]) (r := (cn_2, ct_2, 15)) d_X2_overlaps_58 ml_X2_159 mk_X2_valueAt mv_X2_valueAt h0 ho17 rfl rfl (Nat.le_of_ble_eq_true rfl) ?_
    refine wpM.mono h (fun rr G4 hr => ?_)
    obtain ⟨r3, rfl, h⟩ := hr
    show wp E d M_X2_overlaps 61 [some (vr _), some (vi _), some (vi _), some (vi _), some (vi _), some (vi _), some (vi _), some (vi _), none, none] [vi _, vi _] G4 Q
    refine wp_aload_n (pc := 61) d_X2_overlaps_61 rfl ?_
    refine wp_iload (pc := 62) d_X2_overlaps_62 rfl ?_
    refine wp_iconst (pc := 64) (v := 2) d_X2_overlaps_64 rfl ?_
    refine wp_iadd (pc := 65) d_X2_overlaps_65 ?_
    obtain ⟨ho16, h⟩ := h
    refine wp_invV (pc := 66) (N := M_X2_noteAt) (As := [vi _]) (rest := [vi _, vi _]) (r := (cn_2, ct_2, 15)) d_X2_overlaps_66 ml_X2_156 mk_X2_noteAt mv_X2_noteAt h0 ho16 rfl rfl (Nat.le_of_ble_eq_true rfl) ?_
    refine wpM.mono h (fun rr G6 hr => ?_)
    obtain ⟨r5, rfl, h⟩ := hr
    show wp E d M_X2_overlaps 69 [some (vr _), some (vi _), some (vi _), some (vi _), some (vi _), some (vi _), some (vi _), some (vi _), none, none] [vi _, vi _, vi _] G6 Q
    refine wp_iadd (pc := 69) d_X2_overlaps_69 ?_
    refine wp_icmp_ge (pc := 70) (tgt := 101) d_X2_overlaps_70 (by decide) (fun hc => ?_) (fun hc => ?_)
    · have h := h.1 hc
      refine wp_sub ?_ h
      exact ⟨rfl, ⟨rfl, ⟨rfl, ⟨rfl, ⟨rfl, ⟨rfl, ⟨rfl, ⟨rfl, trivial⟩⟩⟩⟩⟩⟩⟩⟩
    · have h := h.2 hc
      refine wp_aload_n (pc := 73) d_X2_overlaps_73 rfl ?_
      refine wp_iload (pc := 74) d_X2_overlaps_74 rfl ?_
      obtain ⟨ho15, h⟩ := h
      refine wp_invV (pc := 76) (N := M_X2_valueAt) (As := [vi _]) (rest := []) (r := (cn_2, ct_2, 15)) d_X2_overlaps_76 ml_X2_159 mk_X2_valueAt mv_X2_valueAt h0 ho15 rfl rfl (Nat.le_of_ble_eq_true rfl) ?_
      refine wpM.mono h (fun rr G8 hr => ?_)
      obtain ⟨r7, rfl, h⟩ := hr
      show wp E d M_X2_overlaps 79 [some (vr _), some (vi _), some (vi _), some (vi _), some (vi _), some (vi _), some (vi _), some (vi _), none, none] [vi _] G8 Q
      refine wp_aload_n (pc := 79) d_X2_overlaps_79 rfl ?_
      refine wp_iload (pc := 80) d_X2_overlaps_80 rfl ?_
      obtain ⟨ho14, h⟩ := h
      refine wp_invV (pc := 82) (N := M_X2_valueAt) (As := [vi _]) (rest := [vi _]) (r := (cn_2, ct_2, 15)) d_X2_overlaps_82 ml_X2_159 mk_X2_valueAt mv_X2_valueAt h0 ho14 rfl rfl (Nat.le_of_ble_eq_true rfl) ?_
      refine wpM.mono h (fun rr G10 hr => ?_)
      obtain ⟨r9, rfl, h⟩ := hr
      show wp E d M_X2_overlaps 85 [some (vr _), some (vi _), some (vi _), some (vi _), some (vi _), some (vi _), some (vi _), some (vi _), none, none] [vi _, vi _] G10 Q
      refine wp_aload_n (pc := 85) d_X2_overlaps_85 rfl ?_
      refine wp_iload (pc := 86) d_X2_overlaps_86 rfl ?_
      refine wp_iconst (pc := 88) (v := 2) d_X2_overlaps_88 rfl ?_
      refine wp_iadd (pc := 89) d_X2_overlaps_89 ?_
      obtain ⟨ho13, h⟩ := h
      refine wp_invV (pc := 90) (N := M_X2_noteAt) (As := [vi _]) (rest := [vi _, vi _]) (r := (cn_2, ct_2, 15)) d_X2_overlaps_90 ml_X2_156 mk_X2_noteAt mv_X2_noteAt h0 ho13 rfl rfl (Nat.le_of_ble_eq_true rfl) ?_
      refine wpM.mono h (fun rr G12 hr => ?_)
      obtain ⟨r11, rfl, h⟩ := hr
      show wp E d M_X2_overlaps 93 [some (vr _), some (vi _), some (vi _), some (vi _), some (vi _), some (vi _), some (vi _), some (vi _), none, none] [vi _, vi _, vi _] G12 Q
      refine wp_iadd (pc := 93) d_X2_overlaps_93 ?_
      refine wp_icmp_ge (pc := 94) (tgt := 101) d_X2_overlaps_94 (by decide) (fun hc => ?_) (fun hc => ?_)
      · have h := h.1 hc
        refine wp_sub ?_ h
        exact ⟨rfl, ⟨rfl, ⟨rfl, ⟨rfl, ⟨rfl, ⟨rfl, ⟨rfl, ⟨rfl, trivial⟩⟩⟩⟩⟩⟩⟩⟩
      · have h := h.2 hc
        refine wp_iconst (pc := 97) (v := 1) d_X2_overlaps_97 rfl ?_
        refine wp_goto (pc := 98) (tgt := 102) d_X2_overlaps_98 (by decide) ?_
        refine wp_sub ?_ h
        exact ⟨rfl, ⟨rfl, ⟨rfl, ⟨rfl, ⟨rfl, ⟨rfl, ⟨rfl, ⟨rfl, trivial⟩⟩⟩⟩⟩⟩⟩⟩
theorem v_X2_overlaps_101 {E : EE} {d : Nat} {Q : Option AV → AH → Prop} {x0 : Nat} {x1 : Int32} {x2 : Int32} {x3 : Int32} {x4 : Int32} {x5 : Int32} {x6 : Int32} {x7 : Int32} {G : AH} (h : wp E d M_X2_overlaps 102 [some (vr x0), some (vi x1), some (vi x2), some (vi x3), some (vi x4), some (vi x5), some (vi x6), some (vi x7), none, none] [vi 0] G Q) : wp E d M_X2_overlaps 101 [some (vr x0), some (vi x1), some (vi x2), some (vi x3), some (vi x4), some (vi x5), some (vi x6), some (vi x7), none, none] [] G Q := by
  refine wp_iconst (pc := 101) (v := 0) d_X2_overlaps_101 rfl ?_
  refine wp_sub ?_ h
  exact ⟨rfl, ⟨rfl, ⟨rfl, ⟨rfl, ⟨rfl, ⟨rfl, ⟨rfl, ⟨rfl, trivial⟩⟩⟩⟩⟩⟩⟩⟩
theorem v_X2_overlaps_102 {E : EE} {d : Nat} {Q : Option AV → AH → Prop} {x0 : Nat} {x1 : Int32} {x2 : Int32} {x3 : Int32} {x4 : Int32} {x5 : Int32} {x6 : Int32} {x7 : Int32} {t0 : Int32} {G : AH} (h0 : 0 < d) (h : isO E G x0 2 ∧ (wpI E (d - 1) M_X2_valueAt [vr x0, vi (x5 + 1)] G (fun r1 G2 => isO E G2 x0 2 ∧ (wpI E (d - 1) M_X2_valueAt [vr x0, vi (x7 + 1)] G2 (fun r3 G4 => isO E G4 x0 2 ∧ (wpI E (d - 1) M_X2_noteAt [vr x0, vi (x7 + 3)] G4 (fun r5 G6 => ((r3 + r5) ≤ r1 → wp E d M_X2_overlaps 164 [some (vr x0), some (vi x1), some (vi x2), some (vi x3), some (vi x4), some (vi x5), some (vi x6), some (vi x7), some (vi t0), none] [] G6 Q) ∧ (¬ ((r3 + r5) ≤ r1) → isO E G6 x0 2 ∧ (wpI E (d - 1) M_X2_valueAt [vr x0, vi (x7 + 1)] G6 (fun r7 G8 => isO E G8 x0 2 ∧ (wpI E (d - 1) M_X2_valueAt [vr x0, vi (x5 + 1)] G8 (fun r9 G10 => isO E G10 x0 2 ∧ (wpI E (d - 1) M_X2_noteAt [vr x0, vi (x5 + 3)] G10 (fun r11 G12 => ((r9 + r11) ≤ r7 → wp E d M_X2_overlaps 164 [some (vr x0), some (vi x1), some (vi x2), some (vi x3), some (vi x4), some (vi x5), some (vi x6), some (vi x7), some (vi t0), none] [] G12 Q) ∧ (¬ ((r9 + r11) ≤ r7) → wp E d M_X2_overlaps 165 [some (vr x0), some (vi x1), some (vi x2), some (vi x3), some (vi x4), some (vi x5), some (vi x6), some (vi x7), some (vi t0), none] [vi 1] G12 Q))))))))))))))) : wp E d M_X2_overlaps 102 [some (vr x0), some (vi x1), some (vi x2), some (vi x3), some (vi x4), some (vi x5), some (vi x6), some (vi x7), none, none] [vi t0] G Q := by
  refine wp_istore (pc := 102) (lv' := [some (vr _), some (vi _), some (vi _), some (vi _), some (vi _), some (vi _), some (vi _), some (vi _), some (vi _), none]) d_X2_overlaps_102 (by decide) rfl ?_
  refine wp_aload_n (pc := 104) d_X2_overlaps_104 rfl ?_
  refine wp_iload (pc := 105) d_X2_overlaps_105 rfl ?_
  refine wp_iconst (pc := 107) (v := 1) d_X2_overlaps_107 rfl ?_
  refine wp_iadd (pc := 108) d_X2_overlaps_108 ?_
  obtain ⟨ho18, h⟩ := h
  refine wp_invV (pc := 109) (N := M_X2_valueAt) (As := [vi _]) (rest := []) (r := (cn_2, ct_2, 15)) d_X2_overlaps_109 ml_X2_159 mk_X2_valueAt mv_X2_valueAt h0 ho18 rfl rfl (Nat.le_of_ble_eq_true rfl) ?_
  refine wpM.mono h (fun rr G2 hr => ?_)
  obtain ⟨r1, rfl, h⟩ := hr
  show wp E d M_X2_overlaps 112 [some (vr _), some (vi _), some (vi _), some (vi _), some (vi _), some (vi _), some (vi _), some (vi _), some (vi _), none] [vi _] G2 Q
  refine wp_aload_n (pc := 112) d_X2_overlaps_112 rfl ?_
  refine wp_iload (pc := 113) d_X2_overlaps_113 rfl ?_
  refine wp_iconst (pc := 115) (v := 1) d_X2_overlaps_115 rfl ?_
  refine wp_iadd (pc := 116) d_X2_overlaps_116 ?_
  obtain ⟨ho17, h⟩ := h
  refine wp_invV (pc := 117) (N := M_X2_valueAt) (As := [vi _]) (rest := [vi _]) (r := (cn_2, ct_2, 15)) d_X2_overlaps_117 ml_X2_159 mk_X2_valueAt mv_X2_valueAt h0 ho17 rfl rfl (Nat.le_of_ble_eq_true rfl) ?_
  refine wpM.mono h (fun rr G4 hr => ?_)
  obtain ⟨r3, rfl, h⟩ := hr
  show wp E d M_X2_overlaps 120 [some (vr _), some (vi _), some (vi _), some (vi _), some (vi _), some (vi _), some (vi _), some (vi _), some (vi _), none] [vi _, vi _] G4 Q
  refine wp_aload_n (pc := 120) d_X2_overlaps_120 rfl ?_
  refine wp_iload (pc := 121) d_X2_overlaps_121 rfl ?_
  refine wp_iconst (pc := 123) (v := 3) d_X2_overlaps_123 rfl ?_
  refine wp_iadd (pc := 124) d_X2_overlaps_124 ?_
  obtain ⟨ho16, h⟩ := h
  refine wp_invV (pc := 125) (N := M_X2_noteAt) (As := [vi _]) (rest := [vi _, vi _]) (r := (cn_2, ct_2, 15)) d_X2_overlaps_125 ml_X2_156 mk_X2_noteAt mv_X2_noteAt h0 ho16 rfl rfl (Nat.le_of_ble_eq_true rfl) ?_
  refine wpM.mono h (fun rr G6 hr => ?_)
  obtain ⟨r5, rfl, h⟩ := hr
  show wp E d M_X2_overlaps 128 [some (vr _), some (vi _), some (vi _), some (vi _), some (vi _), some (vi _), some (vi _), some (vi _), some (vi _), none] [vi _, vi _, vi _] G6 Q
  refine wp_iadd (pc := 128) d_X2_overlaps_128 ?_
  refine wp_icmp_ge (pc := 129) (tgt := 164) d_X2_overlaps_129 (by decide) (fun hc => ?_) (fun hc => ?_)
  · have h := h.1 hc
    refine wp_sub ?_ h
    exact ⟨rfl, ⟨rfl, ⟨rfl, ⟨rfl, ⟨rfl, ⟨rfl, ⟨rfl, ⟨rfl, ⟨rfl, trivial⟩⟩⟩⟩⟩⟩⟩⟩⟩
  · have h := h.2 hc
    refine wp_aload_n (pc := 132) d_X2_overlaps_132 rfl ?_
    refine wp_iload (pc := 133) d_X2_overlaps_133 rfl ?_
    refine wp_iconst (pc := 135) (v := 1) d_X2_overlaps_135 rfl ?_
    refine wp_iadd (pc := 136) d_X2_overlaps_136 ?_
    obtain ⟨ho15, h⟩ := h
    refine wp_invV (pc := 137) (N := M_X2_valueAt) (As := [vi _]) (rest := []) (r := (cn_2, ct_2, 15)) d_X2_overlaps_137 ml_X2_159 mk_X2_valueAt mv_X2_valueAt h0 ho15 rfl rfl (Nat.le_of_ble_eq_true rfl) ?_
    refine wpM.mono h (fun rr G8 hr => ?_)
    obtain ⟨r7, rfl, h⟩ := hr
    show wp E d M_X2_overlaps 140 [some (vr _), some (vi _), some (vi _), some (vi _), some (vi _), some (vi _), some (vi _), some (vi _), some (vi _), none] [vi _] G8 Q
    refine wp_aload_n (pc := 140) d_X2_overlaps_140 rfl ?_
    refine wp_iload (pc := 141) d_X2_overlaps_141 rfl ?_
    refine wp_iconst (pc := 143) (v := 1) d_X2_overlaps_143 rfl ?_
    refine wp_iadd (pc := 144) d_X2_overlaps_144 ?_
    obtain ⟨ho14, h⟩ := h
    refine wp_invV (pc := 145) (N := M_X2_valueAt) (As := [vi _]) (rest := [vi _]) (r := (cn_2, ct_2, 15)) d_X2_overlaps_145 ml_X2_159 mk_X2_valueAt mv_X2_valueAt h0 ho14 rfl rfl (Nat.le_of_ble_eq_true rfl) ?_
    refine wpM.mono h (fun rr G10 hr => ?_)
    obtain ⟨r9, rfl, h⟩ := hr
    show wp E d M_X2_overlaps 148 [some (vr _), some (vi _), some (vi _), some (vi _), some (vi _), some (vi _), some (vi _), some (vi _), some (vi _), none] [vi _, vi _] G10 Q
    refine wp_aload_n (pc := 148) d_X2_overlaps_148 rfl ?_
    refine wp_iload (pc := 149) d_X2_overlaps_149 rfl ?_
    refine wp_iconst (pc := 151) (v := 3) d_X2_overlaps_151 rfl ?_
    refine wp_iadd (pc := 152) d_X2_overlaps_152 ?_
    obtain ⟨ho13, h⟩ := h
    refine wp_invV (pc := 153) (N := M_X2_noteAt) (As := [vi _]) (rest := [vi _, vi _]) (r := (cn_2, ct_2, 15)) d_X2_overlaps_153 ml_X2_156 mk_X2_noteAt mv_X2_noteAt h0 ho13 rfl rfl (Nat.le_of_ble_eq_true rfl) ?_
    refine wpM.mono h (fun rr G12 hr => ?_)
    obtain ⟨r11, rfl, h⟩ := hr
    show wp E d M_X2_overlaps 156 [some (vr _), some (vi _), some (vi _), some (vi _), some (vi _), some (vi _), some (vi _), some (vi _), some (vi _), none] [vi _, vi _, vi _] G12 Q
    refine wp_iadd (pc := 156) d_X2_overlaps_156 ?_
    refine wp_icmp_ge (pc := 157) (tgt := 164) d_X2_overlaps_157 (by decide) (fun hc => ?_) (fun hc => ?_)
    · have h := h.1 hc
      refine wp_sub ?_ h
      exact ⟨rfl, ⟨rfl, ⟨rfl, ⟨rfl, ⟨rfl, ⟨rfl, ⟨rfl, ⟨rfl, ⟨rfl, trivial⟩⟩⟩⟩⟩⟩⟩⟩⟩
    · have h := h.2 hc
      refine wp_iconst (pc := 160) (v := 1) d_X2_overlaps_160 rfl ?_
      refine wp_goto (pc := 161) (tgt := 165) d_X2_overlaps_161 (by decide) ?_
      refine wp_sub ?_ h
      exact ⟨rfl, ⟨rfl, ⟨rfl, ⟨rfl, ⟨rfl, ⟨rfl, ⟨rfl, ⟨rfl, ⟨rfl, trivial⟩⟩⟩⟩⟩⟩⟩⟩⟩
theorem v_X2_overlaps_164 {E : EE} {d : Nat} {Q : Option AV → AH → Prop} {x0 : Nat} {x1 : Int32} {x2 : Int32} {x3 : Int32} {x4 : Int32} {x5 : Int32} {x6 : Int32} {x7 : Int32} {x8 : Int32} {G : AH} (h : wp E d M_X2_overlaps 165 [some (vr x0), some (vi x1), some (vi x2), some (vi x3), some (vi x4), some (vi x5), some (vi x6), some (vi x7), some (vi x8), none] [vi 0] G Q) : wp E d M_X2_overlaps 164 [some (vr x0), some (vi x1), some (vi x2), some (vi x3), some (vi x4), some (vi x5), some (vi x6), some (vi x7), some (vi x8), none] [] G Q := by
  refine wp_iconst (pc := 164) (v := 0) d_X2_overlaps_164 rfl ?_
  refine wp_sub ?_ h
  exact ⟨rfl, ⟨rfl, ⟨rfl, ⟨rfl, ⟨rfl, ⟨rfl, ⟨rfl, ⟨rfl, ⟨rfl, trivial⟩⟩⟩⟩⟩⟩⟩⟩⟩
theorem v_X2_overlaps_165 {E : EE} {d : Nat} {Q : Option AV → AH → Prop} {x0 : Nat} {x1 : Int32} {x2 : Int32} {x3 : Int32} {x4 : Int32} {x5 : Int32} {x6 : Int32} {x7 : Int32} {x8 : Int32} {t0 : Int32} {G : AH} (h : (x8 = 0 → wp E d M_X2_overlaps 180 [some (vr x0), some (vi x1), some (vi x2), some (vi x3), some (vi x4), some (vi x5), some (vi x6), some (vi x7), some (vi x8), some (vi t0)] [] G Q) ∧ (¬ (x8 = 0) → (t0 = 0 → wp E d M_X2_overlaps 180 [some (vr x0), some (vi x1), some (vi x2), some (vi x3), some (vi x4), some (vi x5), some (vi x6), some (vi x7), some (vi x8), some (vi t0)] [] G Q) ∧ (¬ (t0 = 0) → wp E d M_X2_overlaps 180 [some (vr x0), some (vi x1), some (vi x2), some (vi (x3 + 1)), some (vi x4), some (vi x5), some (vi x6), some (vi x7), some (vi x8), some (vi t0)] [] G Q))) : wp E d M_X2_overlaps 165 [some (vr x0), some (vi x1), some (vi x2), some (vi x3), some (vi x4), some (vi x5), some (vi x6), some (vi x7), some (vi x8), none] [vi t0] G Q := by
  refine wp_istore (pc := 165) (lv' := [some (vr _), some (vi _), some (vi _), some (vi _), some (vi _), some (vi _), some (vi _), some (vi _), some (vi _), some (vi _)]) d_X2_overlaps_165 (by decide) rfl ?_
  refine wp_iload (pc := 167) d_X2_overlaps_167 rfl ?_
  refine wp_if_eq (pc := 169) (tgt := 180) d_X2_overlaps_169 (by decide) (fun hc => ?_) (fun hc => ?_)
  · have h := h.1 hc
    refine wp_sub ?_ h
    exact ⟨rfl, ⟨rfl, ⟨rfl, ⟨rfl, ⟨rfl, ⟨rfl, ⟨rfl, ⟨rfl, ⟨rfl, ⟨rfl, trivial⟩⟩⟩⟩⟩⟩⟩⟩⟩⟩
  · have h := h.2 hc
    refine wp_iload (pc := 172) d_X2_overlaps_172 rfl ?_
    refine wp_if_eq (pc := 174) (tgt := 180) d_X2_overlaps_174 (by decide) (fun hc => ?_) (fun hc => ?_)
    · have h := h.1 hc
      refine wp_sub ?_ h
      exact ⟨rfl, ⟨rfl, ⟨rfl, ⟨rfl, ⟨rfl, ⟨rfl, ⟨rfl, ⟨rfl, ⟨rfl, ⟨rfl, trivial⟩⟩⟩⟩⟩⟩⟩⟩⟩⟩
    · have h := h.2 hc
      refine wp_iinc (pc := 177) (v := 1) (lv' := [some (vr _), some (vi _), some (vi _), some (vi _), some (vi _), some (vi _), some (vi _), some (vi _), some (vi _), some (vi _)]) d_X2_overlaps_177 (by decide) rfl rfl rfl ?_
      refine wp_sub ?_ h
      exact ⟨rfl, ⟨rfl, ⟨rfl, ⟨rfl, ⟨rfl, ⟨rfl, ⟨rfl, ⟨rfl, ⟨rfl, ⟨rfl, trivial⟩⟩⟩⟩⟩⟩⟩⟩⟩⟩
theorem v_X2_overlaps_180 {E : EE} {d : Nat} {Q : Option AV → AH → Prop} {x0 : Nat} {x1 : Int32} {x2 : Int32} {x3 : Int32} {x4 : Int32} {x5 : Int32} {x6 : Int32} {x7 : Int32} {x8 : Int32} {x9 : Int32} {G : AH} (h : wp E d M_X2_overlaps 33 [some (vr x0), some (vi x1), some (vi x2), some (vi x3), some (vi x4), some (vi x5), some (vi (x6 + 1)), none, none, none] [] G Q) : wp E d M_X2_overlaps 180 [some (vr x0), some (vi x1), some (vi x2), some (vi x3), some (vi x4), some (vi x5), some (vi x6), some (vi x7), some (vi x8), some (vi x9)] [] G Q := by
  refine wp_iinc (pc := 180) (v := 1) (lv' := [some (vr _), some (vi _), some (vi _), some (vi _), some (vi _), some (vi _), some (vi _), some (vi _), some (vi _), some (vi _)]) d_X2_overlaps_180 (by decide) rfl rfl rfl ?_
  refine wp_goto (pc := 183) (tgt := 33) d_X2_overlaps_183 (by decide) ?_
  refine wp_sub ?_ h
  exact ⟨rfl, ⟨rfl, ⟨rfl, ⟨rfl, ⟨rfl, ⟨rfl, ⟨rfl, trivial⟩⟩⟩⟩⟩⟩⟩
theorem d_X2_valueAt_0 : decode prog_4_method_21_code 0 = .ok (.iload_n 1, 1) := by decide +kernel
theorem d_X2_valueAt_1 : decode prog_4_method_21_code 1 = .ok (.ifCond .lt 20, 3) := by decide +kernel
theorem d_X2_valueAt_4 : decode prog_4_method_21_code 4 = .ok (.iload_n 1, 1) := by decide +kernel
theorem d_X2_valueAt_5 : decode prog_4_method_21_code 5 = .ok (.aload_n 0, 1) := by decide +kernel
theorem d_X2_valueAt_6 : decode prog_4_method_21_code 6 = .ok (.getfield 21, 3) := by decide +kernel
theorem d_X2_valueAt_9 : decode prog_4_method_21_code 9 = .ok (.if_icmp .ge 12, 3) := by decide +kernel
theorem d_X2_valueAt_12 : decode prog_4_method_21_code 12 = .ok (.iload_n 1, 1) := by decide +kernel
theorem d_X2_valueAt_13 : decode prog_4_method_21_code 13 = .ok (.aload_n 0, 1) := by decide +kernel
theorem d_X2_valueAt_14 : decode prog_4_method_21_code 14 = .ok (.getfield 46, 3) := by decide +kernel
theorem d_X2_valueAt_17 : decode prog_4_method_21_code 17 = .ok (.arraylength, 1) := by decide +kernel
theorem d_X2_valueAt_18 : decode prog_4_method_21_code 18 = .ok (.if_icmp .lt 5, 3) := by decide +kernel
theorem d_X2_valueAt_21 : decode prog_4_method_21_code 21 = .ok (.iconst 0, 1) := by decide +kernel
theorem d_X2_valueAt_22 : decode prog_4_method_21_code 22 = .ok (.ireturn, 1) := by decide +kernel
theorem d_X2_valueAt_23 : decode prog_4_method_21_code 23 = .ok (.aload_n 0, 1) := by decide +kernel
theorem d_X2_valueAt_24 : decode prog_4_method_21_code 24 = .ok (.getfield 46, 3) := by decide +kernel
theorem d_X2_valueAt_27 : decode prog_4_method_21_code 27 = .ok (.iload_n 1, 1) := by decide +kernel
theorem d_X2_valueAt_28 : decode prog_4_method_21_code 28 = .ok (.iaload, 1) := by decide +kernel
theorem d_X2_valueAt_29 : decode prog_4_method_21_code 29 = .ok (.istore_n 2, 1) := by decide +kernel
theorem d_X2_valueAt_30 : decode prog_4_method_21_code 30 = .ok (.iload_n 2, 1) := by decide +kernel
theorem d_X2_valueAt_31 : decode prog_4_method_21_code 31 = .ok (.ifCond .lt 21, 3) := by decide +kernel
theorem d_X2_valueAt_34 : decode prog_4_method_21_code 34 = .ok (.iload_n 2, 1) := by decide +kernel
theorem d_X2_valueAt_35 : decode prog_4_method_21_code 35 = .ok (.aload_n 0, 1) := by decide +kernel
theorem d_X2_valueAt_36 : decode prog_4_method_21_code 36 = .ok (.getfield 55, 3) := by decide +kernel
theorem d_X2_valueAt_39 : decode prog_4_method_21_code 39 = .ok (.arraylength, 1) := by decide +kernel
theorem d_X2_valueAt_40 : decode prog_4_method_21_code 40 = .ok (.if_icmp .ge 12, 3) := by decide +kernel
theorem d_X2_valueAt_43 : decode prog_4_method_21_code 43 = .ok (.aload_n 0, 1) := by decide +kernel
theorem d_X2_valueAt_44 : decode prog_4_method_21_code 44 = .ok (.getfield 55, 3) := by decide +kernel
theorem d_X2_valueAt_47 : decode prog_4_method_21_code 47 = .ok (.iload_n 2, 1) := by decide +kernel
theorem d_X2_valueAt_48 : decode prog_4_method_21_code 48 = .ok (.iaload, 1) := by decide +kernel
theorem d_X2_valueAt_49 : decode prog_4_method_21_code 49 = .ok (.goto 4, 3) := by decide +kernel
theorem d_X2_valueAt_52 : decode prog_4_method_21_code 52 = .ok (.iconst 0, 1) := by decide +kernel
theorem d_X2_valueAt_53 : decode prog_4_method_21_code 53 = .ok (.ireturn, 1) := by decide +kernel
theorem v_X2_valueAt_0 {E : EE} {d : Nat} {Q : Option AV → AH → Prop} {x0 : Nat} {x1 : Int32} {G : AH} (h : (x1 < 0 → Q (some (vi 0)) G) ∧ (¬ (x1 < 0) → isO E G x0 2 ∧ (((gI G x0 3) ≤ x1 → Q (some (vi 0)) G) ∧ (¬ ((gI G x0 3) ≤ x1) → isO E G (gR G x0 11) 14 ∧ ((x1 < (nI (gN G (gR G x0 11))) → vp_in x1 (gN G (gR G x0 11)) ∧ (((gI G (gR G x0 11) (Int32.toNatClampNeg x1)) < 0 → Q (some (vi 0)) G) ∧ (¬ ((gI G (gR G x0 11) (Int32.toNatClampNeg x1)) < 0) → isO E G (gR G x0 14) 14 ∧ (((nI (gN G (gR G x0 14))) ≤ (gI G (gR G x0 11) (Int32.toNatClampNeg x1)) → Q (some (vi 0)) G) ∧ (¬ ((nI (gN G (gR G x0 14))) ≤ (gI G (gR G x0 11) (Int32.toNatClampNeg x1))) → vp_in (gI G (gR G x0 11) (Int32.toNatClampNeg x1)) (gN G (gR G x0 14)) ∧ (Q (some (vi (gI G (gR G x0 14) (Int32.toNatClampNeg (gI G (gR G x0 11) (Int32.toNatClampNeg x1)))))) G)))))) ∧ (¬ (x1 < (nI (gN G (gR G x0 11)))) → Q (some (vi 0)) G)))))) : wp E d M_X2_valueAt 0 [some (vr x0), some (vi x1), none] [] G Q := by
  refine wp_iload_n (pc := 0) d_X2_valueAt_0 rfl ?_
  refine wp_if_lt (pc := 1) (tgt := 21) d_X2_valueAt_1 (by decide) (fun hc => ?_) (fun hc => ?_)
  · have h := h.1 hc
    refine wp_iconst (pc := 21) (v := 0) d_X2_valueAt_21 rfl ?_
    exact wp_iret (pc := 22) d_X2_valueAt_22 rfl h
  · have h := h.2 hc
    refine wp_iload_n (pc := 4) d_X2_valueAt_4 rfl ?_
    refine wp_aload_n (pc := 5) d_X2_valueAt_5 rfl ?_
    obtain ⟨ho1, h⟩ := h
    refine wp_getI (pc := 6) d_X2_valueAt_6 fl_X2_21 (fun _ _ _ => rfl) ho1 ?_
    refine wp_icmp_ge (pc := 9) (tgt := 21) d_X2_valueAt_9 (by decide) (fun hc => ?_) (fun hc => ?_)
    · have h := h.1 hc
      refine wp_iconst (pc := 21) (v := 0) d_X2_valueAt_21 rfl ?_
      exact wp_iret (pc := 22) d_X2_valueAt_22 rfl h
    · have h := h.2 hc
      refine wp_iload_n (pc := 12) d_X2_valueAt_12 rfl ?_
      refine wp_aload_n (pc := 13) d_X2_valueAt_13 rfl ?_
      refine wp_getR (pc := 14) d_X2_valueAt_14 fl_X2_46 (fun _ _ _ => rfl) ho1 ?_
      obtain ⟨ho2, h⟩ := h
      refine wp_alen (pc := 17) d_X2_valueAt_17 ho2 (by decide) rfl ?_
      refine wp_icmp_lt (pc := 18) (tgt := 23) d_X2_valueAt_18 (by decide) (fun hc => ?_) (fun hc => ?_)
      · have h := h.1 hc
        refine wp_aload_n (pc := 23) d_X2_valueAt_23 rfl ?_
        refine wp_getR (pc := 24) d_X2_valueAt_24 fl_X2_46 (fun _ _ _ => rfl) ho1 ?_
        refine wp_iload_n (pc := 27) d_X2_valueAt_27 rfl ?_
        obtain ⟨hi3, h⟩ := h
        refine wp_iald (pc := 28) d_X2_valueAt_28 ho2 hi3 ?_
        refine wp_istore_n (pc := 29) (lv' := [some (vr _), some (vi _), some (vi _)]) d_X2_valueAt_29 (by decide) rfl ?_
        refine wp_iload_n (pc := 30) d_X2_valueAt_30 rfl ?_
        refine wp_if_lt (pc := 31) (tgt := 52) d_X2_valueAt_31 (by decide) (fun hc => ?_) (fun hc => ?_)
        · have h := h.1 hc
          refine wp_iconst (pc := 52) (v := 0) d_X2_valueAt_52 rfl ?_
          exact wp_iret (pc := 53) d_X2_valueAt_53 rfl h
        · have h := h.2 hc
          refine wp_iload_n (pc := 34) d_X2_valueAt_34 rfl ?_
          refine wp_aload_n (pc := 35) d_X2_valueAt_35 rfl ?_
          refine wp_getR (pc := 36) d_X2_valueAt_36 fl_X2_55 (fun _ _ _ => rfl) ho1 ?_
          obtain ⟨ho4, h⟩ := h
          refine wp_alen (pc := 39) d_X2_valueAt_39 ho4 (by decide) rfl ?_
          refine wp_icmp_ge (pc := 40) (tgt := 52) d_X2_valueAt_40 (by decide) (fun hc => ?_) (fun hc => ?_)
          · have h := h.1 hc
            refine wp_iconst (pc := 52) (v := 0) d_X2_valueAt_52 rfl ?_
            exact wp_iret (pc := 53) d_X2_valueAt_53 rfl h
          · have h := h.2 hc
            refine wp_aload_n (pc := 43) d_X2_valueAt_43 rfl ?_
            refine wp_getR (pc := 44) d_X2_valueAt_44 fl_X2_55 (fun _ _ _ => rfl) ho1 ?_
            refine wp_iload_n (pc := 47) d_X2_valueAt_47 rfl ?_
            obtain ⟨hi5, h⟩ := h
            refine wp_iald (pc := 48) d_X2_valueAt_48 ho4 hi5 ?_
            refine wp_goto (pc := 49) (tgt := 53) d_X2_valueAt_49 (by decide) ?_
            exact wp_iret (pc := 53) d_X2_valueAt_53 rfl h
      · have h := h.2 hc
        refine wp_iconst (pc := 21) (v := 0) d_X2_valueAt_21 rfl ?_
        exact wp_iret (pc := 22) d_X2_valueAt_22 rfl h
theorem d_X2_overload_0 : decode prog_4_method_28_code 0 = .ok (.aload_n 0, 1) := by decide +kernel
theorem d_X2_overload_1 : decode prog_4_method_28_code 1 = .ok (.iload_n 1, 1) := by decide +kernel
theorem d_X2_overload_2 : decode prog_4_method_28_code 2 = .ok (.iconst 1, 1) := by decide +kernel
theorem d_X2_overload_3 : decode prog_4_method_28_code 3 = .ok (.iadd, 1) := by decide +kernel
theorem d_X2_overload_4 : decode prog_4_method_28_code 4 = .ok (.invokevirtual 156, 3) := by decide +kernel
theorem d_X2_overload_7 : decode prog_4_method_28_code 7 = .ok (.istore_n 2, 1) := by decide +kernel
theorem d_X2_overload_8 : decode prog_4_method_28_code 8 = .ok (.iconst 0, 1) := by decide +kernel
theorem d_X2_overload_9 : decode prog_4_method_28_code 9 = .ok (.istore_n 3, 1) := by decide +kernel
theorem d_X2_overload_10 : decode prog_4_method_28_code 10 = .ok (.iconst 0, 1) := by decide +kernel
theorem d_X2_overload_11 : decode prog_4_method_28_code 11 = .ok (.istore 4, 2) := by decide +kernel
theorem d_X2_overload_13 : decode prog_4_method_28_code 13 = .ok (.iload 4, 2) := by decide +kernel
theorem d_X2_overload_15 : decode prog_4_method_28_code 15 = .ok (.iload_n 2, 1) := by decide +kernel
theorem d_X2_overload_16 : decode prog_4_method_28_code 16 = .ok (.if_icmp .ge 102, 3) := by decide +kernel
theorem d_X2_overload_19 : decode prog_4_method_28_code 19 = .ok (.aload_n 0, 1) := by decide +kernel
theorem d_X2_overload_20 : decode prog_4_method_28_code 20 = .ok (.iload_n 1, 1) := by decide +kernel
theorem d_X2_overload_21 : decode prog_4_method_28_code 21 = .ok (.iconst 2, 1) := by decide +kernel
theorem d_X2_overload_22 : decode prog_4_method_28_code 22 = .ok (.iadd, 1) := by decide +kernel
theorem d_X2_overload_23 : decode prog_4_method_28_code 23 = .ok (.iconst 3, 1) := by decide +kernel
theorem d_X2_overload_24 : decode prog_4_method_28_code 24 = .ok (.iload 4, 2) := by decide +kernel
theorem d_X2_overload_26 : decode prog_4_method_28_code 26 = .ok (.imul, 1) := by decide +kernel
theorem d_X2_overload_27 : decode prog_4_method_28_code 27 = .ok (.iadd, 1) := by decide +kernel
theorem d_X2_overload_28 : decode prog_4_method_28_code 28 = .ok (.invokevirtual 159, 3) := by decide +kernel
theorem d_X2_overload_31 : decode prog_4_method_28_code 31 = .ok (.istore 5, 2) := by decide +kernel
theorem d_X2_overload_33 : decode prog_4_method_28_code 33 = .ok (.iconst 0, 1) := by decide +kernel
theorem d_X2_overload_34 : decode prog_4_method_28_code 34 = .ok (.istore 6, 2) := by decide +kernel
theorem d_X2_overload_36 : decode prog_4_method_28_code 36 = .ok (.iconst 0, 1) := by decide +kernel
theorem d_X2_overload_37 : decode prog_4_method_28_code 37 = .ok (.istore 7, 2) := by decide +kernel
theorem d_X2_overload_39 : decode prog_4_method_28_code 39 = .ok (.iload 7, 2) := by decide +kernel
theorem d_X2_overload_41 : decode prog_4_method_28_code 41 = .ok (.iload_n 2, 1) := by decide +kernel
theorem d_X2_overload_42 : decode prog_4_method_28_code 42 = .ok (.if_icmp .ge 63, 3) := by decide +kernel
theorem d_X2_overload_45 : decode prog_4_method_28_code 45 = .ok (.iload_n 1, 1) := by decide +kernel
theorem d_X2_overload_46 : decode prog_4_method_28_code 46 = .ok (.iconst 2, 1) := by decide +kernel
theorem d_X2_overload_47 : decode prog_4_method_28_code 47 = .ok (.iadd, 1) := by decide +kernel
theorem d_X2_overload_48 : decode prog_4_method_28_code 48 = .ok (.iconst 3, 1) := by decide +kernel
theorem d_X2_overload_49 : decode prog_4_method_28_code 49 = .ok (.iload 7, 2) := by decide +kernel
theorem d_X2_overload_51 : decode prog_4_method_28_code 51 = .ok (.imul, 1) := by decide +kernel
theorem d_X2_overload_52 : decode prog_4_method_28_code 52 = .ok (.iadd, 1) := by decide +kernel
theorem d_X2_overload_53 : decode prog_4_method_28_code 53 = .ok (.istore 8, 2) := by decide +kernel
theorem d_X2_overload_55 : decode prog_4_method_28_code 55 = .ok (.aload_n 0, 1) := by decide +kernel
theorem d_X2_overload_56 : decode prog_4_method_28_code 56 = .ok (.iload 8, 2) := by decide +kernel
theorem d_X2_overload_58 : decode prog_4_method_28_code 58 = .ok (.invokevirtual 159, 3) := by decide +kernel
theorem d_X2_overload_61 : decode prog_4_method_28_code 61 = .ok (.istore 9, 2) := by decide +kernel
theorem d_X2_overload_63 : decode prog_4_method_28_code 63 = .ok (.iload 9, 2) := by decide +kernel
theorem d_X2_overload_65 : decode prog_4_method_28_code 65 = .ok (.iload 5, 2) := by decide +kernel
theorem d_X2_overload_67 : decode prog_4_method_28_code 67 = .ok (.if_icmp .gt 32, 3) := by decide +kernel
theorem d_X2_overload_70 : decode prog_4_method_28_code 70 = .ok (.iload 5, 2) := by decide +kernel
theorem d_X2_overload_72 : decode prog_4_method_28_code 72 = .ok (.iload 9, 2) := by decide +kernel
theorem d_X2_overload_74 : decode prog_4_method_28_code 74 = .ok (.aload_n 0, 1) := by decide +kernel
theorem d_X2_overload_75 : decode prog_4_method_28_code 75 = .ok (.iload 8, 2) := by decide +kernel
theorem d_X2_overload_77 : decode prog_4_method_28_code 77 = .ok (.iconst 1, 1) := by decide +kernel
theorem d_X2_overload_78 : decode prog_4_method_28_code 78 = .ok (.iadd, 1) := by decide +kernel
theorem d_X2_overload_79 : decode prog_4_method_28_code 79 = .ok (.invokevirtual 156, 3) := by decide +kernel
theorem d_X2_overload_82 : decode prog_4_method_28_code 82 = .ok (.iadd, 1) := by decide +kernel
theorem d_X2_overload_83 : decode prog_4_method_28_code 83 = .ok (.if_icmp .ge 16, 3) := by decide +kernel
theorem d_X2_overload_86 : decode prog_4_method_28_code 86 = .ok (.iload 6, 2) := by decide +kernel
theorem d_X2_overload_88 : decode prog_4_method_28_code 88 = .ok (.aload_n 0, 1) := by decide +kernel
theorem d_X2_overload_89 : decode prog_4_method_28_code 89 = .ok (.iload 8, 2) := by decide +kernel
theorem d_X2_overload_91 : decode prog_4_method_28_code 91 = .ok (.iconst 2, 1) := by decide +kernel
theorem d_X2_overload_92 : decode prog_4_method_28_code 92 = .ok (.iadd, 1) := by decide +kernel
theorem d_X2_overload_93 : decode prog_4_method_28_code 93 = .ok (.invokevirtual 156, 3) := by decide +kernel
theorem d_X2_overload_96 : decode prog_4_method_28_code 96 = .ok (.iadd, 1) := by decide +kernel
theorem d_X2_overload_97 : decode prog_4_method_28_code 97 = .ok (.istore 6, 2) := by decide +kernel
theorem d_X2_overload_99 : decode prog_4_method_28_code 99 = .ok (.iinc 7 1, 3) := by decide +kernel
theorem d_X2_overload_102 : decode prog_4_method_28_code 102 = .ok (.goto (-63), 3) := by decide +kernel
theorem d_X2_overload_105 : decode prog_4_method_28_code 105 = .ok (.iload_n 3, 1) := by decide +kernel
theorem d_X2_overload_106 : decode prog_4_method_28_code 106 = .ok (.iload 6, 2) := by decide +kernel
theorem d_X2_overload_108 : decode prog_4_method_28_code 108 = .ok (.invokestatic 78, 3) := by decide +kernel
theorem d_X2_overload_111 : decode prog_4_method_28_code 111 = .ok (.istore_n 3, 1) := by decide +kernel
theorem d_X2_overload_112 : decode prog_4_method_28_code 112 = .ok (.iinc 4 1, 3) := by decide +kernel
theorem d_X2_overload_115 : decode prog_4_method_28_code 115 = .ok (.goto (-102), 3) := by decide +kernel
theorem d_X2_overload_118 : decode prog_4_method_28_code 118 = .ok (.iconst 0, 1) := by decide +kernel
theorem d_X2_overload_119 : decode prog_4_method_28_code 119 = .ok (.iload_n 3, 1) := by decide +kernel
theorem d_X2_overload_120 : decode prog_4_method_28_code 120 = .ok (.aload_n 0, 1) := by decide +kernel
theorem d_X2_overload_121 : decode prog_4_method_28_code 121 = .ok (.iload_n 1, 1) := by decide +kernel
theorem d_X2_overload_122 : decode prog_4_method_28_code 122 = .ok (.invokevirtual 156, 3) := by decide +kernel
theorem d_X2_overload_125 : decode prog_4_method_28_code 125 = .ok (.isub, 1) := by decide +kernel
theorem d_X2_overload_126 : decode prog_4_method_28_code 126 = .ok (.invokestatic 78, 3) := by decide +kernel
theorem d_X2_overload_129 : decode prog_4_method_28_code 129 = .ok (.ireturn, 1) := by decide +kernel
theorem v_X2_overload_0 {E : EE} {d : Nat} {Q : Option AV → AH → Prop} {x0 : Nat} {x1 : Int32} {G : AH} (h0 : 0 < d) (h : isO E G x0 2 ∧ (wpI E (d - 1) M_X2_noteAt [vr x0, vi (x1 + 1)] G (fun r1 G2 => wp E d M_X2_overload 13 [some (vr x0), some (vi x1), some (vi r1), some (vi 0), some (vi 0), none, none, none, none, none] [] G2 Q))) : wp E d M_X2_overload 0 [some (vr x0), some (vi x1), none, none, none, none, none, none, none, none] [] G Q := by
  refine wp_aload_n (pc := 0) d_X2_overload_0 rfl ?_
  refine wp_iload_n (pc := 1) d_X2_overload_1 rfl ?_
  refine wp_iconst (pc := 2) (v := 1) d_X2_overload_2 rfl ?_
  refine wp_iadd (pc := 3) d_X2_overload_3 ?_
  obtain ⟨ho3, h⟩ := h
  refine wp_invV (pc := 4) (N := M_X2_noteAt) (As := [vi _]) (rest := []) (r := (cn_2, ct_2, 15)) d_X2_overload_4 ml_X2_156 mk_X2_noteAt mv_X2_noteAt h0 ho3 rfl rfl (Nat.le_of_ble_eq_true rfl) ?_
  refine wpM.mono h (fun rr G2 hr => ?_)
  obtain ⟨r1, rfl, h⟩ := hr
  show wp E d M_X2_overload 7 [some (vr _), some (vi _), none, none, none, none, none, none, none, none] [vi _] G2 Q
  refine wp_istore_n (pc := 7) (lv' := [some (vr _), some (vi _), some (vi _), none, none, none, none, none, none, none]) d_X2_overload_7 (by decide) rfl ?_
  refine wp_iconst (pc := 8) (v := 0) d_X2_overload_8 rfl ?_
  refine wp_istore_n (pc := 9) (lv' := [some (vr _), some (vi _), some (vi _), some (vi _), none, none, none, none, none, none]) d_X2_overload_9 (by decide) rfl ?_
  refine wp_iconst (pc := 10) (v := 0) d_X2_overload_10 rfl ?_
  refine wp_istore (pc := 11) (lv' := [some (vr _), some (vi _), some (vi _), some (vi _), some (vi _), none, none, none, none, none]) d_X2_overload_11 (by decide) rfl ?_
  refine wp_sub ?_ h
  exact ⟨rfl, ⟨rfl, ⟨rfl, ⟨rfl, ⟨rfl, trivial⟩⟩⟩⟩⟩
theorem v_X2_overload_13 {E : EE} {d : Nat} {Q : Option AV → AH → Prop} {x0 : Nat} {x1 : Int32} {x2 : Int32} {x3 : Int32} {x4 : Int32} {G : AH} (h0 : 0 < d) (h : (x2 ≤ x4 → isO E G x0 2 ∧ (wpI E (d - 1) M_X2_noteAt [vr x0, vi x1] G (fun r1 G2 => Q (some (vi (imax 0 (x3 - r1)))) G2))) ∧ (¬ (x2 ≤ x4) → isO E G x0 2 ∧ (wpI E (d - 1) M_X2_valueAt [vr x0, vi ((x1 + 2) + (3 * x4))] G (fun r4 G5 => wp E d M_X2_overload 39 [some (vr x0), some (vi x1), some (vi x2), some (vi x3), some (vi x4), some (vi r4), some (vi 0), some (vi 0), none, none] [] G5 Q)))) : wp E d M_X2_overload 13 [some (vr x0), some (vi x1), some (vi x2), some (vi x3), some (vi x4), none, none, none, none, none] [] G Q := by
  refine wp_iload (pc := 13) d_X2_overload_13 rfl ?_
  refine wp_iload_n (pc := 15) d_X2_overload_15 rfl ?_
  refine wp_icmp_ge (pc := 16) (tgt := 118) d_X2_overload_16 (by decide) (fun hc => ?_) (fun hc => ?_)
  · have h := h.1 hc
    refine wp_iconst (pc := 118) (v := 0) d_X2_overload_118 rfl ?_
    refine wp_iload_n (pc := 119) d_X2_overload_119 rfl ?_
    refine wp_aload_n (pc := 120) d_X2_overload_120 rfl ?_
    refine wp_iload_n (pc := 121) d_X2_overload_121 rfl ?_
    obtain ⟨ho3, h⟩ := h
    refine wp_invV (pc := 122) (N := M_X2_noteAt) (As := [vi _]) (rest := [vi _, vi _]) (r := (cn_2, ct_2, 15)) d_X2_overload_122 ml_X2_156 mk_X2_noteAt mv_X2_noteAt h0 ho3 rfl rfl (Nat.le_of_ble_eq_true rfl) ?_
    refine wpM.mono h (fun rr G2 hr => ?_)
    obtain ⟨r1, rfl, h⟩ := hr
    show wp E d M_X2_overload 125 [some (vr _), some (vi _), some (vi _), some (vi _), some (vi _), none, none, none, none, none] [vi _, vi _, vi _] G2 Q
    refine wp_isub (pc := 125) d_X2_overload_125 ?_
    refine wp_imax (pc := 126) d_X2_overload_126 ml_X2_78 ms_imax ii_math mc_imax h0 (Nat.le_of_ble_eq_true rfl) ?_
    exact wp_iret (pc := 129) d_X2_overload_129 rfl h
  · have h := h.2 hc
    refine wp_aload_n (pc := 19) d_X2_overload_19 rfl ?_
    refine wp_iload_n (pc := 20) d_X2_overload_20 rfl ?_
    refine wp_iconst (pc := 21) (v := 2) d_X2_overload_21 rfl ?_
    refine wp_iadd (pc := 22) d_X2_overload_22 ?_
    refine wp_iconst (pc := 23) (v := 3) d_X2_overload_23 rfl ?_
    refine wp_iload (pc := 24) d_X2_overload_24 rfl ?_
    refine wp_imul (pc := 26) d_X2_overload_26 ?_
    refine wp_iadd (pc := 27) d_X2_overload_27 ?_
    obtain ⟨ho6, h⟩ := h
    refine wp_invV (pc := 28) (N := M_X2_valueAt) (As := [vi _]) (rest := []) (r := (cn_2, ct_2, 15)) d_X2_overload_28 ml_X2_159 mk_X2_valueAt mv_X2_valueAt h0 ho6 rfl rfl (Nat.le_of_ble_eq_true rfl) ?_
    refine wpM.mono h (fun rr G5 hr => ?_)
    obtain ⟨r4, rfl, h⟩ := hr
    show wp E d M_X2_overload 31 [some (vr _), some (vi _), some (vi _), some (vi _), some (vi _), none, none, none, none, none] [vi _] G5 Q
    refine wp_istore (pc := 31) (lv' := [some (vr _), some (vi _), some (vi _), some (vi _), some (vi _), some (vi _), none, none, none, none]) d_X2_overload_31 (by decide) rfl ?_
    refine wp_iconst (pc := 33) (v := 0) d_X2_overload_33 rfl ?_
    refine wp_istore (pc := 34) (lv' := [some (vr _), some (vi _), some (vi _), some (vi _), some (vi _), some (vi _), some (vi _), none, none, none]) d_X2_overload_34 (by decide) rfl ?_
    refine wp_iconst (pc := 36) (v := 0) d_X2_overload_36 rfl ?_
    refine wp_istore (pc := 37) (lv' := [some (vr _), some (vi _), some (vi _), some (vi _), some (vi _), some (vi _), some (vi _), some (vi _), none, none]) d_X2_overload_37 (by decide) rfl ?_
    refine wp_sub ?_ h
    exact ⟨rfl, ⟨rfl, ⟨rfl, ⟨rfl, ⟨rfl, ⟨rfl, ⟨rfl, ⟨rfl, trivial⟩⟩⟩⟩⟩⟩⟩⟩
theorem v_X2_overload_39 {E : EE} {d : Nat} {Q : Option AV → AH → Prop} {x0 : Nat} {x1 : Int32} {x2 : Int32} {x3 : Int32} {x4 : Int32} {x5 : Int32} {x6 : Int32} {x7 : Int32} {G : AH} (h0 : 0 < d) (h : (x2 ≤ x7 → wp E d M_X2_overload 13 [some (vr x0), some (vi x1), some (vi x2), some (vi (imax x3 x6)), some (vi (x4 + 1)), none, none, none, none, none] [] G Q) ∧ (¬ (x2 ≤ x7) → isO E G x0 2 ∧ (wpI E (d - 1) M_X2_valueAt [vr x0, vi ((x1 + 2) + (3 * x7))] G (fun r1 G2 => (x5 < r1 → wp E d M_X2_overload 99 [some (vr x0), some (vi x1), some (vi x2), some (vi x3), some (vi x4), some (vi x5), some (vi x6), some (vi x7), some (vi ((x1 + 2) + (3 * x7))), some (vi r1)] [] G2 Q) ∧ (¬ (x5 < r1) → isO E G2 x0 2 ∧ (wpI E (d - 1) M_X2_noteAt [vr x0, vi (((x1 + 2) + (3 * x7)) + 1)] G2 (fun r3 G4 => ((r1 + r3) ≤ x5 → wp E d M_X2_overload 99 [some (vr x0), some (vi x1), some (vi x2), some (vi x3), some (vi x4), some (vi x5), some (vi x6), some (vi x7), some (vi ((x1 + 2) + (3 * x7))), some (vi r1)] [] G4 Q) ∧ (¬ ((r1 + r3) ≤ x5) → isO E G4 x0 2 ∧ (wpI E (d - 1) M_X2_noteAt [vr x0, vi (((x1 + 2) + (3 * x7)) + 2)] G4 (fun r5 G6 => wp E d M_X2_overload 99 [some (vr x0), some (vi x1), some (vi x2), some (vi x3), some (vi x4), some (vi x5), some (vi (x6 + r5)), some (vi x7), some (vi ((x1 + 2) + (3 * x7))), some (vi r1)] [] G6 Q)))))))))) : wp E d M_X2_overload 39 [some (vr x0), some (vi x1), some (vi x2), some (vi x3), some (vi x4), some (vi x5), some (vi x6), some (vi x7), none, none] [] G Q := by
  refine wp_iload (pc := 39) d_X2_overload_39 rfl ?_
  refine wp_iload_n (pc := 41) d_X2_overload_41 rfl ?_
  refine wp_icmp_ge (pc := 42) (tgt := 105) d_X2_overload_42 (by decide) (fun hc => ?_) (fun hc => ?_)
  · have h := h.1 hc
    refine wp_iload_n (pc := 105) d_X2_overload_105 rfl ?_
    refine wp_iload (pc := 106) d_X2_overload_106 rfl ?_
    refine wp_imax (pc := 108) d_X2_overload_108 ml_X2_78 ms_imax ii_math mc_imax h0 (Nat.le_of_ble_eq_true rfl) ?_
    refine wp_istore_n (pc := 111) (lv' := [some (vr _), some (vi _), some (vi _), some (vi _), some (vi _), some (vi _), some (vi _), some (vi _), none, none]) d_X2_overload_111 (by decide) rfl ?_
    refine wp_iinc (pc := 112) (v := 1) (lv' := [some (vr _), some (vi _), some (vi _), some (vi _), some (vi _), some (vi _), some (vi _), some (vi _), none, none]) d_X2_overload_112 (by decide) rfl rfl rfl ?_
    refine wp_goto (pc := 115) (tgt := 13) d_X2_overload_115 (by decide) ?_
    refine wp_sub ?_ h
    exact ⟨rfl, ⟨rfl, ⟨rfl, ⟨rfl, ⟨rfl, trivial⟩⟩⟩⟩⟩
  · have h := h.2 hc
    refine wp_iload_n (pc := 45) d_X2_overload_45 rfl ?_
    refine wp_iconst (pc := 46) (v := 2) d_X2_overload_46 rfl ?_
    refine wp_iadd (pc := 47) d_X2_overload_47 ?_
    refine wp_iconst (pc := 48) (v := 3) d_X2_overload_48 rfl ?_
    refine wp_iload (pc := 49) d_X2_overload_49 rfl ?_
    refine wp_imul (pc := 51) d_X2_overload_51 ?_
    refine wp_iadd (pc := 52) d_X2_overload_52 ?_
    refine wp_istore (pc := 53) (lv' := [some (vr _), some (vi _), some (vi _), some (vi _), some (vi _), some (vi _), some (vi _), some (vi _), some (vi _), none]) d_X2_overload_53 (by decide) rfl ?_
    refine wp_aload_n (pc := 55) d_X2_overload_55 rfl ?_
    refine wp_iload (pc := 56) d_X2_overload_56 rfl ?_
    obtain ⟨ho9, h⟩ := h
    refine wp_invV (pc := 58) (N := M_X2_valueAt) (As := [vi _]) (rest := []) (r := (cn_2, ct_2, 15)) d_X2_overload_58 ml_X2_159 mk_X2_valueAt mv_X2_valueAt h0 ho9 rfl rfl (Nat.le_of_ble_eq_true rfl) ?_
    refine wpM.mono h (fun rr G2 hr => ?_)
    obtain ⟨r1, rfl, h⟩ := hr
    show wp E d M_X2_overload 61 [some (vr _), some (vi _), some (vi _), some (vi _), some (vi _), some (vi _), some (vi _), some (vi _), some (vi _), none] [vi _] G2 Q
    refine wp_istore (pc := 61) (lv' := [some (vr _), some (vi _), some (vi _), some (vi _), some (vi _), some (vi _), some (vi _), some (vi _), some (vi _), some (vi _)]) d_X2_overload_61 (by decide) rfl ?_
    refine wp_iload (pc := 63) d_X2_overload_63 rfl ?_
    refine wp_iload (pc := 65) d_X2_overload_65 rfl ?_
    refine wp_icmp_gt (pc := 67) (tgt := 99) d_X2_overload_67 (by decide) (fun hc => ?_) (fun hc => ?_)
    · have h := h.1 hc
      refine wp_sub ?_ h
      exact ⟨rfl, ⟨rfl, ⟨rfl, ⟨rfl, ⟨rfl, ⟨rfl, ⟨rfl, ⟨rfl, ⟨rfl, ⟨rfl, trivial⟩⟩⟩⟩⟩⟩⟩⟩⟩⟩
    · have h := h.2 hc
      refine wp_iload (pc := 70) d_X2_overload_70 rfl ?_
      refine wp_iload (pc := 72) d_X2_overload_72 rfl ?_
      refine wp_aload_n (pc := 74) d_X2_overload_74 rfl ?_
      refine wp_iload (pc := 75) d_X2_overload_75 rfl ?_
      refine wp_iconst (pc := 77) (v := 1) d_X2_overload_77 rfl ?_
      refine wp_iadd (pc := 78) d_X2_overload_78 ?_
      obtain ⟨ho8, h⟩ := h
      refine wp_invV (pc := 79) (N := M_X2_noteAt) (As := [vi _]) (rest := [vi _, vi _]) (r := (cn_2, ct_2, 15)) d_X2_overload_79 ml_X2_156 mk_X2_noteAt mv_X2_noteAt h0 ho8 rfl rfl (Nat.le_of_ble_eq_true rfl) ?_
      refine wpM.mono h (fun rr G4 hr => ?_)
      obtain ⟨r3, rfl, h⟩ := hr
      show wp E d M_X2_overload 82 [some (vr _), some (vi _), some (vi _), some (vi _), some (vi _), some (vi _), some (vi _), some (vi _), some (vi _), some (vi _)] [vi _, vi _, vi _] G4 Q
      refine wp_iadd (pc := 82) d_X2_overload_82 ?_
      refine wp_icmp_ge (pc := 83) (tgt := 99) d_X2_overload_83 (by decide) (fun hc => ?_) (fun hc => ?_)
      · have h := h.1 hc
        refine wp_sub ?_ h
        exact ⟨rfl, ⟨rfl, ⟨rfl, ⟨rfl, ⟨rfl, ⟨rfl, ⟨rfl, ⟨rfl, ⟨rfl, ⟨rfl, trivial⟩⟩⟩⟩⟩⟩⟩⟩⟩⟩
      · have h := h.2 hc
        refine wp_iload (pc := 86) d_X2_overload_86 rfl ?_
        refine wp_aload_n (pc := 88) d_X2_overload_88 rfl ?_
        refine wp_iload (pc := 89) d_X2_overload_89 rfl ?_
        refine wp_iconst (pc := 91) (v := 2) d_X2_overload_91 rfl ?_
        refine wp_iadd (pc := 92) d_X2_overload_92 ?_
        obtain ⟨ho7, h⟩ := h
        refine wp_invV (pc := 93) (N := M_X2_noteAt) (As := [vi _]) (rest := [vi _]) (r := (cn_2, ct_2, 15)) d_X2_overload_93 ml_X2_156 mk_X2_noteAt mv_X2_noteAt h0 ho7 rfl rfl (Nat.le_of_ble_eq_true rfl) ?_
        refine wpM.mono h (fun rr G6 hr => ?_)
        obtain ⟨r5, rfl, h⟩ := hr
        show wp E d M_X2_overload 96 [some (vr _), some (vi _), some (vi _), some (vi _), some (vi _), some (vi _), some (vi _), some (vi _), some (vi _), some (vi _)] [vi _, vi _] G6 Q
        refine wp_iadd (pc := 96) d_X2_overload_96 ?_
        refine wp_istore (pc := 97) (lv' := [some (vr _), some (vi _), some (vi _), some (vi _), some (vi _), some (vi _), some (vi _), some (vi _), some (vi _), some (vi _)]) d_X2_overload_97 (by decide) rfl ?_
        refine wp_sub ?_ h
        exact ⟨rfl, ⟨rfl, ⟨rfl, ⟨rfl, ⟨rfl, ⟨rfl, ⟨rfl, ⟨rfl, ⟨rfl, ⟨rfl, trivial⟩⟩⟩⟩⟩⟩⟩⟩⟩⟩
theorem v_X2_overload_99 {E : EE} {d : Nat} {Q : Option AV → AH → Prop} {x0 : Nat} {x1 : Int32} {x2 : Int32} {x3 : Int32} {x4 : Int32} {x5 : Int32} {x6 : Int32} {x7 : Int32} {x8 : Int32} {x9 : Int32} {G : AH} (h : wp E d M_X2_overload 39 [some (vr x0), some (vi x1), some (vi x2), some (vi x3), some (vi x4), some (vi x5), some (vi x6), some (vi (x7 + 1)), none, none] [] G Q) : wp E d M_X2_overload 99 [some (vr x0), some (vi x1), some (vi x2), some (vi x3), some (vi x4), some (vi x5), some (vi x6), some (vi x7), some (vi x8), some (vi x9)] [] G Q := by
  refine wp_iinc (pc := 99) (v := 1) (lv' := [some (vr _), some (vi _), some (vi _), some (vi _), some (vi _), some (vi _), some (vi _), some (vi _), some (vi _), some (vi _)]) d_X2_overload_99 (by decide) rfl rfl rfl ?_
  refine wp_goto (pc := 102) (tgt := 39) d_X2_overload_102 (by decide) ?_
  refine wp_sub ?_ h
  exact ⟨rfl, ⟨rfl, ⟨rfl, ⟨rfl, ⟨rfl, ⟨rfl, ⟨rfl, ⟨rfl, trivial⟩⟩⟩⟩⟩⟩⟩⟩
theorem d_X2_astray_0 : decode prog_4_method_27_code 0 = .ok (.aload_n 0, 1) := by decide +kernel
theorem d_X2_astray_1 : decode prog_4_method_27_code 1 = .ok (.iload_n 1, 1) := by decide +kernel
theorem d_X2_astray_2 : decode prog_4_method_27_code 2 = .ok (.invokevirtual 156, 3) := by decide +kernel
theorem d_X2_astray_5 : decode prog_4_method_27_code 5 = .ok (.istore_n 2, 1) := by decide +kernel
theorem d_X2_astray_6 : decode prog_4_method_27_code 6 = .ok (.iload_n 1, 1) := by decide +kernel
theorem d_X2_astray_7 : decode prog_4_method_27_code 7 = .ok (.iconst 1, 1) := by decide +kernel
theorem d_X2_astray_8 : decode prog_4_method_27_code 8 = .ok (.iadd, 1) := by decide +kernel
theorem d_X2_astray_9 : decode prog_4_method_27_code 9 = .ok (.iload_n 2, 1) := by decide +kernel
theorem d_X2_astray_10 : decode prog_4_method_27_code 10 = .ok (.iadd, 1) := by decide +kernel
theorem d_X2_astray_11 : decode prog_4_method_27_code 11 = .ok (.istore_n 3, 1) := by decide +kernel
theorem d_X2_astray_12 : decode prog_4_method_27_code 12 = .ok (.aload_n 0, 1) := by decide +kernel
theorem d_X2_astray_13 : decode prog_4_method_27_code 13 = .ok (.iload_n 3, 1) := by decide +kernel
theorem d_X2_astray_14 : decode prog_4_method_27_code 14 = .ok (.invokevirtual 156, 3) := by decide +kernel
theorem d_X2_astray_17 : decode prog_4_method_27_code 17 = .ok (.istore 4, 2) := by decide +kernel
theorem d_X2_astray_19 : decode prog_4_method_27_code 19 = .ok (.iload_n 3, 1) := by decide +kernel
theorem d_X2_astray_20 : decode prog_4_method_27_code 20 = .ok (.iconst 1, 1) := by decide +kernel
theorem d_X2_astray_21 : decode prog_4_method_27_code 21 = .ok (.iadd, 1) := by decide +kernel
theorem d_X2_astray_22 : decode prog_4_method_27_code 22 = .ok (.iconst 3, 1) := by decide +kernel
theorem d_X2_astray_23 : decode prog_4_method_27_code 23 = .ok (.iload 4, 2) := by decide +kernel
theorem d_X2_astray_25 : decode prog_4_method_27_code 25 = .ok (.imul, 1) := by decide +kernel
theorem d_X2_astray_26 : decode prog_4_method_27_code 26 = .ok (.iadd, 1) := by decide +kernel
theorem d_X2_astray_27 : decode prog_4_method_27_code 27 = .ok (.istore 5, 2) := by decide +kernel
theorem d_X2_astray_29 : decode prog_4_method_27_code 29 = .ok (.iconst 0, 1) := by decide +kernel
theorem d_X2_astray_30 : decode prog_4_method_27_code 30 = .ok (.istore 6, 2) := by decide +kernel
theorem d_X2_astray_32 : decode prog_4_method_27_code 32 = .ok (.iconst 1, 1) := by decide +kernel
theorem d_X2_astray_33 : decode prog_4_method_27_code 33 = .ok (.istore 7, 2) := by decide +kernel
theorem d_X2_astray_35 : decode prog_4_method_27_code 35 = .ok (.iload 7, 2) := by decide +kernel
theorem d_X2_astray_37 : decode prog_4_method_27_code 37 = .ok (.iload_n 2, 1) := by decide +kernel
theorem d_X2_astray_38 : decode prog_4_method_27_code 38 = .ok (.if_icmp .gt 94, 3) := by decide +kernel
theorem d_X2_astray_41 : decode prog_4_method_27_code 41 = .ok (.iconst (-1), 1) := by decide +kernel
theorem d_X2_astray_42 : decode prog_4_method_27_code 42 = .ok (.istore 8, 2) := by decide +kernel
theorem d_X2_astray_44 : decode prog_4_method_27_code 44 = .ok (.iconst 0, 1) := by decide +kernel
theorem d_X2_astray_45 : decode prog_4_method_27_code 45 = .ok (.istore 9, 2) := by decide +kernel
theorem d_X2_astray_47 : decode prog_4_method_27_code 47 = .ok (.iload 9, 2) := by decide +kernel
theorem d_X2_astray_49 : decode prog_4_method_27_code 49 = .ok (.iload 4, 2) := by decide +kernel
theorem d_X2_astray_51 : decode prog_4_method_27_code 51 = .ok (.if_icmp .ge 64, 3) := by decide +kernel
theorem d_X2_astray_54 : decode prog_4_method_27_code 54 = .ok (.iload 8, 2) := by decide +kernel
theorem d_X2_astray_56 : decode prog_4_method_27_code 56 = .ok (.ifCond .ge 59, 3) := by decide +kernel
theorem d_X2_astray_59 : decode prog_4_method_27_code 59 = .ok (.iload_n 3, 1) := by decide +kernel
theorem d_X2_astray_60 : decode prog_4_method_27_code 60 = .ok (.iconst 1, 1) := by decide +kernel
theorem d_X2_astray_61 : decode prog_4_method_27_code 61 = .ok (.iadd, 1) := by decide +kernel
theorem d_X2_astray_62 : decode prog_4_method_27_code 62 = .ok (.iconst 3, 1) := by decide +kernel
theorem d_X2_astray_63 : decode prog_4_method_27_code 63 = .ok (.iload 9, 2) := by decide +kernel
theorem d_X2_astray_65 : decode prog_4_method_27_code 65 = .ok (.imul, 1) := by decide +kernel
theorem d_X2_astray_66 : decode prog_4_method_27_code 66 = .ok (.iadd, 1) := by decide +kernel
theorem d_X2_astray_67 : decode prog_4_method_27_code 67 = .ok (.istore 10, 2) := by decide +kernel
theorem d_X2_astray_69 : decode prog_4_method_27_code 69 = .ok (.aload_n 0, 1) := by decide +kernel
theorem d_X2_astray_70 : decode prog_4_method_27_code 70 = .ok (.iload 10, 2) := by decide +kernel
theorem d_X2_astray_72 : decode prog_4_method_27_code 72 = .ok (.invokevirtual 156, 3) := by decide +kernel
theorem d_X2_astray_75 : decode prog_4_method_27_code 75 = .ok (.iload 6, 2) := by decide +kernel
theorem d_X2_astray_77 : decode prog_4_method_27_code 77 = .ok (.if_icmp .ne 32, 3) := by decide +kernel
theorem d_X2_astray_80 : decode prog_4_method_27_code 80 = .ok (.aload_n 0, 1) := by decide +kernel
theorem d_X2_astray_81 : decode prog_4_method_27_code 81 = .ok (.iload 10, 2) := by decide +kernel
theorem d_X2_astray_83 : decode prog_4_method_27_code 83 = .ok (.iconst 1, 1) := by decide +kernel
theorem d_X2_astray_84 : decode prog_4_method_27_code 84 = .ok (.iadd, 1) := by decide +kernel
theorem d_X2_astray_85 : decode prog_4_method_27_code 85 = .ok (.invokevirtual 156, 3) := by decide +kernel
theorem d_X2_astray_88 : decode prog_4_method_27_code 88 = .ok (.aload_n 0, 1) := by decide +kernel
theorem d_X2_astray_89 : decode prog_4_method_27_code 89 = .ok (.iload_n 1, 1) := by decide +kernel
theorem d_X2_astray_90 : decode prog_4_method_27_code 90 = .ok (.iload 7, 2) := by decide +kernel
theorem d_X2_astray_92 : decode prog_4_method_27_code 92 = .ok (.iadd, 1) := by decide +kernel
theorem d_X2_astray_93 : decode prog_4_method_27_code 93 = .ok (.invokevirtual 159, 3) := by decide +kernel
theorem d_X2_astray_96 : decode prog_4_method_27_code 96 = .ok (.if_icmp .ne 13, 3) := by decide +kernel
theorem d_X2_astray_99 : decode prog_4_method_27_code 99 = .ok (.aload_n 0, 1) := by decide +kernel
theorem d_X2_astray_100 : decode prog_4_method_27_code 100 = .ok (.iload 10, 2) := by decide +kernel
theorem d_X2_astray_102 : decode prog_4_method_27_code 102 = .ok (.iconst 2, 1) := by decide +kernel
theorem d_X2_astray_103 : decode prog_4_method_27_code 103 = .ok (.iadd, 1) := by decide +kernel
theorem d_X2_astray_104 : decode prog_4_method_27_code 104 = .ok (.invokevirtual 156, 3) := by decide +kernel
theorem d_X2_astray_107 : decode prog_4_method_27_code 107 = .ok (.istore 8, 2) := by decide +kernel
theorem d_X2_astray_109 : decode prog_4_method_27_code 109 = .ok (.iinc 9 1, 3) := by decide +kernel
theorem d_X2_astray_112 : decode prog_4_method_27_code 112 = .ok (.goto (-65), 3) := by decide +kernel
theorem d_X2_astray_115 : decode prog_4_method_27_code 115 = .ok (.iload 8, 2) := by decide +kernel
theorem d_X2_astray_117 : decode prog_4_method_27_code 117 = .ok (.ifCond .ge 5, 3) := by decide +kernel
theorem d_X2_astray_120 : decode prog_4_method_27_code 120 = .ok (.iconst 1, 1) := by decide +kernel
theorem d_X2_astray_121 : decode prog_4_method_27_code 121 = .ok (.ireturn, 1) := by decide +kernel
theorem d_X2_astray_122 : decode prog_4_method_27_code 122 = .ok (.iload 8, 2) := by decide +kernel
theorem d_X2_astray_124 : decode prog_4_method_27_code 124 = .ok (.istore 6, 2) := by decide +kernel
theorem d_X2_astray_126 : decode prog_4_method_27_code 126 = .ok (.iinc 7 1, 3) := by decide +kernel
theorem d_X2_astray_129 : decode prog_4_method_27_code 129 = .ok (.goto (-94), 3) := by decide +kernel
theorem d_X2_astray_132 : decode prog_4_method_27_code 132 = .ok (.iconst 1, 1) := by decide +kernel
theorem d_X2_astray_133 : decode prog_4_method_27_code 133 = .ok (.istore 7, 2) := by decide +kernel
theorem d_X2_astray_135 : decode prog_4_method_27_code 135 = .ok (.iload 7, 2) := by decide +kernel
theorem d_X2_astray_137 : decode prog_4_method_27_code 137 = .ok (.aload_n 0, 1) := by decide +kernel
theorem d_X2_astray_138 : decode prog_4_method_27_code 138 = .ok (.iload 5, 2) := by decide +kernel
theorem d_X2_astray_140 : decode prog_4_method_27_code 140 = .ok (.invokevirtual 156, 3) := by decide +kernel
theorem d_X2_astray_143 : decode prog_4_method_27_code 143 = .ok (.if_icmp .gt 25, 3) := by decide +kernel
theorem d_X2_astray_146 : decode prog_4_method_27_code 146 = .ok (.aload_n 0, 1) := by decide +kernel
theorem d_X2_astray_147 : decode prog_4_method_27_code 147 = .ok (.iload 5, 2) := by decide +kernel
theorem d_X2_astray_149 : decode prog_4_method_27_code 149 = .ok (.iload 7, 2) := by decide +kernel
theorem d_X2_astray_151 : decode prog_4_method_27_code 151 = .ok (.iadd, 1) := by decide +kernel
theorem d_X2_astray_152 : decode prog_4_method_27_code 152 = .ok (.invokevirtual 156, 3) := by decide +kernel
theorem d_X2_astray_155 : decode prog_4_method_27_code 155 = .ok (.iload 6, 2) := by decide +kernel
theorem d_X2_astray_157 : decode prog_4_method_27_code 157 = .ok (.if_icmp .ne 5, 3) := by decide +kernel
theorem d_X2_astray_160 : decode prog_4_method_27_code 160 = .ok (.iconst 0, 1) := by decide +kernel
theorem d_X2_astray_161 : decode prog_4_method_27_code 161 = .ok (.ireturn, 1) := by decide +kernel
theorem d_X2_astray_162 : decode prog_4_method_27_code 162 = .ok (.iinc 7 1, 3) := by decide +kernel
theorem d_X2_astray_165 : decode prog_4_method_27_code 165 = .ok (.goto (-30), 3) := by decide +kernel
theorem d_X2_astray_168 : decode prog_4_method_27_code 168 = .ok (.iconst 1, 1) := by decide +kernel
theorem d_X2_astray_169 : decode prog_4_method_27_code 169 = .ok (.ireturn, 1) := by decide +kernel
theorem v_X2_astray_0 {E : EE} {d : Nat} {Q : Option AV → AH → Prop} {x0 : Nat} {x1 : Int32} {G : AH} (h0 : 0 < d) (h : isO E G x0 2 ∧ (wpI E (d - 1) M_X2_noteAt [vr x0, vi x1] G (fun r1 G2 => isO E G2 x0 2 ∧ (wpI E (d - 1) M_X2_noteAt [vr x0, vi ((x1 + 1) + r1)] G2 (fun r3 G4 => wp E d M_X2_astray 35 [some (vr x0), some (vi x1), some (vi r1), some (vi ((x1 + 1) + r1)), some (vi r3), some (vi ((((x1 + 1) + r1) + 1) + (3 * r3))), some (vi 0), some (vi 1), none, none, none] [] G4 Q))))) : wp E d M_X2_astray 0 [some (vr x0), some (vi x1), none, none, none, none, none, none, none, none, none] [] G Q := by
  refine wp_aload_n (pc := 0) d_X2_astray_0 rfl ?_
  refine wp_iload_n (pc := 1) d_X2_astray_1 rfl ?_
  obtain ⟨ho6, h⟩ := h
  refine wp_invV (pc := 2) (N := M_X2_noteAt) (As := [vi _]) (rest := []) (r := (cn_2, ct_2, 15)) d_X2_astray_2 ml_X2_156 mk_X2_noteAt mv_X2_noteAt h0 ho6 rfl rfl (Nat.le_of_ble_eq_true rfl) ?_
  refine wpM.mono h (fun rr G2 hr => ?_)
  obtain ⟨r1, rfl, h⟩ := hr
  show wp E d M_X2_astray 5 [some (vr _), some (vi _), none, none, none, none, none, none, none, none, none] [vi _] G2 Q
  refine wp_istore_n (pc := 5) (lv' := [some (vr _), some (vi _), some (vi _), none, none, none, none, none, none, none, none]) d_X2_astray_5 (by decide) rfl ?_
  refine wp_iload_n (pc := 6) d_X2_astray_6 rfl ?_
  refine wp_iconst (pc := 7) (v := 1) d_X2_astray_7 rfl ?_
  refine wp_iadd (pc := 8) d_X2_astray_8 ?_
  refine wp_iload_n (pc := 9) d_X2_astray_9 rfl ?_
  refine wp_iadd (pc := 10) d_X2_astray_10 ?_
  refine wp_istore_n (pc := 11) (lv' := [some (vr _), some (vi _), some (vi _), some (vi _), none, none, none, none, none, none, none]) d_X2_astray_11 (by decide) rfl ?_
  refine wp_aload_n (pc := 12) d_X2_astray_12 rfl ?_
  refine wp_iload_n (pc := 13) d_X2_astray_13 rfl ?_
  obtain ⟨ho5, h⟩ := h
  refine wp_invV (pc := 14) (N := M_X2_noteAt) (As := [vi _]) (rest := []) (r := (cn_2, ct_2, 15)) d_X2_astray_14 ml_X2_156 mk_X2_noteAt mv_X2_noteAt h0 ho5 rfl rfl (Nat.le_of_ble_eq_true rfl) ?_
  refine wpM.mono h (fun rr G4 hr => ?_)
  obtain ⟨r3, rfl, h⟩ := hr
  show wp E d M_X2_astray 17 [some (vr _), some (vi _), some (vi _), some (vi _), none, none, none, none, none, none, none] [vi _] G4 Q
  refine wp_istore (pc := 17) (lv' := [some (vr _), some (vi _), some (vi _), some (vi _), some (vi _), none, none, none, none, none, none]) d_X2_astray_17 (by decide) rfl ?_
  refine wp_iload_n (pc := 19) d_X2_astray_19 rfl ?_
  refine wp_iconst (pc := 20) (v := 1) d_X2_astray_20 rfl ?_
  refine wp_iadd (pc := 21) d_X2_astray_21 ?_
  refine wp_iconst (pc := 22) (v := 3) d_X2_astray_22 rfl ?_
  refine wp_iload (pc := 23) d_X2_astray_23 rfl ?_
  refine wp_imul (pc := 25) d_X2_astray_25 ?_
  refine wp_iadd (pc := 26) d_X2_astray_26 ?_
  refine wp_istore (pc := 27) (lv' := [some (vr _), some (vi _), some (vi _), some (vi _), some (vi _), some (vi _), none, none, none, none, none]) d_X2_astray_27 (by decide) rfl ?_
  refine wp_iconst (pc := 29) (v := 0) d_X2_astray_29 rfl ?_
  refine wp_istore (pc := 30) (lv' := [some (vr _), some (vi _), some (vi _), some (vi _), some (vi _), some (vi _), some (vi _), none, none, none, none]) d_X2_astray_30 (by decide) rfl ?_
  refine wp_iconst (pc := 32) (v := 1) d_X2_astray_32 rfl ?_
  refine wp_istore (pc := 33) (lv' := [some (vr _), some (vi _), some (vi _), some (vi _), some (vi _), some (vi _), some (vi _), some (vi _), none, none, none]) d_X2_astray_33 (by decide) rfl ?_
  refine wp_sub ?_ h
  exact ⟨rfl, ⟨rfl, ⟨rfl, ⟨rfl, ⟨rfl, ⟨rfl, ⟨rfl, ⟨rfl, trivial⟩⟩⟩⟩⟩⟩⟩⟩
theorem v_X2_astray_35 {E : EE} {d : Nat} {Q : Option AV → AH → Prop} {x0 : Nat} {x1 : Int32} {x2 : Int32} {x3 : Int32} {x4 : Int32} {x5 : Int32} {x6 : Int32} {x7 : Int32} {G : AH} (h : (x2 < x7 → wp E d M_X2_astray 135 [some (vr x0), some (vi x1), some (vi x2), some (vi x3), some (vi x4), some (vi x5), some (vi x6), some (vi 1), none, none, none] [] G Q) ∧ (¬ (x2 < x7) → wp E d M_X2_astray 47 [some (vr x0), some (vi x1), some (vi x2), some (vi x3), some (vi x4), some (vi x5), some (vi x6), some (vi x7), some (vi (-1)), some (vi 0), none] [] G Q)) : wp E d M_X2_astray 35 [some (vr x0), some (vi x1), some (vi x2), some (vi x3), some (vi x4), some (vi x5), some (vi x6), some (vi x7), none, none, none] [] G Q := by
  refine wp_iload (pc := 35) d_X2_astray_35 rfl ?_
  refine wp_iload_n (pc := 37) d_X2_astray_37 rfl ?_
  refine wp_icmp_gt (pc := 38) (tgt := 132) d_X2_astray_38 (by decide) (fun hc => ?_) (fun hc => ?_)
  · have h := h.1 hc
    refine wp_iconst (pc := 132) (v := 1) d_X2_astray_132 rfl ?_
    refine wp_istore (pc := 133) (lv' := [some (vr _), some (vi _), some (vi _), some (vi _), some (vi _), some (vi _), some (vi _), some (vi _), none, none, none]) d_X2_astray_133 (by decide) rfl ?_
    refine wp_sub ?_ h
    exact ⟨rfl, ⟨rfl, ⟨rfl, ⟨rfl, ⟨rfl, ⟨rfl, ⟨rfl, ⟨rfl, trivial⟩⟩⟩⟩⟩⟩⟩⟩
  · have h := h.2 hc
    refine wp_iconst (pc := 41) (v := (-1)) d_X2_astray_41 rfl ?_
    refine wp_istore (pc := 42) (lv' := [some (vr _), some (vi _), some (vi _), some (vi _), some (vi _), some (vi _), some (vi _), some (vi _), some (vi _), none, none]) d_X2_astray_42 (by decide) rfl ?_
    refine wp_iconst (pc := 44) (v := 0) d_X2_astray_44 rfl ?_
    refine wp_istore (pc := 45) (lv' := [some (vr _), some (vi _), some (vi _), some (vi _), some (vi _), some (vi _), some (vi _), some (vi _), some (vi _), some (vi _), none]) d_X2_astray_45 (by decide) rfl ?_
    refine wp_sub ?_ h
    exact ⟨rfl, ⟨rfl, ⟨rfl, ⟨rfl, ⟨rfl, ⟨rfl, ⟨rfl, ⟨rfl, ⟨rfl, ⟨rfl, trivial⟩⟩⟩⟩⟩⟩⟩⟩⟩⟩
theorem v_X2_astray_47 {E : EE} {d : Nat} {Q : Option AV → AH → Prop} {x0 : Nat} {x1 : Int32} {x2 : Int32} {x3 : Int32} {x4 : Int32} {x5 : Int32} {x6 : Int32} {x7 : Int32} {x8 : Int32} {x9 : Int32} {G : AH} (h0 : 0 < d) (h : (x4 ≤ x9 → wp E d M_X2_astray 115 [some (vr x0), some (vi x1), some (vi x2), some (vi x3), some (vi x4), some (vi x5), some (vi x6), some (vi x7), some (vi x8), some (vi x9), none] [] G Q) ∧ (¬ (x4 ≤ x9) → (0 ≤ x8 → wp E d M_X2_astray 115 [some (vr x0), some (vi x1), some (vi x2), some (vi x3), some (vi x4), some (vi x5), some (vi x6), some (vi x7), some (vi x8), some (vi x9), none] [] G Q) ∧ (¬ (0 ≤ x8) → isO E G x0 2 ∧ (wpI E (d - 1) M_X2_noteAt [vr x0, vi ((x3 + 1) + (3 * x9))] G (fun r1 G2 => (¬ r1 = x6 → wp E d M_X2_astray 109 [some (vr x0), some (vi x1), some (vi x2), some (vi x3), some (vi x4), some (vi x5), some (vi x6), some (vi x7), some (vi x8), some (vi x9), some (vi ((x3 + 1) + (3 * x9)))] [] G2 Q) ∧ (r1 = x6 → isO E G2 x0 2 ∧ (wpI E (d - 1) M_X2_noteAt [vr x0, vi (((x3 + 1) + (3 * x9)) + 1)] G2 (fun r3 G4 => isO E G4 x0 2 ∧ (wpI E (d - 1) M_X2_valueAt [vr x0, vi (x1 + x7)] G4 (fun r5 G6 => (¬ r3 = r5 → wp E d M_X2_astray 109 [some (vr x0), some (vi x1), some (vi x2), some (vi x3), some (vi x4), some (vi x5), some (vi x6), some (vi x7), some (vi x8), some (vi x9), some (vi ((x3 + 1) + (3 * x9)))] [] G6 Q) ∧ (r3 = r5 → isO E G6 x0 2 ∧ (wpI E (d - 1) M_X2_noteAt [vr x0, vi (((x3 + 1) + (3 * x9)) + 2)] G6 (fun r7 G8 => wp E d M_X2_astray 109 [some (vr x0), some (vi x1), some (vi x2), some (vi x3), some (vi x4), some (vi x5), some (vi x6), some (vi x7), some (vi r7), some (vi x9), some (vi ((x3 + 1) + (3 * x9)))] [] G8 Q))))))))))))) : wp E d M_X2_astray 47 [some (vr x0), some (vi x1), some (vi x2), some (vi x3), some (vi x4), some (vi x5), some (vi x6), some (vi x7), some (vi x8), some (vi x9), none] [] G Q := by
  refine wp_iload (pc := 47) d_X2_astray_47 rfl ?_
  refine wp_iload (pc := 49) d_X2_astray_49 rfl ?_
  refine wp_icmp_ge (pc := 51) (tgt := 115) d_X2_astray_51 (by decide) (fun hc => ?_) (fun hc => ?_)
  · have h := h.1 hc
    refine wp_sub ?_ h
    exact ⟨rfl, ⟨rfl, ⟨rfl, ⟨rfl, ⟨rfl, ⟨rfl, ⟨rfl, ⟨rfl, ⟨rfl, ⟨rfl, trivial⟩⟩⟩⟩⟩⟩⟩⟩⟩⟩
  · have h := h.2 hc
    refine wp_iload (pc := 54) d_X2_astray_54 rfl ?_
    refine wp_if_ge (pc := 56) (tgt := 115) d_X2_astray_56 (by decide) (fun hc => ?_) (fun hc => ?_)
    · have h := h.1 hc
      refine wp_sub ?_ h
      exact ⟨rfl, ⟨rfl, ⟨rfl, ⟨rfl, ⟨rfl, ⟨rfl, ⟨rfl, ⟨rfl, ⟨rfl, ⟨rfl, trivial⟩⟩⟩⟩⟩⟩⟩⟩⟩⟩
    · have h := h.2 hc
      refine wp_iload_n (pc := 59) d_X2_astray_59 rfl ?_
      refine wp_iconst (pc := 60) (v := 1) d_X2_astray_60 rfl ?_
      refine wp_iadd (pc := 61) d_X2_astray_61 ?_
      refine wp_iconst (pc := 62) (v := 3) d_X2_astray_62 rfl ?_
      refine wp_iload (pc := 63) d_X2_astray_63 rfl ?_
      refine wp_imul (pc := 65) d_X2_astray_65 ?_
      refine wp_iadd (pc := 66) d_X2_astray_66 ?_
      refine wp_istore (pc := 67) (lv' := [some (vr _), some (vi _), some (vi _), some (vi _), some (vi _), some (vi _), some (vi _), some (vi _), some (vi _), some (vi _), some (vi _)]) d_X2_astray_67 (by decide) rfl ?_
      refine wp_aload_n (pc := 69) d_X2_astray_69 rfl ?_
      refine wp_iload (pc := 70) d_X2_astray_70 rfl ?_
      obtain ⟨ho12, h⟩ := h
      refine wp_invV (pc := 72) (N := M_X2_noteAt) (As := [vi _]) (rest := []) (r := (cn_2, ct_2, 15)) d_X2_astray_72 ml_X2_156 mk_X2_noteAt mv_X2_noteAt h0 ho12 rfl rfl (Nat.le_of_ble_eq_true rfl) ?_
      refine wpM.mono h (fun rr G2 hr => ?_)
      obtain ⟨r1, rfl, h⟩ := hr
      show wp E d M_X2_astray 75 [some (vr _), some (vi _), some (vi _), some (vi _), some (vi _), some (vi _), some (vi _), some (vi _), some (vi _), some (vi _), some (vi _)] [vi _] G2 Q
      refine wp_iload (pc := 75) d_X2_astray_75 rfl ?_
      refine wp_icmp_ne (pc := 77) (tgt := 109) d_X2_astray_77 (by decide) (fun hc => ?_) (fun hc => ?_)
      · have h := h.1 hc
        refine wp_sub ?_ h
        exact ⟨rfl, ⟨rfl, ⟨rfl, ⟨rfl, ⟨rfl, ⟨rfl, ⟨rfl, ⟨rfl, ⟨rfl, ⟨rfl, ⟨rfl, trivial⟩⟩⟩⟩⟩⟩⟩⟩⟩⟩⟩
      · have h := h.2 hc
        refine wp_aload_n (pc := 80) d_X2_astray_80 rfl ?_
        refine wp_iload (pc := 81) d_X2_astray_81 rfl ?_
        refine wp_iconst (pc := 83) (v := 1) d_X2_astray_83 rfl ?_
        refine wp_iadd (pc := 84) d_X2_astray_84 ?_
        obtain ⟨ho11, h⟩ := h
        refine wp_invV (pc := 85) (N := M_X2_noteAt) (As := [vi _]) (rest := []) (r := (cn_2, ct_2, 15)) d_X2_astray_85 ml_X2_156 mk_X2_noteAt mv_X2_noteAt h0 ho11 rfl rfl (Nat.le_of_ble_eq_true rfl) ?_
        refine wpM.mono h (fun rr G4 hr => ?_)
        obtain ⟨r3, rfl, h⟩ := hr
        show wp E d M_X2_astray 88 [some (vr _), some (vi _), some (vi _), some (vi _), some (vi _), some (vi _), some (vi _), some (vi _), some (vi _), some (vi _), some (vi _)] [vi _] G4 Q
        refine wp_aload_n (pc := 88) d_X2_astray_88 rfl ?_
        refine wp_iload_n (pc := 89) d_X2_astray_89 rfl ?_
        refine wp_iload (pc := 90) d_X2_astray_90 rfl ?_
        refine wp_iadd (pc := 92) d_X2_astray_92 ?_
        obtain ⟨ho10, h⟩ := h
        refine wp_invV (pc := 93) (N := M_X2_valueAt) (As := [vi _]) (rest := [vi _]) (r := (cn_2, ct_2, 15)) d_X2_astray_93 ml_X2_159 mk_X2_valueAt mv_X2_valueAt h0 ho10 rfl rfl (Nat.le_of_ble_eq_true rfl) ?_
        refine wpM.mono h (fun rr G6 hr => ?_)
        obtain ⟨r5, rfl, h⟩ := hr
        show wp E d M_X2_astray 96 [some (vr _), some (vi _), some (vi _), some (vi _), some (vi _), some (vi _), some (vi _), some (vi _), some (vi _), some (vi _), some (vi _)] [vi _, vi _] G6 Q
        refine wp_icmp_ne (pc := 96) (tgt := 109) d_X2_astray_96 (by decide) (fun hc => ?_) (fun hc => ?_)
        · have h := h.1 hc
          refine wp_sub ?_ h
          exact ⟨rfl, ⟨rfl, ⟨rfl, ⟨rfl, ⟨rfl, ⟨rfl, ⟨rfl, ⟨rfl, ⟨rfl, ⟨rfl, ⟨rfl, trivial⟩⟩⟩⟩⟩⟩⟩⟩⟩⟩⟩
        · have h := h.2 hc
          refine wp_aload_n (pc := 99) d_X2_astray_99 rfl ?_
          refine wp_iload (pc := 100) d_X2_astray_100 rfl ?_
          refine wp_iconst (pc := 102) (v := 2) d_X2_astray_102 rfl ?_
          refine wp_iadd (pc := 103) d_X2_astray_103 ?_
          obtain ⟨ho9, h⟩ := h
          refine wp_invV (pc := 104) (N := M_X2_noteAt) (As := [vi _]) (rest := []) (r := (cn_2, ct_2, 15)) d_X2_astray_104 ml_X2_156 mk_X2_noteAt mv_X2_noteAt h0 ho9 rfl rfl (Nat.le_of_ble_eq_true rfl) ?_
          refine wpM.mono h (fun rr G8 hr => ?_)
          obtain ⟨r7, rfl, h⟩ := hr
          show wp E d M_X2_astray 107 [some (vr _), some (vi _), some (vi _), some (vi _), some (vi _), some (vi _), some (vi _), some (vi _), some (vi _), some (vi _), some (vi _)] [vi _] G8 Q
          refine wp_istore (pc := 107) (lv' := [some (vr _), some (vi _), some (vi _), some (vi _), some (vi _), some (vi _), some (vi _), some (vi _), some (vi _), some (vi _), some (vi _)]) d_X2_astray_107 (by decide) rfl ?_
          refine wp_sub ?_ h
          exact ⟨rfl, ⟨rfl, ⟨rfl, ⟨rfl, ⟨rfl, ⟨rfl, ⟨rfl, ⟨rfl, ⟨rfl, ⟨rfl, ⟨rfl, trivial⟩⟩⟩⟩⟩⟩⟩⟩⟩⟩⟩
theorem v_X2_astray_109 {E : EE} {d : Nat} {Q : Option AV → AH → Prop} {x0 : Nat} {x1 : Int32} {x2 : Int32} {x3 : Int32} {x4 : Int32} {x5 : Int32} {x6 : Int32} {x7 : Int32} {x8 : Int32} {x9 : Int32} {x10 : Int32} {G : AH} (h : wp E d M_X2_astray 47 [some (vr x0), some (vi x1), some (vi x2), some (vi x3), some (vi x4), some (vi x5), some (vi x6), some (vi x7), some (vi x8), some (vi (x9 + 1)), none] [] G Q) : wp E d M_X2_astray 109 [some (vr x0), some (vi x1), some (vi x2), some (vi x3), some (vi x4), some (vi x5), some (vi x6), some (vi x7), some (vi x8), some (vi x9), some (vi x10)] [] G Q := by
  refine wp_iinc (pc := 109) (v := 1) (lv' := [some (vr _), some (vi _), some (vi _), some (vi _), some (vi _), some (vi _), some (vi _), some (vi _), some (vi _), some (vi _), some (vi _)]) d_X2_astray_109 (by decide) rfl rfl rfl ?_
  refine wp_goto (pc := 112) (tgt := 47) d_X2_astray_112 (by decide) ?_
  refine wp_sub ?_ h
  exact ⟨rfl, ⟨rfl, ⟨rfl, ⟨rfl, ⟨rfl, ⟨rfl, ⟨rfl, ⟨rfl, ⟨rfl, ⟨rfl, trivial⟩⟩⟩⟩⟩⟩⟩⟩⟩⟩
theorem v_X2_astray_115 {E : EE} {d : Nat} {Q : Option AV → AH → Prop} {x0 : Nat} {x1 : Int32} {x2 : Int32} {x3 : Int32} {x4 : Int32} {x5 : Int32} {x6 : Int32} {x7 : Int32} {x8 : Int32} {x9 : Int32} {G : AH} (h : (0 ≤ x8 → wp E d M_X2_astray 35 [some (vr x0), some (vi x1), some (vi x2), some (vi x3), some (vi x4), some (vi x5), some (vi x8), some (vi (x7 + 1)), none, none, none] [] G Q) ∧ (¬ (0 ≤ x8) → Q (some (vi 1)) G)) : wp E d M_X2_astray 115 [some (vr x0), some (vi x1), some (vi x2), some (vi x3), some (vi x4), some (vi x5), some (vi x6), some (vi x7), some (vi x8), some (vi x9), none] [] G Q := by
  refine wp_iload (pc := 115) d_X2_astray_115 rfl ?_
  refine wp_if_ge (pc := 117) (tgt := 122) d_X2_astray_117 (by decide) (fun hc => ?_) (fun hc => ?_)
  · have h := h.1 hc
    refine wp_iload (pc := 122) d_X2_astray_122 rfl ?_
    refine wp_istore (pc := 124) (lv' := [some (vr _), some (vi _), some (vi _), some (vi _), some (vi _), some (vi _), some (vi _), some (vi _), some (vi _), some (vi _), none]) d_X2_astray_124 (by decide) rfl ?_
    refine wp_iinc (pc := 126) (v := 1) (lv' := [some (vr _), some (vi _), some (vi _), some (vi _), some (vi _), some (vi _), some (vi _), some (vi _), some (vi _), some (vi _), none]) d_X2_astray_126 (by decide) rfl rfl rfl ?_
    refine wp_goto (pc := 129) (tgt := 35) d_X2_astray_129 (by decide) ?_
    refine wp_sub ?_ h
    exact ⟨rfl, ⟨rfl, ⟨rfl, ⟨rfl, ⟨rfl, ⟨rfl, ⟨rfl, ⟨rfl, trivial⟩⟩⟩⟩⟩⟩⟩⟩
  · have h := h.2 hc
    refine wp_iconst (pc := 120) (v := 1) d_X2_astray_120 rfl ?_
    exact wp_iret (pc := 121) d_X2_astray_121 rfl h
theorem v_X2_astray_135 {E : EE} {d : Nat} {Q : Option AV → AH → Prop} {x0 : Nat} {x1 : Int32} {x2 : Int32} {x3 : Int32} {x4 : Int32} {x5 : Int32} {x6 : Int32} {x7 : Int32} {G : AH} (h0 : 0 < d) (h : isO E G x0 2 ∧ (wpI E (d - 1) M_X2_noteAt [vr x0, vi x5] G (fun r1 G2 => (r1 < x7 → Q (some (vi 1)) G2) ∧ (¬ (r1 < x7) → isO E G2 x0 2 ∧ (wpI E (d - 1) M_X2_noteAt [vr x0, vi (x5 + x7)] G2 (fun r3 G4 => (¬ r3 = x6 → wp E d M_X2_astray 135 [some (vr x0), some (vi x1), some (vi x2), some (vi x3), some (vi x4), some (vi x5), some (vi x6), some (vi (x7 + 1)), none, none, none] [] G4 Q) ∧ (r3 = x6 → Q (some (vi 0)) G4))))))) : wp E d M_X2_astray 135 [some (vr x0), some (vi x1), some (vi x2), some (vi x3), some (vi x4), some (vi x5), some (vi x6), some (vi x7), none, none, none] [] G Q := by
  refine wp_iload (pc := 135) d_X2_astray_135 rfl ?_
  refine wp_aload_n (pc := 137) d_X2_astray_137 rfl ?_
  refine wp_iload (pc := 138) d_X2_astray_138 rfl ?_
  obtain ⟨ho6, h⟩ := h
  refine wp_invV (pc := 140) (N := M_X2_noteAt) (As := [vi _]) (rest := [vi _]) (r := (cn_2, ct_2, 15)) d_X2_astray_140 ml_X2_156 mk_X2_noteAt mv_X2_noteAt h0 ho6 rfl rfl (Nat.le_of_ble_eq_true rfl) ?_
  refine wpM.mono h (fun rr G2 hr => ?_)
  obtain ⟨r1, rfl, h⟩ := hr
  show wp E d M_X2_astray 143 [some (vr _), some (vi _), some (vi _), some (vi _), some (vi _), some (vi _), some (vi _), some (vi _), none, none, none] [vi _, vi _] G2 Q
  refine wp_icmp_gt (pc := 143) (tgt := 168) d_X2_astray_143 (by decide) (fun hc => ?_) (fun hc => ?_)
  · have h := h.1 hc
    refine wp_iconst (pc := 168) (v := 1) d_X2_astray_168 rfl ?_
    exact wp_iret (pc := 169) d_X2_astray_169 rfl h
  · have h := h.2 hc
    refine wp_aload_n (pc := 146) d_X2_astray_146 rfl ?_
    refine wp_iload (pc := 147) d_X2_astray_147 rfl ?_
    refine wp_iload (pc := 149) d_X2_astray_149 rfl ?_
    refine wp_iadd (pc := 151) d_X2_astray_151 ?_
    obtain ⟨ho5, h⟩ := h
    refine wp_invV (pc := 152) (N := M_X2_noteAt) (As := [vi _]) (rest := []) (r := (cn_2, ct_2, 15)) d_X2_astray_152 ml_X2_156 mk_X2_noteAt mv_X2_noteAt h0 ho5 rfl rfl (Nat.le_of_ble_eq_true rfl) ?_
    refine wpM.mono h (fun rr G4 hr => ?_)
    obtain ⟨r3, rfl, h⟩ := hr
    show wp E d M_X2_astray 155 [some (vr _), some (vi _), some (vi _), some (vi _), some (vi _), some (vi _), some (vi _), some (vi _), none, none, none] [vi _] G4 Q
    refine wp_iload (pc := 155) d_X2_astray_155 rfl ?_
    refine wp_icmp_ne (pc := 157) (tgt := 162) d_X2_astray_157 (by decide) (fun hc => ?_) (fun hc => ?_)
    · have h := h.1 hc
      refine wp_iinc (pc := 162) (v := 1) (lv' := [some (vr _), some (vi _), some (vi _), some (vi _), some (vi _), some (vi _), some (vi _), some (vi _), none, none, none]) d_X2_astray_162 (by decide) rfl rfl rfl ?_
      refine wp_goto (pc := 165) (tgt := 135) d_X2_astray_165 (by decide) ?_
      refine wp_sub ?_ h
      exact ⟨rfl, ⟨rfl, ⟨rfl, ⟨rfl, ⟨rfl, ⟨rfl, ⟨rfl, ⟨rfl, trivial⟩⟩⟩⟩⟩⟩⟩⟩
    · have h := h.2 hc
      refine wp_iconst (pc := 160) (v := 0) d_X2_astray_160 rfl ?_
      exact wp_iret (pc := 161) d_X2_astray_161 rfl h
theorem d_X2_offRound_0 : decode prog_4_method_26_code 0 = .ok (.aload_n 0, 1) := by decide +kernel
theorem d_X2_offRound_1 : decode prog_4_method_26_code 1 = .ok (.iload_n 1, 1) := by decide +kernel
theorem d_X2_offRound_2 : decode prog_4_method_26_code 2 = .ok (.invokevirtual 156, 3) := by decide +kernel
theorem d_X2_offRound_5 : decode prog_4_method_26_code 5 = .ok (.istore_n 2, 1) := by decide +kernel
theorem d_X2_offRound_6 : decode prog_4_method_26_code 6 = .ok (.iconst 0, 1) := by decide +kernel
theorem d_X2_offRound_7 : decode prog_4_method_26_code 7 = .ok (.istore_n 3, 1) := by decide +kernel
theorem d_X2_offRound_8 : decode prog_4_method_26_code 8 = .ok (.iconst 0, 1) := by decide +kernel
theorem d_X2_offRound_9 : decode prog_4_method_26_code 9 = .ok (.istore 4, 2) := by decide +kernel
theorem d_X2_offRound_11 : decode prog_4_method_26_code 11 = .ok (.iconst (-1), 1) := by decide +kernel
theorem d_X2_offRound_12 : decode prog_4_method_26_code 12 = .ok (.istore 5, 2) := by decide +kernel
theorem d_X2_offRound_14 : decode prog_4_method_26_code 14 = .ok (.iconst 0, 1) := by decide +kernel
theorem d_X2_offRound_15 : decode prog_4_method_26_code 15 = .ok (.istore 6, 2) := by decide +kernel
theorem d_X2_offRound_17 : decode prog_4_method_26_code 17 = .ok (.iload 6, 2) := by decide +kernel
theorem d_X2_offRound_19 : decode prog_4_method_26_code 19 = .ok (.iload_n 2, 1) := by decide +kernel
theorem d_X2_offRound_20 : decode prog_4_method_26_code 20 = .ok (.if_icmp .ge 67, 3) := by decide +kernel
theorem d_X2_offRound_23 : decode prog_4_method_26_code 23 = .ok (.aload_n 0, 1) := by decide +kernel
theorem d_X2_offRound_24 : decode prog_4_method_26_code 24 = .ok (.iload_n 1, 1) := by decide +kernel
theorem d_X2_offRound_25 : decode prog_4_method_26_code 25 = .ok (.iconst 1, 1) := by decide +kernel
theorem d_X2_offRound_26 : decode prog_4_method_26_code 26 = .ok (.iadd, 1) := by decide +kernel
theorem d_X2_offRound_27 : decode prog_4_method_26_code 27 = .ok (.iload 6, 2) := by decide +kernel
theorem d_X2_offRound_29 : decode prog_4_method_26_code 29 = .ok (.iadd, 1) := by decide +kernel
theorem d_X2_offRound_30 : decode prog_4_method_26_code 30 = .ok (.invokevirtual 159, 3) := by decide +kernel
theorem d_X2_offRound_33 : decode prog_4_method_26_code 33 = .ok (.istore 7, 2) := by decide +kernel
theorem d_X2_offRound_35 : decode prog_4_method_26_code 35 = .ok (.iload 7, 2) := by decide +kernel
theorem d_X2_offRound_37 : decode prog_4_method_26_code 37 = .ok (.ifCond .lt 18, 3) := by decide +kernel
theorem d_X2_offRound_40 : decode prog_4_method_26_code 40 = .ok (.iload 7, 2) := by decide +kernel
theorem d_X2_offRound_42 : decode prog_4_method_26_code 42 = .ok (.iload_n 2, 1) := by decide +kernel
theorem d_X2_offRound_43 : decode prog_4_method_26_code 43 = .ok (.if_icmp .ge 12, 3) := by decide +kernel
theorem d_X2_offRound_46 : decode prog_4_method_26_code 46 = .ok (.iload_n 3, 1) := by decide +kernel
theorem d_X2_offRound_47 : decode prog_4_method_26_code 47 = .ok (.iload 7, 2) := by decide +kernel
theorem d_X2_offRound_49 : decode prog_4_method_26_code 49 = .ok (.ishr, 1) := by decide +kernel
theorem d_X2_offRound_50 : decode prog_4_method_26_code 50 = .ok (.iconst 1, 1) := by decide +kernel
theorem d_X2_offRound_51 : decode prog_4_method_26_code 51 = .ok (.iand, 1) := by decide +kernel
theorem d_X2_offRound_52 : decode prog_4_method_26_code 52 = .ok (.ifCond .eq 5, 3) := by decide +kernel
theorem d_X2_offRound_55 : decode prog_4_method_26_code 55 = .ok (.iconst 1, 1) := by decide +kernel
theorem d_X2_offRound_56 : decode prog_4_method_26_code 56 = .ok (.ireturn, 1) := by decide +kernel
theorem d_X2_offRound_57 : decode prog_4_method_26_code 57 = .ok (.iload_n 3, 1) := by decide +kernel
theorem d_X2_offRound_58 : decode prog_4_method_26_code 58 = .ok (.iconst 1, 1) := by decide +kernel
theorem d_X2_offRound_59 : decode prog_4_method_26_code 59 = .ok (.iload 7, 2) := by decide +kernel
theorem d_X2_offRound_61 : decode prog_4_method_26_code 61 = .ok (.ishl, 1) := by decide +kernel
theorem d_X2_offRound_62 : decode prog_4_method_26_code 62 = .ok (.ior, 1) := by decide +kernel
theorem d_X2_offRound_63 : decode prog_4_method_26_code 63 = .ok (.istore_n 3, 1) := by decide +kernel
theorem d_X2_offRound_64 : decode prog_4_method_26_code 64 = .ok (.iload 7, 2) := by decide +kernel
theorem d_X2_offRound_66 : decode prog_4_method_26_code 66 = .ok (.iload 6, 2) := by decide +kernel
theorem d_X2_offRound_68 : decode prog_4_method_26_code 68 = .ok (.if_icmp .ne 6, 3) := by decide +kernel
theorem d_X2_offRound_71 : decode prog_4_method_26_code 71 = .ok (.goto 10, 3) := by decide +kernel
theorem d_X2_offRound_74 : decode prog_4_method_26_code 74 = .ok (.iinc 4 1, 3) := by decide +kernel
theorem d_X2_offRound_77 : decode prog_4_method_26_code 77 = .ok (.iload 6, 2) := by decide +kernel
theorem d_X2_offRound_79 : decode prog_4_method_26_code 79 = .ok (.istore 5, 2) := by decide +kernel
theorem d_X2_offRound_81 : decode prog_4_method_26_code 81 = .ok (.iinc 6 1, 3) := by decide +kernel
theorem d_X2_offRound_84 : decode prog_4_method_26_code 84 = .ok (.goto (-67), 3) := by decide +kernel
theorem d_X2_offRound_87 : decode prog_4_method_26_code 87 = .ok (.iload 4, 2) := by decide +kernel
theorem d_X2_offRound_89 : decode prog_4_method_26_code 89 = .ok (.ifCond .ne 5, 3) := by decide +kernel
theorem d_X2_offRound_92 : decode prog_4_method_26_code 92 = .ok (.iconst 0, 1) := by decide +kernel
theorem d_X2_offRound_93 : decode prog_4_method_26_code 93 = .ok (.ireturn, 1) := by decide +kernel
theorem d_X2_offRound_94 : decode prog_4_method_26_code 94 = .ok (.iconst 1, 1) := by decide +kernel
theorem d_X2_offRound_95 : decode prog_4_method_26_code 95 = .ok (.istore 6, 2) := by decide +kernel
theorem d_X2_offRound_97 : decode prog_4_method_26_code 97 = .ok (.aload_n 0, 1) := by decide +kernel
theorem d_X2_offRound_98 : decode prog_4_method_26_code 98 = .ok (.iload_n 1, 1) := by decide +kernel
theorem d_X2_offRound_99 : decode prog_4_method_26_code 99 = .ok (.iconst 1, 1) := by decide +kernel
theorem d_X2_offRound_100 : decode prog_4_method_26_code 100 = .ok (.iadd, 1) := by decide +kernel
theorem d_X2_offRound_101 : decode prog_4_method_26_code 101 = .ok (.iload 5, 2) := by decide +kernel
theorem d_X2_offRound_103 : decode prog_4_method_26_code 103 = .ok (.iadd, 1) := by decide +kernel
theorem d_X2_offRound_104 : decode prog_4_method_26_code 104 = .ok (.invokevirtual 159, 3) := by decide +kernel
theorem d_X2_offRound_107 : decode prog_4_method_26_code 107 = .ok (.istore 7, 2) := by decide +kernel
theorem d_X2_offRound_109 : decode prog_4_method_26_code 109 = .ok (.iload 7, 2) := by decide +kernel
theorem d_X2_offRound_111 : decode prog_4_method_26_code 111 = .ok (.iload 5, 2) := by decide +kernel
theorem d_X2_offRound_113 : decode prog_4_method_26_code 113 = .ok (.if_icmp .eq 27, 3) := by decide +kernel
theorem d_X2_offRound_116 : decode prog_4_method_26_code 116 = .ok (.iload 6, 2) := by decide +kernel
theorem d_X2_offRound_118 : decode prog_4_method_26_code 118 = .ok (.iload_n 2, 1) := by decide +kernel
theorem d_X2_offRound_119 : decode prog_4_method_26_code 119 = .ok (.if_icmp .gt 21, 3) := by decide +kernel
theorem d_X2_offRound_122 : decode prog_4_method_26_code 122 = .ok (.iinc 6 1, 3) := by decide +kernel
theorem d_X2_offRound_125 : decode prog_4_method_26_code 125 = .ok (.aload_n 0, 1) := by decide +kernel
theorem d_X2_offRound_126 : decode prog_4_method_26_code 126 = .ok (.iload_n 1, 1) := by decide +kernel
theorem d_X2_offRound_127 : decode prog_4_method_26_code 127 = .ok (.iconst 1, 1) := by decide +kernel
theorem d_X2_offRound_128 : decode prog_4_method_26_code 128 = .ok (.iadd, 1) := by decide +kernel
theorem d_X2_offRound_129 : decode prog_4_method_26_code 129 = .ok (.iload 7, 2) := by decide +kernel
theorem d_X2_offRound_131 : decode prog_4_method_26_code 131 = .ok (.iadd, 1) := by decide +kernel
theorem d_X2_offRound_132 : decode prog_4_method_26_code 132 = .ok (.invokevirtual 159, 3) := by decide +kernel
theorem d_X2_offRound_135 : decode prog_4_method_26_code 135 = .ok (.istore 7, 2) := by decide +kernel
theorem d_X2_offRound_137 : decode prog_4_method_26_code 137 = .ok (.goto (-28), 3) := by decide +kernel
theorem d_X2_offRound_140 : decode prog_4_method_26_code 140 = .ok (.iload 6, 2) := by decide +kernel
theorem d_X2_offRound_142 : decode prog_4_method_26_code 142 = .ok (.iload 4, 2) := by decide +kernel
theorem d_X2_offRound_144 : decode prog_4_method_26_code 144 = .ok (.if_icmp .ne 7, 3) := by decide +kernel
theorem d_X2_offRound_147 : decode prog_4_method_26_code 147 = .ok (.iconst 0, 1) := by decide +kernel
theorem d_X2_offRound_148 : decode prog_4_method_26_code 148 = .ok (.goto 4, 3) := by decide +kernel
theorem d_X2_offRound_151 : decode prog_4_method_26_code 151 = .ok (.iconst 1, 1) := by decide +kernel
theorem d_X2_offRound_152 : decode prog_4_method_26_code 152 = .ok (.ireturn, 1) := by decide +kernel
theorem v_X2_offRound_0 {E : EE} {d : Nat} {Q : Option AV → AH → Prop} {x0 : Nat} {x1 : Int32} {G : AH} (h0 : 0 < d) (h : isO E G x0 2 ∧ (wpI E (d - 1) M_X2_noteAt [vr x0, vi x1] G (fun r1 G2 => wp E d M_X2_offRound 17 [some (vr x0), some (vi x1), some (vi r1), some (vi 0), some (vi 0), some (vi (-1)), some (vi 0), none] [] G2 Q))) : wp E d M_X2_offRound 0 [some (vr x0), some (vi x1), none, none, none, none, none, none] [] G Q := by
  refine wp_aload_n (pc := 0) d_X2_offRound_0 rfl ?_
  refine wp_iload_n (pc := 1) d_X2_offRound_1 rfl ?_
  obtain ⟨ho3, h⟩ := h
  refine wp_invV (pc := 2) (N := M_X2_noteAt) (As := [vi _]) (rest := []) (r := (cn_2, ct_2, 15)) d_X2_offRound_2 ml_X2_156 mk_X2_noteAt mv_X2_noteAt h0 ho3 rfl rfl (Nat.le_of_ble_eq_true rfl) ?_
  refine wpM.mono h (fun rr G2 hr => ?_)
  obtain ⟨r1, rfl, h⟩ := hr
  show wp E d M_X2_offRound 5 [some (vr _), some (vi _), none, none, none, none, none, none] [vi _] G2 Q
  refine wp_istore_n (pc := 5) (lv' := [some (vr _), some (vi _), some (vi _), none, none, none, none, none]) d_X2_offRound_5 (by decide) rfl ?_
  refine wp_iconst (pc := 6) (v := 0) d_X2_offRound_6 rfl ?_
  refine wp_istore_n (pc := 7) (lv' := [some (vr _), some (vi _), some (vi _), some (vi _), none, none, none, none]) d_X2_offRound_7 (by decide) rfl ?_
  refine wp_iconst (pc := 8) (v := 0) d_X2_offRound_8 rfl ?_
  refine wp_istore (pc := 9) (lv' := [some (vr _), some (vi _), some (vi _), some (vi _), some (vi _), none, none, none]) d_X2_offRound_9 (by decide) rfl ?_
  refine wp_iconst (pc := 11) (v := (-1)) d_X2_offRound_11 rfl ?_
  refine wp_istore (pc := 12) (lv' := [some (vr _), some (vi _), some (vi _), some (vi _), some (vi _), some (vi _), none, none]) d_X2_offRound_12 (by decide) rfl ?_
  refine wp_iconst (pc := 14) (v := 0) d_X2_offRound_14 rfl ?_
  refine wp_istore (pc := 15) (lv' := [some (vr _), some (vi _), some (vi _), some (vi _), some (vi _), some (vi _), some (vi _), none]) d_X2_offRound_15 (by decide) rfl ?_
  refine wp_sub ?_ h
  exact ⟨rfl, ⟨rfl, ⟨rfl, ⟨rfl, ⟨rfl, ⟨rfl, ⟨rfl, trivial⟩⟩⟩⟩⟩⟩⟩
theorem v_X2_offRound_17 {E : EE} {d : Nat} {Q : Option AV → AH → Prop} {x0 : Nat} {x1 : Int32} {x2 : Int32} {x3 : Int32} {x4 : Int32} {x5 : Int32} {x6 : Int32} {G : AH} (h0 : 0 < d) (h : (x2 ≤ x6 → (¬ x4 = 0 → isO E G x0 2 ∧ (wpI E (d - 1) M_X2_valueAt [vr x0, vi ((x1 + 1) + x5)] G (fun r1 G2 => wp E d M_X2_offRound 109 [some (vr x0), some (vi x1), some (vi x2), some (vi x3), some (vi x4), some (vi x5), some (vi 1), some (vi r1)] [] G2 Q))) ∧ (x4 = 0 → Q (some (vi 0)) G)) ∧ (¬ (x2 ≤ x6) → isO E G x0 2 ∧ (wpI E (d - 1) M_X2_valueAt [vr x0, vi ((x1 + 1) + x6)] G (fun r4 G5 => (r4 < 0 → Q (some (vi 1)) G5) ∧ (¬ (r4 < 0) → (x2 ≤ r4 → Q (some (vi 1)) G5) ∧ (¬ (x2 ≤ r4) → (((x3 >>> (r4 &&& 31)) &&& 1) = 0 → (¬ r4 = x6 → wp E d M_X2_offRound 81 [some (vr x0), some (vi x1), some (vi x2), some (vi (x3 ||| (1 <<< (r4 &&& 31)))), some (vi (x4 + 1)), some (vi x6), some (vi x6), some (vi r4)] [] G5 Q) ∧ (r4 = x6 → wp E d M_X2_offRound 81 [some (vr x0), some (vi x1), some (vi x2), some (vi (x3 ||| (1 <<< (r4 &&& 31)))), some (vi x4), some (vi x5), some (vi x6), some (vi r4)] [] G5 Q)) ∧ (¬ (((x3 >>> (r4 &&& 31)) &&& 1) = 0) → Q (some (vi 1)) G5))))))) : wp E d M_X2_offRound 17 [some (vr x0), some (vi x1), some (vi x2), some (vi x3), some (vi x4), some (vi x5), some (vi x6), none] [] G Q := by
  refine wp_iload (pc := 17) d_X2_offRound_17 rfl ?_
  refine wp_iload_n (pc := 19) d_X2_offRound_19 rfl ?_
  refine wp_icmp_ge (pc := 20) (tgt := 87) d_X2_offRound_20 (by decide) (fun hc => ?_) (fun hc => ?_)
  · have h := h.1 hc
    refine wp_iload (pc := 87) d_X2_offRound_87 rfl ?_
    refine wp_if_ne (pc := 89) (tgt := 94) d_X2_offRound_89 (by decide) (fun hc => ?_) (fun hc => ?_)
    · have h := h.1 hc
      refine wp_iconst (pc := 94) (v := 1) d_X2_offRound_94 rfl ?_
      refine wp_istore (pc := 95) (lv' := [some (vr _), some (vi _), some (vi _), some (vi _), some (vi _), some (vi _), some (vi _), none]) d_X2_offRound_95 (by decide) rfl ?_
      refine wp_aload_n (pc := 97) d_X2_offRound_97 rfl ?_
      refine wp_iload_n (pc := 98) d_X2_offRound_98 rfl ?_
      refine wp_iconst (pc := 99) (v := 1) d_X2_offRound_99 rfl ?_
      refine wp_iadd (pc := 100) d_X2_offRound_100 ?_
      refine wp_iload (pc := 101) d_X2_offRound_101 rfl ?_
      refine wp_iadd (pc := 103) d_X2_offRound_103 ?_
      obtain ⟨ho3, h⟩ := h
      refine wp_invV (pc := 104) (N := M_X2_valueAt) (As := [vi _]) (rest := []) (r := (cn_2, ct_2, 15)) d_X2_offRound_104 ml_X2_159 mk_X2_valueAt mv_X2_valueAt h0 ho3 rfl rfl (Nat.le_of_ble_eq_true rfl) ?_
      refine wpM.mono h (fun rr G2 hr => ?_)
      obtain ⟨r1, rfl, h⟩ := hr
      show wp E d M_X2_offRound 107 [some (vr _), some (vi _), some (vi _), some (vi _), some (vi _), some (vi _), some (vi _), none] [vi _] G2 Q
      refine wp_istore (pc := 107) (lv' := [some (vr _), some (vi _), some (vi _), some (vi _), some (vi _), some (vi _), some (vi _), some (vi _)]) d_X2_offRound_107 (by decide) rfl ?_
      refine wp_sub ?_ h
      exact ⟨rfl, ⟨rfl, ⟨rfl, ⟨rfl, ⟨rfl, ⟨rfl, ⟨rfl, ⟨rfl, trivial⟩⟩⟩⟩⟩⟩⟩⟩
    · have h := h.2 hc
      refine wp_iconst (pc := 92) (v := 0) d_X2_offRound_92 rfl ?_
      exact wp_iret (pc := 93) d_X2_offRound_93 rfl h
  · have h := h.2 hc
    refine wp_aload_n (pc := 23) d_X2_offRound_23 rfl ?_
    refine wp_iload_n (pc := 24) d_X2_offRound_24 rfl ?_
    refine wp_iconst (pc := 25) (v := 1) d_X2_offRound_25 rfl ?_
    refine wp_iadd (pc := 26) d_X2_offRound_26 ?_
    refine wp_iload (pc := 27) d_X2_offRound_27 rfl ?_
    refine wp_iadd (pc := 29) d_X2_offRound_29 ?_
    obtain ⟨ho6, h⟩ := h
    refine wp_invV (pc := 30) (N := M_X2_valueAt) (As := [vi _]) (rest := []) (r := (cn_2, ct_2, 15)) d_X2_offRound_30 ml_X2_159 mk_X2_valueAt mv_X2_valueAt h0 ho6 rfl rfl (Nat.le_of_ble_eq_true rfl) ?_
    refine wpM.mono h (fun rr G5 hr => ?_)
    obtain ⟨r4, rfl, h⟩ := hr
    show wp E d M_X2_offRound 33 [some (vr _), some (vi _), some (vi _), some (vi _), some (vi _), some (vi _), some (vi _), none] [vi _] G5 Q
    refine wp_istore (pc := 33) (lv' := [some (vr _), some (vi _), some (vi _), some (vi _), some (vi _), some (vi _), some (vi _), some (vi _)]) d_X2_offRound_33 (by decide) rfl ?_
    refine wp_iload (pc := 35) d_X2_offRound_35 rfl ?_
    refine wp_if_lt (pc := 37) (tgt := 55) d_X2_offRound_37 (by decide) (fun hc => ?_) (fun hc => ?_)
    · have h := h.1 hc
      refine wp_iconst (pc := 55) (v := 1) d_X2_offRound_55 rfl ?_
      exact wp_iret (pc := 56) d_X2_offRound_56 rfl h
    · have h := h.2 hc
      refine wp_iload (pc := 40) d_X2_offRound_40 rfl ?_
      refine wp_iload_n (pc := 42) d_X2_offRound_42 rfl ?_
      refine wp_icmp_ge (pc := 43) (tgt := 55) d_X2_offRound_43 (by decide) (fun hc => ?_) (fun hc => ?_)
      · have h := h.1 hc
        refine wp_iconst (pc := 55) (v := 1) d_X2_offRound_55 rfl ?_
        exact wp_iret (pc := 56) d_X2_offRound_56 rfl h
      · have h := h.2 hc
        refine wp_iload_n (pc := 46) d_X2_offRound_46 rfl ?_
        refine wp_iload (pc := 47) d_X2_offRound_47 rfl ?_
        refine wp_ishr (pc := 49) d_X2_offRound_49 ?_
        refine wp_iconst (pc := 50) (v := 1) d_X2_offRound_50 rfl ?_
        refine wp_iand (pc := 51) d_X2_offRound_51 ?_
        refine wp_if_eq (pc := 52) (tgt := 57) d_X2_offRound_52 (by decide) (fun hc => ?_) (fun hc => ?_)
        · have h := h.1 hc
          refine wp_iload_n (pc := 57) d_X2_offRound_57 rfl ?_
          refine wp_iconst (pc := 58) (v := 1) d_X2_offRound_58 rfl ?_
          refine wp_iload (pc := 59) d_X2_offRound_59 rfl ?_
          refine wp_ishl (pc := 61) d_X2_offRound_61 ?_
          refine wp_ior (pc := 62) d_X2_offRound_62 ?_
          refine wp_istore_n (pc := 63) (lv' := [some (vr _), some (vi _), some (vi _), some (vi _), some (vi _), some (vi _), some (vi _), some (vi _)]) d_X2_offRound_63 (by decide) rfl ?_
          refine wp_iload (pc := 64) d_X2_offRound_64 rfl ?_
          refine wp_iload (pc := 66) d_X2_offRound_66 rfl ?_
          refine wp_icmp_ne (pc := 68) (tgt := 74) d_X2_offRound_68 (by decide) (fun hc => ?_) (fun hc => ?_)
          · have h := h.1 hc
            refine wp_iinc (pc := 74) (v := 1) (lv' := [some (vr _), some (vi _), some (vi _), some (vi _), some (vi _), some (vi _), some (vi _), some (vi _)]) d_X2_offRound_74 (by decide) rfl rfl rfl ?_
            refine wp_iload (pc := 77) d_X2_offRound_77 rfl ?_
            refine wp_istore (pc := 79) (lv' := [some (vr _), some (vi _), some (vi _), some (vi _), some (vi _), some (vi _), some (vi _), some (vi _)]) d_X2_offRound_79 (by decide) rfl ?_
            refine wp_sub ?_ h
            exact ⟨rfl, ⟨rfl, ⟨rfl, ⟨rfl, ⟨rfl, ⟨rfl, ⟨rfl, ⟨rfl, trivial⟩⟩⟩⟩⟩⟩⟩⟩
          · have h := h.2 hc
            refine wp_goto (pc := 71) (tgt := 81) d_X2_offRound_71 (by decide) ?_
            refine wp_sub ?_ h
            exact ⟨rfl, ⟨rfl, ⟨rfl, ⟨rfl, ⟨rfl, ⟨rfl, ⟨rfl, ⟨rfl, trivial⟩⟩⟩⟩⟩⟩⟩⟩
        · have h := h.2 hc
          refine wp_iconst (pc := 55) (v := 1) d_X2_offRound_55 rfl ?_
          exact wp_iret (pc := 56) d_X2_offRound_56 rfl h
theorem v_X2_offRound_81 {E : EE} {d : Nat} {Q : Option AV → AH → Prop} {x0 : Nat} {x1 : Int32} {x2 : Int32} {x3 : Int32} {x4 : Int32} {x5 : Int32} {x6 : Int32} {x7 : Int32} {G : AH} (h : wp E d M_X2_offRound 17 [some (vr x0), some (vi x1), some (vi x2), some (vi x3), some (vi x4), some (vi x5), some (vi (x6 + 1)), none] [] G Q) : wp E d M_X2_offRound 81 [some (vr x0), some (vi x1), some (vi x2), some (vi x3), some (vi x4), some (vi x5), some (vi x6), some (vi x7)] [] G Q := by
  refine wp_iinc (pc := 81) (v := 1) (lv' := [some (vr _), some (vi _), some (vi _), some (vi _), some (vi _), some (vi _), some (vi _), some (vi _)]) d_X2_offRound_81 (by decide) rfl rfl rfl ?_
  refine wp_goto (pc := 84) (tgt := 17) d_X2_offRound_84 (by decide) ?_
  refine wp_sub ?_ h
  exact ⟨rfl, ⟨rfl, ⟨rfl, ⟨rfl, ⟨rfl, ⟨rfl, ⟨rfl, trivial⟩⟩⟩⟩⟩⟩⟩
theorem v_X2_offRound_109 {E : EE} {d : Nat} {Q : Option AV → AH → Prop} {x0 : Nat} {x1 : Int32} {x2 : Int32} {x3 : Int32} {x4 : Int32} {x5 : Int32} {x6 : Int32} {x7 : Int32} {G : AH} (h0 : 0 < d) (h : (x7 = x5 → wp E d M_X2_offRound 140 [some (vr x0), some (vi x1), some (vi x2), some (vi x3), some (vi x4), some (vi x5), some (vi x6), some (vi x7)] [] G Q) ∧ (¬ (x7 = x5) → (x2 < x6 → wp E d M_X2_offRound 140 [some (vr x0), some (vi x1), some (vi x2), some (vi x3), some (vi x4), some (vi x5), some (vi x6), some (vi x7)] [] G Q) ∧ (¬ (x2 < x6) → isO E G x0 2 ∧ (wpI E (d - 1) M_X2_valueAt [vr x0, vi ((x1 + 1) + x7)] G (fun r1 G2 => wp E d M_X2_offRound 109 [some (vr x0), some (vi x1), some (vi x2), some (vi x3), some (vi x4), some (vi x5), some (vi (x6 + 1)), some (vi r1)] [] G2 Q))))) : wp E d M_X2_offRound 109 [some (vr x0), some (vi x1), some (vi x2), some (vi x3), some (vi x4), some (vi x5), some (vi x6), some (vi x7)] [] G Q := by
  refine wp_iload (pc := 109) d_X2_offRound_109 rfl ?_
  refine wp_iload (pc := 111) d_X2_offRound_111 rfl ?_
  refine wp_icmp_eq (pc := 113) (tgt := 140) d_X2_offRound_113 (by decide) (fun hc => ?_) (fun hc => ?_)
  · have h := h.1 hc
    refine wp_sub ?_ h
    exact ⟨rfl, ⟨rfl, ⟨rfl, ⟨rfl, ⟨rfl, ⟨rfl, ⟨rfl, ⟨rfl, trivial⟩⟩⟩⟩⟩⟩⟩⟩
  · have h := h.2 hc
    refine wp_iload (pc := 116) d_X2_offRound_116 rfl ?_
    refine wp_iload_n (pc := 118) d_X2_offRound_118 rfl ?_
    refine wp_icmp_gt (pc := 119) (tgt := 140) d_X2_offRound_119 (by decide) (fun hc => ?_) (fun hc => ?_)
    · have h := h.1 hc
      refine wp_sub ?_ h
      exact ⟨rfl, ⟨rfl, ⟨rfl, ⟨rfl, ⟨rfl, ⟨rfl, ⟨rfl, ⟨rfl, trivial⟩⟩⟩⟩⟩⟩⟩⟩
    · have h := h.2 hc
      refine wp_iinc (pc := 122) (v := 1) (lv' := [some (vr _), some (vi _), some (vi _), some (vi _), some (vi _), some (vi _), some (vi _), some (vi _)]) d_X2_offRound_122 (by decide) rfl rfl rfl ?_
      refine wp_aload_n (pc := 125) d_X2_offRound_125 rfl ?_
      refine wp_iload_n (pc := 126) d_X2_offRound_126 rfl ?_
      refine wp_iconst (pc := 127) (v := 1) d_X2_offRound_127 rfl ?_
      refine wp_iadd (pc := 128) d_X2_offRound_128 ?_
      refine wp_iload (pc := 129) d_X2_offRound_129 rfl ?_
      refine wp_iadd (pc := 131) d_X2_offRound_131 ?_
      obtain ⟨ho3, h⟩ := h
      refine wp_invV (pc := 132) (N := M_X2_valueAt) (As := [vi _]) (rest := []) (r := (cn_2, ct_2, 15)) d_X2_offRound_132 ml_X2_159 mk_X2_valueAt mv_X2_valueAt h0 ho3 rfl rfl (Nat.le_of_ble_eq_true rfl) ?_
      refine wpM.mono h (fun rr G2 hr => ?_)
      obtain ⟨r1, rfl, h⟩ := hr
      show wp E d M_X2_offRound 135 [some (vr _), some (vi _), some (vi _), some (vi _), some (vi _), some (vi _), some (vi _), some (vi _)] [vi _] G2 Q
      refine wp_istore (pc := 135) (lv' := [some (vr _), some (vi _), some (vi _), some (vi _), some (vi _), some (vi _), some (vi _), some (vi _)]) d_X2_offRound_135 (by decide) rfl ?_
      refine wp_goto (pc := 137) (tgt := 109) d_X2_offRound_137 (by decide) ?_
      refine wp_sub ?_ h
      exact ⟨rfl, ⟨rfl, ⟨rfl, ⟨rfl, ⟨rfl, ⟨rfl, ⟨rfl, ⟨rfl, trivial⟩⟩⟩⟩⟩⟩⟩⟩
theorem v_X2_offRound_140 {E : EE} {d : Nat} {Q : Option AV → AH → Prop} {x0 : Nat} {x1 : Int32} {x2 : Int32} {x3 : Int32} {x4 : Int32} {x5 : Int32} {x6 : Int32} {x7 : Int32} {G : AH} (h : (¬ x6 = x4 → Q (some (vi 1)) G) ∧ (x6 = x4 → Q (some (vi 0)) G)) : wp E d M_X2_offRound 140 [some (vr x0), some (vi x1), some (vi x2), some (vi x3), some (vi x4), some (vi x5), some (vi x6), some (vi x7)] [] G Q := by
  refine wp_iload (pc := 140) d_X2_offRound_140 rfl ?_
  refine wp_iload (pc := 142) d_X2_offRound_142 rfl ?_
  refine wp_icmp_ne (pc := 144) (tgt := 151) d_X2_offRound_144 (by decide) (fun hc => ?_) (fun hc => ?_)
  · have h := h.1 hc
    refine wp_iconst (pc := 151) (v := 1) d_X2_offRound_151 rfl ?_
    exact wp_iret (pc := 152) d_X2_offRound_152 rfl h
  · have h := h.2 hc
    refine wp_iconst (pc := 147) (v := 0) d_X2_offRound_147 rfl ?_
    refine wp_goto (pc := 148) (tgt := 152) d_X2_offRound_148 (by decide) ?_
    exact wp_iret (pc := 152) d_X2_offRound_152 rfl h
theorem d_X2_outOfOrder_0 : decode prog_4_method_25_code 0 = .ok (.aload_n 0, 1) := by decide +kernel
theorem d_X2_outOfOrder_1 : decode prog_4_method_25_code 1 = .ok (.iload_n 1, 1) := by decide +kernel
theorem d_X2_outOfOrder_2 : decode prog_4_method_25_code 2 = .ok (.invokevirtual 156, 3) := by decide +kernel
theorem d_X2_outOfOrder_5 : decode prog_4_method_25_code 5 = .ok (.istore_n 2, 1) := by decide +kernel
theorem d_X2_outOfOrder_6 : decode prog_4_method_25_code 6 = .ok (.iconst 1, 1) := by decide +kernel
theorem d_X2_outOfOrder_7 : decode prog_4_method_25_code 7 = .ok (.istore_n 3, 1) := by decide +kernel
theorem d_X2_outOfOrder_8 : decode prog_4_method_25_code 8 = .ok (.iload_n 3, 1) := by decide +kernel
theorem d_X2_outOfOrder_9 : decode prog_4_method_25_code 9 = .ok (.iload_n 2, 1) := by decide +kernel
theorem d_X2_outOfOrder_10 : decode prog_4_method_25_code 10 = .ok (.if_icmp .gt 51, 3) := by decide +kernel
theorem d_X2_outOfOrder_13 : decode prog_4_method_25_code 13 = .ok (.aload_n 0, 1) := by decide +kernel
theorem d_X2_outOfOrder_14 : decode prog_4_method_25_code 14 = .ok (.iload_n 1, 1) := by decide +kernel
theorem d_X2_outOfOrder_15 : decode prog_4_method_25_code 15 = .ok (.iload_n 3, 1) := by decide +kernel
theorem d_X2_outOfOrder_16 : decode prog_4_method_25_code 16 = .ok (.iadd, 1) := by decide +kernel
theorem d_X2_outOfOrder_17 : decode prog_4_method_25_code 17 = .ok (.invokevirtual 159, 3) := by decide +kernel
theorem d_X2_outOfOrder_20 : decode prog_4_method_25_code 20 = .ok (.istore 4, 2) := by decide +kernel
theorem d_X2_outOfOrder_22 : decode prog_4_method_25_code 22 = .ok (.aload_n 0, 1) := by decide +kernel
theorem d_X2_outOfOrder_23 : decode prog_4_method_25_code 23 = .ok (.iload_n 1, 1) := by decide +kernel
theorem d_X2_outOfOrder_24 : decode prog_4_method_25_code 24 = .ok (.iconst 1, 1) := by decide +kernel
theorem d_X2_outOfOrder_25 : decode prog_4_method_25_code 25 = .ok (.iadd, 1) := by decide +kernel
theorem d_X2_outOfOrder_26 : decode prog_4_method_25_code 26 = .ok (.iload_n 2, 1) := by decide +kernel
theorem d_X2_outOfOrder_27 : decode prog_4_method_25_code 27 = .ok (.iadd, 1) := by decide +kernel
theorem d_X2_outOfOrder_28 : decode prog_4_method_25_code 28 = .ok (.iload_n 3, 1) := by decide +kernel
theorem d_X2_outOfOrder_29 : decode prog_4_method_25_code 29 = .ok (.iadd, 1) := by decide +kernel
theorem d_X2_outOfOrder_30 : decode prog_4_method_25_code 30 = .ok (.invokevirtual 159, 3) := by decide +kernel
theorem d_X2_outOfOrder_33 : decode prog_4_method_25_code 33 = .ok (.istore 5, 2) := by decide +kernel
theorem d_X2_outOfOrder_35 : decode prog_4_method_25_code 35 = .ok (.iload 4, 2) := by decide +kernel
theorem d_X2_outOfOrder_37 : decode prog_4_method_25_code 37 = .ok (.iload 5, 2) := by decide +kernel
theorem d_X2_outOfOrder_39 : decode prog_4_method_25_code 39 = .ok (.if_icmp .eq 16, 3) := by decide +kernel
theorem d_X2_outOfOrder_42 : decode prog_4_method_25_code 42 = .ok (.iload 4, 2) := by decide +kernel
theorem d_X2_outOfOrder_44 : decode prog_4_method_25_code 44 = .ok (.iload 5, 2) := by decide +kernel
theorem d_X2_outOfOrder_46 : decode prog_4_method_25_code 46 = .ok (.if_icmp .le 7, 3) := by decide +kernel
theorem d_X2_outOfOrder_49 : decode prog_4_method_25_code 49 = .ok (.iconst 1, 1) := by decide +kernel
theorem d_X2_outOfOrder_50 : decode prog_4_method_25_code 50 = .ok (.goto 4, 3) := by decide +kernel
theorem d_X2_outOfOrder_53 : decode prog_4_method_25_code 53 = .ok (.iconst 0, 1) := by decide +kernel
theorem d_X2_outOfOrder_54 : decode prog_4_method_25_code 54 = .ok (.ireturn, 1) := by decide +kernel
theorem d_X2_outOfOrder_55 : decode prog_4_method_25_code 55 = .ok (.iinc 3 1, 3) := by decide +kernel
theorem d_X2_outOfOrder_58 : decode prog_4_method_25_code 58 = .ok (.goto (-50), 3) := by decide +kernel
theorem d_X2_outOfOrder_61 : decode prog_4_method_25_code 61 = .ok (.iconst 0, 1) := by decide +kernel
theorem d_X2_outOfOrder_62 : decode prog_4_method_25_code 62 = .ok (.ireturn, 1) := by decide +kernel
theorem v_X2_outOfOrder_0 {E : EE} {d : Nat} {Q : Option AV → AH → Prop} {x0 : Nat} {x1 : Int32} {G : AH} (h0 : 0 < d) (h : isO E G x0 2 ∧ (wpI E (d - 1) M_X2_noteAt [vr x0, vi x1] G (fun r1 G2 => wp E d M_X2_outOfOrder 8 [some (vr x0), some (vi x1), some (vi r1), some (vi 1), none, none] [] G2 Q))) : wp E d M_X2_outOfOrder 0 [some (vr x0), some (vi x1), none, none, none, none] [] G Q := by
  refine wp_aload_n (pc := 0) d_X2_outOfOrder_0 rfl ?_
  refine wp_iload_n (pc := 1) d_X2_outOfOrder_1 rfl ?_
  obtain ⟨ho3, h⟩ := h
  refine wp_invV (pc := 2) (N := M_X2_noteAt) (As := [vi _]) (rest := []) (r := (cn_2, ct_2, 15)) d_X2_outOfOrder_2 ml_X2_156 mk_X2_noteAt mv_X2_noteAt h0 ho3 rfl rfl (Nat.le_of_ble_eq_true rfl) ?_
  refine wpM.mono h (fun rr G2 hr => ?_)
  obtain ⟨r1, rfl, h⟩ := hr
  show wp E d M_X2_outOfOrder 5 [some (vr _), some (vi _), none, none, none, none] [vi _] G2 Q
  refine wp_istore_n (pc := 5) (lv' := [some (vr _), some (vi _), some (vi _), none, none, none]) d_X2_outOfOrder_5 (by decide) rfl ?_
  refine wp_iconst (pc := 6) (v := 1) d_X2_outOfOrder_6 rfl ?_
  refine wp_istore_n (pc := 7) (lv' := [some (vr _), some (vi _), some (vi _), some (vi _), none, none]) d_X2_outOfOrder_7 (by decide) rfl ?_
  refine wp_sub ?_ h
  exact ⟨rfl, ⟨rfl, ⟨rfl, ⟨rfl, trivial⟩⟩⟩⟩
theorem v_X2_outOfOrder_8 {E : EE} {d : Nat} {Q : Option AV → AH → Prop} {x0 : Nat} {x1 : Int32} {x2 : Int32} {x3 : Int32} {G : AH} (h0 : 0 < d) (h : (x2 < x3 → Q (some (vi 0)) G) ∧ (¬ (x2 < x3) → isO E G x0 2 ∧ (wpI E (d - 1) M_X2_valueAt [vr x0, vi (x1 + x3)] G (fun r1 G2 => isO E G2 x0 2 ∧ (wpI E (d - 1) M_X2_valueAt [vr x0, vi (((x1 + 1) + x2) + x3)] G2 (fun r3 G4 => (r1 = r3 → wp E d M_X2_outOfOrder 8 [some (vr x0), some (vi x1), some (vi x2), some (vi (x3 + 1)), none, none] [] G4 Q) ∧ (¬ (r1 = r3) → (r1 ≤ r3 → Q (some (vi 0)) G4) ∧ (¬ (r1 ≤ r3) → Q (some (vi 1)) G4)))))))) : wp E d M_X2_outOfOrder 8 [some (vr x0), some (vi x1), some (vi x2), some (vi x3), none, none] [] G Q := by
  refine wp_iload_n (pc := 8) d_X2_outOfOrder_8 rfl ?_
  refine wp_iload_n (pc := 9) d_X2_outOfOrder_9 rfl ?_
  refine wp_icmp_gt (pc := 10) (tgt := 61) d_X2_outOfOrder_10 (by decide) (fun hc => ?_) (fun hc => ?_)
  · have h := h.1 hc
    refine wp_iconst (pc := 61) (v := 0) d_X2_outOfOrder_61 rfl ?_
    exact wp_iret (pc := 62) d_X2_outOfOrder_62 rfl h
  · have h := h.2 hc
    refine wp_aload_n (pc := 13) d_X2_outOfOrder_13 rfl ?_
    refine wp_iload_n (pc := 14) d_X2_outOfOrder_14 rfl ?_
    refine wp_iload_n (pc := 15) d_X2_outOfOrder_15 rfl ?_
    refine wp_iadd (pc := 16) d_X2_outOfOrder_16 ?_
    obtain ⟨ho6, h⟩ := h
    refine wp_invV (pc := 17) (N := M_X2_valueAt) (As := [vi _]) (rest := []) (r := (cn_2, ct_2, 15)) d_X2_outOfOrder_17 ml_X2_159 mk_X2_valueAt mv_X2_valueAt h0 ho6 rfl rfl (Nat.le_of_ble_eq_true rfl) ?_
    refine wpM.mono h (fun rr G2 hr => ?_)
    obtain ⟨r1, rfl, h⟩ := hr
    show wp E d M_X2_outOfOrder 20 [some (vr _), some (vi _), some (vi _), some (vi _), none, none] [vi _] G2 Q
    refine wp_istore (pc := 20) (lv' := [some (vr _), some (vi _), some (vi _), some (vi _), some (vi _), none]) d_X2_outOfOrder_20 (by decide) rfl ?_
    refine wp_aload_n (pc := 22) d_X2_outOfOrder_22 rfl ?_
    refine wp_iload_n (pc := 23) d_X2_outOfOrder_23 rfl ?_
    refine wp_iconst (pc := 24) (v := 1) d_X2_outOfOrder_24 rfl ?_
    refine wp_iadd (pc := 25) d_X2_outOfOrder_25 ?_
    refine wp_iload_n (pc := 26) d_X2_outOfOrder_26 rfl ?_
    refine wp_iadd (pc := 27) d_X2_outOfOrder_27 ?_
    refine wp_iload_n (pc := 28) d_X2_outOfOrder_28 rfl ?_
    refine wp_iadd (pc := 29) d_X2_outOfOrder_29 ?_
    obtain ⟨ho5, h⟩ := h
    refine wp_invV (pc := 30) (N := M_X2_valueAt) (As := [vi _]) (rest := []) (r := (cn_2, ct_2, 15)) d_X2_outOfOrder_30 ml_X2_159 mk_X2_valueAt mv_X2_valueAt h0 ho5 rfl rfl (Nat.le_of_ble_eq_true rfl) ?_
    refine wpM.mono h (fun rr G4 hr => ?_)
    obtain ⟨r3, rfl, h⟩ := hr
    show wp E d M_X2_outOfOrder 33 [some (vr _), some (vi _), some (vi _), some (vi _), some (vi _), none] [vi _] G4 Q
    refine wp_istore (pc := 33) (lv' := [some (vr _), some (vi _), some (vi _), some (vi _), some (vi _), some (vi _)]) d_X2_outOfOrder_33 (by decide) rfl ?_
    refine wp_iload (pc := 35) d_X2_outOfOrder_35 rfl ?_
    refine wp_iload (pc := 37) d_X2_outOfOrder_37 rfl ?_
    refine wp_icmp_eq (pc := 39) (tgt := 55) d_X2_outOfOrder_39 (by decide) (fun hc => ?_) (fun hc => ?_)
    · have h := h.1 hc
      refine wp_iinc (pc := 55) (v := 1) (lv' := [some (vr _), some (vi _), some (vi _), some (vi _), some (vi _), some (vi _)]) d_X2_outOfOrder_55 (by decide) rfl rfl rfl ?_
      refine wp_goto (pc := 58) (tgt := 8) d_X2_outOfOrder_58 (by decide) ?_
      refine wp_sub ?_ h
      exact ⟨rfl, ⟨rfl, ⟨rfl, ⟨rfl, trivial⟩⟩⟩⟩
    · have h := h.2 hc
      refine wp_iload (pc := 42) d_X2_outOfOrder_42 rfl ?_
      refine wp_iload (pc := 44) d_X2_outOfOrder_44 rfl ?_
      refine wp_icmp_le (pc := 46) (tgt := 53) d_X2_outOfOrder_46 (by decide) (fun hc => ?_) (fun hc => ?_)
      · have h := h.1 hc
        refine wp_iconst (pc := 53) (v := 0) d_X2_outOfOrder_53 rfl ?_
        exact wp_iret (pc := 54) d_X2_outOfOrder_54 rfl h
      · have h := h.2 hc
        refine wp_iconst (pc := 49) (v := 1) d_X2_outOfOrder_49 rfl ?_
        refine wp_goto (pc := 50) (tgt := 54) d_X2_outOfOrder_50 (by decide) ?_
        exact wp_iret (pc := 54) d_X2_outOfOrder_54 rfl h
theorem d_X2_offRows_0 : decode prog_4_method_24_code 0 = .ok (.aload_n 0, 1) := by decide +kernel
theorem d_X2_offRows_1 : decode prog_4_method_24_code 1 = .ok (.iload_n 1, 1) := by decide +kernel
theorem d_X2_offRows_2 : decode prog_4_method_24_code 2 = .ok (.invokevirtual 156, 3) := by decide +kernel
theorem d_X2_offRows_5 : decode prog_4_method_24_code 5 = .ok (.istore_n 2, 1) := by decide +kernel
theorem d_X2_offRows_6 : decode prog_4_method_24_code 6 = .ok (.aload_n 0, 1) := by decide +kernel
theorem d_X2_offRows_7 : decode prog_4_method_24_code 7 = .ok (.iload_n 1, 1) := by decide +kernel
theorem d_X2_offRows_8 : decode prog_4_method_24_code 8 = .ok (.iconst 1, 1) := by decide +kernel
theorem d_X2_offRows_9 : decode prog_4_method_24_code 9 = .ok (.iadd, 1) := by decide +kernel
theorem d_X2_offRows_10 : decode prog_4_method_24_code 10 = .ok (.iload_n 2, 1) := by decide +kernel
theorem d_X2_offRows_11 : decode prog_4_method_24_code 11 = .ok (.iadd, 1) := by decide +kernel
theorem d_X2_offRows_12 : decode prog_4_method_24_code 12 = .ok (.invokevirtual 156, 3) := by decide +kernel
theorem d_X2_offRows_15 : decode prog_4_method_24_code 15 = .ok (.istore_n 3, 1) := by decide +kernel
theorem d_X2_offRows_16 : decode prog_4_method_24_code 16 = .ok (.iload_n 2, 1) := by decide +kernel
theorem d_X2_offRows_17 : decode prog_4_method_24_code 17 = .ok (.istore 4, 2) := by decide +kernel
theorem d_X2_offRows_19 : decode prog_4_method_24_code 19 = .ok (.iconst 0, 1) := by decide +kernel
theorem d_X2_offRows_20 : decode prog_4_method_24_code 20 = .ok (.istore 5, 2) := by decide +kernel
theorem d_X2_offRows_22 : decode prog_4_method_24_code 22 = .ok (.iload 5, 2) := by decide +kernel
theorem d_X2_offRows_24 : decode prog_4_method_24_code 24 = .ok (.iload_n 3, 1) := by decide +kernel
theorem d_X2_offRows_25 : decode prog_4_method_24_code 25 = .ok (.if_icmp .ge 73, 3) := by decide +kernel
theorem d_X2_offRows_28 : decode prog_4_method_24_code 28 = .ok (.iload_n 1, 1) := by decide +kernel
theorem d_X2_offRows_29 : decode prog_4_method_24_code 29 = .ok (.iconst 2, 1) := by decide +kernel
theorem d_X2_offRows_30 : decode prog_4_method_24_code 30 = .ok (.iadd, 1) := by decide +kernel
theorem d_X2_offRows_31 : decode prog_4_method_24_code 31 = .ok (.iload_n 2, 1) := by decide +kernel
theorem d_X2_offRows_32 : decode prog_4_method_24_code 32 = .ok (.iadd, 1) := by decide +kernel
theorem d_X2_offRows_33 : decode prog_4_method_24_code 33 = .ok (.iload 5, 2) := by decide +kernel
theorem d_X2_offRows_35 : decode prog_4_method_24_code 35 = .ok (.iload_n 2, 1) := by decide +kernel
theorem d_X2_offRows_36 : decode prog_4_method_24_code 36 = .ok (.imul, 1) := by decide +kernel
theorem d_X2_offRows_37 : decode prog_4_method_24_code 37 = .ok (.iadd, 1) := by decide +kernel
theorem d_X2_offRows_38 : decode prog_4_method_24_code 38 = .ok (.istore 6, 2) := by decide +kernel
theorem d_X2_offRows_40 : decode prog_4_method_24_code 40 = .ok (.iconst 0, 1) := by decide +kernel
theorem d_X2_offRows_41 : decode prog_4_method_24_code 41 = .ok (.istore 7, 2) := by decide +kernel
theorem d_X2_offRows_43 : decode prog_4_method_24_code 43 = .ok (.iconst 0, 1) := by decide +kernel
theorem d_X2_offRows_44 : decode prog_4_method_24_code 44 = .ok (.istore 8, 2) := by decide +kernel
theorem d_X2_offRows_46 : decode prog_4_method_24_code 46 = .ok (.iload 8, 2) := by decide +kernel
theorem d_X2_offRows_48 : decode prog_4_method_24_code 48 = .ok (.iload_n 2, 1) := by decide +kernel
theorem d_X2_offRows_49 : decode prog_4_method_24_code 49 = .ok (.if_icmp .ge 34, 3) := by decide +kernel
theorem d_X2_offRows_52 : decode prog_4_method_24_code 52 = .ok (.aload_n 0, 1) := by decide +kernel
theorem d_X2_offRows_53 : decode prog_4_method_24_code 53 = .ok (.iload_n 1, 1) := by decide +kernel
theorem d_X2_offRows_54 : decode prog_4_method_24_code 54 = .ok (.iconst 1, 1) := by decide +kernel
theorem d_X2_offRows_55 : decode prog_4_method_24_code 55 = .ok (.iadd, 1) := by decide +kernel
theorem d_X2_offRows_56 : decode prog_4_method_24_code 56 = .ok (.iload 8, 2) := by decide +kernel
theorem d_X2_offRows_58 : decode prog_4_method_24_code 58 = .ok (.iadd, 1) := by decide +kernel
theorem d_X2_offRows_59 : decode prog_4_method_24_code 59 = .ok (.invokevirtual 159, 3) := by decide +kernel
theorem d_X2_offRows_62 : decode prog_4_method_24_code 62 = .ok (.aload_n 0, 1) := by decide +kernel
theorem d_X2_offRows_63 : decode prog_4_method_24_code 63 = .ok (.iload 6, 2) := by decide +kernel
theorem d_X2_offRows_65 : decode prog_4_method_24_code 65 = .ok (.iload 8, 2) := by decide +kernel
theorem d_X2_offRows_67 : decode prog_4_method_24_code 67 = .ok (.iadd, 1) := by decide +kernel
theorem d_X2_offRows_68 : decode prog_4_method_24_code 68 = .ok (.invokevirtual 156, 3) := by decide +kernel
theorem d_X2_offRows_71 : decode prog_4_method_24_code 71 = .ok (.if_icmp .eq 6, 3) := by decide +kernel
theorem d_X2_offRows_74 : decode prog_4_method_24_code 74 = .ok (.iinc 7 1, 3) := by decide +kernel
theorem d_X2_offRows_77 : decode prog_4_method_24_code 77 = .ok (.iinc 8 1, 3) := by decide +kernel
theorem d_X2_offRows_80 : decode prog_4_method_24_code 80 = .ok (.goto (-34), 3) := by decide +kernel
theorem d_X2_offRows_83 : decode prog_4_method_24_code 83 = .ok (.iload 4, 2) := by decide +kernel
theorem d_X2_offRows_85 : decode prog_4_method_24_code 85 = .ok (.iload 7, 2) := by decide +kernel
theorem d_X2_offRows_87 : decode prog_4_method_24_code 87 = .ok (.invokestatic 73, 3) := by decide +kernel
theorem d_X2_offRows_90 : decode prog_4_method_24_code 90 = .ok (.istore 4, 2) := by decide +kernel
theorem d_X2_offRows_92 : decode prog_4_method_24_code 92 = .ok (.iinc 5 1, 3) := by decide +kernel
theorem d_X2_offRows_95 : decode prog_4_method_24_code 95 = .ok (.goto (-73), 3) := by decide +kernel
theorem d_X2_offRows_98 : decode prog_4_method_24_code 98 = .ok (.iload 4, 2) := by decide +kernel
theorem d_X2_offRows_100 : decode prog_4_method_24_code 100 = .ok (.ireturn, 1) := by decide +kernel
theorem v_X2_offRows_0 {E : EE} {d : Nat} {Q : Option AV → AH → Prop} {x0 : Nat} {x1 : Int32} {G : AH} (h0 : 0 < d) (h : isO E G x0 2 ∧ (wpI E (d - 1) M_X2_noteAt [vr x0, vi x1] G (fun r1 G2 => isO E G2 x0 2 ∧ (wpI E (d - 1) M_X2_noteAt [vr x0, vi ((x1 + 1) + r1)] G2 (fun r3 G4 => wp E d M_X2_offRows 22 [some (vr x0), some (vi x1), some (vi r1), some (vi r3), some (vi r1), some (vi 0), none, none, none] [] G4 Q))))) : wp E d M_X2_offRows 0 [some (vr x0), some (vi x1), none, none, none, none, none, none, none] [] G Q := by
  refine wp_aload_n (pc := 0) d_X2_offRows_0 rfl ?_
  refine wp_iload_n (pc := 1) d_X2_offRows_1 rfl ?_
  obtain ⟨ho6, h⟩ := h
  refine wp_invV (pc := 2) (N := M_X2_noteAt) (As := [vi _]) (rest := []) (r := (cn_2, ct_2, 15)) d_X2_offRows_2 ml_X2_156 mk_X2_noteAt mv_X2_noteAt h0 ho6 rfl rfl (Nat.le_of_ble_eq_true rfl) ?_
  refine wpM.mono h (fun rr G2 hr => ?_)
  obtain ⟨r1, rfl, h⟩ := hr
  show wp E d M_X2_offRows 5 [some (vr _), some (vi _), none, none, none, none, none, none, none] [vi _] G2 Q
  refine wp_istore_n (pc := 5) (lv' := [some (vr _), some (vi _), some (vi _), none, none, none, none, none, none]) d_X2_offRows_5 (by decide) rfl ?_
  refine wp_aload_n (pc := 6) d_X2_offRows_6 rfl ?_
  refine wp_iload_n (pc := 7) d_X2_offRows_7 rfl ?_
  refine wp_iconst (pc := 8) (v := 1) d_X2_offRows_8 rfl ?_
  refine wp_iadd (pc := 9) d_X2_offRows_9 ?_
  refine wp_iload_n (pc := 10) d_X2_offRows_10 rfl ?_
  refine wp_iadd (pc := 11) d_X2_offRows_11 ?_
  obtain ⟨ho5, h⟩ := h
  refine wp_invV (pc := 12) (N := M_X2_noteAt) (As := [vi _]) (rest := []) (r := (cn_2, ct_2, 15)) d_X2_offRows_12 ml_X2_156 mk_X2_noteAt mv_X2_noteAt h0 ho5 rfl rfl (Nat.le_of_ble_eq_true rfl) ?_
  refine wpM.mono h (fun rr G4 hr => ?_)
  obtain ⟨r3, rfl, h⟩ := hr
  show wp E d M_X2_offRows 15 [some (vr _), some (vi _), some (vi _), none, none, none, none, none, none] [vi _] G4 Q
  refine wp_istore_n (pc := 15) (lv' := [some (vr _), some (vi _), some (vi _), some (vi _), none, none, none, none, none]) d_X2_offRows_15 (by decide) rfl ?_
  refine wp_iload_n (pc := 16) d_X2_offRows_16 rfl ?_
  refine wp_istore (pc := 17) (lv' := [some (vr _), some (vi _), some (vi _), some (vi _), some (vi _), none, none, none, none]) d_X2_offRows_17 (by decide) rfl ?_
  refine wp_iconst (pc := 19) (v := 0) d_X2_offRows_19 rfl ?_
  refine wp_istore (pc := 20) (lv' := [some (vr _), some (vi _), some (vi _), some (vi _), some (vi _), some (vi _), none, none, none]) d_X2_offRows_20 (by decide) rfl ?_
  refine wp_sub ?_ h
  exact ⟨rfl, ⟨rfl, ⟨rfl, ⟨rfl, ⟨rfl, ⟨rfl, trivial⟩⟩⟩⟩⟩⟩
theorem v_X2_offRows_22 {E : EE} {d : Nat} {Q : Option AV → AH → Prop} {x0 : Nat} {x1 : Int32} {x2 : Int32} {x3 : Int32} {x4 : Int32} {x5 : Int32} {G : AH} (h : (x3 ≤ x5 → Q (some (vi x4)) G) ∧ (¬ (x3 ≤ x5) → wp E d M_X2_offRows 46 [some (vr x0), some (vi x1), some (vi x2), some (vi x3), some (vi x4), some (vi x5), some (vi (((x1 + 2) + x2) + (x5 * x2))), some (vi 0), some (vi 0)] [] G Q)) : wp E d M_X2_offRows 22 [some (vr x0), some (vi x1), some (vi x2), some (vi x3), some (vi x4), some (vi x5), none, none, none] [] G Q := by
  refine wp_iload (pc := 22) d_X2_offRows_22 rfl ?_
  refine wp_iload_n (pc := 24) d_X2_offRows_24 rfl ?_
  refine wp_icmp_ge (pc := 25) (tgt := 98) d_X2_offRows_25 (by decide) (fun hc => ?_) (fun hc => ?_)
  · have h := h.1 hc
    refine wp_iload (pc := 98) d_X2_offRows_98 rfl ?_
    exact wp_iret (pc := 100) d_X2_offRows_100 rfl h
  · have h := h.2 hc
    refine wp_iload_n (pc := 28) d_X2_offRows_28 rfl ?_
    refine wp_iconst (pc := 29) (v := 2) d_X2_offRows_29 rfl ?_
    refine wp_iadd (pc := 30) d_X2_offRows_30 ?_
    refine wp_iload_n (pc := 31) d_X2_offRows_31 rfl ?_
    refine wp_iadd (pc := 32) d_X2_offRows_32 ?_
    refine wp_iload (pc := 33) d_X2_offRows_33 rfl ?_
    refine wp_iload_n (pc := 35) d_X2_offRows_35 rfl ?_
    refine wp_imul (pc := 36) d_X2_offRows_36 ?_
    refine wp_iadd (pc := 37) d_X2_offRows_37 ?_
    refine wp_istore (pc := 38) (lv' := [some (vr _), some (vi _), some (vi _), some (vi _), some (vi _), some (vi _), some (vi _), none, none]) d_X2_offRows_38 (by decide) rfl ?_
    refine wp_iconst (pc := 40) (v := 0) d_X2_offRows_40 rfl ?_
    refine wp_istore (pc := 41) (lv' := [some (vr _), some (vi _), some (vi _), some (vi _), some (vi _), some (vi _), some (vi _), some (vi _), none]) d_X2_offRows_41 (by decide) rfl ?_
    refine wp_iconst (pc := 43) (v := 0) d_X2_offRows_43 rfl ?_
    refine wp_istore (pc := 44) (lv' := [some (vr _), some (vi _), some (vi _), some (vi _), some (vi _), some (vi _), some (vi _), some (vi _), some (vi _)]) d_X2_offRows_44 (by decide) rfl ?_
    refine wp_sub ?_ h
    exact ⟨rfl, ⟨rfl, ⟨rfl, ⟨rfl, ⟨rfl, ⟨rfl, ⟨rfl, ⟨rfl, ⟨rfl, trivial⟩⟩⟩⟩⟩⟩⟩⟩⟩
theorem v_X2_offRows_46 {E : EE} {d : Nat} {Q : Option AV → AH → Prop} {x0 : Nat} {x1 : Int32} {x2 : Int32} {x3 : Int32} {x4 : Int32} {x5 : Int32} {x6 : Int32} {x7 : Int32} {x8 : Int32} {G : AH} (h0 : 0 < d) (h : (x2 ≤ x8 → wp E d M_X2_offRows 22 [some (vr x0), some (vi x1), some (vi x2), some (vi x3), some (vi (imin x4 x7)), some (vi (x5 + 1)), none, none, none] [] G Q) ∧ (¬ (x2 ≤ x8) → isO E G x0 2 ∧ (wpI E (d - 1) M_X2_valueAt [vr x0, vi ((x1 + 1) + x8)] G (fun r1 G2 => isO E G2 x0 2 ∧ (wpI E (d - 1) M_X2_noteAt [vr x0, vi (x6 + x8)] G2 (fun r3 G4 => (r1 = r3 → wp E d M_X2_offRows 77 [some (vr x0), some (vi x1), some (vi x2), some (vi x3), some (vi x4), some (vi x5), some (vi x6), some (vi x7), some (vi x8)] [] G4 Q) ∧ (¬ (r1 = r3) → wp E d M_X2_offRows 77 [some (vr x0), some (vi x1), some (vi x2), some (vi x3), some (vi x4), some (vi x5), some (vi x6), some (vi (x7 + 1)), some (vi x8)] [] G4 Q))))))) : wp E d M_X2_offRows 46 [some (vr x0), some (vi x1), some (vi x2), some (vi x3), some (vi x4), some (vi x5), some (vi x6), some (vi x7), some (vi x8)] [] G Q := by
  refine wp_iload (pc := 46) d_X2_offRows_46 rfl ?_
  refine wp_iload_n (pc := 48) d_X2_offRows_48 rfl ?_
  refine wp_icmp_ge (pc := 49) (tgt := 83) d_X2_offRows_49 (by decide) (fun hc => ?_) (fun hc => ?_)
  · have h := h.1 hc
    refine wp_iload (pc := 83) d_X2_offRows_83 rfl ?_
    refine wp_iload (pc := 85) d_X2_offRows_85 rfl ?_
    refine wp_imin (pc := 87) d_X2_offRows_87 ml_X2_73 ms_imin ii_math mc_imin h0 (Nat.le_of_ble_eq_true rfl) ?_
    refine wp_istore (pc := 90) (lv' := [some (vr _), some (vi _), some (vi _), some (vi _), some (vi _), some (vi _), some (vi _), some (vi _), some (vi _)]) d_X2_offRows_90 (by decide) rfl ?_
    refine wp_iinc (pc := 92) (v := 1) (lv' := [some (vr _), some (vi _), some (vi _), some (vi _), some (vi _), some (vi _), some (vi _), some (vi _), some (vi _)]) d_X2_offRows_92 (by decide) rfl rfl rfl ?_
    refine wp_goto (pc := 95) (tgt := 22) d_X2_offRows_95 (by decide) ?_
    refine wp_sub ?_ h
    exact ⟨rfl, ⟨rfl, ⟨rfl, ⟨rfl, ⟨rfl, ⟨rfl, trivial⟩⟩⟩⟩⟩⟩
  · have h := h.2 hc
    refine wp_aload_n (pc := 52) d_X2_offRows_52 rfl ?_
    refine wp_iload_n (pc := 53) d_X2_offRows_53 rfl ?_
    refine wp_iconst (pc := 54) (v := 1) d_X2_offRows_54 rfl ?_
    refine wp_iadd (pc := 55) d_X2_offRows_55 ?_
    refine wp_iload (pc := 56) d_X2_offRows_56 rfl ?_
    refine wp_iadd (pc := 58) d_X2_offRows_58 ?_
    obtain ⟨ho6, h⟩ := h
    refine wp_invV (pc := 59) (N := M_X2_valueAt) (As := [vi _]) (rest := []) (r := (cn_2, ct_2, 15)) d_X2_offRows_59 ml_X2_159 mk_X2_valueAt mv_X2_valueAt h0 ho6 rfl rfl (Nat.le_of_ble_eq_true rfl) ?_
    refine wpM.mono h (fun rr G2 hr => ?_)
    obtain ⟨r1, rfl, h⟩ := hr
    show wp E d M_X2_offRows 62 [some (vr _), some (vi _), some (vi _), some (vi _), some (vi _), some (vi _), some (vi _), some (vi _), some (vi _)] [vi _] G2 Q
    refine wp_aload_n (pc := 62) d_X2_offRows_62 rfl ?_
    refine wp_iload (pc := 63) d_X2_offRows_63 rfl ?_
    refine wp_iload (pc := 65) d_X2_offRows_65 rfl ?_
    refine wp_iadd (pc := 67) d_X2_offRows_67 ?_
    obtain ⟨ho5, h⟩ := h
    refine wp_invV (pc := 68) (N := M_X2_noteAt) (As := [vi _]) (rest := [vi _]) (r := (cn_2, ct_2, 15)) d_X2_offRows_68 ml_X2_156 mk_X2_noteAt mv_X2_noteAt h0 ho5 rfl rfl (Nat.le_of_ble_eq_true rfl) ?_
    refine wpM.mono h (fun rr G4 hr => ?_)
    obtain ⟨r3, rfl, h⟩ := hr
    show wp E d M_X2_offRows 71 [some (vr _), some (vi _), some (vi _), some (vi _), some (vi _), some (vi _), some (vi _), some (vi _), some (vi _)] [vi _, vi _] G4 Q
    refine wp_icmp_eq (pc := 71) (tgt := 77) d_X2_offRows_71 (by decide) (fun hc => ?_) (fun hc => ?_)
    · have h := h.1 hc
      refine wp_sub ?_ h
      exact ⟨rfl, ⟨rfl, ⟨rfl, ⟨rfl, ⟨rfl, ⟨rfl, ⟨rfl, ⟨rfl, ⟨rfl, trivial⟩⟩⟩⟩⟩⟩⟩⟩⟩
    · have h := h.2 hc
      refine wp_iinc (pc := 74) (v := 1) (lv' := [some (vr _), some (vi _), some (vi _), some (vi _), some (vi _), some (vi _), some (vi _), some (vi _), some (vi _)]) d_X2_offRows_74 (by decide) rfl rfl rfl ?_
      refine wp_sub ?_ h
      exact ⟨rfl, ⟨rfl, ⟨rfl, ⟨rfl, ⟨rfl, ⟨rfl, ⟨rfl, ⟨rfl, ⟨rfl, trivial⟩⟩⟩⟩⟩⟩⟩⟩⟩
theorem v_X2_offRows_77 {E : EE} {d : Nat} {Q : Option AV → AH → Prop} {x0 : Nat} {x1 : Int32} {x2 : Int32} {x3 : Int32} {x4 : Int32} {x5 : Int32} {x6 : Int32} {x7 : Int32} {x8 : Int32} {G : AH} (h : wp E d M_X2_offRows 46 [some (vr x0), some (vi x1), some (vi x2), some (vi x3), some (vi x4), some (vi x5), some (vi x6), some (vi x7), some (vi (x8 + 1))] [] G Q) : wp E d M_X2_offRows 77 [some (vr x0), some (vi x1), some (vi x2), some (vi x3), some (vi x4), some (vi x5), some (vi x6), some (vi x7), some (vi x8)] [] G Q := by
  refine wp_iinc (pc := 77) (v := 1) (lv' := [some (vr _), some (vi _), some (vi _), some (vi _), some (vi _), some (vi _), some (vi _), some (vi _), some (vi _)]) d_X2_offRows_77 (by decide) rfl rfl rfl ?_
  refine wp_goto (pc := 80) (tgt := 46) d_X2_offRows_80 (by decide) ?_
  refine wp_sub ?_ h
  exact ⟨rfl, ⟨rfl, ⟨rfl, ⟨rfl, ⟨rfl, ⟨rfl, ⟨rfl, ⟨rfl, ⟨rfl, trivial⟩⟩⟩⟩⟩⟩⟩⟩⟩
theorem d_X2_repeated_0 : decode prog_4_method_23_code 0 = .ok (.aload_n 0, 1) := by decide +kernel
theorem d_X2_repeated_1 : decode prog_4_method_23_code 1 = .ok (.iload_n 1, 1) := by decide +kernel
theorem d_X2_repeated_2 : decode prog_4_method_23_code 2 = .ok (.invokevirtual 156, 3) := by decide +kernel
theorem d_X2_repeated_5 : decode prog_4_method_23_code 5 = .ok (.istore_n 2, 1) := by decide +kernel
theorem d_X2_repeated_6 : decode prog_4_method_23_code 6 = .ok (.iconst 0, 1) := by decide +kernel
theorem d_X2_repeated_7 : decode prog_4_method_23_code 7 = .ok (.istore_n 3, 1) := by decide +kernel
theorem d_X2_repeated_8 : decode prog_4_method_23_code 8 = .ok (.iconst 1, 1) := by decide +kernel
theorem d_X2_repeated_9 : decode prog_4_method_23_code 9 = .ok (.istore 4, 2) := by decide +kernel
theorem d_X2_repeated_11 : decode prog_4_method_23_code 11 = .ok (.iload 4, 2) := by decide +kernel
theorem d_X2_repeated_13 : decode prog_4_method_23_code 13 = .ok (.iload_n 2, 1) := by decide +kernel
theorem d_X2_repeated_14 : decode prog_4_method_23_code 14 = .ok (.if_icmp .gt 65, 3) := by decide +kernel
theorem d_X2_repeated_17 : decode prog_4_method_23_code 17 = .ok (.iconst 0, 1) := by decide +kernel
theorem d_X2_repeated_18 : decode prog_4_method_23_code 18 = .ok (.istore 5, 2) := by decide +kernel
theorem d_X2_repeated_20 : decode prog_4_method_23_code 20 = .ok (.iconst 1, 1) := by decide +kernel
theorem d_X2_repeated_21 : decode prog_4_method_23_code 21 = .ok (.istore 6, 2) := by decide +kernel
theorem d_X2_repeated_23 : decode prog_4_method_23_code 23 = .ok (.iload 6, 2) := by decide +kernel
theorem d_X2_repeated_25 : decode prog_4_method_23_code 25 = .ok (.iload 4, 2) := by decide +kernel
theorem d_X2_repeated_27 : decode prog_4_method_23_code 27 = .ok (.if_icmp .ge 38, 3) := by decide +kernel
theorem d_X2_repeated_30 : decode prog_4_method_23_code 30 = .ok (.iload 5, 2) := by decide +kernel
theorem d_X2_repeated_32 : decode prog_4_method_23_code 32 = .ok (.aload_n 0, 1) := by decide +kernel
theorem d_X2_repeated_33 : decode prog_4_method_23_code 33 = .ok (.iload_n 1, 1) := by decide +kernel
theorem d_X2_repeated_34 : decode prog_4_method_23_code 34 = .ok (.iload 6, 2) := by decide +kernel
theorem d_X2_repeated_36 : decode prog_4_method_23_code 36 = .ok (.iadd, 1) := by decide +kernel
theorem d_X2_repeated_37 : decode prog_4_method_23_code 37 = .ok (.invokevirtual 159, 3) := by decide +kernel
theorem d_X2_repeated_40 : decode prog_4_method_23_code 40 = .ok (.aload_n 0, 1) := by decide +kernel
theorem d_X2_repeated_41 : decode prog_4_method_23_code 41 = .ok (.iload_n 1, 1) := by decide +kernel
theorem d_X2_repeated_42 : decode prog_4_method_23_code 42 = .ok (.iload 4, 2) := by decide +kernel
theorem d_X2_repeated_44 : decode prog_4_method_23_code 44 = .ok (.iadd, 1) := by decide +kernel
theorem d_X2_repeated_45 : decode prog_4_method_23_code 45 = .ok (.invokevirtual 159, 3) := by decide +kernel
theorem d_X2_repeated_48 : decode prog_4_method_23_code 48 = .ok (.if_icmp .ne 7, 3) := by decide +kernel
theorem d_X2_repeated_51 : decode prog_4_method_23_code 51 = .ok (.iconst 1, 1) := by decide +kernel
theorem d_X2_repeated_52 : decode prog_4_method_23_code 52 = .ok (.goto 4, 3) := by decide +kernel
theorem d_X2_repeated_55 : decode prog_4_method_23_code 55 = .ok (.iconst 0, 1) := by decide +kernel
theorem d_X2_repeated_56 : decode prog_4_method_23_code 56 = .ok (.ior, 1) := by decide +kernel
theorem d_X2_repeated_57 : decode prog_4_method_23_code 57 = .ok (.istore 5, 2) := by decide +kernel
theorem d_X2_repeated_59 : decode prog_4_method_23_code 59 = .ok (.iinc 6 1, 3) := by decide +kernel
theorem d_X2_repeated_62 : decode prog_4_method_23_code 62 = .ok (.goto (-39), 3) := by decide +kernel
theorem d_X2_repeated_65 : decode prog_4_method_23_code 65 = .ok (.iload 5, 2) := by decide +kernel
theorem d_X2_repeated_67 : decode prog_4_method_23_code 67 = .ok (.ifCond .eq 6, 3) := by decide +kernel
theorem d_X2_repeated_70 : decode prog_4_method_23_code 70 = .ok (.iinc 3 1, 3) := by decide +kernel
theorem d_X2_repeated_73 : decode prog_4_method_23_code 73 = .ok (.iinc 4 1, 3) := by decide +kernel
theorem d_X2_repeated_76 : decode prog_4_method_23_code 76 = .ok (.goto (-65), 3) := by decide +kernel
theorem d_X2_repeated_79 : decode prog_4_method_23_code 79 = .ok (.iload_n 3, 1) := by decide +kernel
theorem d_X2_repeated_80 : decode prog_4_method_23_code 80 = .ok (.ireturn, 1) := by decide +kernel
theorem v_X2_repeated_0 {E : EE} {d : Nat} {Q : Option AV → AH → Prop} {x0 : Nat} {x1 : Int32} {G : AH} (h0 : 0 < d) (h : isO E G x0 2 ∧ (wpI E (d - 1) M_X2_noteAt [vr x0, vi x1] G (fun r1 G2 => wp E d M_X2_repeated 11 [some (vr x0), some (vi x1), some (vi r1), some (vi 0), some (vi 1), none, none] [] G2 Q))) : wp E d M_X2_repeated 0 [some (vr x0), some (vi x1), none, none, none, none, none] [] G Q := by
  refine wp_aload_n (pc := 0) d_X2_repeated_0 rfl ?_
  refine wp_iload_n (pc := 1) d_X2_repeated_1 rfl ?_
  obtain ⟨ho3, h⟩ := h
  refine wp_invV (pc := 2) (N := M_X2_noteAt) (As := [vi _]) (rest := []) (r := (cn_2, ct_2, 15)) d_X2_repeated_2 ml_X2_156 mk_X2_noteAt mv_X2_noteAt h0 ho3 rfl rfl (Nat.le_of_ble_eq_true rfl) ?_
  refine wpM.mono h (fun rr G2 hr => ?_)
  obtain ⟨r1, rfl, h⟩ := hr
  show wp E d M_X2_repeated 5 [some (vr _), some (vi _), none, none, none, none, none] [vi _] G2 Q
  refine wp_istore_n (pc := 5) (lv' := [some (vr _), some (vi _), some (vi _), none, none, none, none]) d_X2_repeated_5 (by decide) rfl ?_
  refine wp_iconst (pc := 6) (v := 0) d_X2_repeated_6 rfl ?_
  refine wp_istore_n (pc := 7) (lv' := [some (vr _), some (vi _), some (vi _), some (vi _), none, none, none]) d_X2_repeated_7 (by decide) rfl ?_
  refine wp_iconst (pc := 8) (v := 1) d_X2_repeated_8 rfl ?_
  refine wp_istore (pc := 9) (lv' := [some (vr _), some (vi _), some (vi _), some (vi _), some (vi _), none, none]) d_X2_repeated_9 (by decide) rfl ?_
  refine wp_sub ?_ h
  exact ⟨rfl, ⟨rfl, ⟨rfl, ⟨rfl, ⟨rfl, trivial⟩⟩⟩⟩⟩
theorem v_X2_repeated_11 {E : EE} {d : Nat} {Q : Option AV → AH → Prop} {x0 : Nat} {x1 : Int32} {x2 : Int32} {x3 : Int32} {x4 : Int32} {G : AH} (h : (x2 < x4 → Q (some (vi x3)) G) ∧ (¬ (x2 < x4) → wp E d M_X2_repeated 23 [some (vr x0), some (vi x1), some (vi x2), some (vi x3), some (vi x4), some (vi 0), some (vi 1)] [] G Q)) : wp E d M_X2_repeated 11 [some (vr x0), some (vi x1), some (vi x2), some (vi x3), some (vi x4), none, none] [] G Q := by
  refine wp_iload (pc := 11) d_X2_repeated_11 rfl ?_
  refine wp_iload_n (pc := 13) d_X2_repeated_13 rfl ?_
  refine wp_icmp_gt (pc := 14) (tgt := 79) d_X2_repeated_14 (by decide) (fun hc => ?_) (fun hc => ?_)
  · have h := h.1 hc
    refine wp_iload_n (pc := 79) d_X2_repeated_79 rfl ?_
    exact wp_iret (pc := 80) d_X2_repeated_80 rfl h
  · have h := h.2 hc
    refine wp_iconst (pc := 17) (v := 0) d_X2_repeated_17 rfl ?_
    refine wp_istore (pc := 18) (lv' := [some (vr _), some (vi _), some (vi _), some (vi _), some (vi _), some (vi _), none]) d_X2_repeated_18 (by decide) rfl ?_
    refine wp_iconst (pc := 20) (v := 1) d_X2_repeated_20 rfl ?_
    refine wp_istore (pc := 21) (lv' := [some (vr _), some (vi _), some (vi _), some (vi _), some (vi _), some (vi _), some (vi _)]) d_X2_repeated_21 (by decide) rfl ?_
    refine wp_sub ?_ h
    exact ⟨rfl, ⟨rfl, ⟨rfl, ⟨rfl, ⟨rfl, ⟨rfl, ⟨rfl, trivial⟩⟩⟩⟩⟩⟩⟩
theorem v_X2_repeated_23 {E : EE} {d : Nat} {Q : Option AV → AH → Prop} {x0 : Nat} {x1 : Int32} {x2 : Int32} {x3 : Int32} {x4 : Int32} {x5 : Int32} {x6 : Int32} {G : AH} (h0 : 0 < d) (h : (x4 ≤ x6 → (x5 = 0 → wp E d M_X2_repeated 73 [some (vr x0), some (vi x1), some (vi x2), some (vi x3), some (vi x4), some (vi x5), some (vi x6)] [] G Q) ∧ (¬ (x5 = 0) → wp E d M_X2_repeated 73 [some (vr x0), some (vi x1), some (vi x2), some (vi (x3 + 1)), some (vi x4), some (vi x5), some (vi x6)] [] G Q)) ∧ (¬ (x4 ≤ x6) → isO E G x0 2 ∧ (wpI E (d - 1) M_X2_valueAt [vr x0, vi (x1 + x6)] G (fun r1 G2 => isO E G2 x0 2 ∧ (wpI E (d - 1) M_X2_valueAt [vr x0, vi (x1 + x4)] G2 (fun r3 G4 => (¬ r1 = r3 → wp E d M_X2_repeated 56 [some (vr x0), some (vi x1), some (vi x2), some (vi x3), some (vi x4), some (vi x5), some (vi x6)] [vi 0, vi x5] G4 Q) ∧ (r1 = r3 → wp E d M_X2_repeated 56 [some (vr x0), some (vi x1), some (vi x2), some (vi x3), some (vi x4), some (vi x5), some (vi x6)] [vi 1, vi x5] G4 Q))))))) : wp E d M_X2_repeated 23 [some (vr x0), some (vi x1), some (vi x2), some (vi x3), some (vi x4), some (vi x5), some (vi x6)] [] G Q := by
  refine wp_iload (pc := 23) d_X2_repeated_23 rfl ?_
  refine wp_iload (pc := 25) d_X2_repeated_25 rfl ?_
  refine wp_icmp_ge (pc := 27) (tgt := 65) d_X2_repeated_27 (by decide) (fun hc => ?_) (fun hc => ?_)
  · have h := h.1 hc
    refine wp_iload (pc := 65) d_X2_repeated_65 rfl ?_
    refine wp_if_eq (pc := 67) (tgt := 73) d_X2_repeated_67 (by decide) (fun hc => ?_) (fun hc => ?_)
    · have h := h.1 hc
      refine wp_sub ?_ h
      exact ⟨rfl, ⟨rfl, ⟨rfl, ⟨rfl, ⟨rfl, ⟨rfl, ⟨rfl, trivial⟩⟩⟩⟩⟩⟩⟩
    · have h := h.2 hc
      refine wp_iinc (pc := 70) (v := 1) (lv' := [some (vr _), some (vi _), some (vi _), some (vi _), some (vi _), some (vi _), some (vi _)]) d_X2_repeated_70 (by decide) rfl rfl rfl ?_
      refine wp_sub ?_ h
      exact ⟨rfl, ⟨rfl, ⟨rfl, ⟨rfl, ⟨rfl, ⟨rfl, ⟨rfl, trivial⟩⟩⟩⟩⟩⟩⟩
  · have h := h.2 hc
    refine wp_iload (pc := 30) d_X2_repeated_30 rfl ?_
    refine wp_aload_n (pc := 32) d_X2_repeated_32 rfl ?_
    refine wp_iload_n (pc := 33) d_X2_repeated_33 rfl ?_
    refine wp_iload (pc := 34) d_X2_repeated_34 rfl ?_
    refine wp_iadd (pc := 36) d_X2_repeated_36 ?_
    obtain ⟨ho6, h⟩ := h
    refine wp_invV (pc := 37) (N := M_X2_valueAt) (As := [vi _]) (rest := [vi _]) (r := (cn_2, ct_2, 15)) d_X2_repeated_37 ml_X2_159 mk_X2_valueAt mv_X2_valueAt h0 ho6 rfl rfl (Nat.le_of_ble_eq_true rfl) ?_
    refine wpM.mono h (fun rr G2 hr => ?_)
    obtain ⟨r1, rfl, h⟩ := hr
    show wp E d M_X2_repeated 40 [some (vr _), some (vi _), some (vi _), some (vi _), some (vi _), some (vi _), some (vi _)] [vi _, vi _] G2 Q
    refine wp_aload_n (pc := 40) d_X2_repeated_40 rfl ?_
    refine wp_iload_n (pc := 41) d_X2_repeated_41 rfl ?_
    refine wp_iload (pc := 42) d_X2_repeated_42 rfl ?_
    refine wp_iadd (pc := 44) d_X2_repeated_44 ?_
    obtain ⟨ho5, h⟩ := h
    refine wp_invV (pc := 45) (N := M_X2_valueAt) (As := [vi _]) (rest := [vi _, vi _]) (r := (cn_2, ct_2, 15)) d_X2_repeated_45 ml_X2_159 mk_X2_valueAt mv_X2_valueAt h0 ho5 rfl rfl (Nat.le_of_ble_eq_true rfl) ?_
    refine wpM.mono h (fun rr G4 hr => ?_)
    obtain ⟨r3, rfl, h⟩ := hr
    show wp E d M_X2_repeated 48 [some (vr _), some (vi _), some (vi _), some (vi _), some (vi _), some (vi _), some (vi _)] [vi _, vi _, vi _] G4 Q
    refine wp_icmp_ne (pc := 48) (tgt := 55) d_X2_repeated_48 (by decide) (fun hc => ?_) (fun hc => ?_)
    · have h := h.1 hc
      refine wp_iconst (pc := 55) (v := 0) d_X2_repeated_55 rfl ?_
      refine wp_sub ?_ h
      exact ⟨rfl, ⟨rfl, ⟨rfl, ⟨rfl, ⟨rfl, ⟨rfl, ⟨rfl, trivial⟩⟩⟩⟩⟩⟩⟩
    · have h := h.2 hc
      refine wp_iconst (pc := 51) (v := 1) d_X2_repeated_51 rfl ?_
      refine wp_goto (pc := 52) (tgt := 56) d_X2_repeated_52 (by decide) ?_
      refine wp_sub ?_ h
      exact ⟨rfl, ⟨rfl, ⟨rfl, ⟨rfl, ⟨rfl, ⟨rfl, ⟨rfl, trivial⟩⟩⟩⟩⟩⟩⟩
theorem v_X2_repeated_56 {E : EE} {d : Nat} {Q : Option AV → AH → Prop} {x0 : Nat} {x1 : Int32} {x2 : Int32} {x3 : Int32} {x4 : Int32} {x5 : Int32} {x6 : Int32} {t0 : Int32} {t1 : Int32} {G : AH} (h : wp E d M_X2_repeated 23 [some (vr x0), some (vi x1), some (vi x2), some (vi x3), some (vi x4), some (vi (t0 ||| t1)), some (vi (x6 + 1))] [] G Q) : wp E d M_X2_repeated 56 [some (vr x0), some (vi x1), some (vi x2), some (vi x3), some (vi x4), some (vi x5), some (vi x6)] [vi t1, vi t0] G Q := by
  refine wp_ior (pc := 56) d_X2_repeated_56 ?_
  refine wp_istore (pc := 57) (lv' := [some (vr _), some (vi _), some (vi _), some (vi _), some (vi _), some (vi _), some (vi _)]) d_X2_repeated_57 (by decide) rfl ?_
  refine wp_iinc (pc := 59) (v := 1) (lv' := [some (vr _), some (vi _), some (vi _), some (vi _), some (vi _), some (vi _), some (vi _)]) d_X2_repeated_59 (by decide) rfl rfl rfl ?_
  refine wp_goto (pc := 62) (tgt := 23) d_X2_repeated_62 (by decide) ?_
  refine wp_sub ?_ h
  exact ⟨rfl, ⟨rfl, ⟨rfl, ⟨rfl, ⟨rfl, ⟨rfl, ⟨rfl, trivial⟩⟩⟩⟩⟩⟩⟩
theorem v_X2_repeated_73 {E : EE} {d : Nat} {Q : Option AV → AH → Prop} {x0 : Nat} {x1 : Int32} {x2 : Int32} {x3 : Int32} {x4 : Int32} {x5 : Int32} {x6 : Int32} {G : AH} (h : wp E d M_X2_repeated 11 [some (vr x0), some (vi x1), some (vi x2), some (vi x3), some (vi (x4 + 1)), none, none] [] G Q) : wp E d M_X2_repeated 73 [some (vr x0), some (vi x1), some (vi x2), some (vi x3), some (vi x4), some (vi x5), some (vi x6)] [] G Q := by
  refine wp_iinc (pc := 73) (v := 1) (lv' := [some (vr _), some (vi _), some (vi _), some (vi _), some (vi _), some (vi _), some (vi _)]) d_X2_repeated_73 (by decide) rfl rfl rfl ?_
  refine wp_goto (pc := 76) (tgt := 11) d_X2_repeated_76 (by decide) ?_
  refine wp_sub ?_ h
  exact ⟨rfl, ⟨rfl, ⟨rfl, ⟨rfl, ⟨rfl, trivial⟩⟩⟩⟩⟩
theorem d_X2_isPart_0 : decode prog_4_method_9_code 0 = .ok (.iload_n 1, 1) := by decide +kernel
theorem d_X2_isPart_1 : decode prog_4_method_9_code 1 = .ok (.ifCond .lt 11, 3) := by decide +kernel
theorem d_X2_isPart_4 : decode prog_4_method_9_code 4 = .ok (.iload_n 1, 1) := by decide +kernel
theorem d_X2_isPart_5 : decode prog_4_method_9_code 5 = .ok (.aload_n 0, 1) := by decide +kernel
theorem d_X2_isPart_6 : decode prog_4_method_9_code 6 = .ok (.getfield 15, 3) := by decide +kernel
theorem d_X2_isPart_9 : decode prog_4_method_9_code 9 = .ok (.if_icmp .lt 20, 3) := by decide +kernel
theorem d_X2_isPart_12 : decode prog_4_method_9_code 12 = .ok (.iload_n 1, 1) := by decide +kernel
theorem d_X2_isPart_13 : decode prog_4_method_9_code 13 = .ok (.bipush 24, 2) := by decide +kernel
theorem d_X2_isPart_15 : decode prog_4_method_9_code 15 = .ok (.if_icmp .lt 18, 3) := by decide +kernel
theorem d_X2_isPart_18 : decode prog_4_method_9_code 18 = .ok (.iload_n 1, 1) := by decide +kernel
theorem d_X2_isPart_19 : decode prog_4_method_9_code 19 = .ok (.bipush 24, 2) := by decide +kernel
theorem d_X2_isPart_21 : decode prog_4_method_9_code 21 = .ok (.aload_n 0, 1) := by decide +kernel
theorem d_X2_isPart_22 : decode prog_4_method_9_code 22 = .ok (.getfield 18, 3) := by decide +kernel
theorem d_X2_isPart_25 : decode prog_4_method_9_code 25 = .ok (.iadd, 1) := by decide +kernel
theorem d_X2_isPart_26 : decode prog_4_method_9_code 26 = .ok (.if_icmp .ge 7, 3) := by decide +kernel
theorem d_X2_isPart_29 : decode prog_4_method_9_code 29 = .ok (.iconst 1, 1) := by decide +kernel
theorem d_X2_isPart_30 : decode prog_4_method_9_code 30 = .ok (.goto 4, 3) := by decide +kernel
theorem d_X2_isPart_33 : decode prog_4_method_9_code 33 = .ok (.iconst 0, 1) := by decide +kernel
theorem d_X2_isPart_34 : decode prog_4_method_9_code 34 = .ok (.ireturn, 1) := by decide +kernel
theorem v_X2_isPart_0 {E : EE} {d : Nat} {Q : Option AV → AH → Prop} {x0 : Nat} {x1 : Int32} {G : AH} (h : (x1 < 0 → wp E d M_X2_isPart 12 [some (vr x0), some (vi x1)] [] G Q) ∧ (¬ (x1 < 0) → isO E G x0 2 ∧ ((x1 < (gI G x0 1) → wp E d M_X2_isPart 29 [some (vr x0), some (vi x1)] [] G Q) ∧ (¬ (x1 < (gI G x0 1)) → wp E d M_X2_isPart 12 [some (vr x0), some (vi x1)] [] G Q)))) : wp E d M_X2_isPart 0 [some (vr x0), some (vi x1)] [] G Q := by
  refine wp_iload_n (pc := 0) d_X2_isPart_0 rfl ?_
  refine wp_if_lt (pc := 1) (tgt := 12) d_X2_isPart_1 (by decide) (fun hc => ?_) (fun hc => ?_)
  · have h := h.1 hc
    refine wp_sub ?_ h
    exact ⟨rfl, ⟨rfl, trivial⟩⟩
  · have h := h.2 hc
    refine wp_iload_n (pc := 4) d_X2_isPart_4 rfl ?_
    refine wp_aload_n (pc := 5) d_X2_isPart_5 rfl ?_
    obtain ⟨ho1, h⟩ := h
    refine wp_getI (pc := 6) d_X2_isPart_6 fl_X2_15 (fun _ _ _ => rfl) ho1 ?_
    refine wp_icmp_lt (pc := 9) (tgt := 29) d_X2_isPart_9 (by decide) (fun hc => ?_) (fun hc => ?_)
    · have h := h.1 hc
      refine wp_sub ?_ h
      exact ⟨rfl, ⟨rfl, trivial⟩⟩
    · have h := h.2 hc
      refine wp_sub ?_ h
      exact ⟨rfl, ⟨rfl, trivial⟩⟩
theorem v_X2_isPart_12 {E : EE} {d : Nat} {Q : Option AV → AH → Prop} {x0 : Nat} {x1 : Int32} {G : AH} (h : (x1 < 24 → Q (some (vi 0)) G) ∧ (¬ (x1 < 24) → isO E G x0 2 ∧ (((24 + (gI G x0 2)) ≤ x1 → Q (some (vi 0)) G) ∧ (¬ ((24 + (gI G x0 2)) ≤ x1) → wp E d M_X2_isPart 29 [some (vr x0), some (vi x1)] [] G Q)))) : wp E d M_X2_isPart 12 [some (vr x0), some (vi x1)] [] G Q := by
  refine wp_iload_n (pc := 12) d_X2_isPart_12 rfl ?_
  refine wp_bipush (pc := 13) (v := 24) d_X2_isPart_13 rfl ?_
  refine wp_icmp_lt (pc := 15) (tgt := 33) d_X2_isPart_15 (by decide) (fun hc => ?_) (fun hc => ?_)
  · have h := h.1 hc
    refine wp_iconst (pc := 33) (v := 0) d_X2_isPart_33 rfl ?_
    exact wp_zret (pc := 34) d_X2_isPart_34 rfl rfl h
  · have h := h.2 hc
    refine wp_iload_n (pc := 18) d_X2_isPart_18 rfl ?_
    refine wp_bipush (pc := 19) (v := 24) d_X2_isPart_19 rfl ?_
    refine wp_aload_n (pc := 21) d_X2_isPart_21 rfl ?_
    obtain ⟨ho1, h⟩ := h
    refine wp_getI (pc := 22) d_X2_isPart_22 fl_X2_18 (fun _ _ _ => rfl) ho1 ?_
    refine wp_iadd (pc := 25) d_X2_isPart_25 ?_
    refine wp_icmp_ge (pc := 26) (tgt := 33) d_X2_isPart_26 (by decide) (fun hc => ?_) (fun hc => ?_)
    · have h := h.1 hc
      refine wp_iconst (pc := 33) (v := 0) d_X2_isPart_33 rfl ?_
      exact wp_zret (pc := 34) d_X2_isPart_34 rfl rfl h
    · have h := h.2 hc
      refine wp_sub ?_ h
      exact ⟨rfl, ⟨rfl, trivial⟩⟩
theorem v_X2_isPart_29 {E : EE} {d : Nat} {Q : Option AV → AH → Prop} {x0 : Nat} {x1 : Int32} {G : AH} (h : Q (some (vi 1)) G) : wp E d M_X2_isPart 29 [some (vr x0), some (vi x1)] [] G Q := by
  refine wp_iconst (pc := 29) (v := 1) d_X2_isPart_29 rfl ?_
  refine wp_goto (pc := 30) (tgt := 34) d_X2_isPart_30 (by decide) ?_
  exact wp_zret (pc := 34) d_X2_isPart_34 rfl rfl h
theorem d_X3_init_0 : decode prog_5_method_1_code 0 = .ok (.aload_n 0, 1) := by decide +kernel
theorem d_X3_init_1 : decode prog_5_method_1_code 1 = .ok (.invokespecial 3, 3) := by decide +kernel
theorem d_X3_init_4 : decode prog_5_method_1_code 4 = .ok (.aload_n 0, 1) := by decide +kernel
theorem d_X3_init_5 : decode prog_5_method_1_code 5 = .ok (.iconst 0, 1) := by decide +kernel
theorem d_X3_init_6 : decode prog_5_method_1_code 6 = .ok (.putfield 9, 3) := by decide +kernel
theorem d_X3_init_9 : decode prog_5_method_1_code 9 = .ok (.aload_n 0, 1) := by decide +kernel
theorem d_X3_init_10 : decode prog_5_method_1_code 10 = .ok (.new 15, 3) := by decide +kernel
theorem d_X3_init_13 : decode prog_5_method_1_code 13 = .ok (.dup, 1) := by decide +kernel
theorem d_X3_init_14 : decode prog_5_method_1_code 14 = .ok (.invokespecial 17, 3) := by decide +kernel
theorem d_X3_init_17 : decode prog_5_method_1_code 17 = .ok (.putfield 18, 3) := by decide +kernel
theorem d_X3_init_20 : decode prog_5_method_1_code 20 = .ok (.aload_n 0, 1) := by decide +kernel
theorem d_X3_init_21 : decode prog_5_method_1_code 21 = .ok (.bipush 96, 2) := by decide +kernel
theorem d_X3_init_23 : decode prog_5_method_1_code 23 = .ok (.newarray .long, 2) := by decide +kernel
theorem d_X3_init_25 : decode prog_5_method_1_code 25 = .ok (.putfield 22, 3) := by decide +kernel
theorem d_X3_init_28 : decode prog_5_method_1_code 28 = .ok (.aload_n 0, 1) := by decide +kernel
theorem d_X3_init_29 : decode prog_5_method_1_code 29 = .ok (.iconst 4, 1) := by decide +kernel
theorem d_X3_init_30 : decode prog_5_method_1_code 30 = .ok (.newarray .int, 2) := by decide +kernel
theorem d_X3_init_32 : decode prog_5_method_1_code 32 = .ok (.putfield 26, 3) := by decide +kernel
theorem d_X3_init_35 : decode prog_5_method_1_code 35 = .ok (.aload_n 0, 1) := by decide +kernel
theorem d_X3_init_36 : decode prog_5_method_1_code 36 = .ok (.new 30, 3) := by decide +kernel
theorem d_X3_init_39 : decode prog_5_method_1_code 39 = .ok (.dup, 1) := by decide +kernel
theorem d_X3_init_40 : decode prog_5_method_1_code 40 = .ok (.invokespecial 32, 3) := by decide +kernel
theorem d_X3_init_43 : decode prog_5_method_1_code 43 = .ok (.putfield 33, 3) := by decide +kernel
theorem d_X3_init_46 : decode prog_5_method_1_code 46 = .ok (.aload_n 0, 1) := by decide +kernel
theorem d_X3_init_47 : decode prog_5_method_1_code 47 = .ok (.new 37, 3) := by decide +kernel
theorem d_X3_init_50 : decode prog_5_method_1_code 50 = .ok (.dup, 1) := by decide +kernel
theorem d_X3_init_51 : decode prog_5_method_1_code 51 = .ok (.invokespecial 39, 3) := by decide +kernel
theorem d_X3_init_54 : decode prog_5_method_1_code 54 = .ok (.putfield 40, 3) := by decide +kernel
theorem d_X3_init_57 : decode prog_5_method_1_code 57 = .ok (.aload_n 0, 1) := by decide +kernel
theorem d_X3_init_58 : decode prog_5_method_1_code 58 = .ok (.new 44, 3) := by decide +kernel
theorem d_X3_init_61 : decode prog_5_method_1_code 61 = .ok (.dup, 1) := by decide +kernel
theorem d_X3_init_62 : decode prog_5_method_1_code 62 = .ok (.invokespecial 46, 3) := by decide +kernel
theorem d_X3_init_65 : decode prog_5_method_1_code 65 = .ok (.putfield 47, 3) := by decide +kernel
theorem d_X3_init_68 : decode prog_5_method_1_code 68 = .ok (.aload_n 0, 1) := by decide +kernel
theorem d_X3_init_69 : decode prog_5_method_1_code 69 = .ok (.bipush 16, 2) := by decide +kernel
theorem d_X3_init_71 : decode prog_5_method_1_code 71 = .ok (.newarray .int, 2) := by decide +kernel
theorem d_X3_init_73 : decode prog_5_method_1_code 73 = .ok (.putfield 51, 3) := by decide +kernel
theorem d_X3_init_76 : decode prog_5_method_1_code 76 = .ok (.aload_n 0, 1) := by decide +kernel
theorem d_X3_init_77 : decode prog_5_method_1_code 77 = .ok (.iconst 0, 1) := by decide +kernel
theorem d_X3_init_78 : decode prog_5_method_1_code 78 = .ok (.putfield 54, 3) := by decide +kernel
theorem d_X3_init_81 : decode prog_5_method_1_code 81 = .ok (.aload_n 0, 1) := by decide +kernel
theorem d_X3_init_82 : decode prog_5_method_1_code 82 = .ok (.iconst 0, 1) := by decide +kernel
theorem d_X3_init_83 : decode prog_5_method_1_code 83 = .ok (.putfield 58, 3) := by decide +kernel
theorem d_X3_init_86 : decode prog_5_method_1_code 86 = .ok (.aload_n 0, 1) := by decide +kernel
theorem d_X3_init_87 : decode prog_5_method_1_code 87 = .ok (.bipush 12, 2) := by decide +kernel
theorem d_X3_init_89 : decode prog_5_method_1_code 89 = .ok (.newarray .int, 2) := by decide +kernel
theorem d_X3_init_91 : decode prog_5_method_1_code 91 = .ok (.putfield 61, 3) := by decide +kernel
theorem d_X3_init_94 : decode prog_5_method_1_code 94 = .ok (.aload_n 0, 1) := by decide +kernel
theorem d_X3_init_95 : decode prog_5_method_1_code 95 = .ok (.iconst 0, 1) := by decide +kernel
theorem d_X3_init_96 : decode prog_5_method_1_code 96 = .ok (.putfield 64, 3) := by decide +kernel
theorem d_X3_init_99 : decode prog_5_method_1_code 99 = .ok (.aload_n 0, 1) := by decide +kernel
theorem d_X3_init_100 : decode prog_5_method_1_code 100 = .ok (.bipush 6, 2) := by decide +kernel
theorem d_X3_init_102 : decode prog_5_method_1_code 102 = .ok (.newarray .int, 2) := by decide +kernel
theorem d_X3_init_104 : decode prog_5_method_1_code 104 = .ok (.putfield 67, 3) := by decide +kernel
theorem d_X3_init_107 : decode prog_5_method_1_code 107 = .ok (.aload_n 0, 1) := by decide +kernel
theorem d_X3_init_108 : decode prog_5_method_1_code 108 = .ok (.bipush 96, 2) := by decide +kernel
theorem d_X3_init_110 : decode prog_5_method_1_code 110 = .ok (.newarray .int, 2) := by decide +kernel
theorem d_X3_init_112 : decode prog_5_method_1_code 112 = .ok (.putfield 70, 3) := by decide +kernel
theorem d_X3_init_115 : decode prog_5_method_1_code 115 = .ok (.aload_n 0, 1) := by decide +kernel
theorem d_X3_init_116 : decode prog_5_method_1_code 116 = .ok (.iconst 3, 1) := by decide +kernel
theorem d_X3_init_117 : decode prog_5_method_1_code 117 = .ok (.newarray .long, 2) := by decide +kernel
theorem d_X3_init_119 : decode prog_5_method_1_code 119 = .ok (.putfield 73, 3) := by decide +kernel
theorem d_X3_init_122 : decode prog_5_method_1_code 122 = .ok (.aload_n 0, 1) := by decide +kernel
theorem d_X3_init_123 : decode prog_5_method_1_code 123 = .ok (.iconst 3, 1) := by decide +kernel
theorem d_X3_init_124 : decode prog_5_method_1_code 124 = .ok (.newarray .long, 2) := by decide +kernel
theorem d_X3_init_126 : decode prog_5_method_1_code 126 = .ok (.putfield 76, 3) := by decide +kernel
theorem d_X3_init_129 : decode prog_5_method_1_code 129 = .ok (.aload_n 0, 1) := by decide +kernel
theorem d_X3_init_130 : decode prog_5_method_1_code 130 = .ok (.bipush 6, 2) := by decide +kernel
theorem d_X3_init_132 : decode prog_5_method_1_code 132 = .ok (.newarray .int, 2) := by decide +kernel
theorem d_X3_init_134 : decode prog_5_method_1_code 134 = .ok (.putfield 79, 3) := by decide +kernel
theorem d_X3_init_137 : decode prog_5_method_1_code 137 = .ok (.aload_n 0, 1) := by decide +kernel
theorem d_X3_init_138 : decode prog_5_method_1_code 138 = .ok (.bipush 16, 2) := by decide +kernel
theorem d_X3_init_140 : decode prog_5_method_1_code 140 = .ok (.newarray .int, 2) := by decide +kernel
theorem d_X3_init_142 : decode prog_5_method_1_code 142 = .ok (.putfield 82, 3) := by decide +kernel
theorem d_X3_init_145 : decode prog_5_method_1_code 145 = .ok (.aload_n 0, 1) := by decide +kernel
theorem d_X3_init_146 : decode prog_5_method_1_code 146 = .ok (.iconst 3, 1) := by decide +kernel
theorem d_X3_init_147 : decode prog_5_method_1_code 147 = .ok (.newarray .long, 2) := by decide +kernel
theorem d_X3_init_149 : decode prog_5_method_1_code 149 = .ok (.putfield 85, 3) := by decide +kernel
theorem d_X3_init_152 : decode prog_5_method_1_code 152 = .ok (.return_, 1) := by decide +kernel
theorem v_X3_init_0 {E : EE} {d : Nat} {Q : Option AV → AH → Prop} {x0 : Nat} {G : AH} (h0 : 0 < d) (h : isO E G x0 3 ∧ (∀ G2 : AH, G2 = sI G x0 0 0 → eB E ≤ gT G2 ∧ (∀ G8 : AH, G8 = nw G2 0 0 2 → wpV E (d - 1) M_X0_init [vr (gT G2)] G8 (fun G12 => isO E G12 x0 3 ∧ (∀ G14 : AH, G14 = sR G12 x0 1 (gT G2) → eB E ≤ gT G14 ∧ (∀ G20 : AH, G20 = nw G14 15 (Int32.toNatClampNeg 96) (Int32.toNatClampNeg 96) → ∀ G24 : AH, G24 = sR G20 x0 2 (gT G14) → ∀ G30 : AH, G30 = nw G24 14 (Int32.toNatClampNeg 4) (Int32.toNatClampNeg 4) → ∀ G34 : AH, G34 = sR G30 x0 3 (gT G24) → ∀ G40 : AH, G40 = nw G34 7 0 5 → wpV E (d - 1) M_X7_init [vr (gT G34)] G40 (fun G44 => isO E G44 x0 3 ∧ (∀ G46 : AH, G46 = sR G44 x0 4 (gT G34) → eB E ≤ gT G46 ∧ (∀ G52 : AH, G52 = nw G46 2 0 15 → wpV E (d - 1) M_X2_init [vr (gT G46)] G52 (fun G56 => isO E G56 x0 3 ∧ (∀ G58 : AH, G58 = sR G56 x0 5 (gT G46) → eB E ≤ gT G58 ∧ (∀ G64 : AH, G64 = nw G58 9 0 8 → wpV E (d - 1) M_X9_init [vr (gT G58)] G64 (fun G68 => isO E G68 x0 3 ∧ (∀ G70 : AH, G70 = sR G68 x0 6 (gT G58) → eB E ≤ gT G70 ∧ (∀ G76 : AH, G76 = nw G70 14 (Int32.toNatClampNeg 16) (Int32.toNatClampNeg 16) → ∀ G80 : AH, G80 = sR G76 x0 7 (gT G70) → ∀ G83 : AH, G83 = sI G80 x0 8 0 → ∀ G86 : AH, G86 = sI G83 x0 9 0 → ∀ G92 : AH, G92 = nw G86 14 (Int32.toNatClampNeg 12) (Int32.toNatClampNeg 12) → ∀ G96 : AH, G96 = sR G92 x0 10 (gT G86) → ∀ G99 : AH, G99 = sI G96 x0 11 0 → ∀ G105 : AH, G105 = nw G99 14 (Int32.toNatClampNeg 6) (Int32.toNatClampNeg 6) → ∀ G109 : AH, G109 = sR G105 x0 12 (gT G99) → ∀ G115 : AH, G115 = nw G109 14 (Int32.toNatClampNeg 96) (Int32.toNatClampNeg 96) → ∀ G119 : AH, G119 = sR G115 x0 13 (gT G109) → ∀ G125 : AH, G125 = nw G119 15 (Int32.toNatClampNeg 3) (Int32.toNatClampNeg 3) → ∀ G129 : AH, G129 = sR G125 x0 14 (gT G119) → ∀ G135 : AH, G135 = nw G129 15 (Int32.toNatClampNeg 3) (Int32.toNatClampNeg 3) → ∀ G139 : AH, G139 = sR G135 x0 15 (gT G129) → ∀ G145 : AH, G145 = nw G139 14 (Int32.toNatClampNeg 6) (Int32.toNatClampNeg 6) → ∀ G149 : AH, G149 = sR G145 x0 16 (gT G139) → ∀ G155 : AH, G155 = nw G149 14 (Int32.toNatClampNeg 16) (Int32.toNatClampNeg 16) → ∀ G159 : AH, G159 = sR G155 x0 17 (gT G149) → ∀ G165 : AH, G165 = nw G159 15 (Int32.toNatClampNeg 3) (Int32.toNatClampNeg 3) → ∀ G169 : AH, G169 = sR G165 x0 18 (gT G159) → Q none G169))))))))))))))) : wp E d M_X3_init 0 [some (vr x0)] [] G Q := by
  refine wp_aload_n (pc := 0) d_X3_init_0 rfl ?_
  obtain ⟨ho1, h⟩ := h
  refine wp_objI (pc := 1) d_X3_init_1 ml_X3_3 in_obj mc_obj h0 ho1 (Nat.le_of_ble_eq_true rfl) ?_
  refine wp_aload_n (pc := 4) d_X3_init_4 rfl ?_
  refine wp_iconst (pc := 5) (v := 0) d_X3_init_5 rfl ?_
  refine wp_putI (pc := 6) d_X3_init_6 fl_X3_9 (fun _ _ _ => rfl) (Or.inl rfl) ho1 okI_z0 ?_
  refine wp_nm (fun G2 eG2 => ?_)
  have h := h G2 eG2
  have ho3 := isO_sI eG2 ho1
  refine wp_aload_n (pc := 9) d_X3_init_9 rfl ?_
  obtain ⟨hb4, h⟩ := h
  refine wp_new (pc := 10) (c := 0) (r := (cn_0, ct_0, 2)) d_X3_init_10 rfl cx_X3_15 it_0 ii_0 ?_
  refine wp_nm (fun G8 eG8 => ?_)
  have h := h G8 eG8
  have ho9 := isO_nwE eG8 ho3
  have hb10 := base_nwE eG8 hb4
  have ho11 := isO_newE eG8 hb4
  refine wp_dup (pc := 13) d_X3_init_13 (c1_r _) ?_
  refine wp_invI (pc := 14) (N := M_X0_init) (As := []) (rest := [vr _, vr _]) d_X3_init_14 ml_X3_17 mk_X0_init mi_X0_init h0 ho11 (Nat.le_of_ble_eq_true rfl) ?_
  refine wpM.mono h (fun rr G12 hr => ?_)
  obtain ⟨rfl, h⟩ := hr
  show wp E d M_X3_init 17 [some (vr _)] [vr _, vr _] G12 Q
  obtain ⟨ho13, h⟩ := h
  refine wp_putR (pc := 17) d_X3_init_17 fl_X3_18 (fun _ _ _ => rfl) (Or.inl ⟨_, rfl⟩) (Or.inr ⟨rfl, rfl, rfl⟩) ho13 ?_
  refine wp_nm (fun G14 eG14 => ?_)
  have h := h G14 eG14
  have ho15 := isO_sR eG14 ho13
  refine wp_aload_n (pc := 20) d_X3_init_20 rfl ?_
  refine wp_bipush (pc := 21) (v := 96) d_X3_init_21 rfl ?_
  obtain ⟨hb16, h⟩ := h
  refine wp_newa (pc := 23) (t0 := 2) (kd := 15) d_X3_init_23 rfl (fun _ q => by cases q) ac_long (by decide) (fun _ => rfl) rfl (by decide) (by decide) (by decide) ?_
  refine wp_nm (fun G20 eG20 => ?_)
  have h := h G20 eG20
  have ho21 := isO_nwE eG20 ho15
  have hb22 := base_nwE eG20 hb16
  have ho23 := isO_newE eG20 hb16
  refine wp_putR (pc := 25) d_X3_init_25 fl_X3_22 (fun _ _ _ => rfl) (Or.inr ⟨_, rfl⟩) (Or.inr ⟨rfl, rfl, rfl⟩) ho21 ?_
  refine wp_nm (fun G24 eG24 => ?_)
  have h := h G24 eG24
  have ho25 := isO_sR eG24 ho21
  have hb26 := base_sR eG24 hb22
  refine wp_aload_n (pc := 28) d_X3_init_28 rfl ?_
  refine wp_iconst (pc := 29) (v := 4) d_X3_init_29 rfl ?_
  refine wp_newa (pc := 30) (t0 := 1) (kd := 14) d_X3_init_30 rfl (fun _ q => by cases q) ac_int (by decide) (fun _ => rfl) rfl (by decide) (by decide) (by decide) ?_
  refine wp_nm (fun G30 eG30 => ?_)
  have h := h G30 eG30
  have ho31 := isO_nwE eG30 ho25
  have hb32 := base_nwE eG30 hb26
  have ho33 := isO_newE eG30 hb26
  refine wp_putR (pc := 32) d_X3_init_32 fl_X3_26 (fun _ _ _ => rfl) (Or.inr ⟨_, rfl⟩) (Or.inr ⟨rfl, rfl, rfl⟩) ho31 ?_
  refine wp_nm (fun G34 eG34 => ?_)
  have h := h G34 eG34
  have ho35 := isO_sR eG34 ho31
  have hb36 := base_sR eG34 hb32
  refine wp_aload_n (pc := 35) d_X3_init_35 rfl ?_
  refine wp_new (pc := 36) (c := 7) (r := (cn_7, ct_7, 5)) d_X3_init_36 rfl cx_X3_30 it_7 ii_7 ?_
  refine wp_nm (fun G40 eG40 => ?_)
  have h := h G40 eG40
  have ho41 := isO_nwE eG40 ho35
  have hb42 := base_nwE eG40 hb36
  have ho43 := isO_newE eG40 hb36
  refine wp_dup (pc := 39) d_X3_init_39 (c1_r _) ?_
  refine wp_invI (pc := 40) (N := M_X7_init) (As := []) (rest := [vr _, vr _]) d_X3_init_40 ml_X3_32 mk_X7_init mi_X7_init h0 ho43 (Nat.le_of_ble_eq_true rfl) ?_
  refine wpM.mono h (fun rr G44 hr => ?_)
  obtain ⟨rfl, h⟩ := hr
  show wp E d M_X3_init 43 [some (vr _)] [vr _, vr _] G44 Q
  obtain ⟨ho45, h⟩ := h
  refine wp_putR (pc := 43) d_X3_init_43 fl_X3_33 (fun _ _ _ => rfl) (Or.inl ⟨_, rfl⟩) (Or.inr ⟨rfl, rfl, rfl⟩) ho45 ?_
  refine wp_nm (fun G46 eG46 => ?_)
  have h := h G46 eG46
  have ho47 := isO_sR eG46 ho45
  refine wp_aload_n (pc := 46) d_X3_init_46 rfl ?_
  obtain ⟨hb48, h⟩ := h
  refine wp_new (pc := 47) (c := 2) (r := (cn_2, ct_2, 15)) d_X3_init_47 rfl cx_X3_37 it_2 ii_2 ?_
  refine wp_nm (fun G52 eG52 => ?_)
  have h := h G52 eG52
  have ho53 := isO_nwE eG52 ho47
  have hb54 := base_nwE eG52 hb48
  have ho55 := isO_newE eG52 hb48
  refine wp_dup (pc := 50) d_X3_init_50 (c1_r _) ?_
  refine wp_invI (pc := 51) (N := M_X2_init) (As := []) (rest := [vr _, vr _]) d_X3_init_51 ml_X3_39 mk_X2_init mi_X2_init h0 ho55 (Nat.le_of_ble_eq_true rfl) ?_
  refine wpM.mono h (fun rr G56 hr => ?_)
  obtain ⟨rfl, h⟩ := hr
  show wp E d M_X3_init 54 [some (vr _)] [vr _, vr _] G56 Q
  obtain ⟨ho57, h⟩ := h
  refine wp_putR (pc := 54) d_X3_init_54 fl_X3_40 (fun _ _ _ => rfl) (Or.inl ⟨_, rfl⟩) (Or.inr ⟨rfl, rfl, rfl⟩) ho57 ?_
  refine wp_nm (fun G58 eG58 => ?_)
  have h := h G58 eG58
  have ho59 := isO_sR eG58 ho57
  refine wp_aload_n (pc := 57) d_X3_init_57 rfl ?_
  obtain ⟨hb60, h⟩ := h
  refine wp_new (pc := 58) (c := 9) (r := (cn_9, ct_9, 8)) d_X3_init_58 rfl cx_X3_44 it_9 ii_9 ?_
  refine wp_nm (fun G64 eG64 => ?_)
  have h := h G64 eG64
  have ho65 := isO_nwE eG64 ho59
  have hb66 := base_nwE eG64 hb60
  have ho67 := isO_newE eG64 hb60
  refine wp_dup (pc := 61) d_X3_init_61 (c1_r _) ?_
  refine wp_invI (pc := 62) (N := M_X9_init) (As := []) (rest := [vr _, vr _]) d_X3_init_62 ml_X3_46 mk_X9_init mi_X9_init h0 ho67 (Nat.le_of_ble_eq_true rfl) ?_
  refine wpM.mono h (fun rr G68 hr => ?_)
  obtain ⟨rfl, h⟩ := hr
  show wp E d M_X3_init 65 [some (vr _)] [vr _, vr _] G68 Q
  obtain ⟨ho69, h⟩ := h
  refine wp_putR (pc := 65) d_X3_init_65 fl_X3_47 (fun _ _ _ => rfl) (Or.inl ⟨_, rfl⟩) (Or.inr ⟨rfl, rfl, rfl⟩) ho69 ?_
  refine wp_nm (fun G70 eG70 => ?_)
  have h := h G70 eG70
  have ho71 := isO_sR eG70 ho69
  refine wp_aload_n (pc := 68) d_X3_init_68 rfl ?_
  refine wp_bipush (pc := 69) (v := 16) d_X3_init_69 rfl ?_
  obtain ⟨hb72, h⟩ := h
  refine wp_newa (pc := 71) (t0 := 1) (kd := 14) d_X3_init_71 rfl (fun _ q => by cases q) ac_int (by decide) (fun _ => rfl) rfl (by decide) (by decide) (by decide) ?_
  refine wp_nm (fun G76 eG76 => ?_)
  have h := h G76 eG76
  have ho77 := isO_nwE eG76 ho71
  have hb78 := base_nwE eG76 hb72
  have ho79 := isO_newE eG76 hb72
  refine wp_putR (pc := 73) d_X3_init_73 fl_X3_51 (fun _ _ _ => rfl) (Or.inr ⟨_, rfl⟩) (Or.inr ⟨rfl, rfl, rfl⟩) ho77 ?_
  refine wp_nm (fun G80 eG80 => ?_)
  have h := h G80 eG80
  have ho81 := isO_sR eG80 ho77
  have hb82 := base_sR eG80 hb78
  refine wp_aload_n (pc := 76) d_X3_init_76 rfl ?_
  refine wp_iconst (pc := 77) (v := 0) d_X3_init_77 rfl ?_
  refine wp_putI (pc := 78) d_X3_init_78 fl_X3_54 (fun _ _ _ => rfl) (Or.inl rfl) ho81 (okI_int _) ?_
  refine wp_nm (fun G83 eG83 => ?_)
  have h := h G83 eG83
  have ho84 := isO_sI eG83 ho81
  have hb85 := base_sI eG83 hb82
  refine wp_aload_n (pc := 81) d_X3_init_81 rfl ?_
  refine wp_iconst (pc := 82) (v := 0) d_X3_init_82 rfl ?_
  refine wp_putI (pc := 83) d_X3_init_83 fl_X3_58 (fun _ _ _ => rfl) (Or.inl rfl) ho84 (okI_int _) ?_
  refine wp_nm (fun G86 eG86 => ?_)
  have h := h G86 eG86
  have ho87 := isO_sI eG86 ho84
  have hb88 := base_sI eG86 hb85
  refine wp_aload_n (pc := 86) d_X3_init_86 rfl ?_
  refine wp_bipush (pc := 87) (v := 12) d_X3_init_87 rfl ?_
  refine wp_newa (pc := 89) (t0 := 1) (kd := 14) d_X3_init_89 rfl (fun _ q => by cases q) ac_int (by decide) (fun _ => rfl) rfl (by decide) (by decide) (by decide) ?_
  refine wp_nm (fun G92 eG92 => ?_)
  have h := h G92 eG92
  have ho93 := isO_nwE eG92 ho87
  have hb94 := base_nwE eG92 hb88
  have ho95 := isO_newE eG92 hb88
  refine wp_putR (pc := 91) d_X3_init_91 fl_X3_61 (fun _ _ _ => rfl) (Or.inr ⟨_, rfl⟩) (Or.inr ⟨rfl, rfl, rfl⟩) ho93 ?_
  refine wp_nm (fun G96 eG96 => ?_)
  have h := h G96 eG96
  have ho97 := isO_sR eG96 ho93
  have hb98 := base_sR eG96 hb94
  refine wp_aload_n (pc := 94) d_X3_init_94 rfl ?_
  refine wp_iconst (pc := 95) (v := 0) d_X3_init_95 rfl ?_
  refine wp_putI (pc := 96) d_X3_init_96 fl_X3_64 (fun _ _ _ => rfl) (Or.inl rfl) ho97 (okI_int _) ?_
  refine wp_nm (fun G99 eG99 => ?_)
  have h := h G99 eG99
  have ho100 := isO_sI eG99 ho97
  have hb101 := base_sI eG99 hb98
  refine wp_aload_n (pc := 99) d_X3_init_99 rfl ?_
  refine wp_bipush (pc := 100) (v := 6) d_X3_init_100 rfl ?_
  refine wp_newa (pc := 102) (t0 := 1) (kd := 14) d_X3_init_102 rfl (fun _ q => by cases q) ac_int (by decide) (fun _ => rfl) rfl (by decide) (by decide) (by decide) ?_
  refine wp_nm (fun G105 eG105 => ?_)
  have h := h G105 eG105
  have ho106 := isO_nwE eG105 ho100
  have hb107 := base_nwE eG105 hb101
  have ho108 := isO_newE eG105 hb101
  refine wp_putR (pc := 104) d_X3_init_104 fl_X3_67 (fun _ _ _ => rfl) (Or.inr ⟨_, rfl⟩) (Or.inr ⟨rfl, rfl, rfl⟩) ho106 ?_
  refine wp_nm (fun G109 eG109 => ?_)
  have h := h G109 eG109
  have ho110 := isO_sR eG109 ho106
  have hb111 := base_sR eG109 hb107
  refine wp_aload_n (pc := 107) d_X3_init_107 rfl ?_
  refine wp_bipush (pc := 108) (v := 96) d_X3_init_108 rfl ?_
  refine wp_newa (pc := 110) (t0 := 1) (kd := 14) d_X3_init_110 rfl (fun _ q => by cases q) ac_int (by decide) (fun _ => rfl) rfl (by decide) (by decide) (by decide) ?_
  refine wp_nm (fun G115 eG115 => ?_)
  have h := h G115 eG115
  have ho116 := isO_nwE eG115 ho110
  have hb117 := base_nwE eG115 hb111
  have ho118 := isO_newE eG115 hb111
  refine wp_putR (pc := 112) d_X3_init_112 fl_X3_70 (fun _ _ _ => rfl) (Or.inr ⟨_, rfl⟩) (Or.inr ⟨rfl, rfl, rfl⟩) ho116 ?_
  refine wp_nm (fun G119 eG119 => ?_)
  have h := h G119 eG119
  have ho120 := isO_sR eG119 ho116
  have hb121 := base_sR eG119 hb117
  refine wp_aload_n (pc := 115) d_X3_init_115 rfl ?_
  refine wp_iconst (pc := 116) (v := 3) d_X3_init_116 rfl ?_
  refine wp_newa (pc := 117) (t0 := 2) (kd := 15) d_X3_init_117 rfl (fun _ q => by cases q) ac_long (by decide) (fun _ => rfl) rfl (by decide) (by decide) (by decide) ?_
  refine wp_nm (fun G125 eG125 => ?_)
  have h := h G125 eG125
  have ho126 := isO_nwE eG125 ho120
  have hb127 := base_nwE eG125 hb121
  have ho128 := isO_newE eG125 hb121
  refine wp_putR (pc := 119) d_X3_init_119 fl_X3_73 (fun _ _ _ => rfl) (Or.inr ⟨_, rfl⟩) (Or.inr ⟨rfl, rfl, rfl⟩) ho126 ?_
  refine wp_nm (fun G129 eG129 => ?_)
  have h := h G129 eG129
  have ho130 := isO_sR eG129 ho126
  have hb131 := base_sR eG129 hb127
  refine wp_aload_n (pc := 122) d_X3_init_122 rfl ?_
  refine wp_iconst (pc := 123) (v := 3) d_X3_init_123 rfl ?_
  refine wp_newa (pc := 124) (t0 := 2) (kd := 15) d_X3_init_124 rfl (fun _ q => by cases q) ac_long (by decide) (fun _ => rfl) rfl (by decide) (by decide) (by decide) ?_
  refine wp_nm (fun G135 eG135 => ?_)
  have h := h G135 eG135
  have ho136 := isO_nwE eG135 ho130
  have hb137 := base_nwE eG135 hb131
  have ho138 := isO_newE eG135 hb131
  refine wp_putR (pc := 126) d_X3_init_126 fl_X3_76 (fun _ _ _ => rfl) (Or.inr ⟨_, rfl⟩) (Or.inr ⟨rfl, rfl, rfl⟩) ho136 ?_
  refine wp_nm (fun G139 eG139 => ?_)
  have h := h G139 eG139
  have ho140 := isO_sR eG139 ho136
  have hb141 := base_sR eG139 hb137
  refine wp_aload_n (pc := 129) d_X3_init_129 rfl ?_
  refine wp_bipush (pc := 130) (v := 6) d_X3_init_130 rfl ?_
  refine wp_newa (pc := 132) (t0 := 1) (kd := 14) d_X3_init_132 rfl (fun _ q => by cases q) ac_int (by decide) (fun _ => rfl) rfl (by decide) (by decide) (by decide) ?_
  refine wp_nm (fun G145 eG145 => ?_)
  have h := h G145 eG145
  have ho146 := isO_nwE eG145 ho140
  have hb147 := base_nwE eG145 hb141
  have ho148 := isO_newE eG145 hb141
  refine wp_putR (pc := 134) d_X3_init_134 fl_X3_79 (fun _ _ _ => rfl) (Or.inr ⟨_, rfl⟩) (Or.inr ⟨rfl, rfl, rfl⟩) ho146 ?_
  refine wp_nm (fun G149 eG149 => ?_)
  have h := h G149 eG149
  have ho150 := isO_sR eG149 ho146
  have hb151 := base_sR eG149 hb147
  refine wp_aload_n (pc := 137) d_X3_init_137 rfl ?_
  refine wp_bipush (pc := 138) (v := 16) d_X3_init_138 rfl ?_
  refine wp_newa (pc := 140) (t0 := 1) (kd := 14) d_X3_init_140 rfl (fun _ q => by cases q) ac_int (by decide) (fun _ => rfl) rfl (by decide) (by decide) (by decide) ?_
  refine wp_nm (fun G155 eG155 => ?_)
  have h := h G155 eG155
  have ho156 := isO_nwE eG155 ho150
  have hb157 := base_nwE eG155 hb151
  have ho158 := isO_newE eG155 hb151
  refine wp_putR (pc := 142) d_X3_init_142 fl_X3_82 (fun _ _ _ => rfl) (Or.inr ⟨_, rfl⟩) (Or.inr ⟨rfl, rfl, rfl⟩) ho156 ?_
  refine wp_nm (fun G159 eG159 => ?_)
  have h := h G159 eG159
  have ho160 := isO_sR eG159 ho156
  have hb161 := base_sR eG159 hb157
  refine wp_aload_n (pc := 145) d_X3_init_145 rfl ?_
  refine wp_iconst (pc := 146) (v := 3) d_X3_init_146 rfl ?_
  refine wp_newa (pc := 147) (t0 := 2) (kd := 15) d_X3_init_147 rfl (fun _ q => by cases q) ac_long (by decide) (fun _ => rfl) rfl (by decide) (by decide) (by decide) ?_
  refine wp_nm (fun G165 eG165 => ?_)
  have h := h G165 eG165
  have ho166 := isO_nwE eG165 ho160
  have hb167 := base_nwE eG165 hb161
  have ho168 := isO_newE eG165 hb161
  refine wp_putR (pc := 149) d_X3_init_149 fl_X3_85 (fun _ _ _ => rfl) (Or.inr ⟨_, rfl⟩) (Or.inr ⟨rfl, rfl, rfl⟩) ho166 ?_
  refine wp_nm (fun G169 eG169 => ?_)
  have h := h G169 eG169
  have ho170 := isO_sR eG169 ho166
  have hb171 := base_sR eG169 hb167
  exact wp_vret (pc := 152) d_X3_init_152 rfl h
theorem d_X3_clear_0 : decode prog_5_method_2_code 0 = .ok (.aload_n 0, 1) := by decide +kernel
theorem d_X3_clear_1 : decode prog_5_method_2_code 1 = .ok (.iconst 0, 1) := by decide +kernel
theorem d_X3_clear_2 : decode prog_5_method_2_code 2 = .ok (.putfield 9, 3) := by decide +kernel
theorem d_X3_clear_5 : decode prog_5_method_2_code 5 = .ok (.aload_n 0, 1) := by decide +kernel
theorem d_X3_clear_6 : decode prog_5_method_2_code 6 = .ok (.getfield 26, 3) := by decide +kernel
theorem d_X3_clear_9 : decode prog_5_method_2_code 9 = .ok (.iconst 0, 1) := by decide +kernel
theorem d_X3_clear_10 : decode prog_5_method_2_code 10 = .ok (.invokestatic 88, 3) := by decide +kernel
theorem d_X3_clear_13 : decode prog_5_method_2_code 13 = .ok (.aload_n 0, 1) := by decide +kernel
theorem d_X3_clear_14 : decode prog_5_method_2_code 14 = .ok (.getfield 33, 3) := by decide +kernel
theorem d_X3_clear_17 : decode prog_5_method_2_code 17 = .ok (.invokevirtual 94, 3) := by decide +kernel
theorem d_X3_clear_20 : decode prog_5_method_2_code 20 = .ok (.aload_n 0, 1) := by decide +kernel
theorem d_X3_clear_21 : decode prog_5_method_2_code 21 = .ok (.getfield 40, 3) := by decide +kernel
theorem d_X3_clear_24 : decode prog_5_method_2_code 24 = .ok (.invokevirtual 97, 3) := by decide +kernel
theorem d_X3_clear_27 : decode prog_5_method_2_code 27 = .ok (.aload_n 0, 1) := by decide +kernel
theorem d_X3_clear_28 : decode prog_5_method_2_code 28 = .ok (.getfield 47, 3) := by decide +kernel
theorem d_X3_clear_31 : decode prog_5_method_2_code 31 = .ok (.iconst 0, 1) := by decide +kernel
theorem d_X3_clear_32 : decode prog_5_method_2_code 32 = .ok (.putfield 98, 3) := by decide +kernel
theorem d_X3_clear_35 : decode prog_5_method_2_code 35 = .ok (.aload_n 0, 1) := by decide +kernel
theorem d_X3_clear_36 : decode prog_5_method_2_code 36 = .ok (.iconst 0, 1) := by decide +kernel
theorem d_X3_clear_37 : decode prog_5_method_2_code 37 = .ok (.putfield 54, 3) := by decide +kernel
theorem d_X3_clear_40 : decode prog_5_method_2_code 40 = .ok (.aload_n 0, 1) := by decide +kernel
theorem d_X3_clear_41 : decode prog_5_method_2_code 41 = .ok (.iconst 0, 1) := by decide +kernel
theorem d_X3_clear_42 : decode prog_5_method_2_code 42 = .ok (.putfield 58, 3) := by decide +kernel
theorem d_X3_clear_45 : decode prog_5_method_2_code 45 = .ok (.aload_n 0, 1) := by decide +kernel
theorem d_X3_clear_46 : decode prog_5_method_2_code 46 = .ok (.getfield 61, 3) := by decide +kernel
theorem d_X3_clear_49 : decode prog_5_method_2_code 49 = .ok (.iconst 1, 1) := by decide +kernel
theorem d_X3_clear_50 : decode prog_5_method_2_code 50 = .ok (.invokestatic 88, 3) := by decide +kernel
theorem d_X3_clear_53 : decode prog_5_method_2_code 53 = .ok (.aload_n 0, 1) := by decide +kernel
theorem d_X3_clear_54 : decode prog_5_method_2_code 54 = .ok (.iconst 0, 1) := by decide +kernel
theorem d_X3_clear_55 : decode prog_5_method_2_code 55 = .ok (.putfield 64, 3) := by decide +kernel
theorem d_X3_clear_58 : decode prog_5_method_2_code 58 = .ok (.return_, 1) := by decide +kernel
theorem v_X3_clear_0 {E : EE} {d : Nat} {Q : Option AV → AH → Prop} {x0 : Nat} {G : AH} (h0 : 0 < d) (h : isO E G x0 3 ∧ (∀ G2 : AH, G2 = sI G x0 0 0 → wpV E (d - 1) M_J7_fill_53178 [vr (gR G2 x0 3), vi 0] G2 (fun G4 => isO E G4 x0 3 ∧ (isO E G4 (gR G4 x0 4) 7 ∧ (wpV E (d - 1) M_X7_clear [vr (gR G4 x0 4)] G4 (fun G6 => isO E G6 x0 3 ∧ (isO E G6 (gR G6 x0 5) 2 ∧ (wpV E (d - 1) M_X2_clear [vr (gR G6 x0 5)] G6 (fun G8 => isO E G8 x0 3 ∧ (isO E G8 (gR G8 x0 6) 9 ∧ (∀ G11 : AH, G11 = sI G8 (gR G8 x0 6) 0 0 → ∀ G13 : AH, G13 = sI G11 x0 8 0 → ∀ G15 : AH, G15 = sI G13 x0 9 0 → wpV E (d - 1) M_J7_fill_53178 [vr (gR G15 x0 10), vi 1] G15 (fun G17 => isO E G17 x0 3 ∧ (∀ G19 : AH, G19 = sI G17 x0 11 0 → Q none G19))))))))))))) : wp E d M_X3_clear 0 [some (vr x0)] [] G Q := by
  refine wp_aload_n (pc := 0) d_X3_clear_0 rfl ?_
  refine wp_iconst (pc := 1) (v := 0) d_X3_clear_1 rfl ?_
  obtain ⟨ho1, h⟩ := h
  refine wp_putI (pc := 2) d_X3_clear_2 fl_X3_9 (fun _ _ _ => rfl) (Or.inl rfl) ho1 okI_z0 ?_
  refine wp_nm (fun G2 eG2 => ?_)
  have h := h G2 eG2
  have ho3 := isO_sI eG2 ho1
  refine wp_aload_n (pc := 5) d_X3_clear_5 rfl ?_
  refine wp_getR (pc := 6) d_X3_clear_6 fl_X3_26 (fun _ _ _ => rfl) ho3 ?_
  refine wp_iconst (pc := 9) (v := 0) d_X3_clear_9 rfl ?_
  refine wp_invS (pc := 10) (N := M_J7_fill_53178) (As := [vr _, vi _]) (rest := []) d_X3_clear_10 ml_X3_88 mk_J7_fill_53178 ms_J7_fill_53178 h0 (Nat.le_of_ble_eq_true rfl) ?_
  refine wpM.mono h (fun rr G4 hr => ?_)
  obtain ⟨rfl, h⟩ := hr
  show wp E d M_X3_clear 13 [some (vr _)] [] G4 Q
  refine wp_aload_n (pc := 13) d_X3_clear_13 rfl ?_
  obtain ⟨ho5, h⟩ := h
  refine wp_getR (pc := 14) d_X3_clear_14 fl_X3_33 (fun _ _ _ => rfl) ho5 ?_
  obtain ⟨ho22, h⟩ := h
  refine wp_invV (pc := 17) (N := M_X7_clear) (As := []) (rest := []) (r := (cn_7, ct_7, 5)) d_X3_clear_17 ml_X3_94 mk_X7_clear mv_X7_clear h0 ho22 rfl rfl (Nat.le_of_ble_eq_true rfl) ?_
  refine wpM.mono h (fun rr G6 hr => ?_)
  obtain ⟨rfl, h⟩ := hr
  show wp E d M_X3_clear 20 [some (vr _)] [] G6 Q
  refine wp_aload_n (pc := 20) d_X3_clear_20 rfl ?_
  obtain ⟨ho7, h⟩ := h
  refine wp_getR (pc := 21) d_X3_clear_21 fl_X3_40 (fun _ _ _ => rfl) ho7 ?_
  obtain ⟨ho21, h⟩ := h
  refine wp_invV (pc := 24) (N := M_X2_clear) (As := []) (rest := []) (r := (cn_2, ct_2, 15)) d_X3_clear_24 ml_X3_97 mk_X2_clear mv_X2_clear h0 ho21 rfl rfl (Nat.le_of_ble_eq_true rfl) ?_
  refine wpM.mono h (fun rr G8 hr => ?_)
  obtain ⟨rfl, h⟩ := hr
  show wp E d M_X3_clear 27 [some (vr _)] [] G8 Q
  refine wp_aload_n (pc := 27) d_X3_clear_27 rfl ?_
  obtain ⟨ho9, h⟩ := h
  refine wp_getR (pc := 28) d_X3_clear_28 fl_X3_47 (fun _ _ _ => rfl) ho9 ?_
  refine wp_iconst (pc := 31) (v := 0) d_X3_clear_31 rfl ?_
  obtain ⟨ho10, h⟩ := h
  refine wp_putI (pc := 32) d_X3_clear_32 fl_X3_98 (fun _ _ _ => rfl) (Or.inl rfl) ho10 okI_z0 ?_
  refine wp_nm (fun G11 eG11 => ?_)
  have h := h G11 eG11
  have ho12 := isO_sI eG11 ho9
  refine wp_aload_n (pc := 35) d_X3_clear_35 rfl ?_
  refine wp_iconst (pc := 36) (v := 0) d_X3_clear_36 rfl ?_
  refine wp_putI (pc := 37) d_X3_clear_37 fl_X3_54 (fun _ _ _ => rfl) (Or.inl rfl) ho12 (okI_int _) ?_
  refine wp_nm (fun G13 eG13 => ?_)
  have h := h G13 eG13
  have ho14 := isO_sI eG13 ho12
  refine wp_aload_n (pc := 40) d_X3_clear_40 rfl ?_
  refine wp_iconst (pc := 41) (v := 0) d_X3_clear_41 rfl ?_
  refine wp_putI (pc := 42) d_X3_clear_42 fl_X3_58 (fun _ _ _ => rfl) (Or.inl rfl) ho14 (okI_int _) ?_
  refine wp_nm (fun G15 eG15 => ?_)
  have h := h G15 eG15
  have ho16 := isO_sI eG15 ho14
  refine wp_aload_n (pc := 45) d_X3_clear_45 rfl ?_
  refine wp_getR (pc := 46) d_X3_clear_46 fl_X3_61 (fun _ _ _ => rfl) ho16 ?_
  refine wp_iconst (pc := 49) (v := 1) d_X3_clear_49 rfl ?_
  refine wp_invS (pc := 50) (N := M_J7_fill_53178) (As := [vr _, vi _]) (rest := []) d_X3_clear_50 ml_X3_88 mk_J7_fill_53178 ms_J7_fill_53178 h0 (Nat.le_of_ble_eq_true rfl) ?_
  refine wpM.mono h (fun rr G17 hr => ?_)
  obtain ⟨rfl, h⟩ := hr
  show wp E d M_X3_clear 53 [some (vr _)] [] G17 Q
  refine wp_aload_n (pc := 53) d_X3_clear_53 rfl ?_
  refine wp_iconst (pc := 54) (v := 0) d_X3_clear_54 rfl ?_
  obtain ⟨ho18, h⟩ := h
  refine wp_putI (pc := 55) d_X3_clear_55 fl_X3_64 (fun _ _ _ => rfl) (Or.inl rfl) ho18 (okI_int _) ?_
  refine wp_nm (fun G19 eG19 => ?_)
  have h := h G19 eG19
  have ho20 := isO_sI eG19 ho18
  exact wp_vret (pc := 58) d_X3_clear_58 rfl h
theorem d_X3_lookUp_0 : decode prog_5_method_4_code 0 = .ok (.iconst 0, 1) := by decide +kernel
theorem d_X3_lookUp_1 : decode prog_5_method_4_code 1 = .ok (.istore_n 3, 1) := by decide +kernel
theorem d_X3_lookUp_2 : decode prog_5_method_4_code 2 = .ok (.iload_n 3, 1) := by decide +kernel
theorem d_X3_lookUp_3 : decode prog_5_method_4_code 3 = .ok (.iconst 4, 1) := by decide +kernel
theorem d_X3_lookUp_4 : decode prog_5_method_4_code 4 = .ok (.if_icmp .ge 54, 3) := by decide +kernel
theorem d_X3_lookUp_7 : decode prog_5_method_4_code 7 = .ok (.iconst 0, 1) := by decide +kernel
theorem d_X3_lookUp_8 : decode prog_5_method_4_code 8 = .ok (.istore 4, 2) := by decide +kernel
theorem d_X3_lookUp_10 : decode prog_5_method_4_code 10 = .ok (.iload 4, 2) := by decide +kernel
theorem d_X3_lookUp_12 : decode prog_5_method_4_code 12 = .ok (.aload_n 0, 1) := by decide +kernel
theorem d_X3_lookUp_13 : decode prog_5_method_4_code 13 = .ok (.getfield 26, 3) := by decide +kernel
theorem d_X3_lookUp_16 : decode prog_5_method_4_code 16 = .ok (.iload_n 3, 1) := by decide +kernel
theorem d_X3_lookUp_17 : decode prog_5_method_4_code 17 = .ok (.iaload, 1) := by decide +kernel
theorem d_X3_lookUp_18 : decode prog_5_method_4_code 18 = .ok (.if_icmp .ge 34, 3) := by decide +kernel
theorem d_X3_lookUp_21 : decode prog_5_method_4_code 21 = .ok (.aload_n 0, 1) := by decide +kernel
theorem d_X3_lookUp_22 : decode prog_5_method_4_code 22 = .ok (.getfield 22, 3) := by decide +kernel
theorem d_X3_lookUp_25 : decode prog_5_method_4_code 25 = .ok (.iload_n 3, 1) := by decide +kernel
theorem d_X3_lookUp_26 : decode prog_5_method_4_code 26 = .ok (.bipush 24, 2) := by decide +kernel
theorem d_X3_lookUp_28 : decode prog_5_method_4_code 28 = .ok (.imul, 1) := by decide +kernel
theorem d_X3_lookUp_29 : decode prog_5_method_4_code 29 = .ok (.iload 4, 2) := by decide +kernel
theorem d_X3_lookUp_31 : decode prog_5_method_4_code 31 = .ok (.iadd, 1) := by decide +kernel
theorem d_X3_lookUp_32 : decode prog_5_method_4_code 32 = .ok (.laload, 1) := by decide +kernel
theorem d_X3_lookUp_33 : decode prog_5_method_4_code 33 = .ok (.lload_n 1, 1) := by decide +kernel
theorem d_X3_lookUp_34 : decode prog_5_method_4_code 34 = .ok (.lcmp, 1) := by decide +kernel
theorem d_X3_lookUp_35 : decode prog_5_method_4_code 35 = .ok (.ifCond .ne 11, 3) := by decide +kernel
theorem d_X3_lookUp_38 : decode prog_5_method_4_code 38 = .ok (.iload_n 3, 1) := by decide +kernel
theorem d_X3_lookUp_39 : decode prog_5_method_4_code 39 = .ok (.bipush 24, 2) := by decide +kernel
theorem d_X3_lookUp_41 : decode prog_5_method_4_code 41 = .ok (.imul, 1) := by decide +kernel
theorem d_X3_lookUp_42 : decode prog_5_method_4_code 42 = .ok (.iload 4, 2) := by decide +kernel
theorem d_X3_lookUp_44 : decode prog_5_method_4_code 44 = .ok (.iadd, 1) := by decide +kernel
theorem d_X3_lookUp_45 : decode prog_5_method_4_code 45 = .ok (.ireturn, 1) := by decide +kernel
theorem d_X3_lookUp_46 : decode prog_5_method_4_code 46 = .ok (.iinc 4 1, 3) := by decide +kernel
theorem d_X3_lookUp_49 : decode prog_5_method_4_code 49 = .ok (.goto (-39), 3) := by decide +kernel
theorem d_X3_lookUp_52 : decode prog_5_method_4_code 52 = .ok (.iinc 3 1, 3) := by decide +kernel
theorem d_X3_lookUp_55 : decode prog_5_method_4_code 55 = .ok (.goto (-53), 3) := by decide +kernel
theorem d_X3_lookUp_58 : decode prog_5_method_4_code 58 = .ok (.iconst (-1), 1) := by decide +kernel
theorem d_X3_lookUp_59 : decode prog_5_method_4_code 59 = .ok (.ireturn, 1) := by decide +kernel
theorem v_X3_lookUp_0 {E : EE} {d : Nat} {Q : Option AV → AH → Prop} {x0 : Nat} {x1 : Int64} {G : AH} (h : wp E d M_X3_lookUp 2 [some (vr x0), some (vj x1), none, some (vi 0), none] [] G Q) : wp E d M_X3_lookUp 0 [some (vr x0), some (vj x1), none, none, none] [] G Q := by
  refine wp_iconst (pc := 0) (v := 0) d_X3_lookUp_0 rfl ?_
  refine wp_istore_n (pc := 1) (lv' := [some (vr _), some (vj _), none, some (vi _), none]) d_X3_lookUp_1 (by decide) rfl ?_
  refine wp_sub ?_ h
  exact ⟨rfl, ⟨rfl, ⟨rfl, trivial⟩⟩⟩
theorem v_X3_lookUp_2 {E : EE} {d : Nat} {Q : Option AV → AH → Prop} {x0 : Nat} {x1 : Int64} {x3 : Int32} {G : AH} (h : (4 ≤ x3 → Q (some (vi (-1))) G) ∧ (¬ (4 ≤ x3) → wp E d M_X3_lookUp 10 [some (vr x0), some (vj x1), none, some (vi x3), some (vi 0)] [] G Q)) : wp E d M_X3_lookUp 2 [some (vr x0), some (vj x1), none, some (vi x3), none] [] G Q := by
  refine wp_iload_n (pc := 2) d_X3_lookUp_2 rfl ?_
  refine wp_iconst (pc := 3) (v := 4) d_X3_lookUp_3 rfl ?_
  refine wp_icmp_ge (pc := 4) (tgt := 58) d_X3_lookUp_4 (by decide) (fun hc => ?_) (fun hc => ?_)
  · have h := h.1 hc
    refine wp_iconst (pc := 58) (v := (-1)) d_X3_lookUp_58 rfl ?_
    exact wp_iret (pc := 59) d_X3_lookUp_59 rfl h
  · have h := h.2 hc
    refine wp_iconst (pc := 7) (v := 0) d_X3_lookUp_7 rfl ?_
    refine wp_istore (pc := 8) (lv' := [some (vr _), some (vj _), none, some (vi _), some (vi _)]) d_X3_lookUp_8 (by decide) rfl ?_
    refine wp_sub ?_ h
    exact ⟨rfl, ⟨rfl, ⟨rfl, ⟨rfl, trivial⟩⟩⟩⟩
theorem v_X3_lookUp_10 {E : EE} {d : Nat} {Q : Option AV → AH → Prop} {x0 : Nat} {x1 : Int64} {x3 : Int32} {x4 : Int32} {G : AH} (h : isO E G x0 3 ∧ (isO E G (gR G x0 3) 14 ∧ (vp_in x3 (gN G (gR G x0 3)) ∧ (((gI G (gR G x0 3) (Int32.toNatClampNeg x3)) ≤ x4 → wp E d M_X3_lookUp 2 [some (vr x0), some (vj x1), none, some (vi (x3 + 1)), none] [] G Q) ∧ (¬ ((gI G (gR G x0 3) (Int32.toNatClampNeg x3)) ≤ x4) → isO E G (gR G x0 2) 15 ∧ (vp_in ((x3 * 24) + x4) (gN G (gR G x0 2)) ∧ ((¬ (gJ G (gR G x0 2) (Int32.toNatClampNeg ((x3 * 24) + x4))) = x1 → wp E d M_X3_lookUp 10 [some (vr x0), some (vj x1), none, some (vi x3), some (vi (x4 + 1))] [] G Q) ∧ ((gJ G (gR G x0 2) (Int32.toNatClampNeg ((x3 * 24) + x4))) = x1 → Q (some (vi ((x3 * 24) + x4))) G)))))))) : wp E d M_X3_lookUp 10 [some (vr x0), some (vj x1), none, some (vi x3), some (vi x4)] [] G Q := by
  refine wp_iload (pc := 10) d_X3_lookUp_10 rfl ?_
  refine wp_aload_n (pc := 12) d_X3_lookUp_12 rfl ?_
  obtain ⟨ho1, h⟩ := h
  refine wp_getR (pc := 13) d_X3_lookUp_13 fl_X3_26 (fun _ _ _ => rfl) ho1 ?_
  refine wp_iload_n (pc := 16) d_X3_lookUp_16 rfl ?_
  obtain ⟨ho2, h⟩ := h
  obtain ⟨hi3, h⟩ := h
  refine wp_iald (pc := 17) d_X3_lookUp_17 ho2 hi3 ?_
  refine wp_icmp_ge (pc := 18) (tgt := 52) d_X3_lookUp_18 (by decide) (fun hc => ?_) (fun hc => ?_)
  · have h := h.1 hc
    refine wp_iinc (pc := 52) (v := 1) (lv' := [some (vr _), some (vj _), none, some (vi _), some (vi _)]) d_X3_lookUp_52 (by decide) rfl rfl rfl ?_
    refine wp_goto (pc := 55) (tgt := 2) d_X3_lookUp_55 (by decide) ?_
    refine wp_sub ?_ h
    exact ⟨rfl, ⟨rfl, ⟨rfl, trivial⟩⟩⟩
  · have h := h.2 hc
    refine wp_aload_n (pc := 21) d_X3_lookUp_21 rfl ?_
    refine wp_getR (pc := 22) d_X3_lookUp_22 fl_X3_22 (fun _ _ _ => rfl) ho1 ?_
    refine wp_iload_n (pc := 25) d_X3_lookUp_25 rfl ?_
    refine wp_bipush (pc := 26) (v := 24) d_X3_lookUp_26 rfl ?_
    refine wp_imul (pc := 28) d_X3_lookUp_28 ?_
    refine wp_iload (pc := 29) d_X3_lookUp_29 rfl ?_
    refine wp_iadd (pc := 31) d_X3_lookUp_31 ?_
    obtain ⟨ho4, h⟩ := h
    obtain ⟨hi5, h⟩ := h
    refine wp_lald (pc := 32) d_X3_lookUp_32 ho4 hi5 ?_
    refine wp_lload_n (pc := 33) d_X3_lookUp_33 rfl ?_
    refine wp_lcmp_ne (pc := 34) (tgt := 46) d_X3_lookUp_34 d_X3_lookUp_35 (by decide) (fun hc => ?_) (fun hc => ?_)
    · have h := h.1 hc
      refine wp_iinc (pc := 46) (v := 1) (lv' := [some (vr _), some (vj _), none, some (vi _), some (vi _)]) d_X3_lookUp_46 (by decide) rfl rfl rfl ?_
      refine wp_goto (pc := 49) (tgt := 10) d_X3_lookUp_49 (by decide) ?_
      refine wp_sub ?_ h
      exact ⟨rfl, ⟨rfl, ⟨rfl, ⟨rfl, trivial⟩⟩⟩⟩
    · have h := h.2 hc
      refine wp_iload_n (pc := 38) d_X3_lookUp_38 rfl ?_
      refine wp_bipush (pc := 39) (v := 24) d_X3_lookUp_39 rfl ?_
      refine wp_imul (pc := 41) d_X3_lookUp_41 ?_
      refine wp_iload (pc := 42) d_X3_lookUp_42 rfl ?_
      refine wp_iadd (pc := 44) d_X3_lookUp_44 ?_
      exact wp_iret (pc := 45) d_X3_lookUp_45 rfl h
theorem d_X3_tell_0 : decode prog_5_method_3_code 0 = .ok (.iload_n 1, 1) := by decide +kernel
theorem d_X3_tell_1 : decode prog_5_method_3_code 1 = .ok (.ifCond .lt 19, 3) := by decide +kernel
theorem d_X3_tell_4 : decode prog_5_method_3_code 4 = .ok (.iload_n 1, 1) := by decide +kernel
theorem d_X3_tell_5 : decode prog_5_method_3_code 5 = .ok (.iconst 4, 1) := by decide +kernel
theorem d_X3_tell_6 : decode prog_5_method_3_code 6 = .ok (.if_icmp .ge 14, 3) := by decide +kernel
theorem d_X3_tell_9 : decode prog_5_method_3_code 9 = .ok (.aload_n 0, 1) := by decide +kernel
theorem d_X3_tell_10 : decode prog_5_method_3_code 10 = .ok (.getfield 26, 3) := by decide +kernel
theorem d_X3_tell_13 : decode prog_5_method_3_code 13 = .ok (.iload_n 1, 1) := by decide +kernel
theorem d_X3_tell_14 : decode prog_5_method_3_code 14 = .ok (.iaload, 1) := by decide +kernel
theorem d_X3_tell_15 : decode prog_5_method_3_code 15 = .ok (.bipush 24, 2) := by decide +kernel
theorem d_X3_tell_17 : decode prog_5_method_3_code 17 = .ok (.if_icmp .lt 4, 3) := by decide +kernel
theorem d_X3_tell_20 : decode prog_5_method_3_code 20 = .ok (.return_, 1) := by decide +kernel
theorem d_X3_tell_21 : decode prog_5_method_3_code 21 = .ok (.aload_n 0, 1) := by decide +kernel
theorem d_X3_tell_22 : decode prog_5_method_3_code 22 = .ok (.getfield 22, 3) := by decide +kernel
theorem d_X3_tell_25 : decode prog_5_method_3_code 25 = .ok (.iload_n 1, 1) := by decide +kernel
theorem d_X3_tell_26 : decode prog_5_method_3_code 26 = .ok (.bipush 24, 2) := by decide +kernel
theorem d_X3_tell_28 : decode prog_5_method_3_code 28 = .ok (.imul, 1) := by decide +kernel
theorem d_X3_tell_29 : decode prog_5_method_3_code 29 = .ok (.aload_n 0, 1) := by decide +kernel
theorem d_X3_tell_30 : decode prog_5_method_3_code 30 = .ok (.getfield 26, 3) := by decide +kernel
theorem d_X3_tell_33 : decode prog_5_method_3_code 33 = .ok (.iload_n 1, 1) := by decide +kernel
theorem d_X3_tell_34 : decode prog_5_method_3_code 34 = .ok (.iaload, 1) := by decide +kernel
theorem d_X3_tell_35 : decode prog_5_method_3_code 35 = .ok (.iadd, 1) := by decide +kernel
theorem d_X3_tell_36 : decode prog_5_method_3_code 36 = .ok (.lload_n 2, 1) := by decide +kernel
theorem d_X3_tell_37 : decode prog_5_method_3_code 37 = .ok (.lastore, 1) := by decide +kernel
theorem d_X3_tell_38 : decode prog_5_method_3_code 38 = .ok (.aload_n 0, 1) := by decide +kernel
theorem d_X3_tell_39 : decode prog_5_method_3_code 39 = .ok (.getfield 26, 3) := by decide +kernel
theorem d_X3_tell_42 : decode prog_5_method_3_code 42 = .ok (.iload_n 1, 1) := by decide +kernel
theorem d_X3_tell_43 : decode prog_5_method_3_code 43 = .ok (.dup2, 1) := by decide +kernel
theorem d_X3_tell_44 : decode prog_5_method_3_code 44 = .ok (.iaload, 1) := by decide +kernel
theorem d_X3_tell_45 : decode prog_5_method_3_code 45 = .ok (.iconst 1, 1) := by decide +kernel
theorem d_X3_tell_46 : decode prog_5_method_3_code 46 = .ok (.iadd, 1) := by decide +kernel
theorem d_X3_tell_47 : decode prog_5_method_3_code 47 = .ok (.iastore, 1) := by decide +kernel
theorem d_X3_tell_48 : decode prog_5_method_3_code 48 = .ok (.return_, 1) := by decide +kernel
theorem v_X3_tell_0 {E : EE} {d : Nat} {Q : Option AV → AH → Prop} {x0 : Nat} {x1 : Int32} {x2 : Int64} {G : AH} (h : (x1 < 0 → Q none G) ∧ (¬ (x1 < 0) → (4 ≤ x1 → Q none G) ∧ (¬ (4 ≤ x1) → isO E G x0 3 ∧ (isO E G (gR G x0 3) 14 ∧ (vp_in x1 (gN G (gR G x0 3)) ∧ (((gI G (gR G x0 3) (Int32.toNatClampNeg x1)) < 24 → vp_in x1 (gN G (gR G x0 3)) ∧ (isO E G (gR G x0 2) 15 ∧ (vp_in ((x1 * 24) + (gI G (gR G x0 3) (Int32.toNatClampNeg x1))) (gN G (gR G x0 2)) ∧ (∀ G7 : AH, G7 = sJ G (gR G x0 2) (Int32.toNatClampNeg ((x1 * 24) + (gI G (gR G x0 3) (Int32.toNatClampNeg x1)))) x2 → isO E G7 (gR G7 x0 3) 14 ∧ (vp_in x1 (gN G7 (gR G7 x0 3)) ∧ (vp_in x1 (gN G7 (gR G7 x0 3)) ∧ (∀ G12 : AH, G12 = sI G7 (gR G7 x0 3) (Int32.toNatClampNeg x1) ((gI G7 (gR G7 x0 3) (Int32.toNatClampNeg x1)) + 1) → Q none G12))))))) ∧ (¬ ((gI G (gR G x0 3) (Int32.toNatClampNeg x1)) < 24) → Q none G))))))) : wp E d M_X3_tell 0 [some (vr x0), some (vi x1), some (vj x2), none] [] G Q := by
  refine wp_iload_n (pc := 0) d_X3_tell_0 rfl ?_
  refine wp_if_lt (pc := 1) (tgt := 20) d_X3_tell_1 (by decide) (fun hc => ?_) (fun hc => ?_)
  · have h := h.1 hc
    exact wp_vret (pc := 20) d_X3_tell_20 rfl h
  · have h := h.2 hc
    refine wp_iload_n (pc := 4) d_X3_tell_4 rfl ?_
    refine wp_iconst (pc := 5) (v := 4) d_X3_tell_5 rfl ?_
    refine wp_icmp_ge (pc := 6) (tgt := 20) d_X3_tell_6 (by decide) (fun hc => ?_) (fun hc => ?_)
    · have h := h.1 hc
      exact wp_vret (pc := 20) d_X3_tell_20 rfl h
    · have h := h.2 hc
      refine wp_aload_n (pc := 9) d_X3_tell_9 rfl ?_
      obtain ⟨ho1, h⟩ := h
      refine wp_getR (pc := 10) d_X3_tell_10 fl_X3_26 (fun _ _ _ => rfl) ho1 ?_
      refine wp_iload_n (pc := 13) d_X3_tell_13 rfl ?_
      obtain ⟨ho2, h⟩ := h
      obtain ⟨hi3, h⟩ := h
      refine wp_iald (pc := 14) d_X3_tell_14 ho2 hi3 ?_
      refine wp_bipush (pc := 15) (v := 24) d_X3_tell_15 rfl ?_
      refine wp_icmp_lt (pc := 17) (tgt := 21) d_X3_tell_17 (by decide) (fun hc => ?_) (fun hc => ?_)
      · have h := h.1 hc
        refine wp_aload_n (pc := 21) d_X3_tell_21 rfl ?_
        refine wp_getR (pc := 22) d_X3_tell_22 fl_X3_22 (fun _ _ _ => rfl) ho1 ?_
        refine wp_iload_n (pc := 25) d_X3_tell_25 rfl ?_
        refine wp_bipush (pc := 26) (v := 24) d_X3_tell_26 rfl ?_
        refine wp_imul (pc := 28) d_X3_tell_28 ?_
        refine wp_aload_n (pc := 29) d_X3_tell_29 rfl ?_
        refine wp_getR (pc := 30) d_X3_tell_30 fl_X3_26 (fun _ _ _ => rfl) ho1 ?_
        refine wp_iload_n (pc := 33) d_X3_tell_33 rfl ?_
        obtain ⟨hi4, h⟩ := h
        refine wp_iald (pc := 34) d_X3_tell_34 ho2 hi4 ?_
        refine wp_iadd (pc := 35) d_X3_tell_35 ?_
        refine wp_lload_n (pc := 36) d_X3_tell_36 rfl ?_
        obtain ⟨ho5, h⟩ := h
        obtain ⟨hi6, h⟩ := h
        refine wp_last (pc := 37) d_X3_tell_37 ho5 hi6 ?_
        refine wp_nm (fun G7 eG7 => ?_)
        have h := h G7 eG7
        have ho8 := isO_sJ eG7 ho1
        refine wp_aload_n (pc := 38) d_X3_tell_38 rfl ?_
        refine wp_getR (pc := 39) d_X3_tell_39 fl_X3_26 (fun _ _ _ => rfl) ho8 ?_
        refine wp_iload_n (pc := 42) d_X3_tell_42 rfl ?_
        refine wp_dup2 (pc := 43) d_X3_tell_43 (c1_i _) (c1_r _) ?_
        obtain ⟨ho9, h⟩ := h
        obtain ⟨hi10, h⟩ := h
        refine wp_iald (pc := 44) d_X3_tell_44 ho9 hi10 ?_
        refine wp_iconst (pc := 45) (v := 1) d_X3_tell_45 rfl ?_
        refine wp_iadd (pc := 46) d_X3_tell_46 ?_
        obtain ⟨hi11, h⟩ := h
        refine wp_iast (pc := 47) d_X3_tell_47 ho9 hi11 ?_
        refine wp_nm (fun G12 eG12 => ?_)
        have h := h G12 eG12
        have ho13 := isO_sI eG12 ho8
        exact wp_vret (pc := 48) d_X3_tell_48 rfl h
      · have h := h.2 hc
        exact wp_vret (pc := 20) d_X3_tell_20 rfl h
theorem d_X3_letters_0 : decode prog_5_method_5_code 0 = .ok (.iconst 0, 1) := by decide +kernel
theorem d_X3_letters_1 : decode prog_5_method_5_code 1 = .ok (.istore_n 2, 1) := by decide +kernel
theorem d_X3_letters_2 : decode prog_5_method_5_code 2 = .ok (.lload_n 0, 1) := by decide +kernel
theorem d_X3_letters_3 : decode prog_5_method_5_code 3 = .ok (.lstore_n 3, 1) := by decide +kernel
theorem d_X3_letters_4 : decode prog_5_method_5_code 4 = .ok (.lload_n 3, 1) := by decide +kernel
theorem d_X3_letters_5 : decode prog_5_method_5_code 5 = .ok (.lconst 0, 1) := by decide +kernel
theorem d_X3_letters_6 : decode prog_5_method_5_code 6 = .ok (.lcmp, 1) := by decide +kernel
theorem d_X3_letters_7 : decode prog_5_method_5_code 7 = .ok (.ifCond .eq 20, 3) := by decide +kernel
theorem d_X3_letters_10 : decode prog_5_method_5_code 10 = .ok (.iload_n 2, 1) := by decide +kernel
theorem d_X3_letters_11 : decode prog_5_method_5_code 11 = .ok (.bipush 8, 2) := by decide +kernel
theorem d_X3_letters_13 : decode prog_5_method_5_code 13 = .ok (.if_icmp .ge 14, 3) := by decide +kernel
theorem d_X3_letters_16 : decode prog_5_method_5_code 16 = .ok (.iinc 2 1, 3) := by decide +kernel
theorem d_X3_letters_19 : decode prog_5_method_5_code 19 = .ok (.lload_n 3, 1) := by decide +kernel
theorem d_X3_letters_20 : decode prog_5_method_5_code 20 = .ok (.bipush 8, 2) := by decide +kernel
theorem d_X3_letters_22 : decode prog_5_method_5_code 22 = .ok (.lushr, 1) := by decide +kernel
theorem d_X3_letters_23 : decode prog_5_method_5_code 23 = .ok (.lstore_n 3, 1) := by decide +kernel
theorem d_X3_letters_24 : decode prog_5_method_5_code 24 = .ok (.goto (-20), 3) := by decide +kernel
theorem d_X3_letters_27 : decode prog_5_method_5_code 27 = .ok (.iload_n 2, 1) := by decide +kernel
theorem d_X3_letters_28 : decode prog_5_method_5_code 28 = .ok (.ireturn, 1) := by decide +kernel
theorem v_X3_letters_0 {E : EE} {d : Nat} {Q : Option AV → AH → Prop} {x0 : Int64} {G : AH} (h : wp E d M_X3_letters 4 [some (vj x0), none, some (vi 0), some (vj x0), none] [] G Q) : wp E d M_X3_letters 0 [some (vj x0), none, none, none, none] [] G Q := by
  refine wp_iconst (pc := 0) (v := 0) d_X3_letters_0 rfl ?_
  refine wp_istore_n (pc := 1) (lv' := [some (vj _), none, some (vi _), none, none]) d_X3_letters_1 (by decide) rfl ?_
  refine wp_lload_n (pc := 2) d_X3_letters_2 rfl ?_
  refine wp_lstore_n (pc := 3) (lv' := [some (vj _), none, some (vi _), some (vj _), none]) d_X3_letters_3 (by decide) rfl ?_
  refine wp_sub ?_ h
  exact ⟨rfl, ⟨rfl, ⟨rfl, trivial⟩⟩⟩
theorem v_X3_letters_4 {E : EE} {d : Nat} {Q : Option AV → AH → Prop} {x0 : Int64} {x2 : Int32} {x3 : Int64} {G : AH} (h : (x3 = 0 → Q (some (vi x2)) G) ∧ (¬ (x3 = 0) → (8 ≤ x2 → Q (some (vi x2)) G) ∧ (¬ (8 ≤ x2) → wp E d M_X3_letters 4 [some (vj x0), none, some (vi (x2 + 1)), some (vj (lushr x3 8)), none] [] G Q))) : wp E d M_X3_letters 4 [some (vj x0), none, some (vi x2), some (vj x3), none] [] G Q := by
  refine wp_lload_n (pc := 4) d_X3_letters_4 rfl ?_
  refine wp_lconst (pc := 5) (v := 0) d_X3_letters_5 rfl ?_
  refine wp_lcmp_eq (pc := 6) (tgt := 27) d_X3_letters_6 d_X3_letters_7 (by decide) (fun hc => ?_) (fun hc => ?_)
  · have h := h.1 hc
    refine wp_iload_n (pc := 27) d_X3_letters_27 rfl ?_
    exact wp_iret (pc := 28) d_X3_letters_28 rfl h
  · have h := h.2 hc
    refine wp_iload_n (pc := 10) d_X3_letters_10 rfl ?_
    refine wp_bipush (pc := 11) (v := 8) d_X3_letters_11 rfl ?_
    refine wp_icmp_ge (pc := 13) (tgt := 27) d_X3_letters_13 (by decide) (fun hc => ?_) (fun hc => ?_)
    · have h := h.1 hc
      refine wp_iload_n (pc := 27) d_X3_letters_27 rfl ?_
      exact wp_iret (pc := 28) d_X3_letters_28 rfl h
    · have h := h.2 hc
      refine wp_iinc (pc := 16) (v := 1) (lv' := [some (vj _), none, some (vi _), some (vj _), none]) d_X3_letters_16 (by decide) rfl rfl rfl ?_
      refine wp_lload_n (pc := 19) d_X3_letters_19 rfl ?_
      refine wp_bipush (pc := 20) (v := 8) d_X3_letters_20 rfl ?_
      refine wp_lushr (pc := 22) d_X3_letters_22 ?_
      refine wp_lstore_n (pc := 23) (lv' := [some (vj _), none, some (vi _), some (vj _), none]) d_X3_letters_23 (by decide) rfl ?_
      refine wp_goto (pc := 24) (tgt := 4) d_X3_letters_24 (by decide) ?_
      refine wp_sub ?_ h
      exact ⟨rfl, ⟨rfl, ⟨rfl, trivial⟩⟩⟩
