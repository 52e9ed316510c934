/-! decode rows and regions (by program): X0_init X0_sum X0_at X0_number X0_become X0_addAll X0_makeRoom X0_keep X0_addNumber X0_add X0_exchange -/
theorem d_X0_init_0 : decode prog_2_method_1_code 0 = .ok (.aload_n 0, 1) := by decide +kernel
theorem d_X0_init_1 : decode prog_2_method_1_code 1 = .ok (.invokespecial 3, 3) := by decide +kernel
theorem d_X0_init_4 : decode prog_2_method_1_code 4 = .ok (.aload_n 0, 1) := by decide +kernel
theorem d_X0_init_5 : decode prog_2_method_1_code 5 = .ok (.sipush 256, 3) := by decide +kernel
theorem d_X0_init_8 : decode prog_2_method_1_code 8 = .ok (.newarray .byte, 2) := by decide +kernel
theorem d_X0_init_10 : decode prog_2_method_1_code 10 = .ok (.putfield 11, 3) := by decide +kernel
theorem d_X0_init_13 : decode prog_2_method_1_code 13 = .ok (.aload_n 0, 1) := by decide +kernel
theorem d_X0_init_14 : decode prog_2_method_1_code 14 = .ok (.iconst 0, 1) := by decide +kernel
theorem d_X0_init_15 : decode prog_2_method_1_code 15 = .ok (.putfield 15, 3) := by decide +kernel
theorem d_X0_init_18 : decode prog_2_method_1_code 18 = .ok (.return_, 1) := by decide +kernel
theorem v_X0_init_0 {E : EE} {d : Nat} {Q : Option AV → AH → Prop} {x0 : Nat} {G : AH} (h0 : 0 < d) (h : isO E G x0 0 ∧ (eB E ≤ gT G ∧ (∀ G6 : AH, G6 = nw G 13 (Int32.toNatClampNeg 256) (Int32.toNatClampNeg 256) → ∀ G10 : AH, G10 = sR G6 x0 0 (gT G) → ∀ G13 : AH, G13 = sI G10 x0 1 0 → Q none G13))) : wp E d M_X0_init 0 [some (vr x0)] [] G Q := by
  refine wp_aload_n (pc := 0) d_X0_init_0 rfl ?_
  obtain ⟨ho1, h⟩ := h
  refine wp_objI (pc := 1) d_X0_init_1 ml_X0_3 in_obj mc_obj h0 ho1 (Nat.le_of_ble_eq_true rfl) ?_
  refine wp_aload_n (pc := 4) d_X0_init_4 rfl ?_
  refine wp_sipush (pc := 5) (v := 256) d_X0_init_5 rfl ?_
  obtain ⟨hb2, h⟩ := h
  refine wp_newa (pc := 8) (t0 := 0) (kd := 13) d_X0_init_8 rfl (fun _ q => by cases q) ac_byte (by decide) (fun _ => rfl) rfl (by decide) (by decide) (by decide) ?_
  refine wp_nm (fun G6 eG6 => ?_)
  have h := h G6 eG6
  have ho7 := isO_nwE eG6 ho1
  have hb8 := base_nwE eG6 hb2
  have ho9 := isO_newE eG6 hb2
  refine wp_putR (pc := 10) d_X0_init_10 fl_X0_11 (fun _ _ _ => rfl) (Or.inr ⟨_, rfl⟩) (Or.inl rfl) ho7 ?_
  refine wp_nm (fun G10 eG10 => ?_)
  have h := h G10 eG10
  have ho11 := isO_sR eG10 ho7
  have hb12 := base_sR eG10 hb8
  refine wp_aload_n (pc := 13) d_X0_init_13 rfl ?_
  refine wp_iconst (pc := 14) (v := 0) d_X0_init_14 rfl ?_
  refine wp_putI (pc := 15) d_X0_init_15 fl_X0_15 (fun _ _ _ => rfl) (Or.inl rfl) ho11 (okI_int _) ?_
  refine wp_nm (fun G13 eG13 => ?_)
  have h := h G13 eG13
  have ho14 := isO_sI eG13 ho11
  have hb15 := base_sI eG13 hb12
  exact wp_vret (pc := 18) d_X0_init_18 rfl h
theorem d_X0_sum_0 : decode prog_2_method_10_code 0 = .ok (.lconst 0, 1) := by decide +kernel
theorem d_X0_sum_1 : decode prog_2_method_10_code 1 = .ok (.lstore_n 3, 1) := by decide +kernel
theorem d_X0_sum_2 : decode prog_2_method_10_code 2 = .ok (.iload_n 1, 1) := by decide +kernel
theorem d_X0_sum_3 : decode prog_2_method_10_code 3 = .ok (.istore 5, 2) := by decide +kernel
theorem d_X0_sum_5 : decode prog_2_method_10_code 5 = .ok (.iload 5, 2) := by decide +kernel
theorem d_X0_sum_7 : decode prog_2_method_10_code 7 = .ok (.iload_n 2, 1) := by decide +kernel
theorem d_X0_sum_8 : decode prog_2_method_10_code 8 = .ok (.if_icmp .ge 37, 3) := by decide +kernel
theorem d_X0_sum_11 : decode prog_2_method_10_code 11 = .ok (.lload_n 3, 1) := by decide +kernel
theorem d_X0_sum_12 : decode prog_2_method_10_code 12 = .ok (.aload_n 0, 1) := by decide +kernel
theorem d_X0_sum_13 : decode prog_2_method_10_code 13 = .ok (.iload 5, 2) := by decide +kernel
theorem d_X0_sum_15 : decode prog_2_method_10_code 15 = .ok (.invokevirtual 36, 3) := by decide +kernel
theorem d_X0_sum_18 : decode prog_2_method_10_code 18 = .ok (.sipush 255, 3) := by decide +kernel
theorem d_X0_sum_21 : decode prog_2_method_10_code 21 = .ok (.iand, 1) := by decide +kernel
theorem d_X0_sum_22 : decode prog_2_method_10_code 22 = .ok (.i2l, 1) := by decide +kernel
theorem d_X0_sum_23 : decode prog_2_method_10_code 23 = .ok (.lxor, 1) := by decide +kernel
theorem d_X0_sum_24 : decode prog_2_method_10_code 24 = .ok (.lstore_n 3, 1) := by decide +kernel
theorem d_X0_sum_25 : decode prog_2_method_10_code 25 = .ok (.lload_n 3, 1) := by decide +kernel
theorem d_X0_sum_26 : decode prog_2_method_10_code 26 = .ok (.bipush 53, 2) := by decide +kernel
theorem d_X0_sum_28 : decode prog_2_method_10_code 28 = .ok (.lshl, 1) := by decide +kernel
theorem d_X0_sum_29 : decode prog_2_method_10_code 29 = .ok (.lload_n 3, 1) := by decide +kernel
theorem d_X0_sum_30 : decode prog_2_method_10_code 30 = .ok (.bipush 11, 2) := by decide +kernel
theorem d_X0_sum_32 : decode prog_2_method_10_code 32 = .ok (.lushr, 1) := by decide +kernel
theorem d_X0_sum_33 : decode prog_2_method_10_code 33 = .ok (.lor, 1) := by decide +kernel
theorem d_X0_sum_34 : decode prog_2_method_10_code 34 = .ok (.ldc2_w 40, 3) := by decide +kernel
theorem d_X0_sum_37 : decode prog_2_method_10_code 37 = .ok (.lmul, 1) := by decide +kernel
theorem d_X0_sum_38 : decode prog_2_method_10_code 38 = .ok (.lstore_n 3, 1) := by decide +kernel
theorem d_X0_sum_39 : decode prog_2_method_10_code 39 = .ok (.iinc 5 1, 3) := by decide +kernel
theorem d_X0_sum_42 : decode prog_2_method_10_code 42 = .ok (.goto (-37), 3) := by decide +kernel
theorem d_X0_sum_45 : decode prog_2_method_10_code 45 = .ok (.lload_n 3, 1) := by decide +kernel
theorem d_X0_sum_46 : decode prog_2_method_10_code 46 = .ok (.lreturn, 1) := by decide +kernel
theorem v_X0_sum_0 {E : EE} {d : Nat} {Q : Option AV → AH → Prop} {x0 : Nat} {x1 : Int32} {x2 : Int32} {G : AH} (h : wp E d M_X0_sum 5 [some (vr x0), some (vi x1), some (vi x2), some (vj 0), none, some (vi x1)] [] G Q) : wp E d M_X0_sum 0 [some (vr x0), some (vi x1), some (vi x2), none, none, none] [] G Q := by
  refine wp_lconst (pc := 0) (v := 0) d_X0_sum_0 rfl ?_
  refine wp_lstore_n (pc := 1) (lv' := [some (vr _), some (vi _), some (vi _), some (vj _), none, none]) d_X0_sum_1 (by decide) rfl ?_
  refine wp_iload_n (pc := 2) d_X0_sum_2 rfl ?_
  refine wp_istore (pc := 3) (lv' := [some (vr _), some (vi _), some (vi _), some (vj _), none, some (vi _)]) d_X0_sum_3 (by decide) rfl ?_
  refine wp_sub ?_ h
  exact ⟨rfl, ⟨rfl, ⟨rfl, ⟨rfl, ⟨rfl, trivial⟩⟩⟩⟩⟩
theorem v_X0_sum_5 {E : EE} {d : Nat} {Q : Option AV → AH → Prop} {x0 : Nat} {x1 : Int32} {x2 : Int32} {x3 : Int64} {x5 : Int32} {G : AH} (h0 : 0 < d) (h : (x2 ≤ x5 → Q (some (vj x3)) G) ∧ (¬ (x2 ≤ x5) → isO E G x0 0 ∧ (wpI E (d - 1) M_X0_at [vr x0, vi x5] G (fun r1 G2 => wp E d M_X0_sum 5 [some (vr x0), some (vi x1), some (vi x2), some (vj ((((x3 ^^^ (Int32.toInt64 (r1 &&& 255))) <<< (Int32.toInt64 53 &&& 63)) ||| (lushr (x3 ^^^ (Int32.toInt64 (r1 &&& 255))) 11)) * (-4417276706812531889))), none, some (vi (x5 + 1))] [] G2 Q)))) : wp E d M_X0_sum 5 [some (vr x0), some (vi x1), some (vi x2), some (vj x3), none, some (vi x5)] [] G Q := by
  refine wp_iload (pc := 5) d_X0_sum_5 rfl ?_
  refine wp_iload_n (pc := 7) d_X0_sum_7 rfl ?_
  refine wp_icmp_ge (pc := 8) (tgt := 45) d_X0_sum_8 (by decide) (fun hc => ?_) (fun hc => ?_)
  · have h := h.1 hc
    refine wp_lload_n (pc := 45) d_X0_sum_45 rfl ?_
    exact wp_lret (pc := 46) d_X0_sum_46 rfl h
  · have h := h.2 hc
    refine wp_lload_n (pc := 11) d_X0_sum_11 rfl ?_
    refine wp_aload_n (pc := 12) d_X0_sum_12 rfl ?_
    refine wp_iload (pc := 13) d_X0_sum_13 rfl ?_
    obtain ⟨ho3, h⟩ := h
    refine wp_invV (pc := 15) (N := M_X0_at) (As := [vi _]) (rest := [vj _]) (r := (cn_0, ct_0, 2)) d_X0_sum_15 ml_X0_36 mk_X0_at mv_X0_at h0 ho3 rfl rfl (Nat.le_of_ble_eq_true rfl) ?_
    refine wpM.mono h (fun rr G2 hr => ?_)
    obtain ⟨r1, rfl, h⟩ := hr
    show wp E d M_X0_sum 18 [some (vr _), some (vi _), some (vi _), some (vj _), none, some (vi _)] [vi _, vj _] G2 Q
    refine wp_sipush (pc := 18) (v := 255) d_X0_sum_18 rfl ?_
    refine wp_iand (pc := 21) d_X0_sum_21 ?_
    refine wp_i2l (pc := 22) d_X0_sum_22 ?_
    refine wp_lxor (pc := 23) d_X0_sum_23 ?_
    refine wp_lstore_n (pc := 24) (lv' := [some (vr _), some (vi _), some (vi _), some (vj _), none, some (vi _)]) d_X0_sum_24 (by decide) rfl ?_
    refine wp_lload_n (pc := 25) d_X0_sum_25 rfl ?_
    refine wp_bipush (pc := 26) (v := 53) d_X0_sum_26 rfl ?_
    refine wp_lshl (pc := 28) d_X0_sum_28 ?_
    refine wp_lload_n (pc := 29) d_X0_sum_29 rfl ?_
    refine wp_bipush (pc := 30) (v := 11) d_X0_sum_30 rfl ?_
    refine wp_lushr (pc := 32) d_X0_sum_32 ?_
    refine wp_lor (pc := 33) d_X0_sum_33 ?_
    refine wp_ldc2 (pc := 34) (v := (-4417276706812531889)) d_X0_sum_34 cj_X0_40 ?_
    refine wp_lmul (pc := 37) d_X0_sum_37 ?_
    refine wp_lstore_n (pc := 38) (lv' := [some (vr _), some (vi _), some (vi _), some (vj _), none, some (vi _)]) d_X0_sum_38 (by decide) rfl ?_
    refine wp_iinc (pc := 39) (v := 1) (lv' := [some (vr _), some (vi _), some (vi _), some (vj _), none, some (vi _)]) d_X0_sum_39 (by decide) rfl rfl rfl ?_
    refine wp_goto (pc := 42) (tgt := 5) d_X0_sum_42 (by decide) ?_
    refine wp_sub ?_ h
    exact ⟨rfl, ⟨rfl, ⟨rfl, ⟨rfl, ⟨rfl, trivial⟩⟩⟩⟩⟩
theorem d_X0_at_0 : decode prog_2_method_2_code 0 = .ok (.iload_n 1, 1) := by decide +kernel
theorem d_X0_at_1 : decode prog_2_method_2_code 1 = .ok (.ifCond .lt 33, 3) := by decide +kernel
theorem d_X0_at_4 : decode prog_2_method_2_code 4 = .ok (.iload_n 1, 1) := by decide +kernel
theorem d_X0_at_5 : decode prog_2_method_2_code 5 = .ok (.aload_n 0, 1) := by decide +kernel
theorem d_X0_at_6 : decode prog_2_method_2_code 6 = .ok (.getfield 15, 3) := by decide +kernel
theorem d_X0_at_9 : decode prog_2_method_2_code 9 = .ok (.if_icmp .ge 25, 3) := by decide +kernel
theorem d_X0_at_12 : decode prog_2_method_2_code 12 = .ok (.iload_n 1, 1) := by decide +kernel
theorem d_X0_at_13 : decode prog_2_method_2_code 13 = .ok (.aload_n 0, 1) := by decide +kernel
theorem d_X0_at_14 : decode prog_2_method_2_code 14 = .ok (.getfield 11, 3) := by decide +kernel
theorem d_X0_at_17 : decode prog_2_method_2_code 17 = .ok (.arraylength, 1) := by decide +kernel
theorem d_X0_at_18 : decode prog_2_method_2_code 18 = .ok (.if_icmp .ge 16, 3) := by decide +kernel
theorem d_X0_at_21 : decode prog_2_method_2_code 21 = .ok (.aload_n 0, 1) := by decide +kernel
theorem d_X0_at_22 : decode prog_2_method_2_code 22 = .ok (.getfield 11, 3) := by decide +kernel
theorem d_X0_at_25 : decode prog_2_method_2_code 25 = .ok (.iload_n 1, 1) := by decide +kernel
theorem d_X0_at_26 : decode prog_2_method_2_code 26 = .ok (.baload, 1) := by decide +kernel
theorem d_X0_at_27 : decode prog_2_method_2_code 27 = .ok (.sipush 255, 3) := by decide +kernel
theorem d_X0_at_30 : decode prog_2_method_2_code 30 = .ok (.iand, 1) := by decide +kernel
theorem d_X0_at_31 : decode prog_2_method_2_code 31 = .ok (.goto 4, 3) := by decide +kernel
theorem d_X0_at_34 : decode prog_2_method_2_code 34 = .ok (.iconst (-1), 1) := by decide +kernel
theorem d_X0_at_35 : decode prog_2_method_2_code 35 = .ok (.ireturn, 1) := by decide +kernel
theorem v_X0_at_0 {E : EE} {d : Nat} {Q : Option AV → AH → Prop} {x0 : Nat} {x1 : Int32} {G : AH} (h : (x1 < 0 → Q (some (vi (-1))) G) ∧ (¬ (x1 < 0) → isO E G x0 0 ∧ (((gI G x0 1) ≤ x1 → Q (some (vi (-1))) G) ∧ (¬ ((gI G x0 1) ≤ x1) → isO E G (gR G x0 0) 13 ∧ (((nI (gN G (gR G x0 0))) ≤ x1 → Q (some (vi (-1))) G) ∧ (¬ ((nI (gN G (gR G x0 0))) ≤ x1) → vp_in x1 (gN G (gR G x0 0)) ∧ (Q (some (vi ((gI G (gR G x0 0) (Int32.toNatClampNeg x1)) &&& 255))) G))))))) : wp E d M_X0_at 0 [some (vr x0), some (vi x1)] [] G Q := by
  refine wp_iload_n (pc := 0) d_X0_at_0 rfl ?_
  refine wp_if_lt (pc := 1) (tgt := 34) d_X0_at_1 (by decide) (fun hc => ?_) (fun hc => ?_)
  · have h := h.1 hc
    refine wp_iconst (pc := 34) (v := (-1)) d_X0_at_34 rfl ?_
    exact wp_iret (pc := 35) d_X0_at_35 rfl h
  · have h := h.2 hc
    refine wp_iload_n (pc := 4) d_X0_at_4 rfl ?_
    refine wp_aload_n (pc := 5) d_X0_at_5 rfl ?_
    obtain ⟨ho1, h⟩ := h
    refine wp_getI (pc := 6) d_X0_at_6 fl_X0_15 (fun _ _ _ => rfl) ho1 ?_
    refine wp_icmp_ge (pc := 9) (tgt := 34) d_X0_at_9 (by decide) (fun hc => ?_) (fun hc => ?_)
    · have h := h.1 hc
      refine wp_iconst (pc := 34) (v := (-1)) d_X0_at_34 rfl ?_
      exact wp_iret (pc := 35) d_X0_at_35 rfl h
    · have h := h.2 hc
      refine wp_iload_n (pc := 12) d_X0_at_12 rfl ?_
      refine wp_aload_n (pc := 13) d_X0_at_13 rfl ?_
      refine wp_getR (pc := 14) d_X0_at_14 fl_X0_11 (fun _ _ _ => rfl) ho1 ?_
      obtain ⟨ho2, h⟩ := h
      refine wp_alen (pc := 17) d_X0_at_17 ho2 (by decide) rfl ?_
      refine wp_icmp_ge (pc := 18) (tgt := 34) d_X0_at_18 (by decide) (fun hc => ?_) (fun hc => ?_)
      · have h := h.1 hc
        refine wp_iconst (pc := 34) (v := (-1)) d_X0_at_34 rfl ?_
        exact wp_iret (pc := 35) d_X0_at_35 rfl h
      · have h := h.2 hc
        refine wp_aload_n (pc := 21) d_X0_at_21 rfl ?_
        refine wp_getR (pc := 22) d_X0_at_22 fl_X0_11 (fun _ _ _ => rfl) ho1 ?_
        refine wp_iload_n (pc := 25) d_X0_at_25 rfl ?_
        obtain ⟨hi3, h⟩ := h
        refine wp_bald (pc := 26) d_X0_at_26 ho2 hi3 ?_
        refine wp_sipush (pc := 27) (v := 255) d_X0_at_27 rfl ?_
        refine wp_iand (pc := 30) d_X0_at_30 ?_
        refine wp_goto (pc := 31) (tgt := 35) d_X0_at_31 (by decide) ?_
        exact wp_iret (pc := 35) d_X0_at_35 rfl h
theorem d_X0_become_0 : decode prog_2_method_8_code 0 = .ok (.aload_n 0, 1) := by decide +kernel
theorem d_X0_become_1 : decode prog_2_method_8_code 1 = .ok (.iconst 0, 1) := by decide +kernel
theorem d_X0_become_2 : decode prog_2_method_8_code 2 = .ok (.putfield 15, 3) := by decide +kernel
theorem d_X0_become_5 : decode prog_2_method_8_code 5 = .ok (.aload_n 0, 1) := by decide +kernel
theorem d_X0_become_6 : decode prog_2_method_8_code 6 = .ok (.aload_n 1, 1) := by decide +kernel
theorem d_X0_become_7 : decode prog_2_method_8_code 7 = .ok (.iload_n 2, 1) := by decide +kernel
theorem d_X0_become_8 : decode prog_2_method_8_code 8 = .ok (.iload_n 3, 1) := by decide +kernel
theorem d_X0_become_9 : decode prog_2_method_8_code 9 = .ok (.invokevirtual 32, 3) := by decide +kernel
theorem d_X0_become_12 : decode prog_2_method_8_code 12 = .ok (.return_, 1) := by decide +kernel
theorem v_X0_become_0 {E : EE} {d : Nat} {Q : Option AV → AH → Prop} {x0 : Nat} {x1 : Nat} {x2 : Int32} {x3 : Int32} {G : AH} (h0 : 0 < d) (h : isO E G x0 0 ∧ (wpV E (d - 1) M_X0_addAll [vr x0, vr x1, vi x2, vi x3] (sI G x0 1 0) (fun G2 => Q none G2))) : wp E d M_X0_become 0 [some (vr x0), some (vr x1), some (vi x2), some (vi x3)] [] G Q := by
  refine wp_aload_n (pc := 0) d_X0_become_0 rfl ?_
  refine wp_iconst (pc := 1) (v := 0) d_X0_become_1 rfl ?_
  obtain ⟨ho1, h⟩ := h
  refine wp_putI (pc := 2) d_X0_become_2 fl_X0_15 (fun _ _ _ => rfl) (Or.inl rfl) ho1 (okI_int _) ?_
  refine wp_aload_n (pc := 5) d_X0_become_5 rfl ?_
  refine wp_aload_n (pc := 6) d_X0_become_6 rfl ?_
  refine wp_iload_n (pc := 7) d_X0_become_7 rfl ?_
  refine wp_iload_n (pc := 8) d_X0_become_8 rfl ?_
  refine wp_invV (pc := 9) (N := M_X0_addAll) (As := [vr _, vi _, vi _]) (rest := []) (r := (cn_0, ct_0, 2)) d_X0_become_9 ml_X0_32 mk_X0_addAll mv_X0_addAll h0 ho1 rfl rfl (Nat.le_of_ble_eq_true rfl) ?_
  refine wpM.mono h (fun rr G2 hr => ?_)
  obtain ⟨rfl, h⟩ := hr
  show wp E d M_X0_become 12 [some (vr _), some (vr _), some (vi _), some (vi _)] [] G2 Q
  exact wp_vret (pc := 12) d_X0_become_12 rfl h
theorem d_X0_addAll_0 : decode prog_2_method_7_code 0 = .ok (.iload_n 2, 1) := by decide +kernel
theorem d_X0_addAll_1 : decode prog_2_method_7_code 1 = .ok (.ifCond .lt 17, 3) := by decide +kernel
theorem d_X0_addAll_4 : decode prog_2_method_7_code 4 = .ok (.iload_n 3, 1) := by decide +kernel
theorem d_X0_addAll_5 : decode prog_2_method_7_code 5 = .ok (.ifCond .lt 13, 3) := by decide +kernel
theorem d_X0_addAll_8 : decode prog_2_method_7_code 8 = .ok (.iload_n 2, 1) := by decide +kernel
theorem d_X0_addAll_9 : decode prog_2_method_7_code 9 = .ok (.aload_n 1, 1) := by decide +kernel
theorem d_X0_addAll_10 : decode prog_2_method_7_code 10 = .ok (.getfield 15, 3) := by decide +kernel
theorem d_X0_addAll_13 : decode prog_2_method_7_code 13 = .ok (.iload_n 3, 1) := by decide +kernel
theorem d_X0_addAll_14 : decode prog_2_method_7_code 14 = .ok (.isub, 1) := by decide +kernel
theorem d_X0_addAll_15 : decode prog_2_method_7_code 15 = .ok (.if_icmp .le 4, 3) := by decide +kernel
theorem d_X0_addAll_18 : decode prog_2_method_7_code 18 = .ok (.return_, 1) := by decide +kernel
theorem d_X0_addAll_19 : decode prog_2_method_7_code 19 = .ok (.aload_n 0, 1) := by decide +kernel
theorem d_X0_addAll_20 : decode prog_2_method_7_code 20 = .ok (.aload_n 0, 1) := by decide +kernel
theorem d_X0_addAll_21 : decode prog_2_method_7_code 21 = .ok (.getfield 15, 3) := by decide +kernel
theorem d_X0_addAll_24 : decode prog_2_method_7_code 24 = .ok (.iload_n 3, 1) := by decide +kernel
theorem d_X0_addAll_25 : decode prog_2_method_7_code 25 = .ok (.iadd, 1) := by decide +kernel
theorem d_X0_addAll_26 : decode prog_2_method_7_code 26 = .ok (.invokevirtual 19, 3) := by decide +kernel
theorem d_X0_addAll_29 : decode prog_2_method_7_code 29 = .ok (.aload_n 1, 1) := by decide +kernel
theorem d_X0_addAll_30 : decode prog_2_method_7_code 30 = .ok (.getfield 11, 3) := by decide +kernel
theorem d_X0_addAll_33 : decode prog_2_method_7_code 33 = .ok (.iload_n 2, 1) := by decide +kernel
theorem d_X0_addAll_34 : decode prog_2_method_7_code 34 = .ok (.aload_n 0, 1) := by decide +kernel
theorem d_X0_addAll_35 : decode prog_2_method_7_code 35 = .ok (.getfield 11, 3) := by decide +kernel
theorem d_X0_addAll_38 : decode prog_2_method_7_code 38 = .ok (.aload_n 0, 1) := by decide +kernel
theorem d_X0_addAll_39 : decode prog_2_method_7_code 39 = .ok (.getfield 15, 3) := by decide +kernel
theorem d_X0_addAll_42 : decode prog_2_method_7_code 42 = .ok (.iload_n 3, 1) := by decide +kernel
theorem d_X0_addAll_43 : decode prog_2_method_7_code 43 = .ok (.invokestatic 26, 3) := by decide +kernel
theorem d_X0_addAll_46 : decode prog_2_method_7_code 46 = .ok (.aload_n 0, 1) := by decide +kernel
theorem d_X0_addAll_47 : decode prog_2_method_7_code 47 = .ok (.dup, 1) := by decide +kernel
theorem d_X0_addAll_48 : decode prog_2_method_7_code 48 = .ok (.getfield 15, 3) := by decide +kernel
theorem d_X0_addAll_51 : decode prog_2_method_7_code 51 = .ok (.iload_n 3, 1) := by decide +kernel
theorem d_X0_addAll_52 : decode prog_2_method_7_code 52 = .ok (.iadd, 1) := by decide +kernel
theorem d_X0_addAll_53 : decode prog_2_method_7_code 53 = .ok (.putfield 15, 3) := by decide +kernel
theorem d_X0_addAll_56 : decode prog_2_method_7_code 56 = .ok (.return_, 1) := by decide +kernel
theorem v_X0_addAll_0 {E : EE} {d : Nat} {Q : Option AV → AH → Prop} {x0 : Nat} {x1 : Nat} {x2 : Int32} {x3 : Int32} {G : AH} (h0 : 0 < d) (h : (x2 < 0 → Q none G) ∧ (¬ (x2 < 0) → (x3 < 0 → Q none G) ∧ (¬ (x3 < 0) → isO E G x1 0 ∧ ((x2 ≤ ((gI G x1 1) - x3) → isO E G x0 0 ∧ (wpV E (d - 1) M_X0_makeRoom [vr x0, vi ((gI G x0 1) + x3)] G (fun G3 => isO E G3 x1 0 ∧ (isO E G3 x0 0 ∧ (isO E G3 (gR G3 x1 0) 13 ∧ (isO E G3 (gR G3 x0 0) 13 ∧ (¬ x2 < 0 ∧ (¬ (gI G3 x0 1) < 0 ∧ (¬ x3 < 0 ∧ ((Int32.toNatClampNeg x2) + (Int32.toNatClampNeg x3) ≤ gN G3 (gR G3 x1 0) ∧ ((Int32.toNatClampNeg (gI G3 x0 1)) + (Int32.toNatClampNeg x3) ≤ gN G3 (gR G3 x0 0) ∧ ((∀ i, i < (Int32.toNatClampNeg x3) → fits .byte (.int (gI G3 (gR G3 x1 0) ((Int32.toNatClampNeg x2) + i))) = true) ∧ (Q none (sI (cpI G3 (gR G3 x1 0) (gR G3 x0 0) (Int32.toNatClampNeg x2) (Int32.toNatClampNeg (gI G3 x0 1)) (Int32.toNatClampNeg x3)) x0 1 ((gI (cpI G3 (gR G3 x1 0) (gR G3 x0 0) (Int32.toNatClampNeg x2) (Int32.toNatClampNeg (gI G3 x0 1)) (Int32.toNatClampNeg x3)) x0 1) + x3))))))))))))))) ∧ (¬ (x2 ≤ ((gI G x1 1) - x3)) → Q none G))))) : wp E d M_X0_addAll 0 [some (vr x0), some (vr x1), some (vi x2), some (vi x3)] [] G Q := by
  refine wp_iload_n (pc := 0) d_X0_addAll_0 rfl ?_
  refine wp_if_lt (pc := 1) (tgt := 18) d_X0_addAll_1 (by decide) (fun hc => ?_) (fun hc => ?_)
  · have h := h.1 hc
    exact wp_vret (pc := 18) d_X0_addAll_18 rfl h
  · have h := h.2 hc
    refine wp_iload_n (pc := 4) d_X0_addAll_4 rfl ?_
    refine wp_if_lt (pc := 5) (tgt := 18) d_X0_addAll_5 (by decide) (fun hc => ?_) (fun hc => ?_)
    · have h := h.1 hc
      exact wp_vret (pc := 18) d_X0_addAll_18 rfl h
    · have h := h.2 hc
      refine wp_iload_n (pc := 8) d_X0_addAll_8 rfl ?_
      refine wp_aload_n (pc := 9) d_X0_addAll_9 rfl ?_
      obtain ⟨ho1, h⟩ := h
      refine wp_getI (pc := 10) d_X0_addAll_10 fl_X0_15 (fun _ _ _ => rfl) ho1 ?_
      refine wp_iload_n (pc := 13) d_X0_addAll_13 rfl ?_
      refine wp_isub (pc := 14) d_X0_addAll_14 ?_
      refine wp_icmp_le (pc := 15) (tgt := 19) d_X0_addAll_15 (by decide) (fun hc => ?_) (fun hc => ?_)
      · have h := h.1 hc
        refine wp_aload_n (pc := 19) d_X0_addAll_19 rfl ?_
        refine wp_aload_n (pc := 20) d_X0_addAll_20 rfl ?_
        obtain ⟨ho2, h⟩ := h
        refine wp_getI (pc := 21) d_X0_addAll_21 fl_X0_15 (fun _ _ _ => rfl) ho2 ?_
        refine wp_iload_n (pc := 24) d_X0_addAll_24 rfl ?_
        refine wp_iadd (pc := 25) d_X0_addAll_25 ?_
        refine wp_invV (pc := 26) (N := M_X0_makeRoom) (As := [vi _]) (rest := []) (r := (cn_0, ct_0, 2)) d_X0_addAll_26 ml_X0_19 mk_X0_makeRoom mv_X0_makeRoom h0 ho2 rfl rfl (Nat.le_of_ble_eq_true rfl) ?_
        refine wpM.mono h (fun rr G3 hr => ?_)
        obtain ⟨rfl, h⟩ := hr
        show wp E d M_X0_addAll 29 [some (vr _), some (vr _), some (vi _), some (vi _)] [] G3 Q
        refine wp_aload_n (pc := 29) d_X0_addAll_29 rfl ?_
        obtain ⟨ho4, h⟩ := h
        refine wp_getR (pc := 30) d_X0_addAll_30 fl_X0_11 (fun _ _ _ => rfl) ho4 ?_
        refine wp_iload_n (pc := 33) d_X0_addAll_33 rfl ?_
        refine wp_aload_n (pc := 34) d_X0_addAll_34 rfl ?_
        obtain ⟨ho5, h⟩ := h
        refine wp_getR (pc := 35) d_X0_addAll_35 fl_X0_11 (fun _ _ _ => rfl) ho5 ?_
        refine wp_aload_n (pc := 38) d_X0_addAll_38 rfl ?_
        refine wp_getI (pc := 39) d_X0_addAll_39 fl_X0_15 (fun _ _ _ => rfl) ho5 ?_
        refine wp_iload_n (pc := 42) d_X0_addAll_42 rfl ?_
        obtain ⟨ho6, h⟩ := h
        obtain ⟨ho7, h⟩ := h
        obtain ⟨hc8, h⟩ := h
        obtain ⟨hc9, h⟩ := h
        obtain ⟨hc10, h⟩ := h
        obtain ⟨hc11, h⟩ := h
        obtain ⟨hc12, h⟩ := h
        obtain ⟨hf13, h⟩ := h
        refine wp_cpy (pc := 43) (c := 13) d_X0_addAll_43 ml_X0_26 nat_cpy st_cpy ii_sys h0 (by decide) rfl rfl ho6 ho7 hc8 hc9 hc10 hc11 hc12 (fun i q => ⟨hf13 i q, fun _ q => by cases q⟩) (Nat.le_of_ble_eq_true rfl) (pd_cpI _ _ _ _ _ _) (cpy_vI (E := E) (by decide)) ?_
        refine wp_aload_n (pc := 46) d_X0_addAll_46 rfl ?_
        refine wp_dup (pc := 47) d_X0_addAll_47 (c1_r _) ?_
        refine wp_getI (pc := 48) d_X0_addAll_48 fl_X0_15 (fun _ _ _ => rfl) ho5 ?_
        refine wp_iload_n (pc := 51) d_X0_addAll_51 rfl ?_
        refine wp_iadd (pc := 52) d_X0_addAll_52 ?_
        refine wp_putI (pc := 53) d_X0_addAll_53 fl_X0_15 (fun _ _ _ => rfl) (Or.inl rfl) ho5 (okI_int _) ?_
        exact wp_vret (pc := 56) d_X0_addAll_56 rfl h
      · have h := h.2 hc
        exact wp_vret (pc := 18) d_X0_addAll_18 rfl h
theorem d_X0_makeRoom_0 : decode prog_2_method_11_code 0 = .ok (.iload_n 1, 1) := by decide +kernel
theorem d_X0_makeRoom_1 : decode prog_2_method_11_code 1 = .ok (.aload_n 0, 1) := by decide +kernel
theorem d_X0_makeRoom_2 : decode prog_2_method_11_code 2 = .ok (.getfield 11, 3) := by decide +kernel
theorem d_X0_makeRoom_5 : decode prog_2_method_11_code 5 = .ok (.arraylength, 1) := by decide +kernel
theorem d_X0_makeRoom_6 : decode prog_2_method_11_code 6 = .ok (.if_icmp .le 25, 3) := by decide +kernel
theorem d_X0_makeRoom_9 : decode prog_2_method_11_code 9 = .ok (.aload_n 0, 1) := by decide +kernel
theorem d_X0_makeRoom_10 : decode prog_2_method_11_code 10 = .ok (.aload_n 0, 1) := by decide +kernel
theorem d_X0_makeRoom_11 : decode prog_2_method_11_code 11 = .ok (.getfield 11, 3) := by decide +kernel
theorem d_X0_makeRoom_14 : decode prog_2_method_11_code 14 = .ok (.iload_n 1, 1) := by decide +kernel
theorem d_X0_makeRoom_15 : decode prog_2_method_11_code 15 = .ok (.iconst 2, 1) := by decide +kernel
theorem d_X0_makeRoom_16 : decode prog_2_method_11_code 16 = .ok (.aload_n 0, 1) := by decide +kernel
theorem d_X0_makeRoom_17 : decode prog_2_method_11_code 17 = .ok (.getfield 11, 3) := by decide +kernel
theorem d_X0_makeRoom_20 : decode prog_2_method_11_code 20 = .ok (.arraylength, 1) := by decide +kernel
theorem d_X0_makeRoom_21 : decode prog_2_method_11_code 21 = .ok (.imul, 1) := by decide +kernel
theorem d_X0_makeRoom_22 : decode prog_2_method_11_code 22 = .ok (.invokestatic 42, 3) := by decide +kernel
theorem d_X0_makeRoom_25 : decode prog_2_method_11_code 25 = .ok (.invokestatic 48, 3) := by decide +kernel
theorem d_X0_makeRoom_28 : decode prog_2_method_11_code 28 = .ok (.putfield 11, 3) := by decide +kernel
theorem d_X0_makeRoom_31 : decode prog_2_method_11_code 31 = .ok (.return_, 1) := by decide +kernel
theorem v_X0_makeRoom_0 {E : EE} {d : Nat} {Q : Option AV → AH → Prop} {x0 : Nat} {x1 : Int32} {G : AH} (h0 : 0 < d) (h : isO E G x0 0 ∧ (isO E G (gR G x0 0) 13 ∧ ((x1 ≤ (nI (gN G (gR G x0 0))) → Q none G) ∧ (¬ (x1 ≤ (nI (gN G (gR G x0 0)))) → wpR E (d - 1) M_J7_copyOf_9075b [vr (gR G x0 0), vi (imax x1 (2 * (nI (gN G (gR G x0 0)))))] G (fun r3 G4 => isO E G4 x0 0 ∧ (Q none (sR G4 x0 0 r3))))))) : wp E d M_X0_makeRoom 0 [some (vr x0), some (vi x1)] [] G Q := by
  refine wp_iload_n (pc := 0) d_X0_makeRoom_0 rfl ?_
  refine wp_aload_n (pc := 1) d_X0_makeRoom_1 rfl ?_
  obtain ⟨ho1, h⟩ := h
  refine wp_getR (pc := 2) d_X0_makeRoom_2 fl_X0_11 (fun _ _ _ => rfl) ho1 ?_
  obtain ⟨ho2, h⟩ := h
  refine wp_alen (pc := 5) d_X0_makeRoom_5 ho2 (by decide) rfl ?_
  refine wp_icmp_le (pc := 6) (tgt := 31) d_X0_makeRoom_6 (by decide) (fun hc => ?_) (fun hc => ?_)
  · have h := h.1 hc
    exact wp_vret (pc := 31) d_X0_makeRoom_31 rfl h
  · have h := h.2 hc
    refine wp_aload_n (pc := 9) d_X0_makeRoom_9 rfl ?_
    refine wp_aload_n (pc := 10) d_X0_makeRoom_10 rfl ?_
    refine wp_getR (pc := 11) d_X0_makeRoom_11 fl_X0_11 (fun _ _ _ => rfl) ho1 ?_
    refine wp_iload_n (pc := 14) d_X0_makeRoom_14 rfl ?_
    refine wp_iconst (pc := 15) (v := 2) d_X0_makeRoom_15 rfl ?_
    refine wp_aload_n (pc := 16) d_X0_makeRoom_16 rfl ?_
    refine wp_getR (pc := 17) d_X0_makeRoom_17 fl_X0_11 (fun _ _ _ => rfl) ho1 ?_
    refine wp_alen (pc := 20) d_X0_makeRoom_20 ho2 (by decide) rfl ?_
    refine wp_imul (pc := 21) d_X0_makeRoom_21 ?_
    refine wp_imax (pc := 22) d_X0_makeRoom_22 ml_X0_42 ms_imax ii_math mc_imax h0 (Nat.le_of_ble_eq_true rfl) ?_
    refine wp_invS (pc := 25) (N := M_J7_copyOf_9075b) (As := [vr _, vi _]) (rest := [vr _]) d_X0_makeRoom_25 ml_X0_48 mk_J7_copyOf_9075b ms_J7_copyOf_9075b h0 (Nat.le_of_ble_eq_true rfl) ?_
    refine wpM.mono h (fun rr G4 hr => ?_)
    obtain ⟨r3, rfl, h⟩ := hr
    show wp E d M_X0_makeRoom 28 [some (vr _), some (vi _)] [vr _, vr _] G4 Q
    obtain ⟨ho5, h⟩ := h
    refine wp_putR (pc := 28) d_X0_makeRoom_28 fl_X0_11 (fun _ _ _ => rfl) (Or.inr ⟨_, rfl⟩) (Or.inl rfl) ho5 ?_
    exact wp_vret (pc := 31) d_X0_makeRoom_31 rfl h
theorem d_X0_keep_0 : decode prog_2_method_4_code 0 = .ok (.iload_n 1, 1) := by decide +kernel
theorem d_X0_keep_1 : decode prog_2_method_4_code 1 = .ok (.ifCond .lt 16, 3) := by decide +kernel
theorem d_X0_keep_4 : decode prog_2_method_4_code 4 = .ok (.iload_n 1, 1) := by decide +kernel
theorem d_X0_keep_5 : decode prog_2_method_4_code 5 = .ok (.aload_n 0, 1) := by decide +kernel
theorem d_X0_keep_6 : decode prog_2_method_4_code 6 = .ok (.getfield 15, 3) := by decide +kernel
theorem d_X0_keep_9 : decode prog_2_method_4_code 9 = .ok (.if_icmp .ge 8, 3) := by decide +kernel
theorem d_X0_keep_12 : decode prog_2_method_4_code 12 = .ok (.aload_n 0, 1) := by decide +kernel
theorem d_X0_keep_13 : decode prog_2_method_4_code 13 = .ok (.iload_n 1, 1) := by decide +kernel
theorem d_X0_keep_14 : decode prog_2_method_4_code 14 = .ok (.putfield 15, 3) := by decide +kernel
theorem d_X0_keep_17 : decode prog_2_method_4_code 17 = .ok (.return_, 1) := by decide +kernel
theorem v_X0_keep_0 {E : EE} {d : Nat} {Q : Option AV → AH → Prop} {x0 : Nat} {x1 : Int32} {G : AH} (h : (x1 < 0 → Q none G) ∧ (¬ (x1 < 0) → isO E G x0 0 ∧ (((gI G x0 1) ≤ x1 → Q none G) ∧ (¬ ((gI G x0 1) ≤ x1) → Q none (sI G x0 1 x1))))) : wp E d M_X0_keep 0 [some (vr x0), some (vi x1)] [] G Q := by
  refine wp_iload_n (pc := 0) d_X0_keep_0 rfl ?_
  refine wp_if_lt (pc := 1) (tgt := 17) d_X0_keep_1 (by decide) (fun hc => ?_) (fun hc => ?_)
  · have h := h.1 hc
    exact wp_vret (pc := 17) d_X0_keep_17 rfl h
  · have h := h.2 hc
    refine wp_iload_n (pc := 4) d_X0_keep_4 rfl ?_
    refine wp_aload_n (pc := 5) d_X0_keep_5 rfl ?_
    obtain ⟨ho1, h⟩ := h
    refine wp_getI (pc := 6) d_X0_keep_6 fl_X0_15 (fun _ _ _ => rfl) ho1 ?_
    refine wp_icmp_ge (pc := 9) (tgt := 17) d_X0_keep_9 (by decide) (fun hc => ?_) (fun hc => ?_)
    · have h := h.1 hc
      exact wp_vret (pc := 17) d_X0_keep_17 rfl h
    · have h := h.2 hc
      refine wp_aload_n (pc := 12) d_X0_keep_12 rfl ?_
      refine wp_iload_n (pc := 13) d_X0_keep_13 rfl ?_
      refine wp_putI (pc := 14) d_X0_keep_14 fl_X0_15 (fun _ _ _ => rfl) (Or.inl rfl) ho1 (okI_int _) ?_
      exact wp_vret (pc := 17) d_X0_keep_17 rfl h
theorem d_X0_addNumber_0 : decode prog_2_method_6_code 0 = .ok (.iload_n 3, 1) := by decide +kernel
theorem d_X0_addNumber_1 : decode prog_2_method_6_code 1 = .ok (.iconst 1, 1) := by decide +kernel
theorem d_X0_addNumber_2 : decode prog_2_method_6_code 2 = .ok (.isub, 1) := by decide +kernel
theorem d_X0_addNumber_3 : decode prog_2_method_6_code 3 = .ok (.istore 4, 2) := by decide +kernel
theorem d_X0_addNumber_5 : decode prog_2_method_6_code 5 = .ok (.iload 4, 2) := by decide +kernel
theorem d_X0_addNumber_7 : decode prog_2_method_6_code 7 = .ok (.ifCond .lt 21, 3) := by decide +kernel
theorem d_X0_addNumber_10 : decode prog_2_method_6_code 10 = .ok (.aload_n 0, 1) := by decide +kernel
theorem d_X0_addNumber_11 : decode prog_2_method_6_code 11 = .ok (.lload_n 1, 1) := by decide +kernel
theorem d_X0_addNumber_12 : decode prog_2_method_6_code 12 = .ok (.bipush 8, 2) := by decide +kernel
theorem d_X0_addNumber_14 : decode prog_2_method_6_code 14 = .ok (.iload 4, 2) := by decide +kernel
theorem d_X0_addNumber_16 : decode prog_2_method_6_code 16 = .ok (.imul, 1) := by decide +kernel
theorem d_X0_addNumber_17 : decode prog_2_method_6_code 17 = .ok (.lushr, 1) := by decide +kernel
theorem d_X0_addNumber_18 : decode prog_2_method_6_code 18 = .ok (.l2i, 1) := by decide +kernel
theorem d_X0_addNumber_19 : decode prog_2_method_6_code 19 = .ok (.invokevirtual 23, 3) := by decide +kernel
theorem d_X0_addNumber_22 : decode prog_2_method_6_code 22 = .ok (.iinc 4 (-1), 3) := by decide +kernel
theorem d_X0_addNumber_25 : decode prog_2_method_6_code 25 = .ok (.goto (-20), 3) := by decide +kernel
theorem d_X0_addNumber_28 : decode prog_2_method_6_code 28 = .ok (.return_, 1) := by decide +kernel
theorem v_X0_addNumber_0 {E : EE} {d : Nat} {Q : Option AV → AH → Prop} {x0 : Nat} {x1 : Int64} {x3 : Int32} {G : AH} (h : wp E d M_X0_addNumber 5 [some (vr x0), some (vj x1), none, some (vi x3), some (vi (x3 - 1))] [] G Q) : wp E d M_X0_addNumber 0 [some (vr x0), some (vj x1), none, some (vi x3), none] [] G Q := by
  refine wp_iload_n (pc := 0) d_X0_addNumber_0 rfl ?_
  refine wp_iconst (pc := 1) (v := 1) d_X0_addNumber_1 rfl ?_
  refine wp_isub (pc := 2) d_X0_addNumber_2 ?_
  refine wp_istore (pc := 3) (lv' := [some (vr _), some (vj _), none, some (vi _), some (vi _)]) d_X0_addNumber_3 (by decide) rfl ?_
  refine wp_sub ?_ h
  exact ⟨rfl, ⟨rfl, ⟨rfl, ⟨rfl, trivial⟩⟩⟩⟩
theorem v_X0_addNumber_5 {E : EE} {d : Nat} {Q : Option AV → AH → Prop} {x0 : Nat} {x1 : Int64} {x3 : Int32} {x4 : Int32} {G : AH} (h0 : 0 < d) (h : (x4 < 0 → Q none G) ∧ (¬ (x4 < 0) → isO E G x0 0 ∧ (wpV E (d - 1) M_X0_add [vr x0, vi (Int64.toInt32 (lushr x1 (8 * x4)))] G (fun G1 => wp E d M_X0_addNumber 5 [some (vr x0), some (vj x1), none, some (vi x3), some (vi (x4 + (-1)))] [] G1 Q)))) : wp E d M_X0_addNumber 5 [some (vr x0), some (vj x1), none, some (vi x3), some (vi x4)] [] G Q := by
  refine wp_iload (pc := 5) d_X0_addNumber_5 rfl ?_
  refine wp_if_lt (pc := 7) (tgt := 28) d_X0_addNumber_7 (by decide) (fun hc => ?_) (fun hc => ?_)
  · have h := h.1 hc
    exact wp_vret (pc := 28) d_X0_addNumber_28 rfl h
  · have h := h.2 hc
    refine wp_aload_n (pc := 10) d_X0_addNumber_10 rfl ?_
    refine wp_lload_n (pc := 11) d_X0_addNumber_11 rfl ?_
    refine wp_bipush (pc := 12) (v := 8) d_X0_addNumber_12 rfl ?_
    refine wp_iload (pc := 14) d_X0_addNumber_14 rfl ?_
    refine wp_imul (pc := 16) d_X0_addNumber_16 ?_
    refine wp_lushr (pc := 17) d_X0_addNumber_17 ?_
    refine wp_l2i (pc := 18) d_X0_addNumber_18 ?_
    obtain ⟨ho2, h⟩ := h
    refine wp_invV (pc := 19) (N := M_X0_add) (As := [vi _]) (rest := []) (r := (cn_0, ct_0, 2)) d_X0_addNumber_19 ml_X0_23 mk_X0_add mv_X0_add h0 ho2 rfl rfl (Nat.le_of_ble_eq_true rfl) ?_
    refine wpM.mono h (fun rr G1 hr => ?_)
    obtain ⟨rfl, h⟩ := hr
    show wp E d M_X0_addNumber 22 [some (vr _), some (vj _), none, some (vi _), some (vi _)] [] G1 Q
    refine wp_iinc (pc := 22) (v := (-1)) (lv' := [some (vr _), some (vj _), none, some (vi _), some (vi _)]) d_X0_addNumber_22 (by decide) rfl rfl rfl ?_
    refine wp_goto (pc := 25) (tgt := 5) d_X0_addNumber_25 (by decide) ?_
    refine wp_sub ?_ h
    exact ⟨rfl, ⟨rfl, ⟨rfl, ⟨rfl, trivial⟩⟩⟩⟩
theorem d_X0_add_0 : decode prog_2_method_5_code 0 = .ok (.aload_n 0, 1) := by decide +kernel
theorem d_X0_add_1 : decode prog_2_method_5_code 1 = .ok (.aload_n 0, 1) := by decide +kernel
theorem d_X0_add_2 : decode prog_2_method_5_code 2 = .ok (.getfield 15, 3) := by decide +kernel
theorem d_X0_add_5 : decode prog_2_method_5_code 5 = .ok (.iconst 1, 1) := by decide +kernel
theorem d_X0_add_6 : decode prog_2_method_5_code 6 = .ok (.iadd, 1) := by decide +kernel
theorem d_X0_add_7 : decode prog_2_method_5_code 7 = .ok (.invokevirtual 19, 3) := by decide +kernel
theorem d_X0_add_10 : decode prog_2_method_5_code 10 = .ok (.aload_n 0, 1) := by decide +kernel
theorem d_X0_add_11 : decode prog_2_method_5_code 11 = .ok (.getfield 15, 3) := by decide +kernel
theorem d_X0_add_14 : decode prog_2_method_5_code 14 = .ok (.aload_n 0, 1) := by decide +kernel
theorem d_X0_add_15 : decode prog_2_method_5_code 15 = .ok (.getfield 11, 3) := by decide +kernel
theorem d_X0_add_18 : decode prog_2_method_5_code 18 = .ok (.arraylength, 1) := by decide +kernel
theorem d_X0_add_19 : decode prog_2_method_5_code 19 = .ok (.if_icmp .ge 21, 3) := by decide +kernel
theorem d_X0_add_22 : decode prog_2_method_5_code 22 = .ok (.aload_n 0, 1) := by decide +kernel
theorem d_X0_add_23 : decode prog_2_method_5_code 23 = .ok (.getfield 11, 3) := by decide +kernel
theorem d_X0_add_26 : decode prog_2_method_5_code 26 = .ok (.aload_n 0, 1) := by decide +kernel
theorem d_X0_add_27 : decode prog_2_method_5_code 27 = .ok (.dup, 1) := by decide +kernel
theorem d_X0_add_28 : decode prog_2_method_5_code 28 = .ok (.getfield 15, 3) := by decide +kernel
theorem d_X0_add_31 : decode prog_2_method_5_code 31 = .ok (.dup_x1, 1) := by decide +kernel
theorem d_X0_add_32 : decode prog_2_method_5_code 32 = .ok (.iconst 1, 1) := by decide +kernel
theorem d_X0_add_33 : decode prog_2_method_5_code 33 = .ok (.iadd, 1) := by decide +kernel
theorem d_X0_add_34 : decode prog_2_method_5_code 34 = .ok (.putfield 15, 3) := by decide +kernel
theorem d_X0_add_37 : decode prog_2_method_5_code 37 = .ok (.iload_n 1, 1) := by decide +kernel
theorem d_X0_add_38 : decode prog_2_method_5_code 38 = .ok (.i2b, 1) := by decide +kernel
theorem d_X0_add_39 : decode prog_2_method_5_code 39 = .ok (.bastore, 1) := by decide +kernel
theorem d_X0_add_40 : decode prog_2_method_5_code 40 = .ok (.return_, 1) := by decide +kernel
theorem v_X0_add_0 {E : EE} {d : Nat} {Q : Option AV → AH → Prop} {x0 : Nat} {x1 : Int32} {G : AH} (h0 : 0 < d) (h : isO E G x0 0 ∧ (wpV E (d - 1) M_X0_makeRoom [vr x0, vi ((gI G x0 1) + 1)] G (fun G2 => isO E G2 x0 0 ∧ (isO E G2 (gR G2 x0 0) 13 ∧ (((nI (gN G2 (gR G2 x0 0))) ≤ (gI G2 x0 1) → Q none G2) ∧ (¬ ((nI (gN G2 (gR G2 x0 0))) ≤ (gI G2 x0 1)) → ∀ G5 : AH, G5 = sI G2 x0 1 ((gI G2 x0 1) + 1) → vp_in (gI G2 x0 1) (gN G5 (gR G2 x0 0)) ∧ (∀ G9 : AH, G9 = sI G5 (gR G2 x0 0) (Int32.toNatClampNeg (gI G2 x0 1)) (i2b (i2b x1)) → Q none G9))))))) : wp E d M_X0_add 0 [some (vr x0), some (vi x1)] [] G Q := by
  refine wp_aload_n (pc := 0) d_X0_add_0 rfl ?_
  refine wp_aload_n (pc := 1) d_X0_add_1 rfl ?_
  obtain ⟨ho1, h⟩ := h
  refine wp_getI (pc := 2) d_X0_add_2 fl_X0_15 (fun _ _ _ => rfl) ho1 ?_
  refine wp_iconst (pc := 5) (v := 1) d_X0_add_5 rfl ?_
  refine wp_iadd (pc := 6) d_X0_add_6 ?_
  refine wp_invV (pc := 7) (N := M_X0_makeRoom) (As := [vi _]) (rest := []) (r := (cn_0, ct_0, 2)) d_X0_add_7 ml_X0_19 mk_X0_makeRoom mv_X0_makeRoom h0 ho1 rfl rfl (Nat.le_of_ble_eq_true rfl) ?_
  refine wpM.mono h (fun rr G2 hr => ?_)
  obtain ⟨rfl, h⟩ := hr
  show wp E d M_X0_add 10 [some (vr _), some (vi _)] [] G2 Q
  refine wp_aload_n (pc := 10) d_X0_add_10 rfl ?_
  obtain ⟨ho3, h⟩ := h
  refine wp_getI (pc := 11) d_X0_add_11 fl_X0_15 (fun _ _ _ => rfl) ho3 ?_
  refine wp_aload_n (pc := 14) d_X0_add_14 rfl ?_
  refine wp_getR (pc := 15) d_X0_add_15 fl_X0_11 (fun _ _ _ => rfl) ho3 ?_
  obtain ⟨ho4, h⟩ := h
  refine wp_alen (pc := 18) d_X0_add_18 ho4 (by decide) rfl ?_
  refine wp_icmp_ge (pc := 19) (tgt := 40) d_X0_add_19 (by decide) (fun hc => ?_) (fun hc => ?_)
  · have h := h.1 hc
    exact wp_vret (pc := 40) d_X0_add_40 rfl h
  · have h := h.2 hc
    refine wp_aload_n (pc := 22) d_X0_add_22 rfl ?_
    refine wp_getR (pc := 23) d_X0_add_23 fl_X0_11 (fun _ _ _ => rfl) ho3 ?_
    refine wp_aload_n (pc := 26) d_X0_add_26 rfl ?_
    refine wp_dup (pc := 27) d_X0_add_27 (c1_r _) ?_
    refine wp_getI (pc := 28) d_X0_add_28 fl_X0_15 (fun _ _ _ => rfl) ho3 ?_
    refine wp_dup_x1 (pc := 31) d_X0_add_31 (c1_i _) (c1_r _) ?_
    refine wp_iconst (pc := 32) (v := 1) d_X0_add_32 rfl ?_
    refine wp_iadd (pc := 33) d_X0_add_33 ?_
    refine wp_putI (pc := 34) d_X0_add_34 fl_X0_15 (fun _ _ _ => rfl) (Or.inl rfl) ho3 (okI_int _) ?_
    refine wp_nm (fun G5 eG5 => ?_)
    have h := h G5 eG5
    have ho6 := isO_sI eG5 ho3
    have ho7 := isO_sI eG5 ho4
    refine wp_iload_n (pc := 37) d_X0_add_37 rfl ?_
    refine wp_i2b (pc := 38) d_X0_add_38 ?_
    obtain ⟨hi8, h⟩ := h
    refine wp_bast (pc := 39) d_X0_add_39 ho7 hi8 ?_
    refine wp_nm (fun G9 eG9 => ?_)
    have h := h G9 eG9
    have ho10 := isO_sI eG9 ho6
    exact wp_vret (pc := 40) d_X0_add_40 rfl h
