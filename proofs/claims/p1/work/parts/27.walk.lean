/-! decode rows and regions (by program): X12_aim X12_broken X12_weigh X12_pin X12_put X12_value X12_change X12_fact X12_rule X12_range X12_shown X12_letter X12_find X12_count X12_drop X12_fault X12_problem X12_tapeAt X12_spoil X12_cut X12_type -/
theorem d_X12_aim_0 : decode prog_14_method_107_code 0 = .ok (.aload_n 0, 1) := by decide +kernel
theorem d_X12_aim_1 : decode prog_14_method_107_code 1 = .ok (.iload_n 1, 1) := by decide +kernel
theorem d_X12_aim_2 : decode prog_14_method_107_code 2 = .ok (.invokevirtual 453, 3) := by decide +kernel
theorem d_X12_aim_5 : decode prog_14_method_107_code 5 = .ok (.ifCond .eq 16, 3) := by decide +kernel
theorem d_X12_aim_8 : decode prog_14_method_107_code 8 = .ok (.iload_n 2, 1) := by decide +kernel
theorem d_X12_aim_9 : decode prog_14_method_107_code 9 = .ok (.ifCond .lt 12, 3) := by decide +kernel
theorem d_X12_aim_12 : decode prog_14_method_107_code 12 = .ok (.iload_n 2, 1) := by decide +kernel
theorem d_X12_aim_13 : decode prog_14_method_107_code 13 = .ok (.aload_n 0, 1) := by decide +kernel
theorem d_X12_aim_14 : decode prog_14_method_107_code 14 = .ok (.iload_n 1, 1) := by decide +kernel
theorem d_X12_aim_15 : decode prog_14_method_107_code 15 = .ok (.invokevirtual 541, 3) := by decide +kernel
theorem d_X12_aim_18 : decode prog_14_method_107_code 18 = .ok (.if_icmp .lt 7, 3) := by decide +kernel
theorem d_X12_aim_21 : decode prog_14_method_107_code 21 = .ok (.ldc2_w 466, 3) := by decide +kernel
theorem d_X12_aim_24 : decode prog_14_method_107_code 24 = .ok (.lreturn, 1) := by decide +kernel
theorem d_X12_aim_25 : decode prog_14_method_107_code 25 = .ok (.aload_n 0, 1) := by decide +kernel
theorem d_X12_aim_26 : decode prog_14_method_107_code 26 = .ok (.iload_n 1, 1) := by decide +kernel
theorem d_X12_aim_27 : decode prog_14_method_107_code 27 = .ok (.invokevirtual 571, 3) := by decide +kernel
theorem d_X12_aim_30 : decode prog_14_method_107_code 30 = .ok (.aload_n 0, 1) := by decide +kernel
theorem d_X12_aim_31 : decode prog_14_method_107_code 31 = .ok (.getfield 155, 3) := by decide +kernel
theorem d_X12_aim_34 : decode prog_14_method_107_code 34 = .ok (.sipush 20000, 3) := by decide +kernel
theorem d_X12_aim_37 : decode prog_14_method_107_code 37 = .ok (.iload_n 2, 1) := by decide +kernel
theorem d_X12_aim_38 : decode prog_14_method_107_code 38 = .ok (.imul, 1) := by decide +kernel
theorem d_X12_aim_39 : decode prog_14_method_107_code 39 = .ok (.aload_n 0, 1) := by decide +kernel
theorem d_X12_aim_40 : decode prog_14_method_107_code 40 = .ok (.iload_n 1, 1) := by decide +kernel
theorem d_X12_aim_41 : decode prog_14_method_107_code 41 = .ok (.invokevirtual 580, 3) := by decide +kernel
theorem d_X12_aim_44 : decode prog_14_method_107_code 44 = .ok (.iadd, 1) := by decide +kernel
theorem d_X12_aim_45 : decode prog_14_method_107_code 45 = .ok (.iaload, 1) := by decide +kernel
theorem d_X12_aim_46 : decode prog_14_method_107_code 46 = .ok (.i2l, 1) := by decide +kernel
theorem d_X12_aim_47 : decode prog_14_method_107_code 47 = .ok (.lreturn, 1) := by decide +kernel
theorem v_X12_aim_0 {E : EE} {d : Nat} {Q : Option AV → AH → Prop} {x0 : Nat} {x1 : Int32} {x2 : Int32} {G : AH} (h0 : 0 < d) (h : isO E G x0 12 ∧ (wpI E (d - 1) M_X12_isProblem [vr x0, vi x1] G (fun r1 G2 => (r1 = 0 → Q (some (vj (-9223372036854775808))) G2) ∧ (¬ (r1 = 0) → (x2 < 0 → Q (some (vj (-9223372036854775808))) G2) ∧ (¬ (x2 < 0) → isO E G2 x0 12 ∧ (wpI E (d - 1) M_X12_aimsOf [vr x0, vi x1] G2 (fun r3 G4 => (x2 < r3 → isO E G4 x0 12 ∧ (wpV E (d - 1) M_X12_know [vr x0, vi x1] G4 (fun G5 => isO E G5 x0 12 ∧ (wpI E (d - 1) M_X12_handOf [vr x0, vi x1] G5 (fun r7 G8 => isO E G8 (gR G5 x0 65) 14 ∧ (vp_in ((20000 * x2) + r7) (gN G8 (gR G5 x0 65)) ∧ (Q (some (vj (Int32.toInt64 (gI G8 (gR G5 x0 65) (Int32.toNatClampNeg ((20000 * x2) + r7)))))) G8))))))) ∧ (¬ (x2 < r3) → Q (some (vj (-9223372036854775808))) G4)))))))) : wp E d M_X12_aim 0 [some (vr x0), some (vi x1), some (vi x2)] [] G Q := by
  refine wp_aload_n (pc := 0) d_X12_aim_0 rfl ?_
  refine wp_iload_n (pc := 1) d_X12_aim_1 rfl ?_
  obtain ⟨ho13, h⟩ := h
  refine wp_invV (pc := 2) (N := M_X12_isProblem) (As := [vi _]) (rest := []) (r := (cn_12, ct_12, 95)) d_X12_aim_2 ml_X12_453 mk_X12_isProblem mv_X12_isProblem h0 ho13 rfl rfl (Nat.le_of_ble_eq_true rfl) ?_
  refine wpM.mono h (fun rr G2 hr => ?_)
  obtain ⟨r1, rfl, h⟩ := hr
  show wp E d M_X12_aim 5 [some (vr _), some (vi _), some (vi _)] [vi _] G2 Q
  refine wp_if_eq (pc := 5) (tgt := 21) d_X12_aim_5 (by decide) (fun hc => ?_) (fun hc => ?_)
  · have h := h.1 hc
    refine wp_ldc2 (pc := 21) (v := (-9223372036854775808)) d_X12_aim_21 cj_X12_466 ?_
    exact wp_lret (pc := 24) d_X12_aim_24 rfl h
  · have h := h.2 hc
    refine wp_iload_n (pc := 8) d_X12_aim_8 rfl ?_
    refine wp_if_lt (pc := 9) (tgt := 21) d_X12_aim_9 (by decide) (fun hc => ?_) (fun hc => ?_)
    · have h := h.1 hc
      refine wp_ldc2 (pc := 21) (v := (-9223372036854775808)) d_X12_aim_21 cj_X12_466 ?_
      exact wp_lret (pc := 24) d_X12_aim_24 rfl h
    · have h := h.2 hc
      refine wp_iload_n (pc := 12) d_X12_aim_12 rfl ?_
      refine wp_aload_n (pc := 13) d_X12_aim_13 rfl ?_
      refine wp_iload_n (pc := 14) d_X12_aim_14 rfl ?_
      obtain ⟨ho12, h⟩ := h
      refine wp_invV (pc := 15) (N := M_X12_aimsOf) (As := [vi _]) (rest := [vi _]) (r := (cn_12, ct_12, 95)) d_X12_aim_15 ml_X12_541 mk_X12_aimsOf mv_X12_aimsOf h0 ho12 rfl rfl (Nat.le_of_ble_eq_true rfl) ?_
      refine wpM.mono h (fun rr G4 hr => ?_)
      obtain ⟨r3, rfl, h⟩ := hr
      show wp E d M_X12_aim 18 [some (vr _), some (vi _), some (vi _)] [vi _, vi _] G4 Q
      refine wp_icmp_lt (pc := 18) (tgt := 25) d_X12_aim_18 (by decide) (fun hc => ?_) (fun hc => ?_)
      · have h := h.1 hc
        refine wp_aload_n (pc := 25) d_X12_aim_25 rfl ?_
        refine wp_iload_n (pc := 26) d_X12_aim_26 rfl ?_
        obtain ⟨ho11, h⟩ := h
        refine wp_invV (pc := 27) (N := M_X12_know) (As := [vi _]) (rest := []) (r := (cn_12, ct_12, 95)) d_X12_aim_27 ml_X12_571 mk_X12_know mv_X12_know h0 ho11 rfl rfl (Nat.le_of_ble_eq_true rfl) ?_
        refine wpM.mono h (fun rr G5 hr => ?_)
        obtain ⟨rfl, h⟩ := hr
        show wp E d M_X12_aim 30 [some (vr _), some (vi _), some (vi _)] [] G5 Q
        refine wp_aload_n (pc := 30) d_X12_aim_30 rfl ?_
        obtain ⟨ho6, h⟩ := h
        refine wp_getR (pc := 31) d_X12_aim_31 fl_X12_155 (fun _ _ _ => rfl) ho6 ?_
        refine wp_sipush (pc := 34) (v := 20000) d_X12_aim_34 rfl ?_
        refine wp_iload_n (pc := 37) d_X12_aim_37 rfl ?_
        refine wp_imul (pc := 38) d_X12_aim_38 ?_
        refine wp_aload_n (pc := 39) d_X12_aim_39 rfl ?_
        refine wp_iload_n (pc := 40) d_X12_aim_40 rfl ?_
        refine wp_invV (pc := 41) (N := M_X12_handOf) (As := [vi _]) (rest := [vi _, vr _]) (r := (cn_12, ct_12, 95)) d_X12_aim_41 ml_X12_580 mk_X12_handOf mv_X12_handOf h0 ho6 rfl rfl (Nat.le_of_ble_eq_true rfl) ?_
        refine wpM.mono h (fun rr G8 hr => ?_)
        obtain ⟨r7, rfl, h⟩ := hr
        show wp E d M_X12_aim 44 [some (vr _), some (vi _), some (vi _)] [vi _, vi _, vr _] G8 Q
        refine wp_iadd (pc := 44) d_X12_aim_44 ?_
        obtain ⟨ho9, h⟩ := h
        obtain ⟨hi10, h⟩ := h
        refine wp_iald (pc := 45) d_X12_aim_45 ho9 hi10 ?_
        refine wp_i2l (pc := 46) d_X12_aim_46 ?_
        exact wp_lret (pc := 47) d_X12_aim_47 rfl h
      · have h := h.2 hc
        refine wp_ldc2 (pc := 21) (v := (-9223372036854775808)) d_X12_aim_21 cj_X12_466 ?_
        exact wp_lret (pc := 24) d_X12_aim_24 rfl h
theorem d_X12_broken_0 : decode prog_14_method_106_code 0 = .ok (.aload_n 0, 1) := by decide +kernel
theorem d_X12_broken_1 : decode prog_14_method_106_code 1 = .ok (.iload_n 1, 1) := by decide +kernel
theorem d_X12_broken_2 : decode prog_14_method_106_code 2 = .ok (.iload_n 2, 1) := by decide +kernel
theorem d_X12_broken_3 : decode prog_14_method_106_code 3 = .ok (.invokevirtual 568, 3) := by decide +kernel
theorem d_X12_broken_6 : decode prog_14_method_106_code 6 = .ok (.ifCond .ne 5, 3) := by decide +kernel
theorem d_X12_broken_9 : decode prog_14_method_106_code 9 = .ok (.iconst (-1), 1) := by decide +kernel
theorem d_X12_broken_10 : decode prog_14_method_106_code 10 = .ok (.ireturn, 1) := by decide +kernel
theorem d_X12_broken_11 : decode prog_14_method_106_code 11 = .ok (.aload_n 0, 1) := by decide +kernel
theorem d_X12_broken_12 : decode prog_14_method_106_code 12 = .ok (.iload_n 1, 1) := by decide +kernel
theorem d_X12_broken_13 : decode prog_14_method_106_code 13 = .ok (.invokevirtual 571, 3) := by decide +kernel
theorem d_X12_broken_16 : decode prog_14_method_106_code 16 = .ok (.aload_n 0, 1) := by decide +kernel
theorem d_X12_broken_17 : decode prog_14_method_106_code 17 = .ok (.getfield 151, 3) := by decide +kernel
theorem d_X12_broken_20 : decode prog_14_method_106_code 20 = .ok (.sipush 20000, 3) := by decide +kernel
theorem d_X12_broken_23 : decode prog_14_method_106_code 23 = .ok (.iload_n 2, 1) := by decide +kernel
theorem d_X12_broken_24 : decode prog_14_method_106_code 24 = .ok (.imul, 1) := by decide +kernel
theorem d_X12_broken_25 : decode prog_14_method_106_code 25 = .ok (.aload_n 0, 1) := by decide +kernel
theorem d_X12_broken_26 : decode prog_14_method_106_code 26 = .ok (.iload_n 1, 1) := by decide +kernel
theorem d_X12_broken_27 : decode prog_14_method_106_code 27 = .ok (.invokevirtual 580, 3) := by decide +kernel
theorem d_X12_broken_30 : decode prog_14_method_106_code 30 = .ok (.iadd, 1) := by decide +kernel
theorem d_X12_broken_31 : decode prog_14_method_106_code 31 = .ok (.iaload, 1) := by decide +kernel
theorem d_X12_broken_32 : decode prog_14_method_106_code 32 = .ok (.ireturn, 1) := by decide +kernel
theorem v_X12_broken_0 {E : EE} {d : Nat} {Q : Option AV → AH → Prop} {x0 : Nat} {x1 : Int32} {x2 : Int32} {G : AH} (h0 : 0 < d) (h : isO E G x0 12 ∧ (wpI E (d - 1) M_X12_isRule [vr x0, vi x1, vi x2] G (fun r1 G2 => (¬ r1 = 0 → isO E G2 x0 12 ∧ (wpV E (d - 1) M_X12_know [vr x0, vi x1] G2 (fun G3 => isO E G3 x0 12 ∧ (wpI E (d - 1) M_X12_handOf [vr x0, vi x1] G3 (fun r5 G6 => isO E G6 (gR G3 x0 64) 14 ∧ (vp_in ((20000 * x2) + r5) (gN G6 (gR G3 x0 64)) ∧ (Q (some (vi (gI G6 (gR G3 x0 64) (Int32.toNatClampNeg ((20000 * x2) + r5))))) G6))))))) ∧ (r1 = 0 → Q (some (vi (-1))) G2)))) : wp E d M_X12_broken 0 [some (vr x0), some (vi x1), some (vi x2)] [] G Q := by
  refine wp_aload_n (pc := 0) d_X12_broken_0 rfl ?_
  refine wp_iload_n (pc := 1) d_X12_broken_1 rfl ?_
  refine wp_iload_n (pc := 2) d_X12_broken_2 rfl ?_
  obtain ⟨ho10, h⟩ := h
  refine wp_invV (pc := 3) (N := M_X12_isRule) (As := [vi _, vi _]) (rest := []) (r := (cn_12, ct_12, 95)) d_X12_broken_3 ml_X12_568 mk_X12_isRule mv_X12_isRule h0 ho10 rfl rfl (Nat.le_of_ble_eq_true rfl) ?_
  refine wpM.mono h (fun rr G2 hr => ?_)
  obtain ⟨r1, rfl, h⟩ := hr
  show wp E d M_X12_broken 6 [some (vr _), some (vi _), some (vi _)] [vi _] G2 Q
  refine wp_if_ne (pc := 6) (tgt := 11) d_X12_broken_6 (by decide) (fun hc => ?_) (fun hc => ?_)
  · have h := h.1 hc
    refine wp_aload_n (pc := 11) d_X12_broken_11 rfl ?_
    refine wp_iload_n (pc := 12) d_X12_broken_12 rfl ?_
    obtain ⟨ho9, h⟩ := h
    refine wp_invV (pc := 13) (N := M_X12_know) (As := [vi _]) (rest := []) (r := (cn_12, ct_12, 95)) d_X12_broken_13 ml_X12_571 mk_X12_know mv_X12_know h0 ho9 rfl rfl (Nat.le_of_ble_eq_true rfl) ?_
    refine wpM.mono h (fun rr G3 hr => ?_)
    obtain ⟨rfl, h⟩ := hr
    show wp E d M_X12_broken 16 [some (vr _), some (vi _), some (vi _)] [] G3 Q
    refine wp_aload_n (pc := 16) d_X12_broken_16 rfl ?_
    obtain ⟨ho4, h⟩ := h
    refine wp_getR (pc := 17) d_X12_broken_17 fl_X12_151 (fun _ _ _ => rfl) ho4 ?_
    refine wp_sipush (pc := 20) (v := 20000) d_X12_broken_20 rfl ?_
    refine wp_iload_n (pc := 23) d_X12_broken_23 rfl ?_
    refine wp_imul (pc := 24) d_X12_broken_24 ?_
    refine wp_aload_n (pc := 25) d_X12_broken_25 rfl ?_
    refine wp_iload_n (pc := 26) d_X12_broken_26 rfl ?_
    refine wp_invV (pc := 27) (N := M_X12_handOf) (As := [vi _]) (rest := [vi _, vr _]) (r := (cn_12, ct_12, 95)) d_X12_broken_27 ml_X12_580 mk_X12_handOf mv_X12_handOf h0 ho4 rfl rfl (Nat.le_of_ble_eq_true rfl) ?_
    refine wpM.mono h (fun rr G6 hr => ?_)
    obtain ⟨r5, rfl, h⟩ := hr
    show wp E d M_X12_broken 30 [some (vr _), some (vi _), some (vi _)] [vi _, vi _, vr _] G6 Q
    refine wp_iadd (pc := 30) d_X12_broken_30 ?_
    obtain ⟨ho7, h⟩ := h
    obtain ⟨hi8, h⟩ := h
    refine wp_iald (pc := 31) d_X12_broken_31 ho7 hi8 ?_
    exact wp_iret (pc := 32) d_X12_broken_32 rfl h
  · have h := h.2 hc
    refine wp_iconst (pc := 9) (v := (-1)) d_X12_broken_9 rfl ?_
    exact wp_iret (pc := 10) d_X12_broken_10 rfl h
theorem d_X12_weigh_0 : decode prog_14_method_105_code 0 = .ok (.aload_n 0, 1) := by decide +kernel
theorem d_X12_weigh_1 : decode prog_14_method_105_code 1 = .ok (.iload_n 1, 1) := by decide +kernel
theorem d_X12_weigh_2 : decode prog_14_method_105_code 2 = .ok (.iload_n 2, 1) := by decide +kernel
theorem d_X12_weigh_3 : decode prog_14_method_105_code 3 = .ok (.invokevirtual 462, 3) := by decide +kernel
theorem d_X12_weigh_6 : decode prog_14_method_105_code 6 = .ok (.ifCond .eq 14, 3) := by decide +kernel
theorem d_X12_weigh_9 : decode prog_14_method_105_code 9 = .ok (.iload_n 3, 1) := by decide +kernel
theorem d_X12_weigh_10 : decode prog_14_method_105_code 10 = .ok (.ifCond .lt 10, 3) := by decide +kernel
theorem d_X12_weigh_13 : decode prog_14_method_105_code 13 = .ok (.iload_n 3, 1) := by decide +kernel
theorem d_X12_weigh_14 : decode prog_14_method_105_code 14 = .ok (.sipush 1000, 3) := by decide +kernel
theorem d_X12_weigh_17 : decode prog_14_method_105_code 17 = .ok (.if_icmp .le 5, 3) := by decide +kernel
theorem d_X12_weigh_20 : decode prog_14_method_105_code 20 = .ok (.iconst (-1), 1) := by decide +kernel
theorem d_X12_weigh_21 : decode prog_14_method_105_code 21 = .ok (.ireturn, 1) := by decide +kernel
theorem d_X12_weigh_22 : decode prog_14_method_105_code 22 = .ok (.aload_n 0, 1) := by decide +kernel
theorem d_X12_weigh_23 : decode prog_14_method_105_code 23 = .ok (.getfield 76, 3) := by decide +kernel
theorem d_X12_weigh_26 : decode prog_14_method_105_code 26 = .ok (.bipush 12, 2) := by decide +kernel
theorem d_X12_weigh_28 : decode prog_14_method_105_code 28 = .ok (.iload_n 1, 1) := by decide +kernel
theorem d_X12_weigh_29 : decode prog_14_method_105_code 29 = .ok (.imul, 1) := by decide +kernel
theorem d_X12_weigh_30 : decode prog_14_method_105_code 30 = .ok (.iload_n 2, 1) := by decide +kernel
theorem d_X12_weigh_31 : decode prog_14_method_105_code 31 = .ok (.iadd, 1) := by decide +kernel
theorem d_X12_weigh_32 : decode prog_14_method_105_code 32 = .ok (.iaload, 1) := by decide +kernel
theorem d_X12_weigh_33 : decode prog_14_method_105_code 33 = .ok (.istore 4, 2) := by decide +kernel
theorem d_X12_weigh_35 : decode prog_14_method_105_code 35 = .ok (.aload_n 0, 1) := by decide +kernel
theorem d_X12_weigh_36 : decode prog_14_method_105_code 36 = .ok (.getfield 76, 3) := by decide +kernel
theorem d_X12_weigh_39 : decode prog_14_method_105_code 39 = .ok (.bipush 12, 2) := by decide +kernel
theorem d_X12_weigh_41 : decode prog_14_method_105_code 41 = .ok (.iload_n 1, 1) := by decide +kernel
theorem d_X12_weigh_42 : decode prog_14_method_105_code 42 = .ok (.imul, 1) := by decide +kernel
theorem d_X12_weigh_43 : decode prog_14_method_105_code 43 = .ok (.iload_n 2, 1) := by decide +kernel
theorem d_X12_weigh_44 : decode prog_14_method_105_code 44 = .ok (.iadd, 1) := by decide +kernel
theorem d_X12_weigh_45 : decode prog_14_method_105_code 45 = .ok (.iload_n 3, 1) := by decide +kernel
theorem d_X12_weigh_46 : decode prog_14_method_105_code 46 = .ok (.iastore, 1) := by decide +kernel
theorem d_X12_weigh_47 : decode prog_14_method_105_code 47 = .ok (.iload 4, 2) := by decide +kernel
theorem d_X12_weigh_49 : decode prog_14_method_105_code 49 = .ok (.ireturn, 1) := by decide +kernel
theorem v_X12_weigh_0 {E : EE} {d : Nat} {Q : Option AV → AH → Prop} {x0 : Nat} {x1 : Int32} {x2 : Int32} {x3 : Int32} {G : AH} (h0 : 0 < d) (h : isO E G x0 12 ∧ (wpI E (d - 1) M_X12_isVar [vr x0, vi x1, vi x2] G (fun r1 G2 => (r1 = 0 → Q (some (vi (-1))) G2) ∧ (¬ (r1 = 0) → (x3 < 0 → Q (some (vi (-1))) G2) ∧ (¬ (x3 < 0) → (x3 ≤ 1000 → isO E G2 x0 12 ∧ (isO E G2 (gR G2 x0 23) 14 ∧ (vp_in ((12 * x1) + x2) (gN G2 (gR G2 x0 23)) ∧ (vp_in ((12 * x1) + x2) (gN G2 (gR G2 x0 23)) ∧ (Q (some (vi (gI G2 (gR G2 x0 23) (Int32.toNatClampNeg ((12 * x1) + x2))))) (sI G2 (gR G2 x0 23) (Int32.toNatClampNeg ((12 * x1) + x2)) x3)))))) ∧ (¬ (x3 ≤ 1000) → Q (some (vi (-1))) G2)))))) : wp E d M_X12_weigh 0 [some (vr x0), some (vi x1), some (vi x2), some (vi x3), none] [] G Q := by
  refine wp_aload_n (pc := 0) d_X12_weigh_0 rfl ?_
  refine wp_iload_n (pc := 1) d_X12_weigh_1 rfl ?_
  refine wp_iload_n (pc := 2) d_X12_weigh_2 rfl ?_
  obtain ⟨ho7, h⟩ := h
  refine wp_invV (pc := 3) (N := M_X12_isVar) (As := [vi _, vi _]) (rest := []) (r := (cn_12, ct_12, 95)) d_X12_weigh_3 ml_X12_462 mk_X12_isVar mv_X12_isVar h0 ho7 rfl rfl (Nat.le_of_ble_eq_true rfl) ?_
  refine wpM.mono h (fun rr G2 hr => ?_)
  obtain ⟨r1, rfl, h⟩ := hr
  show wp E d M_X12_weigh 6 [some (vr _), some (vi _), some (vi _), some (vi _), none] [vi _] G2 Q
  refine wp_if_eq (pc := 6) (tgt := 20) d_X12_weigh_6 (by decide) (fun hc => ?_) (fun hc => ?_)
  · have h := h.1 hc
    refine wp_iconst (pc := 20) (v := (-1)) d_X12_weigh_20 rfl ?_
    exact wp_iret (pc := 21) d_X12_weigh_21 rfl h
  · have h := h.2 hc
    refine wp_iload_n (pc := 9) d_X12_weigh_9 rfl ?_
    refine wp_if_lt (pc := 10) (tgt := 20) d_X12_weigh_10 (by decide) (fun hc => ?_) (fun hc => ?_)
    · have h := h.1 hc
      refine wp_iconst (pc := 20) (v := (-1)) d_X12_weigh_20 rfl ?_
      exact wp_iret (pc := 21) d_X12_weigh_21 rfl h
    · have h := h.2 hc
      refine wp_iload_n (pc := 13) d_X12_weigh_13 rfl ?_
      refine wp_sipush (pc := 14) (v := 1000) d_X12_weigh_14 rfl ?_
      refine wp_icmp_le (pc := 17) (tgt := 22) d_X12_weigh_17 (by decide) (fun hc => ?_) (fun hc => ?_)
      · have h := h.1 hc
        refine wp_aload_n (pc := 22) d_X12_weigh_22 rfl ?_
        obtain ⟨ho3, h⟩ := h
        refine wp_getR (pc := 23) d_X12_weigh_23 fl_X12_76 (fun _ _ _ => rfl) ho3 ?_
        refine wp_bipush (pc := 26) (v := 12) d_X12_weigh_26 rfl ?_
        refine wp_iload_n (pc := 28) d_X12_weigh_28 rfl ?_
        refine wp_imul (pc := 29) d_X12_weigh_29 ?_
        refine wp_iload_n (pc := 30) d_X12_weigh_30 rfl ?_
        refine wp_iadd (pc := 31) d_X12_weigh_31 ?_
        obtain ⟨ho4, h⟩ := h
        obtain ⟨hi5, h⟩ := h
        refine wp_iald (pc := 32) d_X12_weigh_32 ho4 hi5 ?_
        refine wp_istore (pc := 33) (lv' := [some (vr _), some (vi _), some (vi _), some (vi _), some (vi _)]) d_X12_weigh_33 (by decide) rfl ?_
        refine wp_aload_n (pc := 35) d_X12_weigh_35 rfl ?_
        refine wp_getR (pc := 36) d_X12_weigh_36 fl_X12_76 (fun _ _ _ => rfl) ho3 ?_
        refine wp_bipush (pc := 39) (v := 12) d_X12_weigh_39 rfl ?_
        refine wp_iload_n (pc := 41) d_X12_weigh_41 rfl ?_
        refine wp_imul (pc := 42) d_X12_weigh_42 ?_
        refine wp_iload_n (pc := 43) d_X12_weigh_43 rfl ?_
        refine wp_iadd (pc := 44) d_X12_weigh_44 ?_
        refine wp_iload_n (pc := 45) d_X12_weigh_45 rfl ?_
        obtain ⟨hi6, h⟩ := h
        refine wp_iast (pc := 46) d_X12_weigh_46 ho4 hi6 ?_
        refine wp_iload (pc := 47) d_X12_weigh_47 rfl ?_
        exact wp_iret (pc := 49) d_X12_weigh_49 rfl h
      · have h := h.2 hc
        refine wp_iconst (pc := 20) (v := (-1)) d_X12_weigh_20 rfl ?_
        exact wp_iret (pc := 21) d_X12_weigh_21 rfl h
theorem d_X12_pin_0 : decode prog_14_method_104_code 0 = .ok (.aload_n 0, 1) := by decide +kernel
theorem d_X12_pin_1 : decode prog_14_method_104_code 1 = .ok (.iload_n 1, 1) := by decide +kernel
theorem d_X12_pin_2 : decode prog_14_method_104_code 2 = .ok (.iload_n 2, 1) := by decide +kernel
theorem d_X12_pin_3 : decode prog_14_method_104_code 3 = .ok (.invokevirtual 462, 3) := by decide +kernel
theorem d_X12_pin_6 : decode prog_14_method_104_code 6 = .ok (.ifCond .ne 5, 3) := by decide +kernel
theorem d_X12_pin_9 : decode prog_14_method_104_code 9 = .ok (.iconst 0, 1) := by decide +kernel
theorem d_X12_pin_10 : decode prog_14_method_104_code 10 = .ok (.ireturn, 1) := by decide +kernel
theorem d_X12_pin_11 : decode prog_14_method_104_code 11 = .ok (.aload_n 0, 1) := by decide +kernel
theorem d_X12_pin_12 : decode prog_14_method_104_code 12 = .ok (.getfield 79, 3) := by decide +kernel
theorem d_X12_pin_15 : decode prog_14_method_104_code 15 = .ok (.bipush 12, 2) := by decide +kernel
theorem d_X12_pin_17 : decode prog_14_method_104_code 17 = .ok (.iload_n 1, 1) := by decide +kernel
theorem d_X12_pin_18 : decode prog_14_method_104_code 18 = .ok (.imul, 1) := by decide +kernel
theorem d_X12_pin_19 : decode prog_14_method_104_code 19 = .ok (.iload_n 2, 1) := by decide +kernel
theorem d_X12_pin_20 : decode prog_14_method_104_code 20 = .ok (.iadd, 1) := by decide +kernel
theorem d_X12_pin_21 : decode prog_14_method_104_code 21 = .ok (.baload, 1) := by decide +kernel
theorem d_X12_pin_22 : decode prog_14_method_104_code 22 = .ok (.istore 4, 2) := by decide +kernel
theorem d_X12_pin_24 : decode prog_14_method_104_code 24 = .ok (.aload_n 0, 1) := by decide +kernel
theorem d_X12_pin_25 : decode prog_14_method_104_code 25 = .ok (.getfield 79, 3) := by decide +kernel
theorem d_X12_pin_28 : decode prog_14_method_104_code 28 = .ok (.bipush 12, 2) := by decide +kernel
theorem d_X12_pin_30 : decode prog_14_method_104_code 30 = .ok (.iload_n 1, 1) := by decide +kernel
theorem d_X12_pin_31 : decode prog_14_method_104_code 31 = .ok (.imul, 1) := by decide +kernel
theorem d_X12_pin_32 : decode prog_14_method_104_code 32 = .ok (.iload_n 2, 1) := by decide +kernel
theorem d_X12_pin_33 : decode prog_14_method_104_code 33 = .ok (.iadd, 1) := by decide +kernel
theorem d_X12_pin_34 : decode prog_14_method_104_code 34 = .ok (.iload_n 3, 1) := by decide +kernel
theorem d_X12_pin_35 : decode prog_14_method_104_code 35 = .ok (.bastore, 1) := by decide +kernel
theorem d_X12_pin_36 : decode prog_14_method_104_code 36 = .ok (.iload 4, 2) := by decide +kernel
theorem d_X12_pin_38 : decode prog_14_method_104_code 38 = .ok (.ireturn, 1) := by decide +kernel
theorem v_X12_pin_0 {E : EE} {d : Nat} {Q : Option AV → AH → Prop} {x0 : Nat} {x1 : Int32} {x2 : Int32} {x3 : Int32} {G : AH} (h0 : 0 < d) (h : isO E G x0 12 ∧ (wpI E (d - 1) M_X12_isVar [vr x0, vi x1, vi x2] G (fun r1 G2 => (¬ r1 = 0 → isO E G2 x0 12 ∧ (isO E G2 (gR G2 x0 24) 16 ∧ (vp_in ((12 * x1) + x2) (gN G2 (gR G2 x0 24)) ∧ (vp_in ((12 * x1) + x2) (gN G2 (gR G2 x0 24)) ∧ (okI .boolean (gI G2 (gR G2 x0 24) (Int32.toNatClampNeg ((12 * x1) + x2))) ∧ Q (some (vi (gI G2 (gR G2 x0 24) (Int32.toNatClampNeg ((12 * x1) + x2))))) (sI G2 (gR G2 x0 24) (Int32.toNatClampNeg ((12 * x1) + x2)) (nz x3))))))) ∧ (r1 = 0 → Q (some (vi 0)) G2)))) : wp E d M_X12_pin 0 [some (vr x0), some (vi x1), some (vi x2), some (vi x3), none] [] G Q := by
  refine wp_aload_n (pc := 0) d_X12_pin_0 rfl ?_
  refine wp_iload_n (pc := 1) d_X12_pin_1 rfl ?_
  refine wp_iload_n (pc := 2) d_X12_pin_2 rfl ?_
  obtain ⟨ho7, h⟩ := h
  refine wp_invV (pc := 3) (N := M_X12_isVar) (As := [vi _, vi _]) (rest := []) (r := (cn_12, ct_12, 95)) d_X12_pin_3 ml_X12_462 mk_X12_isVar mv_X12_isVar h0 ho7 rfl rfl (Nat.le_of_ble_eq_true rfl) ?_
  refine wpM.mono h (fun rr G2 hr => ?_)
  obtain ⟨r1, rfl, h⟩ := hr
  show wp E d M_X12_pin 6 [some (vr _), some (vi _), some (vi _), some (vi _), none] [vi _] G2 Q
  refine wp_if_ne (pc := 6) (tgt := 11) d_X12_pin_6 (by decide) (fun hc => ?_) (fun hc => ?_)
  · have h := h.1 hc
    refine wp_aload_n (pc := 11) d_X12_pin_11 rfl ?_
    obtain ⟨ho3, h⟩ := h
    refine wp_getR (pc := 12) d_X12_pin_12 fl_X12_79 (fun _ _ _ => rfl) ho3 ?_
    refine wp_bipush (pc := 15) (v := 12) d_X12_pin_15 rfl ?_
    refine wp_iload_n (pc := 17) d_X12_pin_17 rfl ?_
    refine wp_imul (pc := 18) d_X12_pin_18 ?_
    refine wp_iload_n (pc := 19) d_X12_pin_19 rfl ?_
    refine wp_iadd (pc := 20) d_X12_pin_20 ?_
    obtain ⟨ho4, h⟩ := h
    obtain ⟨hi5, h⟩ := h
    refine wp_zald (pc := 21) d_X12_pin_21 ho4 hi5 ?_
    refine wp_istore (pc := 22) (lv' := [some (vr _), some (vi _), some (vi _), some (vi _), some (vi _)]) d_X12_pin_22 (by decide) rfl ?_
    refine wp_aload_n (pc := 24) d_X12_pin_24 rfl ?_
    refine wp_getR (pc := 25) d_X12_pin_25 fl_X12_79 (fun _ _ _ => rfl) ho3 ?_
    refine wp_bipush (pc := 28) (v := 12) d_X12_pin_28 rfl ?_
    refine wp_iload_n (pc := 30) d_X12_pin_30 rfl ?_
    refine wp_imul (pc := 31) d_X12_pin_31 ?_
    refine wp_iload_n (pc := 32) d_X12_pin_32 rfl ?_
    refine wp_iadd (pc := 33) d_X12_pin_33 ?_
    refine wp_iload_n (pc := 34) d_X12_pin_34 rfl ?_
    obtain ⟨hi6, h⟩ := h
    refine wp_zast (pc := 35) d_X12_pin_35 ho4 hi6 ?_
    refine wp_iload (pc := 36) d_X12_pin_36 rfl ?_
    exact wp_zret (pc := 38) d_X12_pin_38 rfl h.1.1 h.2
  · have h := h.2 hc
    refine wp_iconst (pc := 9) (v := 0) d_X12_pin_9 rfl ?_
    exact wp_zret (pc := 10) d_X12_pin_10 rfl rfl h
theorem d_X12_put_0 : decode prog_14_method_103_code 0 = .ok (.aload_n 0, 1) := by decide +kernel
theorem d_X12_put_1 : decode prog_14_method_103_code 1 = .ok (.iload_n 1, 1) := by decide +kernel
theorem d_X12_put_2 : decode prog_14_method_103_code 2 = .ok (.iload_n 2, 1) := by decide +kernel
theorem d_X12_put_3 : decode prog_14_method_103_code 3 = .ok (.invokevirtual 462, 3) := by decide +kernel
theorem d_X12_put_6 : decode prog_14_method_103_code 6 = .ok (.ifCond .eq 13, 3) := by decide +kernel
theorem d_X12_put_9 : decode prog_14_method_103_code 9 = .ok (.aload_n 0, 1) := by decide +kernel
theorem d_X12_put_10 : decode prog_14_method_103_code 10 = .ok (.iload_n 1, 1) := by decide +kernel
theorem d_X12_put_11 : decode prog_14_method_103_code 11 = .ok (.iload_n 2, 1) := by decide +kernel
theorem d_X12_put_12 : decode prog_14_method_103_code 12 = .ok (.iload_n 3, 1) := by decide +kernel
theorem d_X12_put_13 : decode prog_14_method_103_code 13 = .ok (.invokevirtual 577, 3) := by decide +kernel
theorem d_X12_put_16 : decode prog_14_method_103_code 16 = .ok (.ifCond .ge 5, 3) := by decide +kernel
theorem d_X12_put_19 : decode prog_14_method_103_code 19 = .ok (.iconst 0, 1) := by decide +kernel
theorem d_X12_put_20 : decode prog_14_method_103_code 20 = .ok (.ireturn, 1) := by decide +kernel
theorem d_X12_put_21 : decode prog_14_method_103_code 21 = .ok (.aload_n 0, 1) := by decide +kernel
theorem d_X12_put_22 : decode prog_14_method_103_code 22 = .ok (.getfield 73, 3) := by decide +kernel
theorem d_X12_put_25 : decode prog_14_method_103_code 25 = .ok (.bipush 12, 2) := by decide +kernel
theorem d_X12_put_27 : decode prog_14_method_103_code 27 = .ok (.iload_n 1, 1) := by decide +kernel
theorem d_X12_put_28 : decode prog_14_method_103_code 28 = .ok (.imul, 1) := by decide +kernel
theorem d_X12_put_29 : decode prog_14_method_103_code 29 = .ok (.iload_n 2, 1) := by decide +kernel
theorem d_X12_put_30 : decode prog_14_method_103_code 30 = .ok (.iadd, 1) := by decide +kernel
theorem d_X12_put_31 : decode prog_14_method_103_code 31 = .ok (.aload_n 0, 1) := by decide +kernel
theorem d_X12_put_32 : decode prog_14_method_103_code 32 = .ok (.iload_n 1, 1) := by decide +kernel
theorem d_X12_put_33 : decode prog_14_method_103_code 33 = .ok (.iload_n 2, 1) := by decide +kernel
theorem d_X12_put_34 : decode prog_14_method_103_code 34 = .ok (.iload_n 3, 1) := by decide +kernel
theorem d_X12_put_35 : decode prog_14_method_103_code 35 = .ok (.invokevirtual 577, 3) := by decide +kernel
theorem d_X12_put_38 : decode prog_14_method_103_code 38 = .ok (.iastore, 1) := by decide +kernel
theorem d_X12_put_39 : decode prog_14_method_103_code 39 = .ok (.iconst 1, 1) := by decide +kernel
theorem d_X12_put_40 : decode prog_14_method_103_code 40 = .ok (.ireturn, 1) := by decide +kernel
theorem v_X12_put_0 {E : EE} {d : Nat} {Q : Option AV → AH → Prop} {x0 : Nat} {x1 : Int32} {x2 : Int32} {x3 : Int32} {G : AH} (h0 : 0 < d) (h : isO E G x0 12 ∧ (wpI E (d - 1) M_X12_isVar [vr x0, vi x1, vi x2] G (fun r1 G2 => (r1 = 0 → Q (some (vi 0)) G2) ∧ (¬ (r1 = 0) → isO E G2 x0 12 ∧ (wpI E (d - 1) M_X12_placeOf [vr x0, vi x1, vi x2, vi x3] G2 (fun r3 G4 => (0 ≤ r3 → isO E G4 x0 12 ∧ (wpI E (d - 1) M_X12_placeOf [vr x0, vi x1, vi x2, vi x3] G4 (fun r6 G7 => isO E G7 (gR G4 x0 22) 14 ∧ (vp_in ((12 * x1) + x2) (gN G7 (gR G4 x0 22)) ∧ (Q (some (vi 1)) (sI G7 (gR G4 x0 22) (Int32.toNatClampNeg ((12 * x1) + x2)) r6)))))) ∧ (¬ (0 ≤ r3) → Q (some (vi 0)) G4))))))) : wp E d M_X12_put 0 [some (vr x0), some (vi x1), some (vi x2), some (vi x3)] [] G Q := by
  refine wp_aload_n (pc := 0) d_X12_put_0 rfl ?_
  refine wp_iload_n (pc := 1) d_X12_put_1 rfl ?_
  refine wp_iload_n (pc := 2) d_X12_put_2 rfl ?_
  obtain ⟨ho11, h⟩ := h
  refine wp_invV (pc := 3) (N := M_X12_isVar) (As := [vi _, vi _]) (rest := []) (r := (cn_12, ct_12, 95)) d_X12_put_3 ml_X12_462 mk_X12_isVar mv_X12_isVar h0 ho11 rfl rfl (Nat.le_of_ble_eq_true rfl) ?_
  refine wpM.mono h (fun rr G2 hr => ?_)
  obtain ⟨r1, rfl, h⟩ := hr
  show wp E d M_X12_put 6 [some (vr _), some (vi _), some (vi _), some (vi _)] [vi _] G2 Q
  refine wp_if_eq (pc := 6) (tgt := 19) d_X12_put_6 (by decide) (fun hc => ?_) (fun hc => ?_)
  · have h := h.1 hc
    refine wp_iconst (pc := 19) (v := 0) d_X12_put_19 rfl ?_
    exact wp_zret (pc := 20) d_X12_put_20 rfl rfl h
  · have h := h.2 hc
    refine wp_aload_n (pc := 9) d_X12_put_9 rfl ?_
    refine wp_iload_n (pc := 10) d_X12_put_10 rfl ?_
    refine wp_iload_n (pc := 11) d_X12_put_11 rfl ?_
    refine wp_iload_n (pc := 12) d_X12_put_12 rfl ?_
    obtain ⟨ho10, h⟩ := h
    refine wp_invV (pc := 13) (N := M_X12_placeOf) (As := [vi _, vi _, vi _]) (rest := []) (r := (cn_12, ct_12, 95)) d_X12_put_13 ml_X12_577 mk_X12_placeOf mv_X12_placeOf h0 ho10 rfl rfl (Nat.le_of_ble_eq_true rfl) ?_
    refine wpM.mono h (fun rr G4 hr => ?_)
    obtain ⟨r3, rfl, h⟩ := hr
    show wp E d M_X12_put 16 [some (vr _), some (vi _), some (vi _), some (vi _)] [vi _] G4 Q
    refine wp_if_ge (pc := 16) (tgt := 21) d_X12_put_16 (by decide) (fun hc => ?_) (fun hc => ?_)
    · have h := h.1 hc
      refine wp_aload_n (pc := 21) d_X12_put_21 rfl ?_
      obtain ⟨ho5, h⟩ := h
      refine wp_getR (pc := 22) d_X12_put_22 fl_X12_73 (fun _ _ _ => rfl) ho5 ?_
      refine wp_bipush (pc := 25) (v := 12) d_X12_put_25 rfl ?_
      refine wp_iload_n (pc := 27) d_X12_put_27 rfl ?_
      refine wp_imul (pc := 28) d_X12_put_28 ?_
      refine wp_iload_n (pc := 29) d_X12_put_29 rfl ?_
      refine wp_iadd (pc := 30) d_X12_put_30 ?_
      refine wp_aload_n (pc := 31) d_X12_put_31 rfl ?_
      refine wp_iload_n (pc := 32) d_X12_put_32 rfl ?_
      refine wp_iload_n (pc := 33) d_X12_put_33 rfl ?_
      refine wp_iload_n (pc := 34) d_X12_put_34 rfl ?_
      refine wp_invV (pc := 35) (N := M_X12_placeOf) (As := [vi _, vi _, vi _]) (rest := [vi _, vr _]) (r := (cn_12, ct_12, 95)) d_X12_put_35 ml_X12_577 mk_X12_placeOf mv_X12_placeOf h0 ho5 rfl rfl (Nat.le_of_ble_eq_true rfl) ?_
      refine wpM.mono h (fun rr G7 hr => ?_)
      obtain ⟨r6, rfl, h⟩ := hr
      show wp E d M_X12_put 38 [some (vr _), some (vi _), some (vi _), some (vi _)] [vi _, vi _, vr _] G7 Q
      obtain ⟨ho8, h⟩ := h
      obtain ⟨hi9, h⟩ := h
      refine wp_iast (pc := 38) d_X12_put_38 ho8 hi9 ?_
      refine wp_iconst (pc := 39) (v := 1) d_X12_put_39 rfl ?_
      exact wp_zret (pc := 40) d_X12_put_40 rfl rfl h
    · have h := h.2 hc
      refine wp_iconst (pc := 19) (v := 0) d_X12_put_19 rfl ?_
      exact wp_zret (pc := 20) d_X12_put_20 rfl rfl h
theorem d_X12_value_0 : decode prog_14_method_101_code 0 = .ok (.aload_n 0, 1) := by decide +kernel
theorem d_X12_value_1 : decode prog_14_method_101_code 1 = .ok (.iload_n 1, 1) := by decide +kernel
theorem d_X12_value_2 : decode prog_14_method_101_code 2 = .ok (.iload_n 2, 1) := by decide +kernel
theorem d_X12_value_3 : decode prog_14_method_101_code 3 = .ok (.invokevirtual 462, 3) := by decide +kernel
theorem d_X12_value_6 : decode prog_14_method_101_code 6 = .ok (.ifCond .eq 33, 3) := by decide +kernel
theorem d_X12_value_9 : decode prog_14_method_101_code 9 = .ok (.aload_n 0, 1) := by decide +kernel
theorem d_X12_value_10 : decode prog_14_method_101_code 10 = .ok (.getfield 70, 3) := by decide +kernel
theorem d_X12_value_13 : decode prog_14_method_101_code 13 = .ok (.bipush 20, 2) := by decide +kernel
theorem d_X12_value_15 : decode prog_14_method_101_code 15 = .ok (.bipush 12, 2) := by decide +kernel
theorem d_X12_value_17 : decode prog_14_method_101_code 17 = .ok (.iload_n 1, 1) := by decide +kernel
theorem d_X12_value_18 : decode prog_14_method_101_code 18 = .ok (.imul, 1) := by decide +kernel
theorem d_X12_value_19 : decode prog_14_method_101_code 19 = .ok (.iload_n 2, 1) := by decide +kernel
theorem d_X12_value_20 : decode prog_14_method_101_code 20 = .ok (.iadd, 1) := by decide +kernel
theorem d_X12_value_21 : decode prog_14_method_101_code 21 = .ok (.imul, 1) := by decide +kernel
theorem d_X12_value_22 : decode prog_14_method_101_code 22 = .ok (.aload_n 0, 1) := by decide +kernel
theorem d_X12_value_23 : decode prog_14_method_101_code 23 = .ok (.getfield 73, 3) := by decide +kernel
theorem d_X12_value_26 : decode prog_14_method_101_code 26 = .ok (.bipush 12, 2) := by decide +kernel
theorem d_X12_value_28 : decode prog_14_method_101_code 28 = .ok (.iload_n 1, 1) := by decide +kernel
theorem d_X12_value_29 : decode prog_14_method_101_code 29 = .ok (.imul, 1) := by decide +kernel
theorem d_X12_value_30 : decode prog_14_method_101_code 30 = .ok (.iload_n 2, 1) := by decide +kernel
theorem d_X12_value_31 : decode prog_14_method_101_code 31 = .ok (.iadd, 1) := by decide +kernel
theorem d_X12_value_32 : decode prog_14_method_101_code 32 = .ok (.iaload, 1) := by decide +kernel
theorem d_X12_value_33 : decode prog_14_method_101_code 33 = .ok (.iadd, 1) := by decide +kernel
theorem d_X12_value_34 : decode prog_14_method_101_code 34 = .ok (.iaload, 1) := by decide +kernel
theorem d_X12_value_35 : decode prog_14_method_101_code 35 = .ok (.i2l, 1) := by decide +kernel
theorem d_X12_value_36 : decode prog_14_method_101_code 36 = .ok (.goto 6, 3) := by decide +kernel
theorem d_X12_value_39 : decode prog_14_method_101_code 39 = .ok (.ldc2_w 466, 3) := by decide +kernel
theorem d_X12_value_42 : decode prog_14_method_101_code 42 = .ok (.lreturn, 1) := by decide +kernel
theorem v_X12_value_0 {E : EE} {d : Nat} {Q : Option AV → AH → Prop} {x0 : Nat} {x1 : Int32} {x2 : Int32} {G : AH} (h0 : 0 < d) (h : isO E G x0 12 ∧ (wpI E (d - 1) M_X12_isVar [vr x0, vi x1, vi x2] G (fun r1 G2 => (r1 = 0 → Q (some (vj (-9223372036854775808))) G2) ∧ (¬ (r1 = 0) → isO E G2 x0 12 ∧ (isO E G2 (gR G2 x0 22) 14 ∧ (vp_in ((12 * x1) + x2) (gN G2 (gR G2 x0 22)) ∧ (isO E G2 (gR G2 x0 21) 14 ∧ (vp_in ((20 * ((12 * x1) + x2)) + (gI G2 (gR G2 x0 22) (Int32.toNatClampNeg ((12 * x1) + x2)))) (gN G2 (gR G2 x0 21)) ∧ (Q (some (vj (Int32.toInt64 (gI G2 (gR G2 x0 21) (Int32.toNatClampNeg ((20 * ((12 * x1) + x2)) + (gI G2 (gR G2 x0 22) (Int32.toNatClampNeg ((12 * x1) + x2))))))))) G2))))))))) : wp E d M_X12_value 0 [some (vr x0), some (vi x1), some (vi x2)] [] G Q := by
  refine wp_aload_n (pc := 0) d_X12_value_0 rfl ?_
  refine wp_iload_n (pc := 1) d_X12_value_1 rfl ?_
  refine wp_iload_n (pc := 2) d_X12_value_2 rfl ?_
  obtain ⟨ho8, h⟩ := h
  refine wp_invV (pc := 3) (N := M_X12_isVar) (As := [vi _, vi _]) (rest := []) (r := (cn_12, ct_12, 95)) d_X12_value_3 ml_X12_462 mk_X12_isVar mv_X12_isVar h0 ho8 rfl rfl (Nat.le_of_ble_eq_true rfl) ?_
  refine wpM.mono h (fun rr G2 hr => ?_)
  obtain ⟨r1, rfl, h⟩ := hr
  show wp E d M_X12_value 6 [some (vr _), some (vi _), some (vi _)] [vi _] G2 Q
  refine wp_if_eq (pc := 6) (tgt := 39) d_X12_value_6 (by decide) (fun hc => ?_) (fun hc => ?_)
  · have h := h.1 hc
    refine wp_ldc2 (pc := 39) (v := (-9223372036854775808)) d_X12_value_39 cj_X12_466 ?_
    exact wp_lret (pc := 42) d_X12_value_42 rfl h
  · have h := h.2 hc
    refine wp_aload_n (pc := 9) d_X12_value_9 rfl ?_
    obtain ⟨ho3, h⟩ := h
    refine wp_getR (pc := 10) d_X12_value_10 fl_X12_70 (fun _ _ _ => rfl) ho3 ?_
    refine wp_bipush (pc := 13) (v := 20) d_X12_value_13 rfl ?_
    refine wp_bipush (pc := 15) (v := 12) d_X12_value_15 rfl ?_
    refine wp_iload_n (pc := 17) d_X12_value_17 rfl ?_
    refine wp_imul (pc := 18) d_X12_value_18 ?_
    refine wp_iload_n (pc := 19) d_X12_value_19 rfl ?_
    refine wp_iadd (pc := 20) d_X12_value_20 ?_
    refine wp_imul (pc := 21) d_X12_value_21 ?_
    refine wp_aload_n (pc := 22) d_X12_value_22 rfl ?_
    refine wp_getR (pc := 23) d_X12_value_23 fl_X12_73 (fun _ _ _ => rfl) ho3 ?_
    refine wp_bipush (pc := 26) (v := 12) d_X12_value_26 rfl ?_
    refine wp_iload_n (pc := 28) d_X12_value_28 rfl ?_
    refine wp_imul (pc := 29) d_X12_value_29 ?_
    refine wp_iload_n (pc := 30) d_X12_value_30 rfl ?_
    refine wp_iadd (pc := 31) d_X12_value_31 ?_
    obtain ⟨ho4, h⟩ := h
    obtain ⟨hi5, h⟩ := h
    refine wp_iald (pc := 32) d_X12_value_32 ho4 hi5 ?_
    refine wp_iadd (pc := 33) d_X12_value_33 ?_
    obtain ⟨ho6, h⟩ := h
    obtain ⟨hi7, h⟩ := h
    refine wp_iald (pc := 34) d_X12_value_34 ho6 hi7 ?_
    refine wp_i2l (pc := 35) d_X12_value_35 ?_
    refine wp_goto (pc := 36) (tgt := 42) d_X12_value_36 (by decide) ?_
    exact wp_lret (pc := 42) d_X12_value_42 rfl h
theorem d_X12_change_0 : decode prog_14_method_100_code 0 = .ok (.aload_n 0, 1) := by decide +kernel
theorem d_X12_change_1 : decode prog_14_method_100_code 1 = .ok (.iload_n 1, 1) := by decide +kernel
theorem d_X12_change_2 : decode prog_14_method_100_code 2 = .ok (.iload_n 2, 1) := by decide +kernel
theorem d_X12_change_3 : decode prog_14_method_100_code 3 = .ok (.invokevirtual 574, 3) := by decide +kernel
theorem d_X12_change_6 : decode prog_14_method_100_code 6 = .ok (.ifCond .eq 17, 3) := by decide +kernel
theorem d_X12_change_9 : decode prog_14_method_100_code 9 = .ok (.iload_n 3, 1) := by decide +kernel
theorem d_X12_change_10 : decode prog_14_method_100_code 10 = .ok (.sipush (-9999), 3) := by decide +kernel
theorem d_X12_change_13 : decode prog_14_method_100_code 13 = .ok (.if_icmp .lt 10, 3) := by decide +kernel
theorem d_X12_change_16 : decode prog_14_method_100_code 16 = .ok (.iload_n 3, 1) := by decide +kernel
theorem d_X12_change_17 : decode prog_14_method_100_code 17 = .ok (.sipush 9999, 3) := by decide +kernel
theorem d_X12_change_20 : decode prog_14_method_100_code 20 = .ok (.if_icmp .le 5, 3) := by decide +kernel
theorem d_X12_change_23 : decode prog_14_method_100_code 23 = .ok (.iconst 0, 1) := by decide +kernel
theorem d_X12_change_24 : decode prog_14_method_100_code 24 = .ok (.ireturn, 1) := by decide +kernel
theorem d_X12_change_25 : decode prog_14_method_100_code 25 = .ok (.aload_n 0, 1) := by decide +kernel
theorem d_X12_change_26 : decode prog_14_method_100_code 26 = .ok (.getfield 61, 3) := by decide +kernel
theorem d_X12_change_29 : decode prog_14_method_100_code 29 = .ok (.bipush 16, 2) := by decide +kernel
theorem d_X12_change_31 : decode prog_14_method_100_code 31 = .ok (.iload_n 1, 1) := by decide +kernel
theorem d_X12_change_32 : decode prog_14_method_100_code 32 = .ok (.imul, 1) := by decide +kernel
theorem d_X12_change_33 : decode prog_14_method_100_code 33 = .ok (.iload_n 2, 1) := by decide +kernel
theorem d_X12_change_34 : decode prog_14_method_100_code 34 = .ok (.iadd, 1) := by decide +kernel
theorem d_X12_change_35 : decode prog_14_method_100_code 35 = .ok (.iload_n 3, 1) := by decide +kernel
theorem d_X12_change_36 : decode prog_14_method_100_code 36 = .ok (.iastore, 1) := by decide +kernel
theorem d_X12_change_37 : decode prog_14_method_100_code 37 = .ok (.aload_n 0, 1) := by decide +kernel
theorem d_X12_change_38 : decode prog_14_method_100_code 38 = .ok (.getfield 115, 3) := by decide +kernel
theorem d_X12_change_41 : decode prog_14_method_100_code 41 = .ok (.iload_n 1, 1) := by decide +kernel
theorem d_X12_change_42 : decode prog_14_method_100_code 42 = .ok (.dup2, 1) := by decide +kernel
theorem d_X12_change_43 : decode prog_14_method_100_code 43 = .ok (.iaload, 1) := by decide +kernel
theorem d_X12_change_44 : decode prog_14_method_100_code 44 = .ok (.iconst 1, 1) := by decide +kernel
theorem d_X12_change_45 : decode prog_14_method_100_code 45 = .ok (.iadd, 1) := by decide +kernel
theorem d_X12_change_46 : decode prog_14_method_100_code 46 = .ok (.iastore, 1) := by decide +kernel
theorem d_X12_change_47 : decode prog_14_method_100_code 47 = .ok (.iconst 1, 1) := by decide +kernel
theorem d_X12_change_48 : decode prog_14_method_100_code 48 = .ok (.ireturn, 1) := by decide +kernel
theorem v_X12_change_0 {E : EE} {d : Nat} {Q : Option AV → AH → Prop} {x0 : Nat} {x1 : Int32} {x2 : Int32} {x3 : Int32} {G : AH} (h0 : 0 < d) (h : isO E G x0 12 ∧ (wpI E (d - 1) M_X12_isFact [vr x0, vi x1, vi x2] G (fun r1 G2 => (r1 = 0 → Q (some (vi 0)) G2) ∧ (¬ (r1 = 0) → (x3 < (-9999) → Q (some (vi 0)) G2) ∧ (¬ (x3 < (-9999)) → (x3 ≤ 9999 → isO E G2 x0 12 ∧ (isO E G2 (gR G2 x0 18) 14 ∧ (vp_in ((16 * x1) + x2) (gN G2 (gR G2 x0 18)) ∧ (∀ G6 : AH, G6 = sI G2 (gR G2 x0 18) (Int32.toNatClampNeg ((16 * x1) + x2)) x3 → isO E G6 (gR G6 x0 36) 14 ∧ (vp_in x1 (gN G6 (gR G6 x0 36)) ∧ (vp_in x1 (gN G6 (gR G6 x0 36)) ∧ (∀ G11 : AH, G11 = sI G6 (gR G6 x0 36) (Int32.toNatClampNeg x1) ((gI G6 (gR G6 x0 36) (Int32.toNatClampNeg x1)) + 1) → Q (some (vi 1)) G11))))))) ∧ (¬ (x3 ≤ 9999) → Q (some (vi 0)) G2)))))) : wp E d M_X12_change 0 [some (vr x0), some (vi x1), some (vi x2), some (vi x3)] [] G Q := by
  refine wp_aload_n (pc := 0) d_X12_change_0 rfl ?_
  refine wp_iload_n (pc := 1) d_X12_change_1 rfl ?_
  refine wp_iload_n (pc := 2) d_X12_change_2 rfl ?_
  obtain ⟨ho13, h⟩ := h
  refine wp_invV (pc := 3) (N := M_X12_isFact) (As := [vi _, vi _]) (rest := []) (r := (cn_12, ct_12, 95)) d_X12_change_3 ml_X12_574 mk_X12_isFact mv_X12_isFact h0 ho13 rfl rfl (Nat.le_of_ble_eq_true rfl) ?_
  refine wpM.mono h (fun rr G2 hr => ?_)
  obtain ⟨r1, rfl, h⟩ := hr
  show wp E d M_X12_change 6 [some (vr _), some (vi _), some (vi _), some (vi _)] [vi _] G2 Q
  refine wp_if_eq (pc := 6) (tgt := 23) d_X12_change_6 (by decide) (fun hc => ?_) (fun hc => ?_)
  · have h := h.1 hc
    refine wp_iconst (pc := 23) (v := 0) d_X12_change_23 rfl ?_
    exact wp_zret (pc := 24) d_X12_change_24 rfl rfl h
  · have h := h.2 hc
    refine wp_iload_n (pc := 9) d_X12_change_9 rfl ?_
    refine wp_sipush (pc := 10) (v := (-9999)) d_X12_change_10 rfl ?_
    refine wp_icmp_lt (pc := 13) (tgt := 23) d_X12_change_13 (by decide) (fun hc => ?_) (fun hc => ?_)
    · have h := h.1 hc
      refine wp_iconst (pc := 23) (v := 0) d_X12_change_23 rfl ?_
      exact wp_zret (pc := 24) d_X12_change_24 rfl rfl h
    · have h := h.2 hc
      refine wp_iload_n (pc := 16) d_X12_change_16 rfl ?_
      refine wp_sipush (pc := 17) (v := 9999) d_X12_change_17 rfl ?_
      refine wp_icmp_le (pc := 20) (tgt := 25) d_X12_change_20 (by decide) (fun hc => ?_) (fun hc => ?_)
      · have h := h.1 hc
        refine wp_aload_n (pc := 25) d_X12_change_25 rfl ?_
        obtain ⟨ho3, h⟩ := h
        refine wp_getR (pc := 26) d_X12_change_26 fl_X12_61 (fun _ _ _ => rfl) ho3 ?_
        refine wp_bipush (pc := 29) (v := 16) d_X12_change_29 rfl ?_
        refine wp_iload_n (pc := 31) d_X12_change_31 rfl ?_
        refine wp_imul (pc := 32) d_X12_change_32 ?_
        refine wp_iload_n (pc := 33) d_X12_change_33 rfl ?_
        refine wp_iadd (pc := 34) d_X12_change_34 ?_
        refine wp_iload_n (pc := 35) d_X12_change_35 rfl ?_
        obtain ⟨ho4, h⟩ := h
        obtain ⟨hi5, h⟩ := h
        refine wp_iast (pc := 36) d_X12_change_36 ho4 hi5 ?_
        refine wp_nm (fun G6 eG6 => ?_)
        have h := h G6 eG6
        have ho7 := isO_sI eG6 ho3
        refine wp_aload_n (pc := 37) d_X12_change_37 rfl ?_
        refine wp_getR (pc := 38) d_X12_change_38 fl_X12_115 (fun _ _ _ => rfl) ho7 ?_
        refine wp_iload_n (pc := 41) d_X12_change_41 rfl ?_
        refine wp_dup2 (pc := 42) d_X12_change_42 (c1_i _) (c1_r _) ?_
        obtain ⟨ho8, h⟩ := h
        obtain ⟨hi9, h⟩ := h
        refine wp_iald (pc := 43) d_X12_change_43 ho8 hi9 ?_
        refine wp_iconst (pc := 44) (v := 1) d_X12_change_44 rfl ?_
        refine wp_iadd (pc := 45) d_X12_change_45 ?_
        obtain ⟨hi10, h⟩ := h
        refine wp_iast (pc := 46) d_X12_change_46 ho8 hi10 ?_
        refine wp_nm (fun G11 eG11 => ?_)
        have h := h G11 eG11
        have ho12 := isO_sI eG11 ho7
        refine wp_iconst (pc := 47) (v := 1) d_X12_change_47 rfl ?_
        exact wp_zret (pc := 48) d_X12_change_48 rfl rfl h
      · have h := h.2 hc
        refine wp_iconst (pc := 23) (v := 0) d_X12_change_23 rfl ?_
        exact wp_zret (pc := 24) d_X12_change_24 rfl rfl h
theorem d_X12_fact_0 : decode prog_14_method_99_code 0 = .ok (.aload_n 0, 1) := by decide +kernel
theorem d_X12_fact_1 : decode prog_14_method_99_code 1 = .ok (.iload_n 1, 1) := by decide +kernel
theorem d_X12_fact_2 : decode prog_14_method_99_code 2 = .ok (.iload_n 2, 1) := by decide +kernel
theorem d_X12_fact_3 : decode prog_14_method_99_code 3 = .ok (.invokevirtual 574, 3) := by decide +kernel
theorem d_X12_fact_6 : decode prog_14_method_99_code 6 = .ok (.ifCond .eq 18, 3) := by decide +kernel
theorem d_X12_fact_9 : decode prog_14_method_99_code 9 = .ok (.aload_n 0, 1) := by decide +kernel
theorem d_X12_fact_10 : decode prog_14_method_99_code 10 = .ok (.getfield 61, 3) := by decide +kernel
theorem d_X12_fact_13 : decode prog_14_method_99_code 13 = .ok (.bipush 16, 2) := by decide +kernel
theorem d_X12_fact_15 : decode prog_14_method_99_code 15 = .ok (.iload_n 1, 1) := by decide +kernel
theorem d_X12_fact_16 : decode prog_14_method_99_code 16 = .ok (.imul, 1) := by decide +kernel
theorem d_X12_fact_17 : decode prog_14_method_99_code 17 = .ok (.iload_n 2, 1) := by decide +kernel
theorem d_X12_fact_18 : decode prog_14_method_99_code 18 = .ok (.iadd, 1) := by decide +kernel
theorem d_X12_fact_19 : decode prog_14_method_99_code 19 = .ok (.iaload, 1) := by decide +kernel
theorem d_X12_fact_20 : decode prog_14_method_99_code 20 = .ok (.i2l, 1) := by decide +kernel
theorem d_X12_fact_21 : decode prog_14_method_99_code 21 = .ok (.goto 6, 3) := by decide +kernel
theorem d_X12_fact_24 : decode prog_14_method_99_code 24 = .ok (.ldc2_w 466, 3) := by decide +kernel
theorem d_X12_fact_27 : decode prog_14_method_99_code 27 = .ok (.lreturn, 1) := by decide +kernel
theorem v_X12_fact_0 {E : EE} {d : Nat} {Q : Option AV → AH → Prop} {x0 : Nat} {x1 : Int32} {x2 : Int32} {G : AH} (h0 : 0 < d) (h : isO E G x0 12 ∧ (wpI E (d - 1) M_X12_isFact [vr x0, vi x1, vi x2] G (fun r1 G2 => (r1 = 0 → Q (some (vj (-9223372036854775808))) G2) ∧ (¬ (r1 = 0) → isO E G2 x0 12 ∧ (isO E G2 (gR G2 x0 18) 14 ∧ (vp_in ((16 * x1) + x2) (gN G2 (gR G2 x0 18)) ∧ (Q (some (vj (Int32.toInt64 (gI G2 (gR G2 x0 18) (Int32.toNatClampNeg ((16 * x1) + x2)))))) G2))))))) : wp E d M_X12_fact 0 [some (vr x0), some (vi x1), some (vi x2)] [] G Q := by
  refine wp_aload_n (pc := 0) d_X12_fact_0 rfl ?_
  refine wp_iload_n (pc := 1) d_X12_fact_1 rfl ?_
  refine wp_iload_n (pc := 2) d_X12_fact_2 rfl ?_
  obtain ⟨ho6, h⟩ := h
  refine wp_invV (pc := 3) (N := M_X12_isFact) (As := [vi _, vi _]) (rest := []) (r := (cn_12, ct_12, 95)) d_X12_fact_3 ml_X12_574 mk_X12_isFact mv_X12_isFact h0 ho6 rfl rfl (Nat.le_of_ble_eq_true rfl) ?_
  refine wpM.mono h (fun rr G2 hr => ?_)
  obtain ⟨r1, rfl, h⟩ := hr
  show wp E d M_X12_fact 6 [some (vr _), some (vi _), some (vi _)] [vi _] G2 Q
  refine wp_if_eq (pc := 6) (tgt := 24) d_X12_fact_6 (by decide) (fun hc => ?_) (fun hc => ?_)
  · have h := h.1 hc
    refine wp_ldc2 (pc := 24) (v := (-9223372036854775808)) d_X12_fact_24 cj_X12_466 ?_
    exact wp_lret (pc := 27) d_X12_fact_27 rfl h
  · have h := h.2 hc
    refine wp_aload_n (pc := 9) d_X12_fact_9 rfl ?_
    obtain ⟨ho3, h⟩ := h
    refine wp_getR (pc := 10) d_X12_fact_10 fl_X12_61 (fun _ _ _ => rfl) ho3 ?_
    refine wp_bipush (pc := 13) (v := 16) d_X12_fact_13 rfl ?_
    refine wp_iload_n (pc := 15) d_X12_fact_15 rfl ?_
    refine wp_imul (pc := 16) d_X12_fact_16 ?_
    refine wp_iload_n (pc := 17) d_X12_fact_17 rfl ?_
    refine wp_iadd (pc := 18) d_X12_fact_18 ?_
    obtain ⟨ho4, h⟩ := h
    obtain ⟨hi5, h⟩ := h
    refine wp_iald (pc := 19) d_X12_fact_19 ho4 hi5 ?_
    refine wp_i2l (pc := 20) d_X12_fact_20 ?_
    refine wp_goto (pc := 21) (tgt := 27) d_X12_fact_21 (by decide) ?_
    exact wp_lret (pc := 27) d_X12_fact_27 rfl h
theorem d_X12_rule_0 : decode prog_14_method_98_code 0 = .ok (.aload_n 0, 1) := by decide +kernel
theorem d_X12_rule_1 : decode prog_14_method_98_code 1 = .ok (.iload_n 1, 1) := by decide +kernel
theorem d_X12_rule_2 : decode prog_14_method_98_code 2 = .ok (.iload_n 2, 1) := by decide +kernel
theorem d_X12_rule_3 : decode prog_14_method_98_code 3 = .ok (.invokevirtual 568, 3) := by decide +kernel
theorem d_X12_rule_6 : decode prog_14_method_98_code 6 = .ok (.ifCond .ne 5, 3) := by decide +kernel
theorem d_X12_rule_9 : decode prog_14_method_98_code 9 = .ok (.iconst (-1), 1) := by decide +kernel
theorem d_X12_rule_10 : decode prog_14_method_98_code 10 = .ok (.ireturn, 1) := by decide +kernel
theorem d_X12_rule_11 : decode prog_14_method_98_code 11 = .ok (.iload_n 3, 1) := by decide +kernel
theorem d_X12_rule_12 : decode prog_14_method_98_code 12 = .ok (.ifCond .eq 8, 3) := by decide +kernel
theorem d_X12_rule_15 : decode prog_14_method_98_code 15 = .ok (.iload_n 3, 1) := by decide +kernel
theorem d_X12_rule_16 : decode prog_14_method_98_code 16 = .ok (.iconst 1, 1) := by decide +kernel
theorem d_X12_rule_17 : decode prog_14_method_98_code 17 = .ok (.if_icmp .ne 33, 3) := by decide +kernel
theorem d_X12_rule_50 : decode prog_14_method_98_code 50 = .ok (.iload_n 3, 1) := by decide +kernel
theorem d_X12_rule_51 : decode prog_14_method_98_code 51 = .ok (.iconst 2, 1) := by decide +kernel
theorem d_X12_rule_52 : decode prog_14_method_98_code 52 = .ok (.if_icmp .ne 84, 3) := by decide +kernel
theorem d_X12_rule_55 : decode prog_14_method_98_code 55 = .ok (.iconst 0, 1) := by decide +kernel
theorem d_X12_rule_56 : decode prog_14_method_98_code 56 = .ok (.istore 4, 2) := by decide +kernel
theorem d_X12_rule_58 : decode prog_14_method_98_code 58 = .ok (.aload_n 0, 1) := by decide +kernel
theorem d_X12_rule_59 : decode prog_14_method_98_code 59 = .ok (.getfield 94, 3) := by decide +kernel
theorem d_X12_rule_62 : decode prog_14_method_98_code 62 = .ok (.bipush 24, 2) := by decide +kernel
theorem d_X12_rule_64 : decode prog_14_method_98_code 64 = .ok (.iload_n 1, 1) := by decide +kernel
theorem d_X12_rule_65 : decode prog_14_method_98_code 65 = .ok (.imul, 1) := by decide +kernel
theorem d_X12_rule_66 : decode prog_14_method_98_code 66 = .ok (.iload_n 2, 1) := by decide +kernel
theorem d_X12_rule_67 : decode prog_14_method_98_code 67 = .ok (.iadd, 1) := by decide +kernel
theorem d_X12_rule_68 : decode prog_14_method_98_code 68 = .ok (.iaload, 1) := by decide +kernel
theorem d_X12_rule_69 : decode prog_14_method_98_code 69 = .ok (.istore 5, 2) := by decide +kernel
theorem d_X12_rule_136 : decode prog_14_method_98_code 136 = .ok (.iload_n 3, 1) := by decide +kernel
theorem d_X12_rule_137 : decode prog_14_method_98_code 137 = .ok (.iconst 3, 1) := by decide +kernel
theorem d_X12_rule_138 : decode prog_14_method_98_code 138 = .ok (.if_icmp .eq 5, 3) := by decide +kernel
theorem d_X12_rule_141 : decode prog_14_method_98_code 141 = .ok (.iconst (-1), 1) := by decide +kernel
theorem d_X12_rule_142 : decode prog_14_method_98_code 142 = .ok (.ireturn, 1) := by decide +kernel
theorem d_X12_rule_143 : decode prog_14_method_98_code 143 = .ok (.aload_n 0, 1) := by decide +kernel
theorem d_X12_rule_144 : decode prog_14_method_98_code 144 = .ok (.iload_n 1, 1) := by decide +kernel
theorem d_X12_rule_145 : decode prog_14_method_98_code 145 = .ok (.invokevirtual 571, 3) := by decide +kernel
theorem d_X12_rule_148 : decode prog_14_method_98_code 148 = .ok (.iconst 0, 1) := by decide +kernel
theorem d_X12_rule_149 : decode prog_14_method_98_code 149 = .ok (.istore 4, 2) := by decide +kernel
theorem d_X12_rule_151 : decode prog_14_method_98_code 151 = .ok (.iconst 0, 1) := by decide +kernel
theorem d_X12_rule_152 : decode prog_14_method_98_code 152 = .ok (.istore 5, 2) := by decide +kernel
theorem v_X12_rule_0 {E : EE} {d : Nat} {Q : Option AV → AH → Prop} {x0 : Nat} {x1 : Int32} {x2 : Int32} {x3 : Int32} {G : AH} (h0 : 0 < d) (h : isO E G x0 12 ∧ (wpI E (d - 1) M_X12_isRule [vr x0, vi x1, vi x2] G (fun r1 G2 => (¬ r1 = 0 → (x3 = 0 → wp E d M_X12_rule 20 [some (vr x0), some (vi x1), some (vi x2), some (vi x3), none, none] [] G2 Q) ∧ (¬ (x3 = 0) → (¬ x3 = 1 → (¬ x3 = 2 → (x3 = 3 → isO E G2 x0 12 ∧ (wpV E (d - 1) M_X12_know [vr x0, vi x1] G2 (fun G3 => wp E d M_X12_rule 154 [some (vr x0), some (vi x1), some (vi x2), some (vi x3), some (vi 0), some (vi 0)] [] G3 Q))) ∧ (¬ (x3 = 3) → Q (some (vi (-1))) G2)) ∧ (x3 = 2 → isO E G2 x0 12 ∧ (isO E G2 (gR G2 x0 29) 14 ∧ (vp_in ((24 * x1) + x2) (gN G2 (gR G2 x0 29)) ∧ (wp E d M_X12_rule 71 [some (vr x0), some (vi x1), some (vi x2), some (vi x3), some (vi 0), some (vi (gI G2 (gR G2 x0 29) (Int32.toNatClampNeg ((24 * x1) + x2))))] [] G2 Q))))) ∧ (x3 = 1 → wp E d M_X12_rule 20 [some (vr x0), some (vi x1), some (vi x2), some (vi x3), none, none] [] G2 Q))) ∧ (r1 = 0 → Q (some (vi (-1))) G2)))) : wp E d M_X12_rule 0 [some (vr x0), some (vi x1), some (vi x2), some (vi x3), none, none] [] G Q := by
  refine wp_aload_n (pc := 0) d_X12_rule_0 rfl ?_
  refine wp_iload_n (pc := 1) d_X12_rule_1 rfl ?_
  refine wp_iload_n (pc := 2) d_X12_rule_2 rfl ?_
  obtain ⟨ho8, h⟩ := h
  refine wp_invV (pc := 3) (N := M_X12_isRule) (As := [vi _, vi _]) (rest := []) (r := (cn_12, ct_12, 95)) d_X12_rule_3 ml_X12_568 mk_X12_isRule mv_X12_isRule h0 ho8 rfl rfl (Nat.le_of_ble_eq_true rfl) ?_
  refine wpM.mono h (fun rr G2 hr => ?_)
  obtain ⟨r1, rfl, h⟩ := hr
  show wp E d M_X12_rule 6 [some (vr _), some (vi _), some (vi _), some (vi _), none, none] [vi _] G2 Q
  refine wp_if_ne (pc := 6) (tgt := 11) d_X12_rule_6 (by decide) (fun hc => ?_) (fun hc => ?_)
  · have h := h.1 hc
    refine wp_iload_n (pc := 11) d_X12_rule_11 rfl ?_
    refine wp_if_eq (pc := 12) (tgt := 20) d_X12_rule_12 (by decide) (fun hc => ?_) (fun hc => ?_)
    · have h := h.1 hc
      refine wp_sub ?_ h
      exact ⟨rfl, ⟨rfl, ⟨rfl, ⟨rfl, trivial⟩⟩⟩⟩
    · have h := h.2 hc
      refine wp_iload_n (pc := 15) d_X12_rule_15 rfl ?_
      refine wp_iconst (pc := 16) (v := 1) d_X12_rule_16 rfl ?_
      refine wp_icmp_ne (pc := 17) (tgt := 50) d_X12_rule_17 (by decide) (fun hc => ?_) (fun hc => ?_)
      · have h := h.1 hc
        refine wp_iload_n (pc := 50) d_X12_rule_50 rfl ?_
        refine wp_iconst (pc := 51) (v := 2) d_X12_rule_51 rfl ?_
        refine wp_icmp_ne (pc := 52) (tgt := 136) d_X12_rule_52 (by decide) (fun hc => ?_) (fun hc => ?_)
        · have h := h.1 hc
          refine wp_iload_n (pc := 136) d_X12_rule_136 rfl ?_
          refine wp_iconst (pc := 137) (v := 3) d_X12_rule_137 rfl ?_
          refine wp_icmp_eq (pc := 138) (tgt := 143) d_X12_rule_138 (by decide) (fun hc => ?_) (fun hc => ?_)
          · have h := h.1 hc
            refine wp_aload_n (pc := 143) d_X12_rule_143 rfl ?_
            refine wp_iload_n (pc := 144) d_X12_rule_144 rfl ?_
            obtain ⟨ho4, h⟩ := h
            refine wp_invV (pc := 145) (N := M_X12_know) (As := [vi _]) (rest := []) (r := (cn_12, ct_12, 95)) d_X12_rule_145 ml_X12_571 mk_X12_know mv_X12_know h0 ho4 rfl rfl (Nat.le_of_ble_eq_true rfl) ?_
            refine wpM.mono h (fun rr G3 hr => ?_)
            obtain ⟨rfl, h⟩ := hr
            show wp E d M_X12_rule 148 [some (vr _), some (vi _), some (vi _), some (vi _), none, none] [] G3 Q
            refine wp_iconst (pc := 148) (v := 0) d_X12_rule_148 rfl ?_
            refine wp_istore (pc := 149) (lv' := [some (vr _), some (vi _), some (vi _), some (vi _), some (vi _), none]) d_X12_rule_149 (by decide) rfl ?_
            refine wp_iconst (pc := 151) (v := 0) d_X12_rule_151 rfl ?_
            refine wp_istore (pc := 152) (lv' := [some (vr _), some (vi _), some (vi _), some (vi _), some (vi _), some (vi _)]) d_X12_rule_152 (by decide) rfl ?_
            refine wp_sub ?_ h
            exact ⟨rfl, ⟨rfl, ⟨rfl, ⟨rfl, ⟨rfl, ⟨rfl, trivial⟩⟩⟩⟩⟩⟩
          · have h := h.2 hc
            refine wp_iconst (pc := 141) (v := (-1)) d_X12_rule_141 rfl ?_
            exact wp_iret (pc := 142) d_X12_rule_142 rfl h
        · have h := h.2 hc
          refine wp_iconst (pc := 55) (v := 0) d_X12_rule_55 rfl ?_
          refine wp_istore (pc := 56) (lv' := [some (vr _), some (vi _), some (vi _), some (vi _), some (vi _), none]) d_X12_rule_56 (by decide) rfl ?_
          refine wp_aload_n (pc := 58) d_X12_rule_58 rfl ?_
          obtain ⟨ho5, h⟩ := h
          refine wp_getR (pc := 59) d_X12_rule_59 fl_X12_94 (fun _ _ _ => rfl) ho5 ?_
          refine wp_bipush (pc := 62) (v := 24) d_X12_rule_62 rfl ?_
          refine wp_iload_n (pc := 64) d_X12_rule_64 rfl ?_
          refine wp_imul (pc := 65) d_X12_rule_65 ?_
          refine wp_iload_n (pc := 66) d_X12_rule_66 rfl ?_
          refine wp_iadd (pc := 67) d_X12_rule_67 ?_
          obtain ⟨ho6, h⟩ := h
          obtain ⟨hi7, h⟩ := h
          refine wp_iald (pc := 68) d_X12_rule_68 ho6 hi7 ?_
          refine wp_istore (pc := 69) (lv' := [some (vr _), some (vi _), some (vi _), some (vi _), some (vi _), some (vi _)]) d_X12_rule_69 (by decide) rfl ?_
          refine wp_sub ?_ h
          exact ⟨rfl, ⟨rfl, ⟨rfl, ⟨rfl, ⟨rfl, ⟨rfl, trivial⟩⟩⟩⟩⟩⟩
      · have h := h.2 hc
        refine wp_sub ?_ h
        exact ⟨rfl, ⟨rfl, ⟨rfl, ⟨rfl, trivial⟩⟩⟩⟩
  · have h := h.2 hc
    refine wp_iconst (pc := 9) (v := (-1)) d_X12_rule_9 rfl ?_
    exact wp_iret (pc := 10) d_X12_rule_10 rfl h
theorem d_X12_range_0 : decode prog_14_method_64_code 0 = .ok (.aload_n 0, 1) := by decide +kernel
theorem d_X12_range_1 : decode prog_14_method_64_code 1 = .ok (.iload_n 1, 1) := by decide +kernel
theorem d_X12_range_2 : decode prog_14_method_64_code 2 = .ok (.iload_n 2, 1) := by decide +kernel
theorem d_X12_range_3 : decode prog_14_method_64_code 3 = .ok (.invokevirtual 462, 3) := by decide +kernel
theorem d_X12_range_6 : decode prog_14_method_64_code 6 = .ok (.ifCond .eq 22, 3) := by decide +kernel
theorem d_X12_range_9 : decode prog_14_method_64_code 9 = .ok (.iload_n 3, 1) := by decide +kernel
theorem d_X12_range_10 : decode prog_14_method_64_code 10 = .ok (.ifCond .lt 18, 3) := by decide +kernel
theorem d_X12_range_13 : decode prog_14_method_64_code 13 = .ok (.iload_n 3, 1) := by decide +kernel
theorem d_X12_range_14 : decode prog_14_method_64_code 14 = .ok (.aload_n 0, 1) := by decide +kernel
theorem d_X12_range_15 : decode prog_14_method_64_code 15 = .ok (.getfield 64, 3) := by decide +kernel
theorem d_X12_range_18 : decode prog_14_method_64_code 18 = .ok (.bipush 12, 2) := by decide +kernel
theorem d_X12_range_20 : decode prog_14_method_64_code 20 = .ok (.iload_n 1, 1) := by decide +kernel
theorem d_X12_range_21 : decode prog_14_method_64_code 21 = .ok (.imul, 1) := by decide +kernel
theorem d_X12_range_22 : decode prog_14_method_64_code 22 = .ok (.iload_n 2, 1) := by decide +kernel
theorem d_X12_range_23 : decode prog_14_method_64_code 23 = .ok (.iadd, 1) := by decide +kernel
theorem d_X12_range_24 : decode prog_14_method_64_code 24 = .ok (.iaload, 1) := by decide +kernel
theorem d_X12_range_25 : decode prog_14_method_64_code 25 = .ok (.if_icmp .lt 9, 3) := by decide +kernel
theorem d_X12_range_28 : decode prog_14_method_64_code 28 = .ok (.ldc2_w 466, 3) := by decide +kernel
theorem d_X12_range_31 : decode prog_14_method_64_code 31 = .ok (.goto 20, 3) := by decide +kernel
theorem d_X12_range_34 : decode prog_14_method_64_code 34 = .ok (.aload_n 0, 1) := by decide +kernel
theorem d_X12_range_35 : decode prog_14_method_64_code 35 = .ok (.getfield 70, 3) := by decide +kernel
theorem d_X12_range_38 : decode prog_14_method_64_code 38 = .ok (.bipush 20, 2) := by decide +kernel
theorem d_X12_range_40 : decode prog_14_method_64_code 40 = .ok (.bipush 12, 2) := by decide +kernel
theorem d_X12_range_42 : decode prog_14_method_64_code 42 = .ok (.iload_n 1, 1) := by decide +kernel
theorem d_X12_range_43 : decode prog_14_method_64_code 43 = .ok (.imul, 1) := by decide +kernel
theorem d_X12_range_44 : decode prog_14_method_64_code 44 = .ok (.iload_n 2, 1) := by decide +kernel
theorem d_X12_range_45 : decode prog_14_method_64_code 45 = .ok (.iadd, 1) := by decide +kernel
theorem d_X12_range_46 : decode prog_14_method_64_code 46 = .ok (.imul, 1) := by decide +kernel
theorem d_X12_range_47 : decode prog_14_method_64_code 47 = .ok (.iload_n 3, 1) := by decide +kernel
theorem d_X12_range_48 : decode prog_14_method_64_code 48 = .ok (.iadd, 1) := by decide +kernel
theorem d_X12_range_49 : decode prog_14_method_64_code 49 = .ok (.iaload, 1) := by decide +kernel
theorem d_X12_range_50 : decode prog_14_method_64_code 50 = .ok (.i2l, 1) := by decide +kernel
theorem d_X12_range_51 : decode prog_14_method_64_code 51 = .ok (.lreturn, 1) := by decide +kernel
theorem v_X12_range_0 {E : EE} {d : Nat} {Q : Option AV → AH → Prop} {x0 : Nat} {x1 : Int32} {x2 : Int32} {x3 : Int32} {G : AH} (h0 : 0 < d) (h : isO E G x0 12 ∧ (wpI E (d - 1) M_X12_isVar [vr x0, vi x1, vi x2] G (fun r1 G2 => (r1 = 0 → wp E d M_X12_range 28 [some (vr x0), some (vi x1), some (vi x2), some (vi x3)] [] G2 Q) ∧ (¬ (r1 = 0) → (x3 < 0 → wp E d M_X12_range 28 [some (vr x0), some (vi x1), some (vi x2), some (vi x3)] [] G2 Q) ∧ (¬ (x3 < 0) → isO E G2 x0 12 ∧ (isO E G2 (gR G2 x0 19) 14 ∧ (vp_in ((12 * x1) + x2) (gN G2 (gR G2 x0 19)) ∧ ((x3 < (gI G2 (gR G2 x0 19) (Int32.toNatClampNeg ((12 * x1) + x2))) → isO E G2 (gR G2 x0 21) 14 ∧ (vp_in ((20 * ((12 * x1) + x2)) + x3) (gN G2 (gR G2 x0 21)) ∧ (Q (some (vj (Int32.toInt64 (gI G2 (gR G2 x0 21) (Int32.toNatClampNeg ((20 * ((12 * x1) + x2)) + x3)))))) G2))) ∧ (¬ (x3 < (gI G2 (gR G2 x0 19) (Int32.toNatClampNeg ((12 * x1) + x2)))) → wp E d M_X12_range 28 [some (vr x0), some (vi x1), some (vi x2), some (vi x3)] [] G2 Q))))))))) : wp E d M_X12_range 0 [some (vr x0), some (vi x1), some (vi x2), some (vi x3)] [] G Q := by
  refine wp_aload_n (pc := 0) d_X12_range_0 rfl ?_
  refine wp_iload_n (pc := 1) d_X12_range_1 rfl ?_
  refine wp_iload_n (pc := 2) d_X12_range_2 rfl ?_
  obtain ⟨ho8, h⟩ := h
  refine wp_invV (pc := 3) (N := M_X12_isVar) (As := [vi _, vi _]) (rest := []) (r := (cn_12, ct_12, 95)) d_X12_range_3 ml_X12_462 mk_X12_isVar mv_X12_isVar h0 ho8 rfl rfl (Nat.le_of_ble_eq_true rfl) ?_
  refine wpM.mono h (fun rr G2 hr => ?_)
  obtain ⟨r1, rfl, h⟩ := hr
  show wp E d M_X12_range 6 [some (vr _), some (vi _), some (vi _), some (vi _)] [vi _] G2 Q
  refine wp_if_eq (pc := 6) (tgt := 28) d_X12_range_6 (by decide) (fun hc => ?_) (fun hc => ?_)
  · have h := h.1 hc
    refine wp_sub ?_ h
    exact ⟨rfl, ⟨rfl, ⟨rfl, ⟨rfl, trivial⟩⟩⟩⟩
  · have h := h.2 hc
    refine wp_iload_n (pc := 9) d_X12_range_9 rfl ?_
    refine wp_if_lt (pc := 10) (tgt := 28) d_X12_range_10 (by decide) (fun hc => ?_) (fun hc => ?_)
    · have h := h.1 hc
      refine wp_sub ?_ h
      exact ⟨rfl, ⟨rfl, ⟨rfl, ⟨rfl, trivial⟩⟩⟩⟩
    · have h := h.2 hc
      refine wp_iload_n (pc := 13) d_X12_range_13 rfl ?_
      refine wp_aload_n (pc := 14) d_X12_range_14 rfl ?_
      obtain ⟨ho3, h⟩ := h
      refine wp_getR (pc := 15) d_X12_range_15 fl_X12_64 (fun _ _ _ => rfl) ho3 ?_
      refine wp_bipush (pc := 18) (v := 12) d_X12_range_18 rfl ?_
      refine wp_iload_n (pc := 20) d_X12_range_20 rfl ?_
      refine wp_imul (pc := 21) d_X12_range_21 ?_
      refine wp_iload_n (pc := 22) d_X12_range_22 rfl ?_
      refine wp_iadd (pc := 23) d_X12_range_23 ?_
      obtain ⟨ho4, h⟩ := h
      obtain ⟨hi5, h⟩ := h
      refine wp_iald (pc := 24) d_X12_range_24 ho4 hi5 ?_
      refine wp_icmp_lt (pc := 25) (tgt := 34) d_X12_range_25 (by decide) (fun hc => ?_) (fun hc => ?_)
      · have h := h.1 hc
        refine wp_aload_n (pc := 34) d_X12_range_34 rfl ?_
        refine wp_getR (pc := 35) d_X12_range_35 fl_X12_70 (fun _ _ _ => rfl) ho3 ?_
        refine wp_bipush (pc := 38) (v := 20) d_X12_range_38 rfl ?_
        refine wp_bipush (pc := 40) (v := 12) d_X12_range_40 rfl ?_
        refine wp_iload_n (pc := 42) d_X12_range_42 rfl ?_
        refine wp_imul (pc := 43) d_X12_range_43 ?_
        refine wp_iload_n (pc := 44) d_X12_range_44 rfl ?_
        refine wp_iadd (pc := 45) d_X12_range_45 ?_
        refine wp_imul (pc := 46) d_X12_range_46 ?_
        refine wp_iload_n (pc := 47) d_X12_range_47 rfl ?_
        refine wp_iadd (pc := 48) d_X12_range_48 ?_
        obtain ⟨ho6, h⟩ := h
        obtain ⟨hi7, h⟩ := h
        refine wp_iald (pc := 49) d_X12_range_49 ho6 hi7 ?_
        refine wp_i2l (pc := 50) d_X12_range_50 ?_
        exact wp_lret (pc := 51) d_X12_range_51 rfl h
      · have h := h.2 hc
        refine wp_sub ?_ h
        exact ⟨rfl, ⟨rfl, ⟨rfl, ⟨rfl, trivial⟩⟩⟩⟩
theorem v_X12_range_28 {E : EE} {d : Nat} {Q : Option AV → AH → Prop} {x0 : Nat} {x1 : Int32} {x2 : Int32} {x3 : Int32} {G : AH} (h : Q (some (vj (-9223372036854775808))) G) : wp E d M_X12_range 28 [some (vr x0), some (vi x1), some (vi x2), some (vi x3)] [] G Q := by
  refine wp_ldc2 (pc := 28) (v := (-9223372036854775808)) d_X12_range_28 cj_X12_466 ?_
  refine wp_goto (pc := 31) (tgt := 51) d_X12_range_31 (by decide) ?_
  exact wp_lret (pc := 51) d_X12_range_51 rfl h
theorem d_X12_shown_0 : decode prog_14_method_63_code 0 = .ok (.aload_n 0, 1) := by decide +kernel
theorem d_X12_shown_1 : decode prog_14_method_63_code 1 = .ok (.iload_n 1, 1) := by decide +kernel
theorem d_X12_shown_2 : decode prog_14_method_63_code 2 = .ok (.invokevirtual 453, 3) := by decide +kernel
theorem d_X12_shown_5 : decode prog_14_method_63_code 5 = .ok (.ifCond .eq 21, 3) := by decide +kernel
theorem d_X12_shown_8 : decode prog_14_method_63_code 8 = .ok (.iload_n 2, 1) := by decide +kernel
theorem d_X12_shown_9 : decode prog_14_method_63_code 9 = .ok (.ifCond .lt 17, 3) := by decide +kernel
theorem d_X12_shown_12 : decode prog_14_method_63_code 12 = .ok (.iload_n 2, 1) := by decide +kernel
theorem d_X12_shown_13 : decode prog_14_method_63_code 13 = .ok (.aload_n 0, 1) := by decide +kernel
theorem d_X12_shown_14 : decode prog_14_method_63_code 14 = .ok (.getfield 49, 3) := by decide +kernel
theorem d_X12_shown_17 : decode prog_14_method_63_code 17 = .ok (.iload_n 1, 1) := by decide +kernel
theorem d_X12_shown_18 : decode prog_14_method_63_code 18 = .ok (.iaload, 1) := by decide +kernel
theorem d_X12_shown_19 : decode prog_14_method_63_code 19 = .ok (.if_icmp .ge 7, 3) := by decide +kernel
theorem d_X12_shown_22 : decode prog_14_method_63_code 22 = .ok (.iload_n 3, 1) := by decide +kernel
theorem d_X12_shown_23 : decode prog_14_method_63_code 23 = .ok (.ifCond .ge 5, 3) := by decide +kernel
theorem d_X12_shown_26 : decode prog_14_method_63_code 26 = .ok (.iconst (-1), 1) := by decide +kernel
theorem d_X12_shown_27 : decode prog_14_method_63_code 27 = .ok (.ireturn, 1) := by decide +kernel
theorem d_X12_shown_28 : decode prog_14_method_63_code 28 = .ok (.aload_n 0, 1) := by decide +kernel
theorem d_X12_shown_29 : decode prog_14_method_63_code 29 = .ok (.getfield 46, 3) := by decide +kernel
theorem d_X12_shown_32 : decode prog_14_method_63_code 32 = .ok (.bipush 64, 2) := by decide +kernel
theorem d_X12_shown_34 : decode prog_14_method_63_code 34 = .ok (.iload_n 1, 1) := by decide +kernel
theorem d_X12_shown_35 : decode prog_14_method_63_code 35 = .ok (.imul, 1) := by decide +kernel
theorem d_X12_shown_36 : decode prog_14_method_63_code 36 = .ok (.iload_n 2, 1) := by decide +kernel
theorem d_X12_shown_37 : decode prog_14_method_63_code 37 = .ok (.iadd, 1) := by decide +kernel
theorem d_X12_shown_38 : decode prog_14_method_63_code 38 = .ok (.iaload, 1) := by decide +kernel
theorem d_X12_shown_39 : decode prog_14_method_63_code 39 = .ok (.istore 4, 2) := by decide +kernel
theorem d_X12_shown_41 : decode prog_14_method_63_code 41 = .ok (.iload_n 2, 1) := by decide +kernel
theorem d_X12_shown_42 : decode prog_14_method_63_code 42 = .ok (.iconst 1, 1) := by decide +kernel
theorem d_X12_shown_43 : decode prog_14_method_63_code 43 = .ok (.iadd, 1) := by decide +kernel
theorem d_X12_shown_44 : decode prog_14_method_63_code 44 = .ok (.aload_n 0, 1) := by decide +kernel
theorem d_X12_shown_45 : decode prog_14_method_63_code 45 = .ok (.getfield 49, 3) := by decide +kernel
theorem d_X12_shown_48 : decode prog_14_method_63_code 48 = .ok (.iload_n 1, 1) := by decide +kernel
theorem d_X12_shown_49 : decode prog_14_method_63_code 49 = .ok (.iaload, 1) := by decide +kernel
theorem d_X12_shown_50 : decode prog_14_method_63_code 50 = .ok (.if_icmp .ge 19, 3) := by decide +kernel
theorem d_X12_shown_53 : decode prog_14_method_63_code 53 = .ok (.aload_n 0, 1) := by decide +kernel
theorem d_X12_shown_54 : decode prog_14_method_63_code 54 = .ok (.getfield 46, 3) := by decide +kernel
theorem d_X12_shown_57 : decode prog_14_method_63_code 57 = .ok (.bipush 64, 2) := by decide +kernel
theorem d_X12_shown_59 : decode prog_14_method_63_code 59 = .ok (.iload_n 1, 1) := by decide +kernel
theorem d_X12_shown_60 : decode prog_14_method_63_code 60 = .ok (.imul, 1) := by decide +kernel
theorem d_X12_shown_61 : decode prog_14_method_63_code 61 = .ok (.iload_n 2, 1) := by decide +kernel
theorem d_X12_shown_62 : decode prog_14_method_63_code 62 = .ok (.iadd, 1) := by decide +kernel
theorem d_X12_shown_63 : decode prog_14_method_63_code 63 = .ok (.iconst 1, 1) := by decide +kernel
theorem d_X12_shown_64 : decode prog_14_method_63_code 64 = .ok (.iadd, 1) := by decide +kernel
theorem d_X12_shown_65 : decode prog_14_method_63_code 65 = .ok (.iaload, 1) := by decide +kernel
theorem d_X12_shown_66 : decode prog_14_method_63_code 66 = .ok (.goto 9, 3) := by decide +kernel
theorem d_X12_shown_69 : decode prog_14_method_63_code 69 = .ok (.aload_n 0, 1) := by decide +kernel
theorem d_X12_shown_70 : decode prog_14_method_63_code 70 = .ok (.getfield 43, 3) := by decide +kernel
theorem d_X12_shown_73 : decode prog_14_method_63_code 73 = .ok (.iload_n 1, 1) := by decide +kernel
theorem d_X12_shown_74 : decode prog_14_method_63_code 74 = .ok (.iaload, 1) := by decide +kernel
theorem v_X12_shown_0 {E : EE} {d : Nat} {Q : Option AV → AH → Prop} {x0 : Nat} {x1 : Int32} {x2 : Int32} {x3 : Int32} {G : AH} (h0 : 0 < d) (h : isO E G x0 12 ∧ (wpI E (d - 1) M_X12_isProblem [vr x0, vi x1] G (fun r1 G2 => (r1 = 0 → Q (some (vi (-1))) G2) ∧ (¬ (r1 = 0) → (x2 < 0 → Q (some (vi (-1))) G2) ∧ (¬ (x2 < 0) → isO E G2 x0 12 ∧ (isO E G2 (gR G2 x0 14) 14 ∧ (vp_in x1 (gN G2 (gR G2 x0 14)) ∧ (((gI G2 (gR G2 x0 14) (Int32.toNatClampNeg x1)) ≤ x2 → Q (some (vi (-1))) G2) ∧ (¬ ((gI G2 (gR G2 x0 14) (Int32.toNatClampNeg x1)) ≤ x2) → (0 ≤ x3 → isO E G2 (gR G2 x0 13) 14 ∧ (vp_in ((64 * x1) + x2) (gN G2 (gR G2 x0 13)) ∧ (vp_in x1 (gN G2 (gR G2 x0 14)) ∧ (((gI G2 (gR G2 x0 14) (Int32.toNatClampNeg x1)) ≤ (x2 + 1) → isO E G2 (gR G2 x0 12) 14 ∧ (vp_in x1 (gN G2 (gR G2 x0 12)) ∧ (wp E d M_X12_shown 75 [some (vr x0), some (vi x1), some (vi x2), some (vi x3), some (vi (gI G2 (gR G2 x0 13) (Int32.toNatClampNeg ((64 * x1) + x2)))), none, none, none, none, none] [vi (gI G2 (gR G2 x0 12) (Int32.toNatClampNeg x1))] G2 Q))) ∧ (¬ ((gI G2 (gR G2 x0 14) (Int32.toNatClampNeg x1)) ≤ (x2 + 1)) → vp_in (((64 * x1) + x2) + 1) (gN G2 (gR G2 x0 13)) ∧ (wp E d M_X12_shown 75 [some (vr x0), some (vi x1), some (vi x2), some (vi x3), some (vi (gI G2 (gR G2 x0 13) (Int32.toNatClampNeg ((64 * x1) + x2)))), none, none, none, none, none] [vi (gI G2 (gR G2 x0 13) (Int32.toNatClampNeg (((64 * x1) + x2) + 1)))] G2 Q)))))) ∧ (¬ (0 ≤ x3) → Q (some (vi (-1))) G2)))))))))) : wp E d M_X12_shown 0 [some (vr x0), some (vi x1), some (vi x2), some (vi x3), none, none, none, none, none, none] [] G Q := by
  refine wp_aload_n (pc := 0) d_X12_shown_0 rfl ?_
  refine wp_iload_n (pc := 1) d_X12_shown_1 rfl ?_
  obtain ⟨ho12, h⟩ := h
  refine wp_invV (pc := 2) (N := M_X12_isProblem) (As := [vi _]) (rest := []) (r := (cn_12, ct_12, 95)) d_X12_shown_2 ml_X12_453 mk_X12_isProblem mv_X12_isProblem h0 ho12 rfl rfl (Nat.le_of_ble_eq_true rfl) ?_
  refine wpM.mono h (fun rr G2 hr => ?_)
  obtain ⟨r1, rfl, h⟩ := hr
  show wp E d M_X12_shown 5 [some (vr _), some (vi _), some (vi _), some (vi _), none, none, none, none, none, none] [vi _] G2 Q
  refine wp_if_eq (pc := 5) (tgt := 26) d_X12_shown_5 (by decide) (fun hc => ?_) (fun hc => ?_)
  · have h := h.1 hc
    refine wp_iconst (pc := 26) (v := (-1)) d_X12_shown_26 rfl ?_
    exact wp_iret (pc := 27) d_X12_shown_27 rfl h
  · have h := h.2 hc
    refine wp_iload_n (pc := 8) d_X12_shown_8 rfl ?_
    refine wp_if_lt (pc := 9) (tgt := 26) d_X12_shown_9 (by decide) (fun hc => ?_) (fun hc => ?_)
    · have h := h.1 hc
      refine wp_iconst (pc := 26) (v := (-1)) d_X12_shown_26 rfl ?_
      exact wp_iret (pc := 27) d_X12_shown_27 rfl h
    · have h := h.2 hc
      refine wp_iload_n (pc := 12) d_X12_shown_12 rfl ?_
      refine wp_aload_n (pc := 13) d_X12_shown_13 rfl ?_
      obtain ⟨ho3, h⟩ := h
      refine wp_getR (pc := 14) d_X12_shown_14 fl_X12_49 (fun _ _ _ => rfl) ho3 ?_
      refine wp_iload_n (pc := 17) d_X12_shown_17 rfl ?_
      obtain ⟨ho4, h⟩ := h
      obtain ⟨hi5, h⟩ := h
      refine wp_iald (pc := 18) d_X12_shown_18 ho4 hi5 ?_
      refine wp_icmp_ge (pc := 19) (tgt := 26) d_X12_shown_19 (by decide) (fun hc => ?_) (fun hc => ?_)
      · have h := h.1 hc
        refine wp_iconst (pc := 26) (v := (-1)) d_X12_shown_26 rfl ?_
        exact wp_iret (pc := 27) d_X12_shown_27 rfl h
      · have h := h.2 hc
        refine wp_iload_n (pc := 22) d_X12_shown_22 rfl ?_
        refine wp_if_ge (pc := 23) (tgt := 28) d_X12_shown_23 (by decide) (fun hc => ?_) (fun hc => ?_)
        · have h := h.1 hc
          refine wp_aload_n (pc := 28) d_X12_shown_28 rfl ?_
          refine wp_getR (pc := 29) d_X12_shown_29 fl_X12_46 (fun _ _ _ => rfl) ho3 ?_
          refine wp_bipush (pc := 32) (v := 64) d_X12_shown_32 rfl ?_
          refine wp_iload_n (pc := 34) d_X12_shown_34 rfl ?_
          refine wp_imul (pc := 35) d_X12_shown_35 ?_
          refine wp_iload_n (pc := 36) d_X12_shown_36 rfl ?_
          refine wp_iadd (pc := 37) d_X12_shown_37 ?_
          obtain ⟨ho6, h⟩ := h
          obtain ⟨hi7, h⟩ := h
          refine wp_iald (pc := 38) d_X12_shown_38 ho6 hi7 ?_
          refine wp_istore (pc := 39) (lv' := [some (vr _), some (vi _), some (vi _), some (vi _), some (vi _), none, none, none, none, none]) d_X12_shown_39 (by decide) rfl ?_
          refine wp_iload_n (pc := 41) d_X12_shown_41 rfl ?_
          refine wp_iconst (pc := 42) (v := 1) d_X12_shown_42 rfl ?_
          refine wp_iadd (pc := 43) d_X12_shown_43 ?_
          refine wp_aload_n (pc := 44) d_X12_shown_44 rfl ?_
          refine wp_getR (pc := 45) d_X12_shown_45 fl_X12_49 (fun _ _ _ => rfl) ho3 ?_
          refine wp_iload_n (pc := 48) d_X12_shown_48 rfl ?_
          obtain ⟨hi8, h⟩ := h
          refine wp_iald (pc := 49) d_X12_shown_49 ho4 hi8 ?_
          refine wp_icmp_ge (pc := 50) (tgt := 69) d_X12_shown_50 (by decide) (fun hc => ?_) (fun hc => ?_)
          · have h := h.1 hc
            refine wp_aload_n (pc := 69) d_X12_shown_69 rfl ?_
            refine wp_getR (pc := 70) d_X12_shown_70 fl_X12_43 (fun _ _ _ => rfl) ho3 ?_
            refine wp_iload_n (pc := 73) d_X12_shown_73 rfl ?_
            obtain ⟨ho9, h⟩ := h
            obtain ⟨hi10, h⟩ := h
            refine wp_iald (pc := 74) d_X12_shown_74 ho9 hi10 ?_
            refine wp_sub ?_ h
            exact ⟨rfl, ⟨rfl, ⟨rfl, ⟨rfl, ⟨rfl, trivial⟩⟩⟩⟩⟩
          · have h := h.2 hc
            refine wp_aload_n (pc := 53) d_X12_shown_53 rfl ?_
            refine wp_getR (pc := 54) d_X12_shown_54 fl_X12_46 (fun _ _ _ => rfl) ho3 ?_
            refine wp_bipush (pc := 57) (v := 64) d_X12_shown_57 rfl ?_
            refine wp_iload_n (pc := 59) d_X12_shown_59 rfl ?_
            refine wp_imul (pc := 60) d_X12_shown_60 ?_
            refine wp_iload_n (pc := 61) d_X12_shown_61 rfl ?_
            refine wp_iadd (pc := 62) d_X12_shown_62 ?_
            refine wp_iconst (pc := 63) (v := 1) d_X12_shown_63 rfl ?_
            refine wp_iadd (pc := 64) d_X12_shown_64 ?_
            obtain ⟨hi11, h⟩ := h
            refine wp_iald (pc := 65) d_X12_shown_65 ho6 hi11 ?_
            refine wp_goto (pc := 66) (tgt := 75) d_X12_shown_66 (by decide) ?_
            refine wp_sub ?_ h
            exact ⟨rfl, ⟨rfl, ⟨rfl, ⟨rfl, ⟨rfl, trivial⟩⟩⟩⟩⟩
        · have h := h.2 hc
          refine wp_iconst (pc := 26) (v := (-1)) d_X12_shown_26 rfl ?_
          exact wp_iret (pc := 27) d_X12_shown_27 rfl h
theorem d_X12_letter_0 : decode prog_14_method_62_code 0 = .ok (.aload_n 0, 1) := by decide +kernel
theorem d_X12_letter_1 : decode prog_14_method_62_code 1 = .ok (.iload_n 1, 1) := by decide +kernel
theorem d_X12_letter_2 : decode prog_14_method_62_code 2 = .ok (.invokevirtual 453, 3) := by decide +kernel
theorem d_X12_letter_5 : decode prog_14_method_62_code 5 = .ok (.ifCond .eq 30, 3) := by decide +kernel
theorem d_X12_letter_8 : decode prog_14_method_62_code 8 = .ok (.iload_n 2, 1) := by decide +kernel
theorem d_X12_letter_9 : decode prog_14_method_62_code 9 = .ok (.ifCond .lt 26, 3) := by decide +kernel
theorem d_X12_letter_12 : decode prog_14_method_62_code 12 = .ok (.iload_n 2, 1) := by decide +kernel
theorem d_X12_letter_13 : decode prog_14_method_62_code 13 = .ok (.iconst 3, 1) := by decide +kernel
theorem d_X12_letter_14 : decode prog_14_method_62_code 14 = .ok (.if_icmp .gt 21, 3) := by decide +kernel
theorem d_X12_letter_17 : decode prog_14_method_62_code 17 = .ok (.iload_n 3, 1) := by decide +kernel
theorem d_X12_letter_18 : decode prog_14_method_62_code 18 = .ok (.ifCond .lt 17, 3) := by decide +kernel
theorem d_X12_letter_21 : decode prog_14_method_62_code 21 = .ok (.iload_n 3, 1) := by decide +kernel
theorem d_X12_letter_22 : decode prog_14_method_62_code 22 = .ok (.aload_n 0, 1) := by decide +kernel
theorem d_X12_letter_23 : decode prog_14_method_62_code 23 = .ok (.getfield 58, 3) := by decide +kernel
theorem d_X12_letter_26 : decode prog_14_method_62_code 26 = .ok (.iconst 4, 1) := by decide +kernel
theorem d_X12_letter_27 : decode prog_14_method_62_code 27 = .ok (.iload_n 1, 1) := by decide +kernel
theorem d_X12_letter_28 : decode prog_14_method_62_code 28 = .ok (.imul, 1) := by decide +kernel
theorem d_X12_letter_29 : decode prog_14_method_62_code 29 = .ok (.iload_n 2, 1) := by decide +kernel
theorem d_X12_letter_30 : decode prog_14_method_62_code 30 = .ok (.iadd, 1) := by decide +kernel
theorem d_X12_letter_31 : decode prog_14_method_62_code 31 = .ok (.iaload, 1) := by decide +kernel
theorem d_X12_letter_32 : decode prog_14_method_62_code 32 = .ok (.if_icmp .lt 5, 3) := by decide +kernel
theorem d_X12_letter_35 : decode prog_14_method_62_code 35 = .ok (.iconst (-1), 1) := by decide +kernel
theorem d_X12_letter_36 : decode prog_14_method_62_code 36 = .ok (.ireturn, 1) := by decide +kernel
theorem d_X12_letter_37 : decode prog_14_method_62_code 37 = .ok (.bipush 96, 2) := by decide +kernel
theorem d_X12_letter_39 : decode prog_14_method_62_code 39 = .ok (.iload_n 1, 1) := by decide +kernel
theorem d_X12_letter_40 : decode prog_14_method_62_code 40 = .ok (.imul, 1) := by decide +kernel
theorem d_X12_letter_41 : decode prog_14_method_62_code 41 = .ok (.bipush 24, 2) := by decide +kernel
theorem d_X12_letter_43 : decode prog_14_method_62_code 43 = .ok (.iload_n 2, 1) := by decide +kernel
theorem d_X12_letter_44 : decode prog_14_method_62_code 44 = .ok (.imul, 1) := by decide +kernel
theorem d_X12_letter_45 : decode prog_14_method_62_code 45 = .ok (.iadd, 1) := by decide +kernel
theorem d_X12_letter_46 : decode prog_14_method_62_code 46 = .ok (.iload_n 3, 1) := by decide +kernel
theorem d_X12_letter_47 : decode prog_14_method_62_code 47 = .ok (.iadd, 1) := by decide +kernel
theorem d_X12_letter_48 : decode prog_14_method_62_code 48 = .ok (.istore 5, 2) := by decide +kernel
theorem d_X12_letter_50 : decode prog_14_method_62_code 50 = .ok (.iload 4, 2) := by decide +kernel
theorem d_X12_letter_52 : decode prog_14_method_62_code 52 = .ok (.ifCond .lt 15, 3) := by decide +kernel
theorem d_X12_letter_55 : decode prog_14_method_62_code 55 = .ok (.iload 4, 2) := by decide +kernel
theorem d_X12_letter_57 : decode prog_14_method_62_code 57 = .ok (.aload_n 0, 1) := by decide +kernel
theorem d_X12_letter_58 : decode prog_14_method_62_code 58 = .ok (.getfield 55, 3) := by decide +kernel
theorem d_X12_letter_61 : decode prog_14_method_62_code 61 = .ok (.iload 5, 2) := by decide +kernel
theorem d_X12_letter_63 : decode prog_14_method_62_code 63 = .ok (.iaload, 1) := by decide +kernel
theorem d_X12_letter_64 : decode prog_14_method_62_code 64 = .ok (.if_icmp .lt 7, 3) := by decide +kernel
theorem d_X12_letter_71 : decode prog_14_method_62_code 71 = .ok (.aload_n 0, 1) := by decide +kernel
theorem d_X12_letter_72 : decode prog_14_method_62_code 72 = .ok (.getfield 24, 3) := by decide +kernel
theorem d_X12_letter_75 : decode prog_14_method_62_code 75 = .ok (.sipush 20000, 3) := by decide +kernel
theorem d_X12_letter_78 : decode prog_14_method_62_code 78 = .ok (.iload_n 1, 1) := by decide +kernel
theorem d_X12_letter_79 : decode prog_14_method_62_code 79 = .ok (.imul, 1) := by decide +kernel
theorem d_X12_letter_80 : decode prog_14_method_62_code 80 = .ok (.aload_n 0, 1) := by decide +kernel
theorem d_X12_letter_81 : decode prog_14_method_62_code 81 = .ok (.getfield 52, 3) := by decide +kernel
theorem d_X12_letter_84 : decode prog_14_method_62_code 84 = .ok (.iload 5, 2) := by decide +kernel
theorem d_X12_letter_86 : decode prog_14_method_62_code 86 = .ok (.iaload, 1) := by decide +kernel
theorem d_X12_letter_87 : decode prog_14_method_62_code 87 = .ok (.iadd, 1) := by decide +kernel
theorem d_X12_letter_88 : decode prog_14_method_62_code 88 = .ok (.iload 4, 2) := by decide +kernel
theorem d_X12_letter_90 : decode prog_14_method_62_code 90 = .ok (.iadd, 1) := by decide +kernel
theorem d_X12_letter_91 : decode prog_14_method_62_code 91 = .ok (.baload, 1) := by decide +kernel
theorem d_X12_letter_92 : decode prog_14_method_62_code 92 = .ok (.sipush 255, 3) := by decide +kernel
theorem d_X12_letter_95 : decode prog_14_method_62_code 95 = .ok (.iand, 1) := by decide +kernel
theorem d_X12_letter_96 : decode prog_14_method_62_code 96 = .ok (.ireturn, 1) := by decide +kernel
theorem v_X12_letter_0 {E : EE} {d : Nat} {Q : Option AV → AH → Prop} {x0 : Nat} {x1 : Int32} {x2 : Int32} {x3 : Int32} {x4 : Int32} {G : AH} (h0 : 0 < d) (h : isO E G x0 12 ∧ (wpI E (d - 1) M_X12_isProblem [vr x0, vi x1] G (fun r1 G2 => (r1 = 0 → Q (some (vi (-1))) G2) ∧ (¬ (r1 = 0) → (x2 < 0 → Q (some (vi (-1))) G2) ∧ (¬ (x2 < 0) → (3 < x2 → Q (some (vi (-1))) G2) ∧ (¬ (3 < x2) → (x3 < 0 → Q (some (vi (-1))) G2) ∧ (¬ (x3 < 0) → isO E G2 x0 12 ∧ (isO E G2 (gR G2 x0 17) 14 ∧ (vp_in ((4 * x1) + x2) (gN G2 (gR G2 x0 17)) ∧ ((x3 < (gI G2 (gR G2 x0 17) (Int32.toNatClampNeg ((4 * x1) + x2))) → (x4 < 0 → wp E d M_X12_letter 67 [some (vr x0), some (vi x1), some (vi x2), some (vi x3), some (vi x4), some (vi (((96 * x1) + (24 * x2)) + x3))] [] G2 Q) ∧ (¬ (x4 < 0) → isO E G2 (gR G2 x0 16) 14 ∧ (vp_in (((96 * x1) + (24 * x2)) + x3) (gN G2 (gR G2 x0 16)) ∧ ((x4 < (gI G2 (gR G2 x0 16) (Int32.toNatClampNeg (((96 * x1) + (24 * x2)) + x3))) → isO E G2 (gR G2 x0 15) 14 ∧ (vp_in (((96 * x1) + (24 * x2)) + x3) (gN G2 (gR G2 x0 15)) ∧ (isO E G2 (gR G2 x0 6) 13 ∧ (vp_in (((20000 * x1) + (gI G2 (gR G2 x0 15) (Int32.toNatClampNeg (((96 * x1) + (24 * x2)) + x3)))) + x4) (gN G2 (gR G2 x0 6)) ∧ (Q (some (vi ((gI G2 (gR G2 x0 6) (Int32.toNatClampNeg (((20000 * x1) + (gI G2 (gR G2 x0 15) (Int32.toNatClampNeg (((96 * x1) + (24 * x2)) + x3)))) + x4))) &&& 255))) G2))))) ∧ (¬ (x4 < (gI G2 (gR G2 x0 16) (Int32.toNatClampNeg (((96 * x1) + (24 * x2)) + x3)))) → wp E d M_X12_letter 67 [some (vr x0), some (vi x1), some (vi x2), some (vi x3), some (vi x4), some (vi (((96 * x1) + (24 * x2)) + x3))] [] G2 Q))))) ∧ (¬ (x3 < (gI G2 (gR G2 x0 17) (Int32.toNatClampNeg ((4 * x1) + x2)))) → Q (some (vi (-1))) G2))))))))))) : wp E d M_X12_letter 0 [some (vr x0), some (vi x1), some (vi x2), some (vi x3), some (vi x4), none] [] G Q := by
  refine wp_aload_n (pc := 0) d_X12_letter_0 rfl ?_
  refine wp_iload_n (pc := 1) d_X12_letter_1 rfl ?_
  obtain ⟨ho12, h⟩ := h
  refine wp_invV (pc := 2) (N := M_X12_isProblem) (As := [vi _]) (rest := []) (r := (cn_12, ct_12, 95)) d_X12_letter_2 ml_X12_453 mk_X12_isProblem mv_X12_isProblem h0 ho12 rfl rfl (Nat.le_of_ble_eq_true rfl) ?_
  refine wpM.mono h (fun rr G2 hr => ?_)
  obtain ⟨r1, rfl, h⟩ := hr
  show wp E d M_X12_letter 5 [some (vr _), some (vi _), some (vi _), some (vi _), some (vi _), none] [vi _] G2 Q
  refine wp_if_eq (pc := 5) (tgt := 35) d_X12_letter_5 (by decide) (fun hc => ?_) (fun hc => ?_)
  · have h := h.1 hc
    refine wp_iconst (pc := 35) (v := (-1)) d_X12_letter_35 rfl ?_
    exact wp_iret (pc := 36) d_X12_letter_36 rfl h
  · have h := h.2 hc
    refine wp_iload_n (pc := 8) d_X12_letter_8 rfl ?_
    refine wp_if_lt (pc := 9) (tgt := 35) d_X12_letter_9 (by decide) (fun hc => ?_) (fun hc => ?_)
    · have h := h.1 hc
      refine wp_iconst (pc := 35) (v := (-1)) d_X12_letter_35 rfl ?_
      exact wp_iret (pc := 36) d_X12_letter_36 rfl h
    · have h := h.2 hc
      refine wp_iload_n (pc := 12) d_X12_letter_12 rfl ?_
      refine wp_iconst (pc := 13) (v := 3) d_X12_letter_13 rfl ?_
      refine wp_icmp_gt (pc := 14) (tgt := 35) d_X12_letter_14 (by decide) (fun hc => ?_) (fun hc => ?_)
      · have h := h.1 hc
        refine wp_iconst (pc := 35) (v := (-1)) d_X12_letter_35 rfl ?_
        exact wp_iret (pc := 36) d_X12_letter_36 rfl h
      · have h := h.2 hc
        refine wp_iload_n (pc := 17) d_X12_letter_17 rfl ?_
        refine wp_if_lt (pc := 18) (tgt := 35) d_X12_letter_18 (by decide) (fun hc => ?_) (fun hc => ?_)
        · have h := h.1 hc
          refine wp_iconst (pc := 35) (v := (-1)) d_X12_letter_35 rfl ?_
          exact wp_iret (pc := 36) d_X12_letter_36 rfl h
        · have h := h.2 hc
          refine wp_iload_n (pc := 21) d_X12_letter_21 rfl ?_
          refine wp_aload_n (pc := 22) d_X12_letter_22 rfl ?_
          obtain ⟨ho3, h⟩ := h
          refine wp_getR (pc := 23) d_X12_letter_23 fl_X12_58 (fun _ _ _ => rfl) ho3 ?_
          refine wp_iconst (pc := 26) (v := 4) d_X12_letter_26 rfl ?_
          refine wp_iload_n (pc := 27) d_X12_letter_27 rfl ?_
          refine wp_imul (pc := 28) d_X12_letter_28 ?_
          refine wp_iload_n (pc := 29) d_X12_letter_29 rfl ?_
          refine wp_iadd (pc := 30) d_X12_letter_30 ?_
          obtain ⟨ho4, h⟩ := h
          obtain ⟨hi5, h⟩ := h
          refine wp_iald (pc := 31) d_X12_letter_31 ho4 hi5 ?_
          refine wp_icmp_lt (pc := 32) (tgt := 37) d_X12_letter_32 (by decide) (fun hc => ?_) (fun hc => ?_)
          · have h := h.1 hc
            refine wp_bipush (pc := 37) (v := 96) d_X12_letter_37 rfl ?_
            refine wp_iload_n (pc := 39) d_X12_letter_39 rfl ?_
            refine wp_imul (pc := 40) d_X12_letter_40 ?_
            refine wp_bipush (pc := 41) (v := 24) d_X12_letter_41 rfl ?_
            refine wp_iload_n (pc := 43) d_X12_letter_43 rfl ?_
            refine wp_imul (pc := 44) d_X12_letter_44 ?_
            refine wp_iadd (pc := 45) d_X12_letter_45 ?_
            refine wp_iload_n (pc := 46) d_X12_letter_46 rfl ?_
            refine wp_iadd (pc := 47) d_X12_letter_47 ?_
            refine wp_istore (pc := 48) (lv' := [some (vr _), some (vi _), some (vi _), some (vi _), some (vi _), some (vi _)]) d_X12_letter_48 (by decide) rfl ?_
            refine wp_iload (pc := 50) d_X12_letter_50 rfl ?_
            refine wp_if_lt (pc := 52) (tgt := 67) d_X12_letter_52 (by decide) (fun hc => ?_) (fun hc => ?_)
            · have h := h.1 hc
              refine wp_sub ?_ h
              exact ⟨rfl, ⟨rfl, ⟨rfl, ⟨rfl, ⟨rfl, ⟨rfl, trivial⟩⟩⟩⟩⟩⟩
            · have h := h.2 hc
              refine wp_iload (pc := 55) d_X12_letter_55 rfl ?_
              refine wp_aload_n (pc := 57) d_X12_letter_57 rfl ?_
              refine wp_getR (pc := 58) d_X12_letter_58 fl_X12_55 (fun _ _ _ => rfl) ho3 ?_
              refine wp_iload (pc := 61) d_X12_letter_61 rfl ?_
              obtain ⟨ho6, h⟩ := h
              obtain ⟨hi7, h⟩ := h
              refine wp_iald (pc := 63) d_X12_letter_63 ho6 hi7 ?_
              refine wp_icmp_lt (pc := 64) (tgt := 71) d_X12_letter_64 (by decide) (fun hc => ?_) (fun hc => ?_)
              · have h := h.1 hc
                refine wp_aload_n (pc := 71) d_X12_letter_71 rfl ?_
                refine wp_getR (pc := 72) d_X12_letter_72 fl_X12_24 (fun _ _ _ => rfl) ho3 ?_
                refine wp_sipush (pc := 75) (v := 20000) d_X12_letter_75 rfl ?_
                refine wp_iload_n (pc := 78) d_X12_letter_78 rfl ?_
                refine wp_imul (pc := 79) d_X12_letter_79 ?_
                refine wp_aload_n (pc := 80) d_X12_letter_80 rfl ?_
                refine wp_getR (pc := 81) d_X12_letter_81 fl_X12_52 (fun _ _ _ => rfl) ho3 ?_
                refine wp_iload (pc := 84) d_X12_letter_84 rfl ?_
                obtain ⟨ho8, h⟩ := h
                obtain ⟨hi9, h⟩ := h
                refine wp_iald (pc := 86) d_X12_letter_86 ho8 hi9 ?_
                refine wp_iadd (pc := 87) d_X12_letter_87 ?_
                refine wp_iload (pc := 88) d_X12_letter_88 rfl ?_
                refine wp_iadd (pc := 90) d_X12_letter_90 ?_
                obtain ⟨ho10, h⟩ := h
                obtain ⟨hi11, h⟩ := h
                refine wp_bald (pc := 91) d_X12_letter_91 ho10 hi11 ?_
                refine wp_sipush (pc := 92) (v := 255) d_X12_letter_92 rfl ?_
                refine wp_iand (pc := 95) d_X12_letter_95 ?_
                exact wp_iret (pc := 96) d_X12_letter_96 rfl h
              · have h := h.2 hc
                refine wp_sub ?_ h
                exact ⟨rfl, ⟨rfl, ⟨rfl, ⟨rfl, ⟨rfl, ⟨rfl, trivial⟩⟩⟩⟩⟩⟩
          · have h := h.2 hc
            refine wp_iconst (pc := 35) (v := (-1)) d_X12_letter_35 rfl ?_
            exact wp_iret (pc := 36) d_X12_letter_36 rfl h
theorem d_X12_find_0 : decode prog_14_method_61_code 0 = .ok (.aload_n 0, 1) := by decide +kernel
theorem d_X12_find_1 : decode prog_14_method_61_code 1 = .ok (.iload_n 1, 1) := by decide +kernel
theorem d_X12_find_2 : decode prog_14_method_61_code 2 = .ok (.invokevirtual 453, 3) := by decide +kernel
theorem d_X12_find_5 : decode prog_14_method_61_code 5 = .ok (.ifCond .ne 5, 3) := by decide +kernel
theorem d_X12_find_8 : decode prog_14_method_61_code 8 = .ok (.iconst (-1), 1) := by decide +kernel
theorem d_X12_find_9 : decode prog_14_method_61_code 9 = .ok (.ireturn, 1) := by decide +kernel
theorem d_X12_find_10 : decode prog_14_method_61_code 10 = .ok (.aload_n 0, 1) := by decide +kernel
theorem d_X12_find_11 : decode prog_14_method_61_code 11 = .ok (.iconst 1, 1) := by decide +kernel
theorem d_X12_find_12 : decode prog_14_method_61_code 12 = .ok (.putfield 224, 3) := by decide +kernel
theorem d_X12_find_15 : decode prog_14_method_61_code 15 = .ok (.aload_n 0, 1) := by decide +kernel
theorem d_X12_find_16 : decode prog_14_method_61_code 16 = .ok (.aload_n 0, 1) := by decide +kernel
theorem d_X12_find_17 : decode prog_14_method_61_code 17 = .ok (.getfield 217, 3) := by decide +kernel
theorem d_X12_find_20 : decode prog_14_method_61_code 20 = .ok (.putfield 221, 3) := by decide +kernel
theorem d_X12_find_23 : decode prog_14_method_61_code 23 = .ok (.aload_n 0, 1) := by decide +kernel
theorem d_X12_find_24 : decode prog_14_method_61_code 24 = .ok (.iconst 0, 1) := by decide +kernel
theorem d_X12_find_25 : decode prog_14_method_61_code 25 = .ok (.putfield 231, 3) := by decide +kernel
theorem d_X12_find_28 : decode prog_14_method_61_code 28 = .ok (.aload_n 0, 1) := by decide +kernel
theorem d_X12_find_29 : decode prog_14_method_61_code 29 = .ok (.invokevirtual 324, 3) := by decide +kernel
theorem d_X12_find_32 : decode prog_14_method_61_code 32 = .ok (.aload_n 0, 1) := by decide +kernel
theorem d_X12_find_33 : decode prog_14_method_61_code 33 = .ok (.getfield 292, 3) := by decide +kernel
theorem d_X12_find_36 : decode prog_14_method_61_code 36 = .ok (.iconst 1, 1) := by decide +kernel
theorem d_X12_find_37 : decode prog_14_method_61_code 37 = .ok (.if_icmp .ne 21, 3) := by decide +kernel
theorem d_X12_find_40 : decode prog_14_method_61_code 40 = .ok (.aload_n 0, 1) := by decide +kernel
theorem d_X12_find_41 : decode prog_14_method_61_code 41 = .ok (.getfield 241, 3) := by decide +kernel
theorem d_X12_find_44 : decode prog_14_method_61_code 44 = .ok (.ifCond .ne 14, 3) := by decide +kernel
theorem d_X12_find_47 : decode prog_14_method_61_code 47 = .ok (.aload_n 0, 1) := by decide +kernel
theorem d_X12_find_48 : decode prog_14_method_61_code 48 = .ok (.getfield 238, 3) := by decide +kernel
theorem d_X12_find_51 : decode prog_14_method_61_code 51 = .ok (.aload_n 0, 1) := by decide +kernel
theorem d_X12_find_52 : decode prog_14_method_61_code 52 = .ok (.getfield 217, 3) := by decide +kernel
theorem d_X12_find_55 : decode prog_14_method_61_code 55 = .ok (.if_icmp .eq 5, 3) := by decide +kernel
theorem d_X12_find_58 : decode prog_14_method_61_code 58 = .ok (.iconst (-1), 1) := by decide +kernel
theorem d_X12_find_59 : decode prog_14_method_61_code 59 = .ok (.ireturn, 1) := by decide +kernel
theorem d_X12_find_60 : decode prog_14_method_61_code 60 = .ok (.aload_n 0, 1) := by decide +kernel
theorem d_X12_find_61 : decode prog_14_method_61_code 61 = .ok (.iload_n 1, 1) := by decide +kernel
theorem d_X12_find_62 : decode prog_14_method_61_code 62 = .ok (.invokevirtual 341, 3) := by decide +kernel
theorem d_X12_find_65 : decode prog_14_method_61_code 65 = .ok (.ireturn, 1) := by decide +kernel
theorem v_X12_find_0 {E : EE} {d : Nat} {Q : Option AV → AH → Prop} {x0 : Nat} {x1 : Int32} {G : AH} (h0 : 0 < d) (h : isO E G x0 12 ∧ (wpI E (d - 1) M_X12_isProblem [vr x0, vi x1] G (fun r1 G2 => (¬ r1 = 0 → isO E G2 x0 12 ∧ (∀ G4 : AH, G4 = sI G2 x0 37 1 → ∀ G6 : AH, G6 = sI G4 x0 39 (gI G4 x0 1) → ∀ G8 : AH, G8 = sI G6 x0 40 0 → wpV E (d - 1) M_X12_next [vr x0] G8 (fun G10 => isO E G10 x0 12 ∧ ((¬ (gI G10 x0 41) = 1 → Q (some (vi (-1))) G10) ∧ ((gI G10 x0 41) = 1 → (¬ (gI G10 x0 43) = 0 → Q (some (vi (-1))) G10) ∧ ((gI G10 x0 43) = 0 → ((gI G10 x0 44) = (gI G10 x0 1) → wpI E (d - 1) M_X12_meaning [vr x0, vi x1] G10 (fun r12 G13 => Q (some (vi r12)) G13)) ∧ (¬ ((gI G10 x0 44) = (gI G10 x0 1)) → Q (some (vi (-1))) G10))))))) ∧ (r1 = 0 → Q (some (vi (-1))) G2)))) : wp E d M_X12_find 0 [some (vr x0), some (vi x1)] [] G Q := by
  refine wp_aload_n (pc := 0) d_X12_find_0 rfl ?_
  refine wp_iload_n (pc := 1) d_X12_find_1 rfl ?_
  obtain ⟨ho14, h⟩ := h
  refine wp_invV (pc := 2) (N := M_X12_isProblem) (As := [vi _]) (rest := []) (r := (cn_12, ct_12, 95)) d_X12_find_2 ml_X12_453 mk_X12_isProblem mv_X12_isProblem h0 ho14 rfl rfl (Nat.le_of_ble_eq_true rfl) ?_
  refine wpM.mono h (fun rr G2 hr => ?_)
  obtain ⟨r1, rfl, h⟩ := hr
  show wp E d M_X12_find 5 [some (vr _), some (vi _)] [vi _] G2 Q
  refine wp_if_ne (pc := 5) (tgt := 10) d_X12_find_5 (by decide) (fun hc => ?_) (fun hc => ?_)
  · have h := h.1 hc
    refine wp_aload_n (pc := 10) d_X12_find_10 rfl ?_
    refine wp_iconst (pc := 11) (v := 1) d_X12_find_11 rfl ?_
    obtain ⟨ho3, h⟩ := h
    refine wp_putI (pc := 12) d_X12_find_12 fl_X12_224 (fun _ _ _ => rfl) (Or.inl rfl) ho3 okI_z1 ?_
    refine wp_nm (fun G4 eG4 => ?_)
    have h := h G4 eG4
    have ho5 := isO_sI eG4 ho3
    refine wp_aload_n (pc := 15) d_X12_find_15 rfl ?_
    refine wp_aload_n (pc := 16) d_X12_find_16 rfl ?_
    refine wp_getI (pc := 17) d_X12_find_17 fl_X12_217 (fun _ _ _ => rfl) ho5 ?_
    refine wp_putI (pc := 20) d_X12_find_20 fl_X12_221 (fun _ _ _ => rfl) (Or.inl rfl) ho5 (okI_int _) ?_
    refine wp_nm (fun G6 eG6 => ?_)
    have h := h G6 eG6
    have ho7 := isO_sI eG6 ho5
    refine wp_aload_n (pc := 23) d_X12_find_23 rfl ?_
    refine wp_iconst (pc := 24) (v := 0) d_X12_find_24 rfl ?_
    refine wp_putI (pc := 25) d_X12_find_25 fl_X12_231 (fun _ _ _ => rfl) (Or.inl rfl) ho7 (okI_int _) ?_
    refine wp_nm (fun G8 eG8 => ?_)
    have h := h G8 eG8
    have ho9 := isO_sI eG8 ho7
    refine wp_aload_n (pc := 28) d_X12_find_28 rfl ?_
    refine wp_invV (pc := 29) (N := M_X12_next) (As := []) (rest := []) (r := (cn_12, ct_12, 95)) d_X12_find_29 ml_X12_324 mk_X12_next mv_X12_next h0 ho9 rfl rfl (Nat.le_of_ble_eq_true rfl) ?_
    refine wpM.mono h (fun rr G10 hr => ?_)
    obtain ⟨rfl, h⟩ := hr
    show wp E d M_X12_find 32 [some (vr _), some (vi _)] [] G10 Q
    refine wp_aload_n (pc := 32) d_X12_find_32 rfl ?_
    obtain ⟨ho11, h⟩ := h
    refine wp_getI (pc := 33) d_X12_find_33 fl_X12_292 (fun _ _ _ => rfl) ho11 ?_
    refine wp_iconst (pc := 36) (v := 1) d_X12_find_36 rfl ?_
    refine wp_icmp_ne (pc := 37) (tgt := 58) d_X12_find_37 (by decide) (fun hc => ?_) (fun hc => ?_)
    · have h := h.1 hc
      refine wp_iconst (pc := 58) (v := (-1)) d_X12_find_58 rfl ?_
      exact wp_iret (pc := 59) d_X12_find_59 rfl h
    · have h := h.2 hc
      refine wp_aload_n (pc := 40) d_X12_find_40 rfl ?_
      refine wp_getI (pc := 41) d_X12_find_41 fl_X12_241 (fun _ _ _ => rfl) ho11 ?_
      refine wp_if_ne (pc := 44) (tgt := 58) d_X12_find_44 (by decide) (fun hc => ?_) (fun hc => ?_)
      · have h := h.1 hc
        refine wp_iconst (pc := 58) (v := (-1)) d_X12_find_58 rfl ?_
        exact wp_iret (pc := 59) d_X12_find_59 rfl h
      · have h := h.2 hc
        refine wp_aload_n (pc := 47) d_X12_find_47 rfl ?_
        refine wp_getI (pc := 48) d_X12_find_48 fl_X12_238 (fun _ _ _ => rfl) ho11 ?_
        refine wp_aload_n (pc := 51) d_X12_find_51 rfl ?_
        refine wp_getI (pc := 52) d_X12_find_52 fl_X12_217 (fun _ _ _ => rfl) ho11 ?_
        refine wp_icmp_eq (pc := 55) (tgt := 60) d_X12_find_55 (by decide) (fun hc => ?_) (fun hc => ?_)
        · have h := h.1 hc
          refine wp_aload_n (pc := 60) d_X12_find_60 rfl ?_
          refine wp_iload_n (pc := 61) d_X12_find_61 rfl ?_
          refine wp_invV (pc := 62) (N := M_X12_meaning) (As := [vi _]) (rest := []) (r := (cn_12, ct_12, 95)) d_X12_find_62 ml_X12_341 mk_X12_meaning mv_X12_meaning h0 ho11 rfl rfl (Nat.le_of_ble_eq_true rfl) ?_
          refine wpM.mono h (fun rr G13 hr => ?_)
          obtain ⟨r12, rfl, h⟩ := hr
          show wp E d M_X12_find 65 [some (vr _), some (vi _)] [vi _] G13 Q
          exact wp_iret (pc := 65) d_X12_find_65 rfl h
        · have h := h.2 hc
          refine wp_iconst (pc := 58) (v := (-1)) d_X12_find_58 rfl ?_
          exact wp_iret (pc := 59) d_X12_find_59 rfl h
  · have h := h.2 hc
    refine wp_iconst (pc := 8) (v := (-1)) d_X12_find_8 rfl ?_
    exact wp_iret (pc := 9) d_X12_find_9 rfl h
theorem d_X12_count_0 : decode prog_14_method_60_code 0 = .ok (.aload_n 0, 1) := by decide +kernel
theorem d_X12_count_1 : decode prog_14_method_60_code 1 = .ok (.iload_n 1, 1) := by decide +kernel
theorem d_X12_count_2 : decode prog_14_method_60_code 2 = .ok (.invokevirtual 453, 3) := by decide +kernel
theorem d_X12_count_5 : decode prog_14_method_60_code 5 = .ok (.ifCond .ne 5, 3) := by decide +kernel
theorem d_X12_count_8 : decode prog_14_method_60_code 8 = .ok (.iconst (-1), 1) := by decide +kernel
theorem d_X12_count_9 : decode prog_14_method_60_code 9 = .ok (.ireturn, 1) := by decide +kernel
theorem d_X12_count_10 : decode prog_14_method_60_code 10 = .ok (.iload_n 2, 1) := by decide +kernel
theorem d_X12_count_11 : decode prog_14_method_60_code 11 = .ok (.tableswitch 150 0 8 #[49, 49, 49, 49, 60, 67, 129, 136, 143], 49) := by decide +kernel
theorem d_X12_count_60 : decode prog_14_method_60_code 60 = .ok (.aload_n 0, 1) := by decide +kernel
theorem d_X12_count_61 : decode prog_14_method_60_code 61 = .ok (.getfield 58, 3) := by decide +kernel
theorem d_X12_count_64 : decode prog_14_method_60_code 64 = .ok (.iconst 4, 1) := by decide +kernel
theorem d_X12_count_65 : decode prog_14_method_60_code 65 = .ok (.iload_n 1, 1) := by decide +kernel
theorem d_X12_count_66 : decode prog_14_method_60_code 66 = .ok (.imul, 1) := by decide +kernel
theorem d_X12_count_67 : decode prog_14_method_60_code 67 = .ok (.iload_n 2, 1) := by decide +kernel
theorem d_X12_count_68 : decode prog_14_method_60_code 68 = .ok (.iadd, 1) := by decide +kernel
theorem d_X12_count_69 : decode prog_14_method_60_code 69 = .ok (.iaload, 1) := by decide +kernel
theorem d_X12_count_70 : decode prog_14_method_60_code 70 = .ok (.ireturn, 1) := by decide +kernel
theorem d_X12_count_71 : decode prog_14_method_60_code 71 = .ok (.aload_n 0, 1) := by decide +kernel
theorem d_X12_count_72 : decode prog_14_method_60_code 72 = .ok (.getfield 82, 3) := by decide +kernel
theorem d_X12_count_75 : decode prog_14_method_60_code 75 = .ok (.iload_n 1, 1) := by decide +kernel
theorem d_X12_count_76 : decode prog_14_method_60_code 76 = .ok (.iaload, 1) := by decide +kernel
theorem d_X12_count_77 : decode prog_14_method_60_code 77 = .ok (.ireturn, 1) := by decide +kernel
theorem d_X12_count_78 : decode prog_14_method_60_code 78 = .ok (.aload_n 0, 1) := by decide +kernel
theorem d_X12_count_79 : decode prog_14_method_60_code 79 = .ok (.getfield 82, 3) := by decide +kernel
theorem d_X12_count_82 : decode prog_14_method_60_code 82 = .ok (.iload_n 1, 1) := by decide +kernel
theorem d_X12_count_83 : decode prog_14_method_60_code 83 = .ok (.iaload, 1) := by decide +kernel
theorem d_X12_count_84 : decode prog_14_method_60_code 84 = .ok (.istore_n 3, 1) := by decide +kernel
theorem d_X12_count_85 : decode prog_14_method_60_code 85 = .ok (.iconst 0, 1) := by decide +kernel
theorem d_X12_count_86 : decode prog_14_method_60_code 86 = .ok (.istore 4, 2) := by decide +kernel
theorem d_X12_count_140 : decode prog_14_method_60_code 140 = .ok (.aload_n 0, 1) := by decide +kernel
theorem d_X12_count_141 : decode prog_14_method_60_code 141 = .ok (.getfield 85, 3) := by decide +kernel
theorem d_X12_count_144 : decode prog_14_method_60_code 144 = .ok (.iload_n 1, 1) := by decide +kernel
theorem d_X12_count_145 : decode prog_14_method_60_code 145 = .ok (.iaload, 1) := by decide +kernel
theorem d_X12_count_146 : decode prog_14_method_60_code 146 = .ok (.ireturn, 1) := by decide +kernel
theorem d_X12_count_147 : decode prog_14_method_60_code 147 = .ok (.aload_n 0, 1) := by decide +kernel
theorem d_X12_count_148 : decode prog_14_method_60_code 148 = .ok (.getfield 103, 3) := by decide +kernel
theorem d_X12_count_151 : decode prog_14_method_60_code 151 = .ok (.iload_n 1, 1) := by decide +kernel
theorem d_X12_count_152 : decode prog_14_method_60_code 152 = .ok (.iaload, 1) := by decide +kernel
theorem d_X12_count_153 : decode prog_14_method_60_code 153 = .ok (.ireturn, 1) := by decide +kernel
theorem d_X12_count_154 : decode prog_14_method_60_code 154 = .ok (.aload_n 0, 1) := by decide +kernel
theorem d_X12_count_155 : decode prog_14_method_60_code 155 = .ok (.getfield 27, 3) := by decide +kernel
theorem d_X12_count_158 : decode prog_14_method_60_code 158 = .ok (.iload_n 1, 1) := by decide +kernel
theorem d_X12_count_159 : decode prog_14_method_60_code 159 = .ok (.iaload, 1) := by decide +kernel
theorem d_X12_count_160 : decode prog_14_method_60_code 160 = .ok (.ireturn, 1) := by decide +kernel
theorem d_X12_count_161 : decode prog_14_method_60_code 161 = .ok (.iconst (-1), 1) := by decide +kernel
theorem d_X12_count_162 : decode prog_14_method_60_code 162 = .ok (.ireturn, 1) := by decide +kernel
theorem v_X12_count_0 {E : EE} {d : Nat} {Q : Option AV → AH → Prop} {x0 : Nat} {x1 : Int32} {x2 : Int32} {G : AH} (h0 : 0 < d) (h : isO E G x0 12 ∧ (wpI E (d - 1) M_X12_isProblem [vr x0, vi x1] G (fun r1 G2 => (¬ r1 = 0 → (x2 = 0 → isO E G2 x0 12 ∧ (isO E G2 (gR G2 x0 17) 14 ∧ (vp_in ((4 * x1) + x2) (gN G2 (gR G2 x0 17)) ∧ (Q (some (vi (gI G2 (gR G2 x0 17) (Int32.toNatClampNeg ((4 * x1) + x2))))) G2)))) ∧ ((x2 = 1 → isO E G2 x0 12 ∧ (isO E G2 (gR G2 x0 17) 14 ∧ (vp_in ((4 * x1) + x2) (gN G2 (gR G2 x0 17)) ∧ (Q (some (vi (gI G2 (gR G2 x0 17) (Int32.toNatClampNeg ((4 * x1) + x2))))) G2)))) ∧ ((x2 = 2 → isO E G2 x0 12 ∧ (isO E G2 (gR G2 x0 17) 14 ∧ (vp_in ((4 * x1) + x2) (gN G2 (gR G2 x0 17)) ∧ (Q (some (vi (gI G2 (gR G2 x0 17) (Int32.toNatClampNeg ((4 * x1) + x2))))) G2)))) ∧ ((x2 = 3 → isO E G2 x0 12 ∧ (isO E G2 (gR G2 x0 17) 14 ∧ (vp_in ((4 * x1) + x2) (gN G2 (gR G2 x0 17)) ∧ (Q (some (vi (gI G2 (gR G2 x0 17) (Int32.toNatClampNeg ((4 * x1) + x2))))) G2)))) ∧ ((x2 = 4 → isO E G2 x0 12 ∧ (isO E G2 (gR G2 x0 25) 14 ∧ (vp_in x1 (gN G2 (gR G2 x0 25)) ∧ (Q (some (vi (gI G2 (gR G2 x0 25) (Int32.toNatClampNeg x1)))) G2)))) ∧ ((x2 = 5 → isO E G2 x0 12 ∧ (isO E G2 (gR G2 x0 25) 14 ∧ (vp_in x1 (gN G2 (gR G2 x0 25)) ∧ (wp E d M_X12_count 88 [some (vr x0), some (vi x1), some (vi x2), some (vi (gI G2 (gR G2 x0 25) (Int32.toNatClampNeg x1))), some (vi 0)] [] G2 Q)))) ∧ ((x2 = 6 → isO E G2 x0 12 ∧ (isO E G2 (gR G2 x0 26) 14 ∧ (vp_in x1 (gN G2 (gR G2 x0 26)) ∧ (Q (some (vi (gI G2 (gR G2 x0 26) (Int32.toNatClampNeg x1)))) G2)))) ∧ ((x2 = 7 → isO E G2 x0 12 ∧ (isO E G2 (gR G2 x0 32) 14 ∧ (vp_in x1 (gN G2 (gR G2 x0 32)) ∧ (Q (some (vi (gI G2 (gR G2 x0 32) (Int32.toNatClampNeg x1)))) G2)))) ∧ ((x2 = 8 → isO E G2 x0 12 ∧ (isO E G2 (gR G2 x0 7) 14 ∧ (vp_in x1 (gN G2 (gR G2 x0 7)) ∧ (Q (some (vi (gI G2 (gR G2 x0 7) (Int32.toNatClampNeg x1)))) G2)))) ∧ ((¬ x2 = 0 → ¬ x2 = 1 → ¬ x2 = 2 → ¬ x2 = 3 → ¬ x2 = 4 → ¬ x2 = 5 → ¬ x2 = 6 → ¬ x2 = 7 → ¬ x2 = 8 → Q (some (vi (-1))) G2))))))))))) ∧ (r1 = 0 → Q (some (vi (-1))) G2)))) : wp E d M_X12_count 0 [some (vr x0), some (vi x1), some (vi x2), none, none] [] G Q := by
  refine wp_aload_n (pc := 0) d_X12_count_0 rfl ?_
  refine wp_iload_n (pc := 1) d_X12_count_1 rfl ?_
  obtain ⟨ho39, h⟩ := h
  refine wp_invV (pc := 2) (N := M_X12_isProblem) (As := [vi _]) (rest := []) (r := (cn_12, ct_12, 95)) d_X12_count_2 ml_X12_453 mk_X12_isProblem mv_X12_isProblem h0 ho39 rfl rfl (Nat.le_of_ble_eq_true rfl) ?_
  refine wpM.mono h (fun rr G2 hr => ?_)
  obtain ⟨r1, rfl, h⟩ := hr
  show wp E d M_X12_count 5 [some (vr _), some (vi _), some (vi _), none, none] [vi _] G2 Q
  refine wp_if_ne (pc := 5) (tgt := 10) d_X12_count_5 (by decide) (fun hc => ?_) (fun hc => ?_)
  · have h := h.1 hc
    refine wp_iload_n (pc := 10) d_X12_count_10 rfl ?_
    obtain ⟨hk, h⟩ := h
    by_cases hn3 : x2 = 0
    · have h := hk hn3
      refine wp_tblI (pc := 11) (tgt := 60) d_X12_count_11 (by rw [hn3]; decide) (by rw [hn3]; decide) (by rw [hn3]; first | done | rfl) (by decide) ?_
      refine wp_aload_n (pc := 60) d_X12_count_60 rfl ?_
      obtain ⟨ho4, h⟩ := h
      refine wp_getR (pc := 61) d_X12_count_61 fl_X12_58 (fun _ _ _ => rfl) ho4 ?_
      refine wp_iconst (pc := 64) (v := 4) d_X12_count_64 rfl ?_
      refine wp_iload_n (pc := 65) d_X12_count_65 rfl ?_
      refine wp_imul (pc := 66) d_X12_count_66 ?_
      refine wp_iload_n (pc := 67) d_X12_count_67 rfl ?_
      refine wp_iadd (pc := 68) d_X12_count_68 ?_
      obtain ⟨ho5, h⟩ := h
      obtain ⟨hi6, h⟩ := h
      refine wp_iald (pc := 69) d_X12_count_69 ho5 hi6 ?_
      exact wp_iret (pc := 70) d_X12_count_70 rfl h
    obtain ⟨hk, h⟩ := h
    by_cases hn7 : x2 = 1
    · have h := hk hn7
      refine wp_tblI (pc := 11) (tgt := 60) d_X12_count_11 (by rw [hn7]; decide) (by rw [hn7]; decide) (by rw [hn7]; first | done | rfl) (by decide) ?_
      refine wp_aload_n (pc := 60) d_X12_count_60 rfl ?_
      obtain ⟨ho8, h⟩ := h
      refine wp_getR (pc := 61) d_X12_count_61 fl_X12_58 (fun _ _ _ => rfl) ho8 ?_
      refine wp_iconst (pc := 64) (v := 4) d_X12_count_64 rfl ?_
      refine wp_iload_n (pc := 65) d_X12_count_65 rfl ?_
      refine wp_imul (pc := 66) d_X12_count_66 ?_
      refine wp_iload_n (pc := 67) d_X12_count_67 rfl ?_
      refine wp_iadd (pc := 68) d_X12_count_68 ?_
      obtain ⟨ho9, h⟩ := h
      obtain ⟨hi10, h⟩ := h
      refine wp_iald (pc := 69) d_X12_count_69 ho9 hi10 ?_
      exact wp_iret (pc := 70) d_X12_count_70 rfl h
    obtain ⟨hk, h⟩ := h
    by_cases hn11 : x2 = 2
    · have h := hk hn11
      refine wp_tblI (pc := 11) (tgt := 60) d_X12_count_11 (by rw [hn11]; decide) (by rw [hn11]; decide) (by rw [hn11]; first | done | rfl) (by decide) ?_
      refine wp_aload_n (pc := 60) d_X12_count_60 rfl ?_
      obtain ⟨ho12, h⟩ := h
      refine wp_getR (pc := 61) d_X12_count_61 fl_X12_58 (fun _ _ _ => rfl) ho12 ?_
      refine wp_iconst (pc := 64) (v := 4) d_X12_count_64 rfl ?_
      refine wp_iload_n (pc := 65) d_X12_count_65 rfl ?_
      refine wp_imul (pc := 66) d_X12_count_66 ?_
      refine wp_iload_n (pc := 67) d_X12_count_67 rfl ?_
      refine wp_iadd (pc := 68) d_X12_count_68 ?_
      obtain ⟨ho13, h⟩ := h
      obtain ⟨hi14, h⟩ := h
      refine wp_iald (pc := 69) d_X12_count_69 ho13 hi14 ?_
      exact wp_iret (pc := 70) d_X12_count_70 rfl h
    obtain ⟨hk, h⟩ := h
    by_cases hn15 : x2 = 3
    · have h := hk hn15
      refine wp_tblI (pc := 11) (tgt := 60) d_X12_count_11 (by rw [hn15]; decide) (by rw [hn15]; decide) (by rw [hn15]; first | done | rfl) (by decide) ?_
      refine wp_aload_n (pc := 60) d_X12_count_60 rfl ?_
      obtain ⟨ho16, h⟩ := h
      refine wp_getR (pc := 61) d_X12_count_61 fl_X12_58 (fun _ _ _ => rfl) ho16 ?_
      refine wp_iconst (pc := 64) (v := 4) d_X12_count_64 rfl ?_
      refine wp_iload_n (pc := 65) d_X12_count_65 rfl ?_
      refine wp_imul (pc := 66) d_X12_count_66 ?_
      refine wp_iload_n (pc := 67) d_X12_count_67 rfl ?_
      refine wp_iadd (pc := 68) d_X12_count_68 ?_
      obtain ⟨ho17, h⟩ := h
      obtain ⟨hi18, h⟩ := h
      refine wp_iald (pc := 69) d_X12_count_69 ho17 hi18 ?_
      exact wp_iret (pc := 70) d_X12_count_70 rfl h
    obtain ⟨hk, h⟩ := h
    by_cases hn19 : x2 = 4
    · have h := hk hn19
      refine wp_tblI (pc := 11) (tgt := 71) d_X12_count_11 (by rw [hn19]; decide) (by rw [hn19]; decide) (by rw [hn19]; first | done | rfl) (by decide) ?_
      refine wp_aload_n (pc := 71) d_X12_count_71 rfl ?_
      obtain ⟨ho20, h⟩ := h
      refine wp_getR (pc := 72) d_X12_count_72 fl_X12_82 (fun _ _ _ => rfl) ho20 ?_
      refine wp_iload_n (pc := 75) d_X12_count_75 rfl ?_
      obtain ⟨ho21, h⟩ := h
      obtain ⟨hi22, h⟩ := h
      refine wp_iald (pc := 76) d_X12_count_76 ho21 hi22 ?_
      exact wp_iret (pc := 77) d_X12_count_77 rfl h
    obtain ⟨hk, h⟩ := h
    by_cases hn23 : x2 = 5
    · have h := hk hn23
      refine wp_tblI (pc := 11) (tgt := 78) d_X12_count_11 (by rw [hn23]; decide) (by rw [hn23]; decide) (by rw [hn23]; first | done | rfl) (by decide) ?_
      refine wp_aload_n (pc := 78) d_X12_count_78 rfl ?_
      obtain ⟨ho24, h⟩ := h
      refine wp_getR (pc := 79) d_X12_count_79 fl_X12_82 (fun _ _ _ => rfl) ho24 ?_
      refine wp_iload_n (pc := 82) d_X12_count_82 rfl ?_
      obtain ⟨ho25, h⟩ := h
      obtain ⟨hi26, h⟩ := h
      refine wp_iald (pc := 83) d_X12_count_83 ho25 hi26 ?_
      refine wp_istore_n (pc := 84) (lv' := [some (vr _), some (vi _), some (vi _), some (vi _), none]) d_X12_count_84 (by decide) rfl ?_
      refine wp_iconst (pc := 85) (v := 0) d_X12_count_85 rfl ?_
      refine wp_istore (pc := 86) (lv' := [some (vr _), some (vi _), some (vi _), some (vi _), some (vi _)]) d_X12_count_86 (by decide) rfl ?_
      refine wp_sub ?_ h
      exact ⟨rfl, ⟨rfl, ⟨rfl, ⟨rfl, ⟨rfl, trivial⟩⟩⟩⟩⟩
    obtain ⟨hk, h⟩ := h
    by_cases hn27 : x2 = 6
    · have h := hk hn27
      refine wp_tblI (pc := 11) (tgt := 140) d_X12_count_11 (by rw [hn27]; decide) (by rw [hn27]; decide) (by rw [hn27]; first | done | rfl) (by decide) ?_
      refine wp_aload_n (pc := 140) d_X12_count_140 rfl ?_
      obtain ⟨ho28, h⟩ := h
      refine wp_getR (pc := 141) d_X12_count_141 fl_X12_85 (fun _ _ _ => rfl) ho28 ?_
      refine wp_iload_n (pc := 144) d_X12_count_144 rfl ?_
      obtain ⟨ho29, h⟩ := h
      obtain ⟨hi30, h⟩ := h
      refine wp_iald (pc := 145) d_X12_count_145 ho29 hi30 ?_
      exact wp_iret (pc := 146) d_X12_count_146 rfl h
    obtain ⟨hk, h⟩ := h
    by_cases hn31 : x2 = 7
    · have h := hk hn31
      refine wp_tblI (pc := 11) (tgt := 147) d_X12_count_11 (by rw [hn31]; decide) (by rw [hn31]; decide) (by rw [hn31]; first | done | rfl) (by decide) ?_
      refine wp_aload_n (pc := 147) d_X12_count_147 rfl ?_
      obtain ⟨ho32, h⟩ := h
      refine wp_getR (pc := 148) d_X12_count_148 fl_X12_103 (fun _ _ _ => rfl) ho32 ?_
      refine wp_iload_n (pc := 151) d_X12_count_151 rfl ?_
      obtain ⟨ho33, h⟩ := h
      obtain ⟨hi34, h⟩ := h
      refine wp_iald (pc := 152) d_X12_count_152 ho33 hi34 ?_
      exact wp_iret (pc := 153) d_X12_count_153 rfl h
    obtain ⟨hk, h⟩ := h
    by_cases hn35 : x2 = 8
    · have h := hk hn35
      refine wp_tblI (pc := 11) (tgt := 154) d_X12_count_11 (by rw [hn35]; decide) (by rw [hn35]; decide) (by rw [hn35]; first | done | rfl) (by decide) ?_
      refine wp_aload_n (pc := 154) d_X12_count_154 rfl ?_
      obtain ⟨ho36, h⟩ := h
      refine wp_getR (pc := 155) d_X12_count_155 fl_X12_27 (fun _ _ _ => rfl) ho36 ?_
      refine wp_iload_n (pc := 158) d_X12_count_158 rfl ?_
      obtain ⟨ho37, h⟩ := h
      obtain ⟨hi38, h⟩ := h
      refine wp_iald (pc := 159) d_X12_count_159 ho37 hi38 ?_
      exact wp_iret (pc := 160) d_X12_count_160 rfl h
    have h := h hn3 hn7 hn11 hn15 hn19 hn23 hn27 hn31 hn35
    have qhn3 := lv_neT (a := 0) hn3 (by decide)
    have qhn7 := lv_neT (a := 1) hn7 (by decide)
    have qhn11 := lv_neT (a := 2) hn11 (by decide)
    have qhn15 := lv_neT (a := 3) hn15 (by decide)
    have qhn19 := lv_neT (a := 4) hn19 (by decide)
    have qhn23 := lv_neT (a := 5) hn23 (by decide)
    have qhn27 := lv_neT (a := 6) hn27 (by decide)
    have qhn31 := lv_neT (a := 7) hn31 (by decide)
    have qhn35 := lv_neT (a := 8) hn35 (by decide)
    refine wp_tblO (pc := 11) (tgt := 161) d_X12_count_11 (by omega) (by decide) ?_
    refine wp_iconst (pc := 161) (v := (-1)) d_X12_count_161 rfl ?_
    exact wp_iret (pc := 162) d_X12_count_162 rfl h
  · have h := h.2 hc
    refine wp_iconst (pc := 8) (v := (-1)) d_X12_count_8 rfl ?_
    exact wp_iret (pc := 9) d_X12_count_9 rfl h
theorem d_X12_drop_0 : decode prog_14_method_53_code 0 = .ok (.aload_n 0, 1) := by decide +kernel
theorem d_X12_drop_1 : decode prog_14_method_53_code 1 = .ok (.iload_n 1, 1) := by decide +kernel
theorem d_X12_drop_2 : decode prog_14_method_53_code 2 = .ok (.invokevirtual 453, 3) := by decide +kernel
theorem d_X12_drop_5 : decode prog_14_method_53_code 5 = .ok (.ifCond .ne 5, 3) := by decide +kernel
theorem d_X12_drop_8 : decode prog_14_method_53_code 8 = .ok (.iconst 0, 1) := by decide +kernel
theorem d_X12_drop_9 : decode prog_14_method_53_code 9 = .ok (.ireturn, 1) := by decide +kernel
theorem d_X12_drop_10 : decode prog_14_method_53_code 10 = .ok (.aload_n 0, 1) := by decide +kernel
theorem d_X12_drop_11 : decode prog_14_method_53_code 11 = .ok (.getfield 19, 3) := by decide +kernel
theorem d_X12_drop_14 : decode prog_14_method_53_code 14 = .ok (.iload_n 1, 1) := by decide +kernel
theorem d_X12_drop_15 : decode prog_14_method_53_code 15 = .ok (.iconst 0, 1) := by decide +kernel
theorem d_X12_drop_16 : decode prog_14_method_53_code 16 = .ok (.bastore, 1) := by decide +kernel
theorem d_X12_drop_17 : decode prog_14_method_53_code 17 = .ok (.iconst 1, 1) := by decide +kernel
theorem d_X12_drop_18 : decode prog_14_method_53_code 18 = .ok (.ireturn, 1) := by decide +kernel
theorem v_X12_drop_0 {E : EE} {d : Nat} {Q : Option AV → AH → Prop} {x0 : Nat} {x1 : Int32} {G : AH} (h0 : 0 < d) (h : isO E G x0 12 ∧ (wpI E (d - 1) M_X12_isProblem [vr x0, vi x1] G (fun r1 G2 => (¬ r1 = 0 → isO E G2 x0 12 ∧ (isO E G2 (gR G2 x0 5) 16 ∧ (vp_in x1 (gN G2 (gR G2 x0 5)) ∧ (Q (some (vi 1)) (sI G2 (gR G2 x0 5) (Int32.toNatClampNeg x1) (nz 0)))))) ∧ (r1 = 0 → Q (some (vi 0)) G2)))) : wp E d M_X12_drop 0 [some (vr x0), some (vi x1)] [] G Q := by
  refine wp_aload_n (pc := 0) d_X12_drop_0 rfl ?_
  refine wp_iload_n (pc := 1) d_X12_drop_1 rfl ?_
  obtain ⟨ho6, h⟩ := h
  refine wp_invV (pc := 2) (N := M_X12_isProblem) (As := [vi _]) (rest := []) (r := (cn_12, ct_12, 95)) d_X12_drop_2 ml_X12_453 mk_X12_isProblem mv_X12_isProblem h0 ho6 rfl rfl (Nat.le_of_ble_eq_true rfl) ?_
  refine wpM.mono h (fun rr G2 hr => ?_)
  obtain ⟨r1, rfl, h⟩ := hr
  show wp E d M_X12_drop 5 [some (vr _), some (vi _)] [vi _] G2 Q
  refine wp_if_ne (pc := 5) (tgt := 10) d_X12_drop_5 (by decide) (fun hc => ?_) (fun hc => ?_)
  · have h := h.1 hc
    refine wp_aload_n (pc := 10) d_X12_drop_10 rfl ?_
    obtain ⟨ho3, h⟩ := h
    refine wp_getR (pc := 11) d_X12_drop_11 fl_X12_19 (fun _ _ _ => rfl) ho3 ?_
    refine wp_iload_n (pc := 14) d_X12_drop_14 rfl ?_
    refine wp_iconst (pc := 15) (v := 0) d_X12_drop_15 rfl ?_
    obtain ⟨ho4, h⟩ := h
    obtain ⟨hi5, h⟩ := h
    refine wp_zast (pc := 16) d_X12_drop_16 ho4 hi5 ?_
    refine wp_iconst (pc := 17) (v := 1) d_X12_drop_17 rfl ?_
    exact wp_zret (pc := 18) d_X12_drop_18 rfl rfl h
  · have h := h.2 hc
    refine wp_iconst (pc := 8) (v := 0) d_X12_drop_8 rfl ?_
    exact wp_zret (pc := 9) d_X12_drop_9 rfl rfl h
theorem d_X12_fault_0 : decode prog_14_method_51_code 0 = .ok (.aload_n 0, 1) := by decide +kernel
theorem d_X12_fault_1 : decode prog_14_method_51_code 1 = .ok (.getfield 450, 3) := by decide +kernel
theorem d_X12_fault_4 : decode prog_14_method_51_code 4 = .ok (.ireturn, 1) := by decide +kernel
theorem v_X12_fault_0 {E : EE} {d : Nat} {Q : Option AV → AH → Prop} {x0 : Nat} {G : AH} (h : isO E G x0 12 ∧ (Q (some (vi (gI G x0 4))) G)) : wp E d M_X12_fault 0 [some (vr x0)] [] G Q := by
  refine wp_aload_n (pc := 0) d_X12_fault_0 rfl ?_
  obtain ⟨ho1, h⟩ := h
  refine wp_getI (pc := 1) d_X12_fault_1 fl_X12_450 (fun _ _ _ => rfl) ho1 ?_
  exact wp_iret (pc := 4) d_X12_fault_4 rfl h
theorem d_X12_problem_0 : decode prog_14_method_50_code 0 = .ok (.aload_n 0, 1) := by decide +kernel
theorem d_X12_problem_1 : decode prog_14_method_50_code 1 = .ok (.invokevirtual 444, 3) := by decide +kernel
theorem d_X12_problem_4 : decode prog_14_method_50_code 4 = .ok (.istore_n 1, 1) := by decide +kernel
theorem d_X12_problem_5 : decode prog_14_method_50_code 5 = .ok (.iload_n 1, 1) := by decide +kernel
theorem d_X12_problem_6 : decode prog_14_method_50_code 6 = .ok (.iconst 4, 1) := by decide +kernel
theorem d_X12_problem_7 : decode prog_14_method_50_code 7 = .ok (.if_icmp .ne 6, 3) := by decide +kernel
theorem d_X12_problem_10 : decode prog_14_method_50_code 10 = .ok (.ldc 220, 2) := by decide +kernel
theorem d_X12_problem_12 : decode prog_14_method_50_code 12 = .ok (.ireturn, 1) := by decide +kernel
theorem d_X12_problem_13 : decode prog_14_method_50_code 13 = .ok (.iconst 0, 1) := by decide +kernel
theorem d_X12_problem_14 : decode prog_14_method_50_code 14 = .ok (.istore_n 2, 1) := by decide +kernel
theorem d_X12_problem_15 : decode prog_14_method_50_code 15 = .ok (.iload_n 2, 1) := by decide +kernel
theorem d_X12_problem_16 : decode prog_14_method_50_code 16 = .ok (.aload_n 0, 1) := by decide +kernel
theorem d_X12_problem_17 : decode prog_14_method_50_code 17 = .ok (.getfield 217, 3) := by decide +kernel
theorem d_X12_problem_20 : decode prog_14_method_50_code 20 = .ok (.if_icmp .ge 27, 3) := by decide +kernel
theorem d_X12_problem_23 : decode prog_14_method_50_code 23 = .ok (.aload_n 0, 1) := by decide +kernel
theorem d_X12_problem_24 : decode prog_14_method_50_code 24 = .ok (.getfield 24, 3) := by decide +kernel
theorem d_X12_problem_27 : decode prog_14_method_50_code 27 = .ok (.sipush 20000, 3) := by decide +kernel
theorem d_X12_problem_30 : decode prog_14_method_50_code 30 = .ok (.iload_n 1, 1) := by decide +kernel
theorem d_X12_problem_31 : decode prog_14_method_50_code 31 = .ok (.imul, 1) := by decide +kernel
theorem d_X12_problem_32 : decode prog_14_method_50_code 32 = .ok (.iload_n 2, 1) := by decide +kernel
theorem d_X12_problem_33 : decode prog_14_method_50_code 33 = .ok (.iadd, 1) := by decide +kernel
theorem d_X12_problem_34 : decode prog_14_method_50_code 34 = .ok (.aload_n 0, 1) := by decide +kernel
theorem d_X12_problem_35 : decode prog_14_method_50_code 35 = .ok (.getfield 9, 3) := by decide +kernel
theorem d_X12_problem_38 : decode prog_14_method_50_code 38 = .ok (.iload_n 2, 1) := by decide +kernel
theorem d_X12_problem_39 : decode prog_14_method_50_code 39 = .ok (.baload, 1) := by decide +kernel
theorem d_X12_problem_40 : decode prog_14_method_50_code 40 = .ok (.bastore, 1) := by decide +kernel
theorem d_X12_problem_41 : decode prog_14_method_50_code 41 = .ok (.iinc 2 1, 3) := by decide +kernel
theorem d_X12_problem_44 : decode prog_14_method_50_code 44 = .ok (.goto (-29), 3) := by decide +kernel
theorem d_X12_problem_47 : decode prog_14_method_50_code 47 = .ok (.aload_n 0, 1) := by decide +kernel
theorem d_X12_problem_48 : decode prog_14_method_50_code 48 = .ok (.getfield 27, 3) := by decide +kernel
theorem d_X12_problem_51 : decode prog_14_method_50_code 51 = .ok (.iload_n 1, 1) := by decide +kernel
theorem d_X12_problem_52 : decode prog_14_method_50_code 52 = .ok (.aload_n 0, 1) := by decide +kernel
theorem d_X12_problem_53 : decode prog_14_method_50_code 53 = .ok (.getfield 217, 3) := by decide +kernel
theorem d_X12_problem_56 : decode prog_14_method_50_code 56 = .ok (.iastore, 1) := by decide +kernel
theorem d_X12_problem_57 : decode prog_14_method_50_code 57 = .ok (.aload_n 0, 1) := by decide +kernel
theorem d_X12_problem_58 : decode prog_14_method_50_code 58 = .ok (.iconst 0, 1) := by decide +kernel
theorem d_X12_problem_59 : decode prog_14_method_50_code 59 = .ok (.putfield 217, 3) := by decide +kernel
theorem d_X12_problem_62 : decode prog_14_method_50_code 62 = .ok (.aload_n 0, 1) := by decide +kernel
theorem d_X12_problem_63 : decode prog_14_method_50_code 63 = .ok (.iload_n 1, 1) := by decide +kernel
theorem d_X12_problem_64 : decode prog_14_method_50_code 64 = .ok (.invokevirtual 447, 3) := by decide +kernel
theorem d_X12_problem_67 : decode prog_14_method_50_code 67 = .ok (.istore_n 2, 1) := by decide +kernel
theorem d_X12_problem_68 : decode prog_14_method_50_code 68 = .ok (.aload_n 0, 1) := by decide +kernel
theorem d_X12_problem_69 : decode prog_14_method_50_code 69 = .ok (.aload_n 0, 1) := by decide +kernel
theorem d_X12_problem_70 : decode prog_14_method_50_code 70 = .ok (.getfield 311, 3) := by decide +kernel
theorem d_X12_problem_73 : decode prog_14_method_50_code 73 = .ok (.putfield 450, 3) := by decide +kernel
theorem d_X12_problem_76 : decode prog_14_method_50_code 76 = .ok (.iload_n 2, 1) := by decide +kernel
theorem d_X12_problem_77 : decode prog_14_method_50_code 77 = .ok (.ifCond .ne 10, 3) := by decide +kernel
theorem d_X12_problem_80 : decode prog_14_method_50_code 80 = .ok (.iconst (-1), 1) := by decide +kernel
theorem d_X12_problem_81 : decode prog_14_method_50_code 81 = .ok (.aload_n 0, 1) := by decide +kernel
theorem d_X12_problem_82 : decode prog_14_method_50_code 82 = .ok (.getfield 314, 3) := by decide +kernel
theorem d_X12_problem_85 : decode prog_14_method_50_code 85 = .ok (.isub, 1) := by decide +kernel
theorem d_X12_problem_86 : decode prog_14_method_50_code 86 = .ok (.ireturn, 1) := by decide +kernel
theorem d_X12_problem_87 : decode prog_14_method_50_code 87 = .ok (.aload_n 0, 1) := by decide +kernel
theorem d_X12_problem_88 : decode prog_14_method_50_code 88 = .ok (.getfield 19, 3) := by decide +kernel
theorem d_X12_problem_91 : decode prog_14_method_50_code 91 = .ok (.iload_n 1, 1) := by decide +kernel
theorem d_X12_problem_92 : decode prog_14_method_50_code 92 = .ok (.iconst 1, 1) := by decide +kernel
theorem d_X12_problem_93 : decode prog_14_method_50_code 93 = .ok (.bastore, 1) := by decide +kernel
theorem d_X12_problem_94 : decode prog_14_method_50_code 94 = .ok (.iload_n 1, 1) := by decide +kernel
theorem d_X12_problem_95 : decode prog_14_method_50_code 95 = .ok (.ireturn, 1) := by decide +kernel
theorem v_X12_problem_0 {E : EE} {d : Nat} {Q : Option AV → AH → Prop} {x0 : Nat} {G : AH} (h0 : 0 < d) (h : isO E G x0 12 ∧ (wpI E (d - 1) M_X12_freeSlot [vr x0] G (fun r1 G2 => (¬ r1 = 4 → wp E d M_X12_problem 15 [some (vr x0), some (vi r1), some (vi 0)] [] G2 Q) ∧ (r1 = 4 → Q (some (vi (-100000))) G2)))) : wp E d M_X12_problem 0 [some (vr x0), none, none] [] G Q := by
  refine wp_aload_n (pc := 0) d_X12_problem_0 rfl ?_
  obtain ⟨ho3, h⟩ := h
  refine wp_invV (pc := 1) (N := M_X12_freeSlot) (As := []) (rest := []) (r := (cn_12, ct_12, 95)) d_X12_problem_1 ml_X12_444 mk_X12_freeSlot mv_X12_freeSlot h0 ho3 rfl rfl (Nat.le_of_ble_eq_true rfl) ?_
  refine wpM.mono h (fun rr G2 hr => ?_)
  obtain ⟨r1, rfl, h⟩ := hr
  show wp E d M_X12_problem 4 [some (vr _), none, none] [vi _] G2 Q
  refine wp_istore_n (pc := 4) (lv' := [some (vr _), some (vi _), none]) d_X12_problem_4 (by decide) rfl ?_
  refine wp_iload_n (pc := 5) d_X12_problem_5 rfl ?_
  refine wp_iconst (pc := 6) (v := 4) d_X12_problem_6 rfl ?_
  refine wp_icmp_ne (pc := 7) (tgt := 13) d_X12_problem_7 (by decide) (fun hc => ?_) (fun hc => ?_)
  · have h := h.1 hc
    refine wp_iconst (pc := 13) (v := 0) d_X12_problem_13 rfl ?_
    refine wp_istore_n (pc := 14) (lv' := [some (vr _), some (vi _), some (vi _)]) d_X12_problem_14 (by decide) rfl ?_
    refine wp_sub ?_ h
    exact ⟨rfl, ⟨rfl, ⟨rfl, trivial⟩⟩⟩
  · have h := h.2 hc
    refine wp_ldc (pc := 10) (v := (-100000)) d_X12_problem_10 ci_X12_220 ?_
    exact wp_iret (pc := 12) d_X12_problem_12 rfl h
theorem v_X12_problem_15 {E : EE} {d : Nat} {Q : Option AV → AH → Prop} {x0 : Nat} {x1 : Int32} {x2 : Int32} {G : AH} (h0 : 0 < d) (h : isO E G x0 12 ∧ (((gI G x0 1) ≤ x2 → isO E G (gR G x0 7) 14 ∧ (vp_in x1 (gN G (gR G x0 7)) ∧ (∀ G4 : AH, G4 = sI G (gR G x0 7) (Int32.toNatClampNeg x1) (gI G x0 1) → ∀ G6 : AH, G6 = sI G4 x0 1 0 → wpI E (d - 1) M_X12_readProblem [vr x0, vi x1] G6 (fun r8 G9 => isO E G9 x0 12 ∧ (∀ G11 : AH, G11 = sI G9 x0 4 (gI G9 x0 45) → (¬ r8 = 0 → isO E G11 (gR G11 x0 5) 16 ∧ (vp_in x1 (gN G11 (gR G11 x0 5)) ∧ (∀ G15 : AH, G15 = sI G11 (gR G11 x0 5) (Int32.toNatClampNeg x1) (nz 1) → Q (some (vi x1)) G15))) ∧ (r8 = 0 → Q (some (vi ((-1) - (gI G11 x0 46)))) G11)))))) ∧ (¬ ((gI G x0 1) ≤ x2) → isO E G (gR G x0 0) 13 ∧ (vp_in x2 (gN G (gR G x0 0)) ∧ (isO E G (gR G x0 6) 13 ∧ (vp_in ((20000 * x1) + x2) (gN G (gR G x0 6)) ∧ (∀ G21 : AH, G21 = sI G (gR G x0 6) (Int32.toNatClampNeg ((20000 * x1) + x2)) (i2b (gI G (gR G x0 0) (Int32.toNatClampNeg x2))) → wp E d M_X12_problem 15 [some (vr x0), some (vi x1), some (vi (x2 + 1))] [] G21 Q))))))) : wp E d M_X12_problem 15 [some (vr x0), some (vi x1), some (vi x2)] [] G Q := by
  refine wp_iload_n (pc := 15) d_X12_problem_15 rfl ?_
  refine wp_aload_n (pc := 16) d_X12_problem_16 rfl ?_
  obtain ⟨ho1, h⟩ := h
  refine wp_getI (pc := 17) d_X12_problem_17 fl_X12_217 (fun _ _ _ => rfl) ho1 ?_
  refine wp_icmp_ge (pc := 20) (tgt := 47) d_X12_problem_20 (by decide) (fun hc => ?_) (fun hc => ?_)
  · have h := h.1 hc
    refine wp_aload_n (pc := 47) d_X12_problem_47 rfl ?_
    refine wp_getR (pc := 48) d_X12_problem_48 fl_X12_27 (fun _ _ _ => rfl) ho1 ?_
    refine wp_iload_n (pc := 51) d_X12_problem_51 rfl ?_
    refine wp_aload_n (pc := 52) d_X12_problem_52 rfl ?_
    refine wp_getI (pc := 53) d_X12_problem_53 fl_X12_217 (fun _ _ _ => rfl) ho1 ?_
    obtain ⟨ho2, h⟩ := h
    obtain ⟨hi3, h⟩ := h
    refine wp_iast (pc := 56) d_X12_problem_56 ho2 hi3 ?_
    refine wp_nm (fun G4 eG4 => ?_)
    have h := h G4 eG4
    have ho5 := isO_sI eG4 ho1
    refine wp_aload_n (pc := 57) d_X12_problem_57 rfl ?_
    refine wp_iconst (pc := 58) (v := 0) d_X12_problem_58 rfl ?_
    refine wp_putI (pc := 59) d_X12_problem_59 fl_X12_217 (fun _ _ _ => rfl) (Or.inl rfl) ho5 (okI_int _) ?_
    refine wp_nm (fun G6 eG6 => ?_)
    have h := h G6 eG6
    have ho7 := isO_sI eG6 ho5
    refine wp_aload_n (pc := 62) d_X12_problem_62 rfl ?_
    refine wp_iload_n (pc := 63) d_X12_problem_63 rfl ?_
    refine wp_invV (pc := 64) (N := M_X12_readProblem) (As := [vi _]) (rest := []) (r := (cn_12, ct_12, 95)) d_X12_problem_64 ml_X12_447 mk_X12_readProblem mv_X12_readProblem h0 ho7 rfl rfl (Nat.le_of_ble_eq_true rfl) ?_
    refine wpM.mono h (fun rr G9 hr => ?_)
    obtain ⟨r8, rfl, h⟩ := hr
    show wp E d M_X12_problem 67 [some (vr _), some (vi _), some (vi _)] [vi _] G9 Q
    refine wp_istore_n (pc := 67) (lv' := [some (vr _), some (vi _), some (vi _)]) d_X12_problem_67 (by decide) rfl ?_
    refine wp_aload_n (pc := 68) d_X12_problem_68 rfl ?_
    refine wp_aload_n (pc := 69) d_X12_problem_69 rfl ?_
    obtain ⟨ho10, h⟩ := h
    refine wp_getI (pc := 70) d_X12_problem_70 fl_X12_311 (fun _ _ _ => rfl) ho10 ?_
    refine wp_putI (pc := 73) d_X12_problem_73 fl_X12_450 (fun _ _ _ => rfl) (Or.inl rfl) ho10 (okI_int _) ?_
    refine wp_nm (fun G11 eG11 => ?_)
    have h := h G11 eG11
    have ho12 := isO_sI eG11 ho10
    refine wp_iload_n (pc := 76) d_X12_problem_76 rfl ?_
    refine wp_if_ne (pc := 77) (tgt := 87) d_X12_problem_77 (by decide) (fun hc => ?_) (fun hc => ?_)
    · have h := h.1 hc
      refine wp_aload_n (pc := 87) d_X12_problem_87 rfl ?_
      refine wp_getR (pc := 88) d_X12_problem_88 fl_X12_19 (fun _ _ _ => rfl) ho12 ?_
      refine wp_iload_n (pc := 91) d_X12_problem_91 rfl ?_
      refine wp_iconst (pc := 92) (v := 1) d_X12_problem_92 rfl ?_
      obtain ⟨ho13, h⟩ := h
      obtain ⟨hi14, h⟩ := h
      refine wp_zast (pc := 93) d_X12_problem_93 ho13 hi14 ?_
      refine wp_nm (fun G15 eG15 => ?_)
      have h := h G15 eG15
      have ho16 := isO_sI eG15 ho12
      refine wp_iload_n (pc := 94) d_X12_problem_94 rfl ?_
      exact wp_iret (pc := 95) d_X12_problem_95 rfl h
    · have h := h.2 hc
      refine wp_iconst (pc := 80) (v := (-1)) d_X12_problem_80 rfl ?_
      refine wp_aload_n (pc := 81) d_X12_problem_81 rfl ?_
      refine wp_getI (pc := 82) d_X12_problem_82 fl_X12_314 (fun _ _ _ => rfl) ho12 ?_
      refine wp_isub (pc := 85) d_X12_problem_85 ?_
      exact wp_iret (pc := 86) d_X12_problem_86 rfl h
  · have h := h.2 hc
    refine wp_aload_n (pc := 23) d_X12_problem_23 rfl ?_
    refine wp_getR (pc := 24) d_X12_problem_24 fl_X12_24 (fun _ _ _ => rfl) ho1 ?_
    refine wp_sipush (pc := 27) (v := 20000) d_X12_problem_27 rfl ?_
    refine wp_iload_n (pc := 30) d_X12_problem_30 rfl ?_
    refine wp_imul (pc := 31) d_X12_problem_31 ?_
    refine wp_iload_n (pc := 32) d_X12_problem_32 rfl ?_
    refine wp_iadd (pc := 33) d_X12_problem_33 ?_
    refine wp_aload_n (pc := 34) d_X12_problem_34 rfl ?_
    refine wp_getR (pc := 35) d_X12_problem_35 fl_X12_9 (fun _ _ _ => rfl) ho1 ?_
    refine wp_iload_n (pc := 38) d_X12_problem_38 rfl ?_
    obtain ⟨ho17, h⟩ := h
    obtain ⟨hi18, h⟩ := h
    refine wp_bald (pc := 39) d_X12_problem_39 ho17 hi18 ?_
    obtain ⟨ho19, h⟩ := h
    obtain ⟨hi20, h⟩ := h
    refine wp_bast (pc := 40) d_X12_problem_40 ho19 hi20 ?_
    refine wp_nm (fun G21 eG21 => ?_)
    have h := h G21 eG21
    have ho22 := isO_sI eG21 ho1
    refine wp_iinc (pc := 41) (v := 1) (lv' := [some (vr _), some (vi _), some (vi _)]) d_X12_problem_41 (by decide) rfl rfl rfl ?_
    refine wp_goto (pc := 44) (tgt := 15) d_X12_problem_44 (by decide) ?_
    refine wp_sub ?_ h
    exact ⟨rfl, ⟨rfl, ⟨rfl, trivial⟩⟩⟩
theorem d_X12_tapeAt_0 : decode prog_14_method_5_code 0 = .ok (.iload_n 1, 1) := by decide +kernel
theorem d_X12_tapeAt_1 : decode prog_14_method_5_code 1 = .ok (.ifCond .lt 11, 3) := by decide +kernel
theorem d_X12_tapeAt_4 : decode prog_14_method_5_code 4 = .ok (.iload_n 1, 1) := by decide +kernel
theorem d_X12_tapeAt_5 : decode prog_14_method_5_code 5 = .ok (.aload_n 0, 1) := by decide +kernel
theorem d_X12_tapeAt_6 : decode prog_14_method_5_code 6 = .ok (.getfield 217, 3) := by decide +kernel
theorem d_X12_tapeAt_9 : decode prog_14_method_5_code 9 = .ok (.if_icmp .lt 7, 3) := by decide +kernel
theorem d_X12_tapeAt_12 : decode prog_14_method_5_code 12 = .ok (.iconst (-1), 1) := by decide +kernel
theorem d_X12_tapeAt_13 : decode prog_14_method_5_code 13 = .ok (.goto 13, 3) := by decide +kernel
theorem d_X12_tapeAt_16 : decode prog_14_method_5_code 16 = .ok (.aload_n 0, 1) := by decide +kernel
theorem d_X12_tapeAt_17 : decode prog_14_method_5_code 17 = .ok (.getfield 9, 3) := by decide +kernel
theorem d_X12_tapeAt_20 : decode prog_14_method_5_code 20 = .ok (.iload_n 1, 1) := by decide +kernel
theorem d_X12_tapeAt_21 : decode prog_14_method_5_code 21 = .ok (.baload, 1) := by decide +kernel
theorem d_X12_tapeAt_22 : decode prog_14_method_5_code 22 = .ok (.sipush 255, 3) := by decide +kernel
theorem d_X12_tapeAt_25 : decode prog_14_method_5_code 25 = .ok (.iand, 1) := by decide +kernel
theorem d_X12_tapeAt_26 : decode prog_14_method_5_code 26 = .ok (.ireturn, 1) := by decide +kernel
theorem v_X12_tapeAt_0 {E : EE} {d : Nat} {Q : Option AV → AH → Prop} {x0 : Nat} {x1 : Int32} {G : AH} (h : (x1 < 0 → wp E d M_X12_tapeAt 12 [some (vr x0), some (vi x1)] [] G Q) ∧ (¬ (x1 < 0) → isO E G x0 12 ∧ ((x1 < (gI G x0 1) → isO E G (gR G x0 0) 13 ∧ (vp_in x1 (gN G (gR G x0 0)) ∧ (Q (some (vi ((gI G (gR G x0 0) (Int32.toNatClampNeg x1)) &&& 255))) G))) ∧ (¬ (x1 < (gI G x0 1)) → wp E d M_X12_tapeAt 12 [some (vr x0), some (vi x1)] [] G Q)))) : wp E d M_X12_tapeAt 0 [some (vr x0), some (vi x1)] [] G Q := by
  refine wp_iload_n (pc := 0) d_X12_tapeAt_0 rfl ?_
  refine wp_if_lt (pc := 1) (tgt := 12) d_X12_tapeAt_1 (by decide) (fun hc => ?_) (fun hc => ?_)
  · have h := h.1 hc
    refine wp_sub ?_ h
    exact ⟨rfl, ⟨rfl, trivial⟩⟩
  · have h := h.2 hc
    refine wp_iload_n (pc := 4) d_X12_tapeAt_4 rfl ?_
    refine wp_aload_n (pc := 5) d_X12_tapeAt_5 rfl ?_
    obtain ⟨ho1, h⟩ := h
    refine wp_getI (pc := 6) d_X12_tapeAt_6 fl_X12_217 (fun _ _ _ => rfl) ho1 ?_
    refine wp_icmp_lt (pc := 9) (tgt := 16) d_X12_tapeAt_9 (by decide) (fun hc => ?_) (fun hc => ?_)
    · have h := h.1 hc
      refine wp_aload_n (pc := 16) d_X12_tapeAt_16 rfl ?_
      refine wp_getR (pc := 17) d_X12_tapeAt_17 fl_X12_9 (fun _ _ _ => rfl) ho1 ?_
      refine wp_iload_n (pc := 20) d_X12_tapeAt_20 rfl ?_
      obtain ⟨ho2, h⟩ := h
      obtain ⟨hi3, h⟩ := h
      refine wp_bald (pc := 21) d_X12_tapeAt_21 ho2 hi3 ?_
      refine wp_sipush (pc := 22) (v := 255) d_X12_tapeAt_22 rfl ?_
      refine wp_iand (pc := 25) d_X12_tapeAt_25 ?_
      exact wp_iret (pc := 26) d_X12_tapeAt_26 rfl h
    · have h := h.2 hc
      refine wp_sub ?_ h
      exact ⟨rfl, ⟨rfl, trivial⟩⟩
theorem v_X12_tapeAt_12 {E : EE} {d : Nat} {Q : Option AV → AH → Prop} {x0 : Nat} {x1 : Int32} {G : AH} (h : Q (some (vi (-1))) G) : wp E d M_X12_tapeAt 12 [some (vr x0), some (vi x1)] [] G Q := by
  refine wp_iconst (pc := 12) (v := (-1)) d_X12_tapeAt_12 rfl ?_
  refine wp_goto (pc := 13) (tgt := 26) d_X12_tapeAt_13 (by decide) ?_
  exact wp_iret (pc := 26) d_X12_tapeAt_26 rfl h
theorem d_X12_spoil_0 : decode prog_14_method_4_code 0 = .ok (.iload_n 1, 1) := by decide +kernel
theorem d_X12_spoil_1 : decode prog_14_method_4_code 1 = .ok (.ifCond .lt 11, 3) := by decide +kernel
theorem d_X12_spoil_4 : decode prog_14_method_4_code 4 = .ok (.iload_n 1, 1) := by decide +kernel
theorem d_X12_spoil_5 : decode prog_14_method_4_code 5 = .ok (.aload_n 0, 1) := by decide +kernel
theorem d_X12_spoil_6 : decode prog_14_method_4_code 6 = .ok (.getfield 217, 3) := by decide +kernel
theorem d_X12_spoil_9 : decode prog_14_method_4_code 9 = .ok (.if_icmp .lt 5, 3) := by decide +kernel
theorem d_X12_spoil_12 : decode prog_14_method_4_code 12 = .ok (.iconst (-1), 1) := by decide +kernel
theorem d_X12_spoil_13 : decode prog_14_method_4_code 13 = .ok (.ireturn, 1) := by decide +kernel
theorem d_X12_spoil_14 : decode prog_14_method_4_code 14 = .ok (.aload_n 0, 1) := by decide +kernel
theorem d_X12_spoil_15 : decode prog_14_method_4_code 15 = .ok (.getfield 9, 3) := by decide +kernel
theorem d_X12_spoil_18 : decode prog_14_method_4_code 18 = .ok (.iload_n 1, 1) := by decide +kernel
theorem d_X12_spoil_19 : decode prog_14_method_4_code 19 = .ok (.aload_n 0, 1) := by decide +kernel
theorem d_X12_spoil_20 : decode prog_14_method_4_code 20 = .ok (.getfield 9, 3) := by decide +kernel
theorem d_X12_spoil_23 : decode prog_14_method_4_code 23 = .ok (.iload_n 1, 1) := by decide +kernel
theorem d_X12_spoil_24 : decode prog_14_method_4_code 24 = .ok (.baload, 1) := by decide +kernel
theorem d_X12_spoil_25 : decode prog_14_method_4_code 25 = .ok (.iload_n 2, 1) := by decide +kernel
theorem d_X12_spoil_26 : decode prog_14_method_4_code 26 = .ok (.ixor, 1) := by decide +kernel
theorem d_X12_spoil_27 : decode prog_14_method_4_code 27 = .ok (.i2b, 1) := by decide +kernel
theorem d_X12_spoil_28 : decode prog_14_method_4_code 28 = .ok (.bastore, 1) := by decide +kernel
theorem d_X12_spoil_29 : decode prog_14_method_4_code 29 = .ok (.aload_n 0, 1) := by decide +kernel
theorem d_X12_spoil_30 : decode prog_14_method_4_code 30 = .ok (.getfield 9, 3) := by decide +kernel
theorem d_X12_spoil_33 : decode prog_14_method_4_code 33 = .ok (.iload_n 1, 1) := by decide +kernel
theorem d_X12_spoil_34 : decode prog_14_method_4_code 34 = .ok (.baload, 1) := by decide +kernel
theorem d_X12_spoil_35 : decode prog_14_method_4_code 35 = .ok (.sipush 255, 3) := by decide +kernel
theorem d_X12_spoil_38 : decode prog_14_method_4_code 38 = .ok (.iand, 1) := by decide +kernel
theorem d_X12_spoil_39 : decode prog_14_method_4_code 39 = .ok (.ireturn, 1) := by decide +kernel
theorem v_X12_spoil_0 {E : EE} {d : Nat} {Q : Option AV → AH → Prop} {x0 : Nat} {x1 : Int32} {x2 : Int32} {G : AH} (h : (x1 < 0 → Q (some (vi (-1))) G) ∧ (¬ (x1 < 0) → isO E G x0 12 ∧ ((x1 < (gI G x0 1) → isO E G (gR G x0 0) 13 ∧ (vp_in x1 (gN G (gR G x0 0)) ∧ (vp_in x1 (gN G (gR G x0 0)) ∧ (vp_in x1 (gN G (gR G x0 0)) ∧ (Q (some (vi ((gI (sI G (gR G x0 0) (Int32.toNatClampNeg x1) (i2b (i2b ((gI G (gR G x0 0) (Int32.toNatClampNeg x1)) ^^^ x2)))) (gR G x0 0) (Int32.toNatClampNeg x1)) &&& 255))) (sI G (gR G x0 0) (Int32.toNatClampNeg x1) (i2b (i2b ((gI G (gR G x0 0) (Int32.toNatClampNeg x1)) ^^^ x2))))))))) ∧ (¬ (x1 < (gI G x0 1)) → Q (some (vi (-1))) G)))) : wp E d M_X12_spoil 0 [some (vr x0), some (vi x1), some (vi x2)] [] G Q := by
  refine wp_iload_n (pc := 0) d_X12_spoil_0 rfl ?_
  refine wp_if_lt (pc := 1) (tgt := 12) d_X12_spoil_1 (by decide) (fun hc => ?_) (fun hc => ?_)
  · have h := h.1 hc
    refine wp_iconst (pc := 12) (v := (-1)) d_X12_spoil_12 rfl ?_
    exact wp_iret (pc := 13) d_X12_spoil_13 rfl h
  · have h := h.2 hc
    refine wp_iload_n (pc := 4) d_X12_spoil_4 rfl ?_
    refine wp_aload_n (pc := 5) d_X12_spoil_5 rfl ?_
    obtain ⟨ho1, h⟩ := h
    refine wp_getI (pc := 6) d_X12_spoil_6 fl_X12_217 (fun _ _ _ => rfl) ho1 ?_
    refine wp_icmp_lt (pc := 9) (tgt := 14) d_X12_spoil_9 (by decide) (fun hc => ?_) (fun hc => ?_)
    · have h := h.1 hc
      refine wp_aload_n (pc := 14) d_X12_spoil_14 rfl ?_
      refine wp_getR (pc := 15) d_X12_spoil_15 fl_X12_9 (fun _ _ _ => rfl) ho1 ?_
      refine wp_iload_n (pc := 18) d_X12_spoil_18 rfl ?_
      refine wp_aload_n (pc := 19) d_X12_spoil_19 rfl ?_
      refine wp_getR (pc := 20) d_X12_spoil_20 fl_X12_9 (fun _ _ _ => rfl) ho1 ?_
      refine wp_iload_n (pc := 23) d_X12_spoil_23 rfl ?_
      obtain ⟨ho2, h⟩ := h
      obtain ⟨hi3, h⟩ := h
      refine wp_bald (pc := 24) d_X12_spoil_24 ho2 hi3 ?_
      refine wp_iload_n (pc := 25) d_X12_spoil_25 rfl ?_
      refine wp_ixor (pc := 26) d_X12_spoil_26 ?_
      refine wp_i2b (pc := 27) d_X12_spoil_27 ?_
      obtain ⟨hi4, h⟩ := h
      refine wp_bast (pc := 28) d_X12_spoil_28 ho2 hi4 ?_
      refine wp_aload_n (pc := 29) d_X12_spoil_29 rfl ?_
      refine wp_getR (pc := 30) d_X12_spoil_30 fl_X12_9 (fun _ _ _ => rfl) ho1 ?_
      show wp E d M_X12_spoil 33 [some (vr x0), some (vi x1), some (vi x2)] [vr (gR G x0 0)] (sI G (gR G x0 0) (Int32.toNatClampNeg x1) (i2b (i2b ((gI G (gR G x0 0) (Int32.toNatClampNeg x1)) ^^^ x2)))) Q
      refine wp_iload_n (pc := 33) d_X12_spoil_33 rfl ?_
      obtain ⟨hi5, h⟩ := h
      refine wp_bald (pc := 34) d_X12_spoil_34 ho2 hi5 ?_
      refine wp_sipush (pc := 35) (v := 255) d_X12_spoil_35 rfl ?_
      refine wp_iand (pc := 38) d_X12_spoil_38 ?_
      exact wp_iret (pc := 39) d_X12_spoil_39 rfl h
    · have h := h.2 hc
      refine wp_iconst (pc := 12) (v := (-1)) d_X12_spoil_12 rfl ?_
      exact wp_iret (pc := 13) d_X12_spoil_13 rfl h
theorem d_X12_cut_0 : decode prog_14_method_3_code 0 = .ok (.iload_n 1, 1) := by decide +kernel
theorem d_X12_cut_1 : decode prog_14_method_3_code 1 = .ok (.ifCond .lt 11, 3) := by decide +kernel
theorem d_X12_cut_4 : decode prog_14_method_3_code 4 = .ok (.iload_n 1, 1) := by decide +kernel
theorem d_X12_cut_5 : decode prog_14_method_3_code 5 = .ok (.aload_n 0, 1) := by decide +kernel
theorem d_X12_cut_6 : decode prog_14_method_3_code 6 = .ok (.getfield 217, 3) := by decide +kernel
theorem d_X12_cut_9 : decode prog_14_method_3_code 9 = .ok (.if_icmp .le 5, 3) := by decide +kernel
theorem d_X12_cut_12 : decode prog_14_method_3_code 12 = .ok (.iconst (-1), 1) := by decide +kernel
theorem d_X12_cut_13 : decode prog_14_method_3_code 13 = .ok (.ireturn, 1) := by decide +kernel
theorem d_X12_cut_14 : decode prog_14_method_3_code 14 = .ok (.aload_n 0, 1) := by decide +kernel
theorem d_X12_cut_15 : decode prog_14_method_3_code 15 = .ok (.getfield 217, 3) := by decide +kernel
theorem d_X12_cut_18 : decode prog_14_method_3_code 18 = .ok (.istore_n 2, 1) := by decide +kernel
theorem d_X12_cut_19 : decode prog_14_method_3_code 19 = .ok (.aload_n 0, 1) := by decide +kernel
theorem d_X12_cut_20 : decode prog_14_method_3_code 20 = .ok (.iload_n 1, 1) := by decide +kernel
theorem d_X12_cut_21 : decode prog_14_method_3_code 21 = .ok (.putfield 217, 3) := by decide +kernel
theorem d_X12_cut_24 : decode prog_14_method_3_code 24 = .ok (.iload_n 2, 1) := by decide +kernel
theorem d_X12_cut_25 : decode prog_14_method_3_code 25 = .ok (.ireturn, 1) := by decide +kernel
theorem v_X12_cut_0 {E : EE} {d : Nat} {Q : Option AV → AH → Prop} {x0 : Nat} {x1 : Int32} {G : AH} (h : (x1 < 0 → Q (some (vi (-1))) G) ∧ (¬ (x1 < 0) → isO E G x0 12 ∧ ((x1 ≤ (gI G x0 1) → Q (some (vi (gI G x0 1))) (sI G x0 1 x1)) ∧ (¬ (x1 ≤ (gI G x0 1)) → Q (some (vi (-1))) G)))) : wp E d M_X12_cut 0 [some (vr x0), some (vi x1), none] [] G Q := by
  refine wp_iload_n (pc := 0) d_X12_cut_0 rfl ?_
  refine wp_if_lt (pc := 1) (tgt := 12) d_X12_cut_1 (by decide) (fun hc => ?_) (fun hc => ?_)
  · have h := h.1 hc
    refine wp_iconst (pc := 12) (v := (-1)) d_X12_cut_12 rfl ?_
    exact wp_iret (pc := 13) d_X12_cut_13 rfl h
  · have h := h.2 hc
    refine wp_iload_n (pc := 4) d_X12_cut_4 rfl ?_
    refine wp_aload_n (pc := 5) d_X12_cut_5 rfl ?_
    obtain ⟨ho1, h⟩ := h
    refine wp_getI (pc := 6) d_X12_cut_6 fl_X12_217 (fun _ _ _ => rfl) ho1 ?_
    refine wp_icmp_le (pc := 9) (tgt := 14) d_X12_cut_9 (by decide) (fun hc => ?_) (fun hc => ?_)
    · have h := h.1 hc
      refine wp_aload_n (pc := 14) d_X12_cut_14 rfl ?_
      refine wp_getI (pc := 15) d_X12_cut_15 fl_X12_217 (fun _ _ _ => rfl) ho1 ?_
      refine wp_istore_n (pc := 18) (lv' := [some (vr _), some (vi _), some (vi _)]) d_X12_cut_18 (by decide) rfl ?_
      refine wp_aload_n (pc := 19) d_X12_cut_19 rfl ?_
      refine wp_iload_n (pc := 20) d_X12_cut_20 rfl ?_
      refine wp_putI (pc := 21) d_X12_cut_21 fl_X12_217 (fun _ _ _ => rfl) (Or.inl rfl) ho1 (okI_int _) ?_
      refine wp_iload_n (pc := 24) d_X12_cut_24 rfl ?_
      exact wp_iret (pc := 25) d_X12_cut_25 rfl h
    · have h := h.2 hc
      refine wp_iconst (pc := 12) (v := (-1)) d_X12_cut_12 rfl ?_
      exact wp_iret (pc := 13) d_X12_cut_13 rfl h
theorem d_X12_type_0 : decode prog_14_method_2_code 0 = .ok (.iload_n 3, 1) := by decide +kernel
theorem d_X12_type_1 : decode prog_14_method_2_code 1 = .ok (.iconst 1, 1) := by decide +kernel
theorem d_X12_type_2 : decode prog_14_method_2_code 2 = .ok (.if_icmp .lt 9, 3) := by decide +kernel
theorem d_X12_type_5 : decode prog_14_method_2_code 5 = .ok (.iload_n 3, 1) := by decide +kernel
theorem d_X12_type_6 : decode prog_14_method_2_code 6 = .ok (.bipush 8, 2) := by decide +kernel
theorem d_X12_type_8 : decode prog_14_method_2_code 8 = .ok (.if_icmp .le 5, 3) := by decide +kernel
theorem d_X12_type_11 : decode prog_14_method_2_code 11 = .ok (.iconst (-1), 1) := by decide +kernel
theorem d_X12_type_12 : decode prog_14_method_2_code 12 = .ok (.ireturn, 1) := by decide +kernel
theorem d_X12_type_13 : decode prog_14_method_2_code 13 = .ok (.aload_n 0, 1) := by decide +kernel
theorem d_X12_type_14 : decode prog_14_method_2_code 14 = .ok (.getfield 217, 3) := by decide +kernel
theorem d_X12_type_17 : decode prog_14_method_2_code 17 = .ok (.iload_n 3, 1) := by decide +kernel
theorem d_X12_type_18 : decode prog_14_method_2_code 18 = .ok (.iadd, 1) := by decide +kernel
theorem d_X12_type_19 : decode prog_14_method_2_code 19 = .ok (.sipush 20000, 3) := by decide +kernel
theorem d_X12_type_22 : decode prog_14_method_2_code 22 = .ok (.if_icmp .le 6, 3) := by decide +kernel
theorem d_X12_type_25 : decode prog_14_method_2_code 25 = .ok (.ldc 220, 2) := by decide +kernel
theorem d_X12_type_27 : decode prog_14_method_2_code 27 = .ok (.ireturn, 1) := by decide +kernel
theorem d_X12_type_28 : decode prog_14_method_2_code 28 = .ok (.iload_n 3, 1) := by decide +kernel
theorem d_X12_type_29 : decode prog_14_method_2_code 29 = .ok (.iconst 1, 1) := by decide +kernel
theorem d_X12_type_30 : decode prog_14_method_2_code 30 = .ok (.isub, 1) := by decide +kernel
theorem d_X12_type_31 : decode prog_14_method_2_code 31 = .ok (.istore 4, 2) := by decide +kernel
theorem d_X12_type_33 : decode prog_14_method_2_code 33 = .ok (.iload 4, 2) := by decide +kernel
theorem d_X12_type_35 : decode prog_14_method_2_code 35 = .ok (.ifCond .lt 37, 3) := by decide +kernel
theorem d_X12_type_38 : decode prog_14_method_2_code 38 = .ok (.aload_n 0, 1) := by decide +kernel
theorem d_X12_type_39 : decode prog_14_method_2_code 39 = .ok (.getfield 9, 3) := by decide +kernel
theorem d_X12_type_42 : decode prog_14_method_2_code 42 = .ok (.aload_n 0, 1) := by decide +kernel
theorem d_X12_type_43 : decode prog_14_method_2_code 43 = .ok (.getfield 217, 3) := by decide +kernel
theorem d_X12_type_46 : decode prog_14_method_2_code 46 = .ok (.lload_n 1, 1) := by decide +kernel
theorem d_X12_type_47 : decode prog_14_method_2_code 47 = .ok (.bipush 8, 2) := by decide +kernel
theorem d_X12_type_49 : decode prog_14_method_2_code 49 = .ok (.iload 4, 2) := by decide +kernel
theorem d_X12_type_51 : decode prog_14_method_2_code 51 = .ok (.imul, 1) := by decide +kernel
theorem d_X12_type_52 : decode prog_14_method_2_code 52 = .ok (.lshr, 1) := by decide +kernel
theorem d_X12_type_53 : decode prog_14_method_2_code 53 = .ok (.l2i, 1) := by decide +kernel
theorem d_X12_type_54 : decode prog_14_method_2_code 54 = .ok (.i2b, 1) := by decide +kernel
theorem d_X12_type_55 : decode prog_14_method_2_code 55 = .ok (.bastore, 1) := by decide +kernel
theorem d_X12_type_56 : decode prog_14_method_2_code 56 = .ok (.aload_n 0, 1) := by decide +kernel
theorem d_X12_type_57 : decode prog_14_method_2_code 57 = .ok (.dup, 1) := by decide +kernel
theorem d_X12_type_58 : decode prog_14_method_2_code 58 = .ok (.getfield 217, 3) := by decide +kernel
theorem d_X12_type_61 : decode prog_14_method_2_code 61 = .ok (.iconst 1, 1) := by decide +kernel
theorem d_X12_type_62 : decode prog_14_method_2_code 62 = .ok (.iadd, 1) := by decide +kernel
theorem d_X12_type_63 : decode prog_14_method_2_code 63 = .ok (.putfield 217, 3) := by decide +kernel
theorem d_X12_type_66 : decode prog_14_method_2_code 66 = .ok (.iinc 4 (-1), 3) := by decide +kernel
theorem d_X12_type_69 : decode prog_14_method_2_code 69 = .ok (.goto (-36), 3) := by decide +kernel
theorem d_X12_type_72 : decode prog_14_method_2_code 72 = .ok (.aload_n 0, 1) := by decide +kernel
theorem d_X12_type_73 : decode prog_14_method_2_code 73 = .ok (.getfield 217, 3) := by decide +kernel
theorem d_X12_type_76 : decode prog_14_method_2_code 76 = .ok (.ireturn, 1) := by decide +kernel
theorem v_X12_type_0 {E : EE} {d : Nat} {Q : Option AV → AH → Prop} {x0 : Nat} {x1 : Int64} {x3 : Int32} {G : AH} (h : (x3 < 1 → Q (some (vi (-1))) G) ∧ (¬ (x3 < 1) → (x3 ≤ 8 → isO E G x0 12 ∧ ((((gI G x0 1) + x3) ≤ 20000 → wp E d M_X12_type 33 [some (vr x0), some (vj x1), none, some (vi x3), some (vi (x3 - 1))] [] G Q) ∧ (¬ (((gI G x0 1) + x3) ≤ 20000) → Q (some (vi (-100000))) G))) ∧ (¬ (x3 ≤ 8) → Q (some (vi (-1))) G))) : wp E d M_X12_type 0 [some (vr x0), some (vj x1), none, some (vi x3), none] [] G Q := by
  refine wp_iload_n (pc := 0) d_X12_type_0 rfl ?_
  refine wp_iconst (pc := 1) (v := 1) d_X12_type_1 rfl ?_
  refine wp_icmp_lt (pc := 2) (tgt := 11) d_X12_type_2 (by decide) (fun hc => ?_) (fun hc => ?_)
  · have h := h.1 hc
    refine wp_iconst (pc := 11) (v := (-1)) d_X12_type_11 rfl ?_
    exact wp_iret (pc := 12) d_X12_type_12 rfl h
  · have h := h.2 hc
    refine wp_iload_n (pc := 5) d_X12_type_5 rfl ?_
    refine wp_bipush (pc := 6) (v := 8) d_X12_type_6 rfl ?_
    refine wp_icmp_le (pc := 8) (tgt := 13) d_X12_type_8 (by decide) (fun hc => ?_) (fun hc => ?_)
    · have h := h.1 hc
      refine wp_aload_n (pc := 13) d_X12_type_13 rfl ?_
      obtain ⟨ho1, h⟩ := h
      refine wp_getI (pc := 14) d_X12_type_14 fl_X12_217 (fun _ _ _ => rfl) ho1 ?_
      refine wp_iload_n (pc := 17) d_X12_type_17 rfl ?_
      refine wp_iadd (pc := 18) d_X12_type_18 ?_
      refine wp_sipush (pc := 19) (v := 20000) d_X12_type_19 rfl ?_
      refine wp_icmp_le (pc := 22) (tgt := 28) d_X12_type_22 (by decide) (fun hc => ?_) (fun hc => ?_)
      · have h := h.1 hc
        refine wp_iload_n (pc := 28) d_X12_type_28 rfl ?_
        refine wp_iconst (pc := 29) (v := 1) d_X12_type_29 rfl ?_
        refine wp_isub (pc := 30) d_X12_type_30 ?_
        refine wp_istore (pc := 31) (lv' := [some (vr _), some (vj _), none, some (vi _), some (vi _)]) d_X12_type_31 (by decide) rfl ?_
        refine wp_sub ?_ h
        exact ⟨rfl, ⟨rfl, ⟨rfl, ⟨rfl, trivial⟩⟩⟩⟩
      · have h := h.2 hc
        refine wp_ldc (pc := 25) (v := (-100000)) d_X12_type_25 ci_X12_220 ?_
        exact wp_iret (pc := 27) d_X12_type_27 rfl h
    · have h := h.2 hc
      refine wp_iconst (pc := 11) (v := (-1)) d_X12_type_11 rfl ?_
      exact wp_iret (pc := 12) d_X12_type_12 rfl h
theorem v_X12_type_33 {E : EE} {d : Nat} {Q : Option AV → AH → Prop} {x0 : Nat} {x1 : Int64} {x3 : Int32} {x4 : Int32} {G : AH} (h : (x4 < 0 → isO E G x0 12 ∧ (Q (some (vi (gI G x0 1))) G)) ∧ (¬ (x4 < 0) → isO E G x0 12 ∧ (isO E G (gR G x0 0) 13 ∧ (vp_in (gI G x0 1) (gN G (gR G x0 0)) ∧ (∀ G5 : AH, G5 = sI G (gR G x0 0) (Int32.toNatClampNeg (gI G x0 1)) (i2b (i2b (Int64.toInt32 (x1 >>> (Int32.toInt64 (8 * x4) &&& 63))))) → ∀ G7 : AH, G7 = sI G5 x0 1 ((gI G5 x0 1) + 1) → wp E d M_X12_type 33 [some (vr x0), some (vj x1), none, some (vi x3), some (vi (x4 + (-1)))] [] G7 Q))))) : wp E d M_X12_type 33 [some (vr x0), some (vj x1), none, some (vi x3), some (vi x4)] [] G Q := by
  refine wp_iload (pc := 33) d_X12_type_33 rfl ?_
  refine wp_if_lt (pc := 35) (tgt := 72) d_X12_type_35 (by decide) (fun hc => ?_) (fun hc => ?_)
  · have h := h.1 hc
    refine wp_aload_n (pc := 72) d_X12_type_72 rfl ?_
    obtain ⟨ho1, h⟩ := h
    refine wp_getI (pc := 73) d_X12_type_73 fl_X12_217 (fun _ _ _ => rfl) ho1 ?_
    exact wp_iret (pc := 76) d_X12_type_76 rfl h
  · have h := h.2 hc
    refine wp_aload_n (pc := 38) d_X12_type_38 rfl ?_
    obtain ⟨ho2, h⟩ := h
    refine wp_getR (pc := 39) d_X12_type_39 fl_X12_9 (fun _ _ _ => rfl) ho2 ?_
    refine wp_aload_n (pc := 42) d_X12_type_42 rfl ?_
    refine wp_getI (pc := 43) d_X12_type_43 fl_X12_217 (fun _ _ _ => rfl) ho2 ?_
    refine wp_lload_n (pc := 46) d_X12_type_46 rfl ?_
    refine wp_bipush (pc := 47) (v := 8) d_X12_type_47 rfl ?_
    refine wp_iload (pc := 49) d_X12_type_49 rfl ?_
    refine wp_imul (pc := 51) d_X12_type_51 ?_
    refine wp_lshr (pc := 52) d_X12_type_52 ?_
    refine wp_l2i (pc := 53) d_X12_type_53 ?_
    refine wp_i2b (pc := 54) d_X12_type_54 ?_
    obtain ⟨ho3, h⟩ := h
    obtain ⟨hi4, h⟩ := h
    refine wp_bast (pc := 55) d_X12_type_55 ho3 hi4 ?_
    refine wp_nm (fun G5 eG5 => ?_)
    have h := h G5 eG5
    have ho6 := isO_sI eG5 ho2
    refine wp_aload_n (pc := 56) d_X12_type_56 rfl ?_
    refine wp_dup (pc := 57) d_X12_type_57 (c1_r _) ?_
    refine wp_getI (pc := 58) d_X12_type_58 fl_X12_217 (fun _ _ _ => rfl) ho6 ?_
    refine wp_iconst (pc := 61) (v := 1) d_X12_type_61 rfl ?_
    refine wp_iadd (pc := 62) d_X12_type_62 ?_
    refine wp_putI (pc := 63) d_X12_type_63 fl_X12_217 (fun _ _ _ => rfl) (Or.inl rfl) ho6 (okI_int _) ?_
    refine wp_nm (fun G7 eG7 => ?_)
    have h := h G7 eG7
    have ho8 := isO_sI eG7 ho6
    refine wp_iinc (pc := 66) (v := (-1)) (lv' := [some (vr _), some (vj _), none, some (vi _), some (vi _)]) d_X12_type_66 (by decide) rfl rfl rfl ?_
    refine wp_goto (pc := 69) (tgt := 33) d_X12_type_69 (by decide) ?_
    refine wp_sub ?_ h
    exact ⟨rfl, ⟨rfl, ⟨rfl, ⟨rfl, trivial⟩⟩⟩⟩

